def m_fits_j32 (v0 : Int64) (h : Hp) : Option (Int32) :=
  if v0 = (45 : Int64) then
    some (1 : Int32)
  else
    if v0 = (46 : Int64) then
      some (1 : Int32)
    else
      some (0 : Int32)
def m_fits_j16 (v0 : Int64) (h : Hp) : Option (Int32) :=
  if v0 < (48 : Int64) then
    m_fits_j32 v0 h
  else
    if v0 ≤ (57 : Int64) then
      some (1 : Int32)
    else
      m_fits_j32 v0 h
def m_fits (p0 : Int64) (h : Hp) : Option Int32 :=
  (if p0 < (97 : Int64) then
    m_fits_j16 p0 h
  else
    if p0 ≤ (122 : Int64) then
      some (1 : Int32)
    else
      m_fits_j16 p0 h).bind fun t2 =>
  guardZ t2 <|
  some t2
set_option maxHeartbeats 2000000 in
set_option maxRecDepth 20000 in
theorem c_m_fits (l : Launch) (p0 : Int64) (h : Hp) (r : Int32)  (E : m_fits p0 h = some r) : Ctr l yX13_fits cX13_fits 2 (some .boolean) 0 0 0 0 true [aL p0] h (some (aI r)) h := by
  rw [m_fits] at E
  refine Ctr.of (ls0 := [some (aL p0), none]) (by decide +kernel) (Nat.le_of_ble_eq_true rfl) rfl ?_
  intro G p e s m args below meth c C hr hlk hnm
  refine v_lload_n C (pc' := 1) dX13_fits_0 rfl rfl rfl ?_
  refine v_ldc2 C (pc' := 4) dX13_fits_1 (v := (97 : Int64)) (TT_of (i := 1032) (by decide +kernel) (by decide +kernel)) rfl ?_
  refine v_lcmp C (pc' := 5) dX13_fits_4 rfl ?_
  obtain ⟨t2, At2, E⟩ := bind_some E
  have Kt2 : V true G p l e { frames := 0, cells := 0, slots := 0, locals := 0 } s m args below meth c 2 (MQ below (QcA true G (some (aI r)) h) args s 0 0 (A_ G)) h 0 0 53 [some (aL p0), none] [aI t2] := by
    obtain ⟨z8, E⟩ := guardZ_some E
    cases E
    exact v_retz C hr hlk z8 dX13_fits_53
  have J16 : m_fits_j16 p0 h = some t2 → V true G p l e { frames := 0, cells := 0, slots := 0, locals := 0 } s m args below meth c 2 (MQ below (QcA true G (some (aI r)) h) args s 0 0 (A_ G)) h 0 0 16 [some (aL p0), none] [] := by
    intro  Ej16
    rw [m_fits_j16] at Ej16
    refine v_lload_n C (pc' := 17) dX13_fits_16 rfl rfl rfl ?_
    refine v_ldc2 C (pc' := 20) dX13_fits_17 (v := (48 : Int64)) (TT_of (i := 1034) (by decide +kernel) (by decide +kernel)) rfl ?_
    refine v_lcmp C (pc' := 21) dX13_fits_20 rfl ?_
    have J32 : m_fits_j32 p0 h = some t2 → V true G p l e { frames := 0, cells := 0, slots := 0, locals := 0 } s m args below meth c 2 (MQ below (QcA true G (some (aI r)) h) args s 0 0 (A_ G)) h 0 0 32 [some (aL p0), none] [] := by
      intro  Ej32
      rw [m_fits_j32] at Ej32
      refine v_lload_n C (pc' := 33) dX13_fits_32 rfl rfl rfl ?_
      refine v_ldc2 C (pc' := 36) dX13_fits_33 (v := (45 : Int64)) (TT_of (i := 1036) (by decide +kernel) (by decide +kernel)) rfl ?_
      refine v_lcmp C (pc' := 37) dX13_fits_36 rfl ?_
      refine v_if_eq C (tg := 48) (pc' := 40) dX13_fits_37 (by decide) rfl (fun q6 => ?_) (fun q6 => ?_)
      · rw [lgc_eq] at q6
        rw [if_pos q6] at Ej32
        refine v_iconst C (pc' := 49) dX13_fits_48 (v := (1 : Int32)) (by decide) rfl ?_
        refine v_goto C (pc' := 53) dX13_fits_49 (by decide) ?_
        cases Ej32
        exact Kt2
      · rw [lgc_eq] at q6
        rw [if_neg q6] at Ej32
        refine v_lload_n C (pc' := 41) dX13_fits_40 rfl rfl rfl ?_
        refine v_ldc2 C (pc' := 44) dX13_fits_41 (v := (46 : Int64)) (TT_of (i := 1037) (by decide +kernel) (by decide +kernel)) rfl ?_
        refine v_lcmp C (pc' := 45) dX13_fits_44 rfl ?_
        refine v_if_ne C (tg := 52) (pc' := 48) dX13_fits_45 (by decide) rfl (fun q7 => ?_) (fun q7 => ?_)
        · rw [lgc_eq] at q7
          rw [if_neg q7] at Ej32
          refine v_iconst C (pc' := 53) dX13_fits_52 (v := (0 : Int32)) (by decide) rfl ?_
          cases Ej32
          exact Kt2
        · rw [lgc_eq] at q7
          rw [if_pos q7] at Ej32
          refine v_iconst C (pc' := 49) dX13_fits_48 (v := (1 : Int32)) (by decide) rfl ?_
          refine v_goto C (pc' := 53) dX13_fits_49 (by decide) ?_
          cases Ej32
          exact Kt2
    refine v_if_lt C (tg := 32) (pc' := 24) dX13_fits_21 (by decide) rfl (fun q4 => ?_) (fun q4 => ?_)
    · rw [lgc_lt] at q4
      rw [if_pos q4] at Ej16
      exact J32  Ej16
    · rw [lgc_lt] at q4
      rw [if_neg q4] at Ej16
      refine v_lload_n C (pc' := 25) dX13_fits_24 rfl rfl rfl ?_
      refine v_ldc2 C (pc' := 28) dX13_fits_25 (v := (57 : Int64)) (TT_of (i := 1035) (by decide +kernel) (by decide +kernel)) rfl ?_
      refine v_lcmp C (pc' := 29) dX13_fits_28 rfl ?_
      refine v_if_le C (tg := 48) (pc' := 32) dX13_fits_29 (by decide) rfl (fun q5 => ?_) (fun q5 => ?_)
      · rw [lgc_le] at q5
        rw [if_pos q5] at Ej16
        refine v_iconst C (pc' := 49) dX13_fits_48 (v := (1 : Int32)) (by decide) rfl ?_
        refine v_goto C (pc' := 53) dX13_fits_49 (by decide) ?_
        cases Ej16
        exact Kt2
      · rw [lgc_le] at q5
        rw [if_neg q5] at Ej16
        exact J32  Ej16
  refine v_if_lt C (tg := 16) (pc' := 8) dX13_fits_5 (by decide) rfl (fun q1 => ?_) (fun q1 => ?_)
  · rw [lgc_lt] at q1
    rw [if_pos q1] at At2
    exact J16  At2
  · rw [lgc_lt] at q1
    rw [if_neg q1] at At2
    refine v_lload_n C (pc' := 9) dX13_fits_8 rfl rfl rfl ?_
    refine v_ldc2 C (pc' := 12) dX13_fits_9 (v := (122 : Int64)) (TT_of (i := 1033) (by decide +kernel) (by decide +kernel)) rfl ?_
    refine v_lcmp C (pc' := 13) dX13_fits_12 rfl ?_
    refine v_if_le C (tg := 48) (pc' := 16) dX13_fits_13 (by decide) rfl (fun q3 => ?_) (fun q3 => ?_)
    · rw [lgc_le] at q3
      rw [if_pos q3] at At2
      refine v_iconst C (pc' := 49) dX13_fits_48 (v := (1 : Int32)) (by decide) rfl ?_
      refine v_goto C (pc' := 53) dX13_fits_49 (by decide) ?_
      cases At2
      exact Kt2
    · rw [lgc_le] at q3
      rw [if_neg q3] at At2
      exact J16  At2

def m_nameOf_l11 (v0 : Int64) (h : Hp) : Int64 × Int32 × Int32 × Int32 → Option ((Int64 × Int32 × Int32 × Int32) ⊕ (Int64 × Int32 × Int32 × Int32))
  | (a2, a4, a5, a6) =>
    if (8 : Int32) ≤ a4 then
      some (.inl (a2, a4, a5, a6))
    else
      if ((v0 >>> (((8 : Int32) * a4).toInt64 &&& 63)) &&& (255 : Int64)) = (0 : Int64) then
        some (.inl (a2, a4, a5, a6))
      else
        (if a5 = 0 then
          some (0 : Int32)
        else
          if (6 : Int32) ≤ a4 then
            some (0 : Int32)
          else
            (m_fits ((v0 >>> (((8 : Int32) * a4).toInt64 &&& 63)) &&& (255 : Int64)) h).bind fun y6 =>
            if y6 = 0 then
              some (0 : Int32)
            else
              some (1 : Int32)).bind fun t4 =>
        (if a6 = 0 then
          some (0 : Int32)
        else
          if ((v0 >>> (((8 : Int32) * a4).toInt64 &&& 63)) &&& (255 : Int64)) = (46 : Int64) then
            some (1 : Int32)
          else
            some (0 : Int32)).bind fun t9 =>
        (if (6 : Int32) ≤ a4 then
          some a2
        else
          some (a2 + (((v0 >>> (((8 : Int32) * a4).toInt64 &&& 63)) &&& (255 : Int64)) <<< (((8 : Int32) * ((5 : Int32) - a4)).toInt64 &&& 63)))).bind fun t12 =>
        some (.inr (t12, (a4 + (1 : Int32)), t4, t9))
def m_nameOf (p0 : Int64) (h : Hp) : Option Int64 :=
  (iter (m_nameOf_l11 p0 h) FU ((0 : Int64), (0 : Int32), (1 : Int32), (1 : Int32))).bind fun t13 =>
  (if t13.2.2.1 = 0 then
    some (0 : Int64)
  else
    if t13.2.1 ≤ 0 then
      some (0 : Int64)
    else
      if t13.2.2.2 = 0 then
        some t13.1
      else
        if t13.2.1 < (3 : Int32) then
          some (0 : Int64)
        else
          some t13.1).bind fun t15 =>
  some t15
set_option maxHeartbeats 2000000 in
set_option maxRecDepth 20000 in
theorem c_m_nameOf (l : Launch) (p0 : Int64) (h : Hp) (r : Int64)  (E : m_nameOf p0 h = some r) : Ctr l yX13_nameOf cX13_nameOf 9 (some .long) 1 21 0 0 true [aL p0] h (some (aL r)) h := by
  rw [m_nameOf] at E
  refine Ctr.of (ls0 := [some (aL p0), none, none, none, none, none, none, none, none]) (by decide +kernel) (Nat.le_of_ble_eq_true rfl) rfl ?_
  intro G p e s m args below meth c C hr hlk hnm
  refine v_lconst C (pc' := 1) dX13_nameOf_0 (v := (0 : Int64)) (by decide) rfl ?_
  refine v_lstore2 C (pc' := 2) dX13_nameOf_1 (by decide) rfl rfl ?_
  refine v_iconst C (pc' := 3) dX13_nameOf_2 (v := (0 : Int32)) (by decide) rfl ?_
  refine v_istore4 C (pc' := 5) dX13_nameOf_3 (by decide) rfl rfl ?_
  refine v_iconst C (pc' := 6) dX13_nameOf_5 (v := (1 : Int32)) (by decide) rfl ?_
  refine v_istore5 C (pc' := 8) dX13_nameOf_6 (by decide) rfl rfl ?_
  refine v_iconst C (pc' := 9) dX13_nameOf_8 (v := (1 : Int32)) (by decide) rfl ?_
  refine v_istore6 C (pc' := 11) dX13_nameOf_9 (by decide) rfl rfl ?_
  obtain ⟨t1, It1, E⟩ := bind_some E
  have Kt1 : V true G p l e { frames := 1, cells := 0, slots := 0, locals := 21 } s m args below meth c 9 (MQ below (QcA true G (some (aL r)) h) args s 0 0 (A_ G)) h 0 0 128 [some (aL p0), none, some (aL t1.1), none, some (aI t1.2.1), some (aI t1.2.2.1), some (aI t1.2.2.2), none, none] [] := by
    refine v_iload C (pc' := 130) dX13_nameOf_128 rfl rfl ?_
    obtain ⟨t3, At3, E⟩ := bind_some E
    have Kt3 : V true G p l e { frames := 1, cells := 0, slots := 0, locals := 21 } s m args below meth c 9 (MQ below (QcA true G (some (aL r)) h) args s 0 0 (A_ G)) h 0 0 154 [some (aL p0), none, some (aL t1.1), none, some (aI t1.2.1), some (aI t1.2.2.1), some (aI t1.2.2.2), none, none] [aL t3] := by
      cases E
      exact v_retl C hr hlk dX13_nameOf_154
    refine v_if_eq C (tg := 153) (pc' := 133) dX13_nameOf_130 (by decide) rfl (fun q2 => ?_) (fun q2 => ?_)
    · rw [if_pos q2] at At3
      refine v_lconst C (pc' := 154) dX13_nameOf_153 (v := (0 : Int64)) (by decide) rfl ?_
      cases At3
      exact Kt3
    · rw [if_neg q2] at At3
      refine v_iload C (pc' := 135) dX13_nameOf_133 rfl rfl ?_
      refine v_if_le C (tg := 153) (pc' := 138) dX13_nameOf_135 (by decide) rfl (fun q4 => ?_) (fun q4 => ?_)
      · rw [if_pos q4] at At3
        refine v_lconst C (pc' := 154) dX13_nameOf_153 (v := (0 : Int64)) (by decide) rfl ?_
        cases At3
        exact Kt3
      · rw [if_neg q4] at At3
        refine v_iload C (pc' := 140) dX13_nameOf_138 rfl rfl ?_
        refine v_if_eq C (tg := 149) (pc' := 143) dX13_nameOf_140 (by decide) rfl (fun q5 => ?_) (fun q5 => ?_)
        · rw [if_pos q5] at At3
          refine v_lload_n C (pc' := 150) dX13_nameOf_149 rfl rfl rfl ?_
          refine v_goto C (pc' := 154) dX13_nameOf_150 (by decide) ?_
          cases At3
          exact Kt3
        · rw [if_neg q5] at At3
          refine v_iload C (pc' := 145) dX13_nameOf_143 rfl rfl ?_
          refine v_iconst C (pc' := 146) dX13_nameOf_145 (v := (3 : Int32)) (by decide) rfl ?_
          refine v_icmp_lt C (tg := 153) (pc' := 149) dX13_nameOf_146 (by decide) rfl (fun q6 => ?_) (fun q6 => ?_)
          · rw [if_pos q6] at At3
            refine v_lconst C (pc' := 154) dX13_nameOf_153 (v := (0 : Int64)) (by decide) rfl ?_
            cases At3
            exact Kt3
          · rw [if_neg q6] at At3
            refine v_lload_n C (pc' := 150) dX13_nameOf_149 rfl rfl rfl ?_
            refine v_goto C (pc' := 154) dX13_nameOf_150 (by decide) ?_
            cases At3
            exact Kt3
  refine iter_V (P := fun st1 : Int64 × Int32 × Int32 × Int32 => V true G p l e { frames := 1, cells := 0, slots := 0, locals := 21 } s m args below meth c 9 (MQ below (QcA true G (some (aL r)) h) args s 0 0 (A_ G)) h 0 0 11 [some (aL p0), none, some (aL st1.1), none, some (aI st1.2.1), some (aI st1.2.2.1), some (aI st1.2.2.2), none, none] []) ?_ _ _ It1
  rintro ⟨a2t1, a4t1, a5t1, a6t1⟩ ot1 Lt1 kxt1 kst1
  rw [m_nameOf_l11] at Lt1
  show V true G p l e { frames := 1, cells := 0, slots := 0, locals := 21 } s m args below meth c 9 (MQ below (QcA true G (some (aL r)) h) args s 0 0 (A_ G)) h 0 0 11 [some (aL p0), none, some (aL a2t1), none, some (aI a4t1), some (aI a5t1), some (aI a6t1), none, none] []
  refine v_iload C (pc' := 13) dX13_nameOf_11 rfl rfl ?_
  refine v_bipush C (pc' := 15) dX13_nameOf_13 (v := (8 : Int32)) (by decide) rfl ?_
  refine v_icmp_ge C (tg := 128) (pc' := 18) dX13_nameOf_15 (by decide) rfl (fun q7 => ?_) (fun q7 => ?_)
  · rw [if_pos q7] at Lt1
    cases Lt1
    have z := kxt1 _ rfl
    subst z
    exact Kt1
  · rw [if_neg q7] at Lt1
    refine v_lload_n C (pc' := 19) dX13_nameOf_18 rfl rfl rfl ?_
    refine v_bipush C (pc' := 21) dX13_nameOf_19 (v := (8 : Int32)) (by decide) rfl ?_
    refine v_iload C (pc' := 23) dX13_nameOf_21 rfl rfl ?_
    refine v_imul C (pc' := 24) dX13_nameOf_23 rfl ?_
    refine v_lshr C (pc' := 25) dX13_nameOf_24 rfl ?_
    refine v_ldc2 C (pc' := 28) dX13_nameOf_25 (v := (255 : Int64)) (TT_of (i := 1028) (by decide +kernel) (by decide +kernel)) rfl ?_
    refine v_land C (pc' := 29) dX13_nameOf_28 rfl ?_
    refine v_lconst C (pc' := 30) dX13_nameOf_29 (v := (0 : Int64)) (by decide) rfl ?_
    refine v_lcmp C (pc' := 31) dX13_nameOf_30 rfl ?_
    refine v_if_eq C (tg := 128) (pc' := 34) dX13_nameOf_31 (by decide) rfl (fun q8 => ?_) (fun q8 => ?_)
    · rw [lgc_eq] at q8
      rw [if_pos q8] at Lt1
      cases Lt1
      have z := kxt1 _ rfl
      subst z
      exact Kt1
    · rw [lgc_eq] at q8
      rw [if_neg q8] at Lt1
      refine v_lload_n C (pc' := 35) dX13_nameOf_34 rfl rfl rfl ?_
      refine v_bipush C (pc' := 37) dX13_nameOf_35 (v := (8 : Int32)) (by decide) rfl ?_
      refine v_iload C (pc' := 39) dX13_nameOf_37 rfl rfl ?_
      refine v_imul C (pc' := 40) dX13_nameOf_39 rfl ?_
      refine v_lshr C (pc' := 41) dX13_nameOf_40 rfl ?_
      refine v_ldc2 C (pc' := 44) dX13_nameOf_41 (v := (255 : Int64)) (TT_of (i := 1028) (by decide +kernel) (by decide +kernel)) rfl ?_
      refine v_land C (pc' := 45) dX13_nameOf_44 rfl ?_
      refine v_lstore7 C (pc' := 47) dX13_nameOf_45 (by decide) rfl rfl ?_
      refine v_iload C (pc' := 49) dX13_nameOf_47 rfl rfl ?_
      obtain ⟨t10, At10, Lt1⟩ := bind_some Lt1
      have Kt10 : V true G p l e { frames := 1, cells := 0, slots := 0, locals := 21 } s m args below meth c 9 (MQ below (QcA true G (some (aL r)) h) args s 0 0 (A_ G)) h 0 0 72 [some (aL p0), none, some (aL a2t1), none, some (aI a4t1), some (aI a5t1), some (aI a6t1), some (aL ((p0 >>> (((8 : Int32) * a4t1).toInt64 &&& 63)) &&& (255 : Int64))), none] [aI t10] := by
        refine v_istore5 C (pc' := 74) dX13_nameOf_72 (by decide) rfl rfl ?_
        refine v_iload C (pc' := 76) dX13_nameOf_74 rfl rfl ?_
        obtain ⟨t15, At15, Lt1⟩ := bind_some Lt1
        have Kt15 : V true G p l e { frames := 1, cells := 0, slots := 0, locals := 21 } s m args below meth c 9 (MQ below (QcA true G (some (aL r)) h) args s 0 0 (A_ G)) h 0 0 93 [some (aL p0), none, some (aL a2t1), none, some (aI a4t1), some (aI t10), some (aI a6t1), some (aL ((p0 >>> (((8 : Int32) * a4t1).toInt64 &&& 63)) &&& (255 : Int64))), none] [aI t15] := by
          refine v_istore6 C (pc' := 95) dX13_nameOf_93 (by decide) rfl rfl ?_
          refine v_iload C (pc' := 97) dX13_nameOf_95 rfl rfl ?_
          refine v_bipush C (pc' := 99) dX13_nameOf_97 (v := (6 : Int32)) (by decide) rfl ?_
          obtain ⟨t18, At18, Lt1⟩ := bind_some Lt1
          have Kt18 : V true G p l e { frames := 1, cells := 0, slots := 0, locals := 21 } s m args below meth c 9 (MQ below (QcA true G (some (aL r)) h) args s 0 0 (A_ G)) h 0 0 118 [some (aL p0), none, some (aL a2t1), none, some (aI a4t1), some (aI t10), some (aI t15), some (aL ((p0 >>> (((8 : Int32) * a4t1).toInt64 &&& 63)) &&& (255 : Int64))), none] [aL t18] := by
            refine v_lstore2 C (pc' := 119) dX13_nameOf_118 (by decide) rfl rfl ?_
            refine v_iload C (pc' := 121) dX13_nameOf_119 rfl rfl ?_
            refine v_iconst C (pc' := 122) dX13_nameOf_121 (v := (1 : Int32)) (by decide) rfl ?_
            refine v_iadd C (pc' := 123) dX13_nameOf_122 rfl ?_
            refine v_istore4 C (pc' := 125) dX13_nameOf_123 (by decide) rfl rfl ?_
            refine v_goto C (pc' := 11) dX13_nameOf_125 (by decide) ?_
            cases Lt1
            exact V.ls (ms := [true, false, true, false, true, true, true, false, false]) rfl (kst1 _ rfl)
          refine v_icmp_ge C (tg := 117) (pc' := 102) dX13_nameOf_99 (by decide) rfl (fun q17 => ?_) (fun q17 => ?_)
          · rw [if_pos q17] at At18
            refine v_lload_n C (pc' := 118) dX13_nameOf_117 rfl rfl rfl ?_
            cases At18
            exact Kt18
          · rw [if_neg q17] at At18
            refine v_lload_n C (pc' := 103) dX13_nameOf_102 rfl rfl rfl ?_
            refine v_lload C (pc' := 105) dX13_nameOf_103 rfl rfl ?_
            refine v_bipush C (pc' := 107) dX13_nameOf_105 (v := (8 : Int32)) (by decide) rfl ?_
            refine v_iconst C (pc' := 108) dX13_nameOf_107 (v := (5 : Int32)) (by decide) rfl ?_
            refine v_iload C (pc' := 110) dX13_nameOf_108 rfl rfl ?_
            refine v_isub C (pc' := 111) dX13_nameOf_110 rfl ?_
            refine v_imul C (pc' := 112) dX13_nameOf_111 rfl ?_
            refine v_lshl C (pc' := 113) dX13_nameOf_112 rfl ?_
            refine v_ladd C (pc' := 114) dX13_nameOf_113 rfl ?_
            refine v_goto C (pc' := 118) dX13_nameOf_114 (by decide) ?_
            cases At18
            exact Kt18
        refine v_if_eq C (tg := 92) (pc' := 79) dX13_nameOf_76 (by decide) rfl (fun q14 => ?_) (fun q14 => ?_)
        · rw [if_pos q14] at At15
          refine v_iconst C (pc' := 93) dX13_nameOf_92 (v := (0 : Int32)) (by decide) rfl ?_
          cases At15
          exact Kt15
        · rw [if_neg q14] at At15
          refine v_lload C (pc' := 81) dX13_nameOf_79 rfl rfl ?_
          refine v_ldc2 C (pc' := 84) dX13_nameOf_81 (v := (46 : Int64)) (TT_of (i := 1037) (by decide +kernel) (by decide +kernel)) rfl ?_
          refine v_lcmp C (pc' := 85) dX13_nameOf_84 rfl ?_
          refine v_if_ne C (tg := 92) (pc' := 88) dX13_nameOf_85 (by decide) rfl (fun q16 => ?_) (fun q16 => ?_)
          · rw [lgc_eq] at q16
            rw [if_neg q16] at At15
            refine v_iconst C (pc' := 93) dX13_nameOf_92 (v := (0 : Int32)) (by decide) rfl ?_
            cases At15
            exact Kt15
          · rw [lgc_eq] at q16
            rw [if_pos q16] at At15
            refine v_iconst C (pc' := 89) dX13_nameOf_88 (v := (1 : Int32)) (by decide) rfl ?_
            refine v_goto C (pc' := 93) dX13_nameOf_89 (by decide) ?_
            cases At15
            exact Kt15
      refine v_if_eq C (tg := 71) (pc' := 52) dX13_nameOf_49 (by decide) rfl (fun q9 => ?_) (fun q9 => ?_)
      · rw [if_pos q9] at At10
        refine v_iconst C (pc' := 72) dX13_nameOf_71 (v := (0 : Int32)) (by decide) rfl ?_
        cases At10
        exact Kt10
      · rw [if_neg q9] at At10
        refine v_iload C (pc' := 54) dX13_nameOf_52 rfl rfl ?_
        refine v_bipush C (pc' := 56) dX13_nameOf_54 (v := (6 : Int32)) (by decide) rfl ?_
        refine v_icmp_ge C (tg := 71) (pc' := 59) dX13_nameOf_56 (by decide) rfl (fun q11 => ?_) (fun q11 => ?_)
        · rw [if_pos q11] at At10
          refine v_iconst C (pc' := 72) dX13_nameOf_71 (v := (0 : Int32)) (by decide) rfl ?_
          cases At10
          exact Kt10
        · rw [if_neg q11] at At10
          refine v_lload C (pc' := 61) dX13_nameOf_59 rfl rfl ?_
          obtain ⟨y12, hy12, At10⟩ := bind_some At10
          refine v_callS C (pc' := 64) (rest := []) (c_m_fits l ((p0 >>> (((8 : Int32) * a4t1).toInt64 &&& 63)) &&& (255 : Int64)) h _ hy12) ms_X13_67 dX13_nameOf_61 rfl rfl rfl ⟨Nat.le_of_ble_eq_true rfl, Nat.le_of_ble_eq_true rfl⟩ (Nat.le_of_ble_eq_true rfl) ⟨Nat.le_of_ble_eq_true rfl, Nat.le_of_ble_eq_true rfl⟩ ?_
          refine V.st (st' := [aI y12]) rfl ?_
          refine v_if_eq C (tg := 71) (pc' := 67) dX13_nameOf_64 (by decide) rfl (fun q13 => ?_) (fun q13 => ?_)
          · rw [if_pos q13] at At10
            refine v_iconst C (pc' := 72) dX13_nameOf_71 (v := (0 : Int32)) (by decide) rfl ?_
            cases At10
            exact Kt10
          · rw [if_neg q13] at At10
            refine v_iconst C (pc' := 68) dX13_nameOf_67 (v := (1 : Int32)) (by decide) rfl ?_
            refine v_goto C (pc' := 72) dX13_nameOf_68 (by decide) ?_
            cases At10
            exact Kt10

def m_freeNode_l2  (h : Hp) : Int32 → Option (Int32 ⊕ Int32)
  | a1 =>
    if (24 : Int32) ≤ a1 then
      some (.inl a1)
    else
      guardB a1 24 <|
      if (gI h (21, 0) a1.toNatClampNeg) ≤ 0 then
        some (.inl a1)
      else
        some (.inr (a1 + (1 : Int32)))
def m_freeNode  (h : Hp) : Option Int32 :=
  (iter (m_freeNode_l2 h) FU (0 : Int32)).bind fun t4 =>
  some t4
set_option maxHeartbeats 2000000 in
set_option maxRecDepth 20000 in
theorem c_m_freeNode (l : Launch)  (h : Hp) (r : Int32)  (E : m_freeNode  h = some r) : Ctr l yX13_freeNode cX13_freeNode 2 (some .int) 0 0 0 0 true [aA 20 (some 0)] h (some (aI r)) h := by
  rw [m_freeNode] at E
  refine Ctr.of (ls0 := [some (aA 20 (some 0)), none]) (by decide +kernel) (Nat.le_of_ble_eq_true rfl) rfl ?_
  intro G p e s m args below meth c C hr hlk hnm
  refine v_iconst C (pc' := 1) dX13_freeNode_0 (v := (0 : Int32)) (by decide) rfl ?_
  refine v_istore1 C (pc' := 2) dX13_freeNode_1 (by decide) rfl rfl ?_
  obtain ⟨t1, It1, E⟩ := bind_some E
  have Kt1 : V true G p l e { frames := 0, cells := 0, slots := 0, locals := 0 } s m args below meth c 2 (MQ below (QcA true G (some (aI r)) h) args s 0 0 (A_ G)) h 0 0 24 [some (aA 20 (some 0)), some (aI t1)] [] := by
    refine v_iload_n C (pc' := 25) dX13_freeNode_24 rfl rfl rfl ?_
    cases E
    exact v_reti C hr hlk dX13_freeNode_25
  refine iter_V (P := fun st1 : Int32 => V true G p l e { frames := 0, cells := 0, slots := 0, locals := 0 } s m args below meth c 2 (MQ below (QcA true G (some (aI r)) h) args s 0 0 (A_ G)) h 0 0 2 [some (aA 20 (some 0)), some (aI st1)] []) ?_ _ _ It1
  intro a1t1 ot1 Lt1 kxt1 kst1
  rw [m_freeNode_l2] at Lt1
  show V true G p l e { frames := 0, cells := 0, slots := 0, locals := 0 } s m args below meth c 2 (MQ below (QcA true G (some (aI r)) h) args s 0 0 (A_ G)) h 0 0 2 [some (aA 20 (some 0)), some (aI a1t1)] []
  refine v_iload_n C (pc' := 3) dX13_freeNode_2 rfl rfl rfl ?_
  refine v_bipush C (pc' := 5) dX13_freeNode_3 (v := (24 : Int32)) (by decide) rfl ?_
  refine v_icmp_ge C (tg := 24) (pc' := 8) dX13_freeNode_5 (by decide) rfl (fun q2 => ?_) (fun q2 => ?_)
  · rw [if_pos q2] at Lt1
    cases Lt1
    have z := kxt1 _ rfl
    subst z
    exact Kt1
  · rw [if_neg q2] at Lt1
    refine v_aload_n C (pc' := 9) dX13_freeNode_8 rfl rfl rfl ?_
    refine v_getF C (pc' := 12) rfl fl_X13_7 rfl rfl (t2 := 21) rfl (j := 0) rfl u0_20 dX13_freeNode_9 rfl ?_
    refine v_iload_n C (pc' := 13) dX13_freeNode_12 rfl rfl rfl ?_
    obtain ⟨g3, Lt1⟩ := guardB_some Lt1
    refine v_iald C (pc' := 14) (t := 21) rfl lv0_21 g3 dX13_freeNode_13 rfl ?_
    refine v_if_le C (tg := 24) (pc' := 17) dX13_freeNode_14 (by decide) rfl (fun q4 => ?_) (fun q4 => ?_)
    · rw [if_pos q4] at Lt1
      cases Lt1
      have z := kxt1 _ rfl
      subst z
      exact Kt1
    · rw [if_neg q4] at Lt1
      refine v_iload_n C (pc' := 18) dX13_freeNode_17 rfl rfl rfl ?_
      refine v_iconst C (pc' := 19) dX13_freeNode_18 (v := (1 : Int32)) (by decide) rfl ?_
      refine v_iadd C (pc' := 20) dX13_freeNode_19 rfl ?_
      refine v_istore1 C (pc' := 21) dX13_freeNode_20 (by decide) rfl rfl ?_
      refine v_goto C (pc' := 2) dX13_freeNode_21 (by decide) ?_
      cases Lt1
      exact kst1 _ rfl

def m_make (p1 : Int32) (p2 : Int32) (p3 : Int32) (p4 : Int64) (h : Hp) : Option Hp :=
  guardB p1 24 <|
  guardB p1 24 <|
  guardB p1 24 <|
  guardB p1 24 <|
  some (sI (sL (sI (sI h (21, 0) p1.toNatClampNeg p2) (22, 0) p1.toNatClampNeg p3) (23, 0) p1.toNatClampNeg p4) (24, 0) p1.toNatClampNeg (0 : Int32))
set_option maxHeartbeats 2000000 in
set_option maxRecDepth 20000 in
theorem c_m_make (l : Launch) (p1 : Int32) (p2 : Int32) (p3 : Int32) (p4 : Int64) (h : Hp) (h' : Hp)  (E : m_make p1 p2 p3 p4 h = some h') : Ctr l yX13_make cX13_make 6 none 0 0 0 0 true [aA 20 (some 0), aI p1, aI p2, aI p3, aL p4] h none h' := by
  rw [m_make] at E
  refine Ctr.of (ls0 := [some (aA 20 (some 0)), some (aI p1), some (aI p2), some (aI p3), some (aL p4), none]) (by decide +kernel) (Nat.le_of_ble_eq_true rfl) rfl ?_
  intro G p e s m args below meth c C hr hlk hnm
  refine v_aload_n C (pc' := 1) dX13_make_0 rfl rfl rfl ?_
  refine v_getF C (pc' := 4) rfl fl_X13_7 rfl rfl (t2 := 21) rfl (j := 0) rfl u0_20 dX13_make_1 rfl ?_
  refine v_iload_n C (pc' := 5) dX13_make_4 rfl rfl rfl ?_
  refine v_iload_n C (pc' := 6) dX13_make_5 rfl rfl rfl ?_
  obtain ⟨g1, E⟩ := guardB_some E
  refine v_iast C (pc' := 7) (t := 21) rfl lv0_21 g1 dX13_make_6 rfl ?_
  refine v_aload_n C (pc' := 8) dX13_make_7 rfl rfl rfl ?_
  refine v_getF C (pc' := 11) rfl fl_X13_13 rfl rfl (t2 := 22) rfl (j := 0) rfl u0_20 dX13_make_8 rfl ?_
  refine v_iload_n C (pc' := 12) dX13_make_11 rfl rfl rfl ?_
  refine v_iload_n C (pc' := 13) dX13_make_12 rfl rfl rfl ?_
  obtain ⟨g2, E⟩ := guardB_some E
  refine v_iast C (pc' := 14) (t := 22) rfl lv0_22 g2 dX13_make_13 rfl ?_
  refine v_aload_n C (pc' := 15) dX13_make_14 rfl rfl rfl ?_
  refine v_getF C (pc' := 18) rfl fl_X13_16 rfl rfl (t2 := 23) rfl (j := 0) rfl u0_20 dX13_make_15 rfl ?_
  refine v_iload_n C (pc' := 19) dX13_make_18 rfl rfl rfl ?_
  refine v_lload C (pc' := 21) dX13_make_19 rfl rfl ?_
  obtain ⟨g3, E⟩ := guardB_some E
  refine v_last C (pc' := 22) (t := 23) rfl lv0_23 g3 dX13_make_21 rfl ?_
  refine v_aload_n C (pc' := 23) dX13_make_22 rfl rfl rfl ?_
  refine v_getF C (pc' := 26) rfl fl_X13_20 rfl rfl (t2 := 24) rfl (j := 0) rfl u0_20 dX13_make_23 rfl ?_
  refine v_iload_n C (pc' := 27) dX13_make_26 rfl rfl rfl ?_
  refine v_iconst C (pc' := 28) dX13_make_27 (v := (0 : Int32)) (by decide) rfl ?_
  obtain ⟨g4, E⟩ := guardB_some E
  refine v_iast C (pc' := 29) (t := 24) rfl lv0_24 g4 dX13_make_28 rfl ?_
  cases E
  exact v_retv C hr hlk dX13_make_29

def m_account_l60 (v5 : Int64) (v7 : Int64) (h : Hp) : Int32 × Int32 → Option ((Int32 × Int32) ⊕ (Int32 × Int32))
  | (a9, a10) =>
    if (gI h (20, 0) 5) ≤ a10 then
      some (.inl (a9, a10))
    else
      (if a9 = 0 then
        some (0 : Int32)
      else
        guardB a10 4 <|
        if (gL h (26, 0) a10.toNatClampNeg) = v5 then
          some (0 : Int32)
        else
          some (1 : Int32)).bind fun t12 =>
      some (.inr (t12, (a10 + (1 : Int32))))
def m_account (p1 : Int64) (p3 : Int64) (h : Hp) : Option (Int32 × Hp) :=
  (m_nameOf p1 h).bind fun y1 =>
  (m_nameOf p3 h).bind fun y2 =>
  (if (4 : Int32) ≤ (gI h (20, 0) 5) then
    some (0 : Int32)
  else
    if y1 = (0 : Int64) then
      some (0 : Int32)
    else
      if y2 = (0 : Int64) then
        some (0 : Int32)
      else
        (m_freeNode h).bind fun y7 =>
        if (24 : Int32) ≤ y7 then
          some (0 : Int32)
        else
          if (gI h (20, 0) 12) = 0 then
            some (1 : Int32)
          else
            some (0 : Int32)).bind fun t4 =>
  (iter (m_account_l60 y1 y2 h) FU (t4, (0 : Int32))).bind fun t15 =>
  if t15.1 = 0 then
    some ((0 : Int32), h)
  else
    (m_freeNode h).bind fun y17 =>
    (m_make y17 (1 : Int32) y17 (0 : Int64) h).bind fun y18 =>
    guardB (gI y18 (20, 0) 5) 4 <|
    guardB (gI (sL y18 (26, 0) (gI y18 (20, 0) 5).toNatClampNeg y1) (20, 0) 5) 4 <|
    guardB (gI (sL (sL y18 (26, 0) (gI y18 (20, 0) 5).toNatClampNeg y1) (27, 0) (gI (sL y18 (26, 0) (gI y18 (20, 0) 5).toNatClampNeg y1) (20, 0) 5).toNatClampNeg y2) (20, 0) 5) 4 <|
    some ((1 : Int32), (sI (sI (sL (sL y18 (26, 0) (gI y18 (20, 0) 5).toNatClampNeg y1) (27, 0) (gI (sL y18 (26, 0) (gI y18 (20, 0) 5).toNatClampNeg y1) (20, 0) 5).toNatClampNeg y2) (28, 0) (gI (sL (sL y18 (26, 0) (gI y18 (20, 0) 5).toNatClampNeg y1) (27, 0) (gI (sL y18 (26, 0) (gI y18 (20, 0) 5).toNatClampNeg y1) (20, 0) 5).toNatClampNeg y2) (20, 0) 5).toNatClampNeg y17) (20, 0) 5 ((gI (sI (sL (sL y18 (26, 0) (gI y18 (20, 0) 5).toNatClampNeg y1) (27, 0) (gI (sL y18 (26, 0) (gI y18 (20, 0) 5).toNatClampNeg y1) (20, 0) 5).toNatClampNeg y2) (28, 0) (gI (sL (sL y18 (26, 0) (gI y18 (20, 0) 5).toNatClampNeg y1) (27, 0) (gI (sL y18 (26, 0) (gI y18 (20, 0) 5).toNatClampNeg y1) (20, 0) 5).toNatClampNeg y2) (20, 0) 5).toNatClampNeg y17) (20, 0) 5) + (1 : Int32))))
set_option maxHeartbeats 2000000 in
set_option maxRecDepth 20000 in
theorem c_m_account (l : Launch) (p1 : Int64) (p3 : Int64) (h : Hp) (r : Int32) (h' : Hp)  (E : m_account p1 p3 h = some (r, h')) : Ctr l yX13_account cX13_account 11 (some .boolean) 2 49 0 0 true [aA 20 (some 0), aL p1, aL p3] h (some (aI r)) h' := by
  rw [m_account] at E
  refine Ctr.of (ls0 := [some (aA 20 (some 0)), some (aL p1), none, some (aL p3), none, none, none, none, none, none, none]) (by decide +kernel) (Nat.le_of_ble_eq_true rfl) rfl ?_
  intro G p e s m args below meth c C hr hlk hnm
  refine v_lload_n C (pc' := 1) dX13_account_0 rfl rfl rfl ?_
  obtain ⟨y1, hy1, E⟩ := bind_some E
  refine v_callS C (pc' := 4) (rest := []) (c_m_nameOf l p1 h _ hy1) ms_X13_112 dX13_account_1 rfl rfl rfl ⟨Nat.le_of_ble_eq_true rfl, Nat.le_of_ble_eq_true rfl⟩ (Nat.le_of_ble_eq_true rfl) ⟨Nat.le_of_ble_eq_true rfl, Nat.le_of_ble_eq_true rfl⟩ ?_
  refine V.st (st' := [aL y1]) rfl ?_
  refine v_lstore5 C (pc' := 6) dX13_account_4 (by decide) rfl rfl ?_
  refine v_lload_n C (pc' := 7) dX13_account_6 rfl rfl rfl ?_
  obtain ⟨y2, hy2, E⟩ := bind_some E
  refine v_callS C (pc' := 10) (rest := []) (c_m_nameOf l p3 h _ hy2) ms_X13_112 dX13_account_7 rfl rfl rfl ⟨Nat.le_of_ble_eq_true rfl, Nat.le_of_ble_eq_true rfl⟩ (Nat.le_of_ble_eq_true rfl) ⟨Nat.le_of_ble_eq_true rfl, Nat.le_of_ble_eq_true rfl⟩ ?_
  refine V.st (st' := [aL y2]) rfl ?_
  refine v_lstore7 C (pc' := 12) dX13_account_10 (by decide) rfl rfl ?_
  refine v_aload_n C (pc' := 13) dX13_account_12 rfl rfl rfl ?_
  refine v_getI C (pc' := 16) fl_X13_116 rfl (Or.inl rfl) lv0_20 dX13_account_13 rfl ?_
  refine v_iconst C (pc' := 17) dX13_account_16 (v := (4 : Int32)) (by decide) rfl ?_
  obtain ⟨t4, At4, E⟩ := bind_some E
  have Kt4 : V true G p l e { frames := 2, cells := 0, slots := 0, locals := 49 } s m args below meth c 11 (MQ below (QcA true G (some (aI r)) h') args s 0 0 (A_ G)) h 0 0 55 [some (aA 20 (some 0)), some (aL p1), none, some (aL p3), none, some (aL y1), none, some (aL y2), none, none, none] [aI t4] := by
    refine v_istore9 C (pc' := 57) dX13_account_55 (by decide) rfl rfl ?_
    refine v_iconst C (pc' := 58) dX13_account_57 (v := (0 : Int32)) (by decide) rfl ?_
    refine v_istore10 C (pc' := 60) dX13_account_58 (by decide) rfl rfl ?_
    obtain ⟨t10, It10, E⟩ := bind_some E
    have Kt10 : V true G p l e { frames := 2, cells := 0, slots := 0, locals := 49 } s m args below meth c 11 (MQ below (QcA true G (some (aI r)) h') args s 0 0 (A_ G)) h 0 0 100 [some (aA 20 (some 0)), some (aL p1), none, some (aL p3), none, some (aL y1), none, some (aL y2), none, some (aI t10.1), some (aI t10.2)] [] := by
      refine v_iload C (pc' := 102) dX13_account_100 rfl rfl ?_
      refine v_if_ne C (tg := 107) (pc' := 105) dX13_account_102 (by decide) rfl (fun q11 => ?_) (fun q11 => ?_)
      · rw [if_neg q11] at E
        refine v_aload_n C (pc' := 108) dX13_account_107 rfl rfl rfl ?_
        obtain ⟨y12, hy12, E⟩ := bind_some E
        refine v_callV C (pc' := 111) (rest := []) (c_m_freeNode l h _ hy12) mv_X13_119 rfl rfl lv0_20 dX13_account_108 rfl rfl rfl ⟨Nat.le_of_ble_eq_true rfl, Nat.le_of_ble_eq_true rfl⟩ (Nat.le_of_ble_eq_true rfl) ⟨Nat.le_of_ble_eq_true rfl, Nat.le_of_ble_eq_true rfl⟩ ?_
        refine V.st (st' := [aI y12]) rfl ?_
        refine v_istore10 C (pc' := 113) dX13_account_111 (by decide) rfl rfl ?_
        refine v_aload_n C (pc' := 114) dX13_account_113 rfl rfl rfl ?_
        refine v_iload C (pc' := 116) dX13_account_114 rfl rfl ?_
        refine v_iconst C (pc' := 117) dX13_account_116 (v := (1 : Int32)) (by decide) rfl ?_
        refine v_iload C (pc' := 119) dX13_account_117 rfl rfl ?_
        refine v_lconst C (pc' := 120) dX13_account_119 (v := (0 : Int64)) (by decide) rfl ?_
        obtain ⟨y13, hy13, E⟩ := bind_some E
        refine v_callV C (pc' := 123) (rest := []) (c_m_make l y12 (1 : Int32) y12 (0 : Int64) h _ hy13) mv_X13_127 rfl rfl lv0_20 dX13_account_120 rfl rfl rfl ⟨Nat.le_of_ble_eq_true rfl, Nat.le_of_ble_eq_true rfl⟩ (Nat.le_of_ble_eq_true rfl) ⟨Nat.le_of_ble_eq_true rfl, Nat.le_of_ble_eq_true rfl⟩ ?_
        refine V.st (st' := []) rfl ?_
        refine v_aload_n C (pc' := 124) dX13_account_123 rfl rfl rfl ?_
        refine v_getF C (pc' := 127) rfl fl_X13_26 rfl rfl (t2 := 26) rfl (j := 0) rfl u0_20 dX13_account_124 rfl ?_
        refine v_aload_n C (pc' := 128) dX13_account_127 rfl rfl rfl ?_
        refine v_getI C (pc' := 131) fl_X13_116 rfl (Or.inl rfl) lv0_20 dX13_account_128 rfl ?_
        refine v_lload C (pc' := 133) dX13_account_131 rfl rfl ?_
        obtain ⟨g14, E⟩ := guardB_some E
        refine v_last C (pc' := 134) (t := 26) rfl lv0_26 g14 dX13_account_133 rfl ?_
        refine v_aload_n C (pc' := 135) dX13_account_134 rfl rfl rfl ?_
        refine v_getF C (pc' := 138) rfl fl_X13_29 rfl rfl (t2 := 27) rfl (j := 0) rfl u0_20 dX13_account_135 rfl ?_
        refine v_aload_n C (pc' := 139) dX13_account_138 rfl rfl rfl ?_
        refine v_getI C (pc' := 142) fl_X13_116 rfl (Or.inl rfl) lv0_20 dX13_account_139 rfl ?_
        refine v_lload C (pc' := 144) dX13_account_142 rfl rfl ?_
        obtain ⟨g15, E⟩ := guardB_some E
        refine v_last C (pc' := 145) (t := 27) rfl lv0_27 g15 dX13_account_144 rfl ?_
        refine v_aload_n C (pc' := 146) dX13_account_145 rfl rfl rfl ?_
        refine v_getF C (pc' := 149) rfl fl_X13_32 rfl rfl (t2 := 28) rfl (j := 0) rfl u0_20 dX13_account_146 rfl ?_
        refine v_aload_n C (pc' := 150) dX13_account_149 rfl rfl rfl ?_
        refine v_getI C (pc' := 153) fl_X13_116 rfl (Or.inl rfl) lv0_20 dX13_account_150 rfl ?_
        refine v_iload C (pc' := 155) dX13_account_153 rfl rfl ?_
        obtain ⟨g16, E⟩ := guardB_some E
        refine v_iast C (pc' := 156) (t := 28) rfl lv0_28 g16 dX13_account_155 rfl ?_
        refine v_aload_n C (pc' := 157) dX13_account_156 rfl rfl rfl ?_
        refine v_aload_n C (pc' := 158) dX13_account_157 rfl rfl rfl ?_
        refine v_getI C (pc' := 161) fl_X13_116 rfl (Or.inl rfl) lv0_20 dX13_account_158 rfl ?_
        refine v_iconst C (pc' := 162) dX13_account_161 (v := (1 : Int32)) (by decide) rfl ?_
        refine v_iadd C (pc' := 163) dX13_account_162 rfl ?_
        refine v_putI C (pc' := 166) fp_X13_116 rfl rfl lv0_20 dX13_account_163 rfl ?_
        refine v_iconst C (pc' := 167) dX13_account_166 (v := (1 : Int32)) (by decide) rfl ?_
        cases E
        exact v_retz C hr hlk (Or.inr rfl) dX13_account_167
      · rw [if_pos q11] at E
        refine v_iconst C (pc' := 106) dX13_account_105 (v := (0 : Int32)) (by decide) rfl ?_
        cases E
        exact v_retz C hr hlk (Or.inl rfl) dX13_account_106
    refine iter_V (P := fun st10 : Int32 × Int32 => V true G p l e { frames := 2, cells := 0, slots := 0, locals := 49 } s m args below meth c 11 (MQ below (QcA true G (some (aI r)) h') args s 0 0 (A_ G)) h 0 0 60 [some (aA 20 (some 0)), some (aL p1), none, some (aL p3), none, some (aL y1), none, some (aL y2), none, some (aI st10.1), some (aI st10.2)] []) ?_ _ _ It10
    rintro ⟨a9t10, a10t10⟩ ot10 Lt10 kxt10 kst10
    rw [m_account_l60] at Lt10
    show V true G p l e { frames := 2, cells := 0, slots := 0, locals := 49 } s m args below meth c 11 (MQ below (QcA true G (some (aI r)) h') args s 0 0 (A_ G)) h 0 0 60 [some (aA 20 (some 0)), some (aL p1), none, some (aL p3), none, some (aL y1), none, some (aL y2), none, some (aI a9t10), some (aI a10t10)] []
    refine v_iload C (pc' := 62) dX13_account_60 rfl rfl ?_
    refine v_aload_n C (pc' := 63) dX13_account_62 rfl rfl rfl ?_
    refine v_getI C (pc' := 66) fl_X13_116 rfl (Or.inl rfl) lv0_20 dX13_account_63 rfl ?_
    refine v_icmp_ge C (tg := 100) (pc' := 69) dX13_account_66 (by decide) rfl (fun q17 => ?_) (fun q17 => ?_)
    · rw [if_pos q17] at Lt10
      cases Lt10
      have z := kxt10 _ rfl
      subst z
      exact Kt10
    · rw [if_neg q17] at Lt10
      refine v_iload C (pc' := 71) dX13_account_69 rfl rfl ?_
      obtain ⟨t19, At19, Lt10⟩ := bind_some Lt10
      have Kt19 : V true G p l e { frames := 2, cells := 0, slots := 0, locals := 49 } s m args below meth c 11 (MQ below (QcA true G (some (aI r)) h') args s 0 0 (A_ G)) h 0 0 92 [some (aA 20 (some 0)), some (aL p1), none, some (aL p3), none, some (aL y1), none, some (aL y2), none, some (aI a9t10), some (aI a10t10)] [aI t19] := by
        refine v_istore9 C (pc' := 94) dX13_account_92 (by decide) rfl rfl ?_
        refine v_iinc10 C (pc' := 97) dX13_account_94 (v := (a10t10 + (1 : Int32))) (by rw [show Int32.ofInt 1 = (1 : Int32) by decide]) (by decide) rfl rfl ?_
        refine v_goto C (pc' := 60) dX13_account_97 (by decide) ?_
        cases Lt10
        exact kst10 _ rfl
      refine v_if_eq C (tg := 91) (pc' := 74) dX13_account_71 (by decide) rfl (fun q18 => ?_) (fun q18 => ?_)
      · rw [if_pos q18] at At19
        refine v_iconst C (pc' := 92) dX13_account_91 (v := (0 : Int32)) (by decide) rfl ?_
        cases At19
        exact Kt19
      · rw [if_neg q18] at At19
        refine v_aload_n C (pc' := 75) dX13_account_74 rfl rfl rfl ?_
        refine v_getF C (pc' := 78) rfl fl_X13_26 rfl rfl (t2 := 26) rfl (j := 0) rfl u0_20 dX13_account_75 rfl ?_
        refine v_iload C (pc' := 80) dX13_account_78 rfl rfl ?_
        obtain ⟨g20, At19⟩ := guardB_some At19
        refine v_lald C (pc' := 81) (t := 26) rfl lv0_26 g20 dX13_account_80 rfl ?_
        refine v_lload C (pc' := 83) dX13_account_81 rfl rfl ?_
        refine v_lcmp C (pc' := 84) dX13_account_83 rfl ?_
        refine v_if_eq C (tg := 91) (pc' := 87) dX13_account_84 (by decide) rfl (fun q21 => ?_) (fun q21 => ?_)
        · rw [lgc_eq] at q21
          rw [if_pos q21] at At19
          refine v_iconst C (pc' := 92) dX13_account_91 (v := (0 : Int32)) (by decide) rfl ?_
          cases At19
          exact Kt19
        · rw [lgc_eq] at q21
          rw [if_neg q21] at At19
          refine v_iconst C (pc' := 88) dX13_account_87 (v := (1 : Int32)) (by decide) rfl ?_
          refine v_goto C (pc' := 92) dX13_account_88 (by decide) ?_
          cases At19
          exact Kt19
  refine v_icmp_ge C (tg := 54) (pc' := 20) dX13_account_17 (by decide) rfl (fun q3 => ?_) (fun q3 => ?_)
  · rw [if_pos q3] at At4
    refine v_iconst C (pc' := 55) dX13_account_54 (v := (0 : Int32)) (by decide) rfl ?_
    cases At4
    exact Kt4
  · rw [if_neg q3] at At4
    refine v_lload C (pc' := 22) dX13_account_20 rfl rfl ?_
    refine v_lconst C (pc' := 23) dX13_account_22 (v := (0 : Int64)) (by decide) rfl ?_
    refine v_lcmp C (pc' := 24) dX13_account_23 rfl ?_
    refine v_if_eq C (tg := 54) (pc' := 27) dX13_account_24 (by decide) rfl (fun q5 => ?_) (fun q5 => ?_)
    · rw [lgc_eq] at q5
      rw [if_pos q5] at At4
      refine v_iconst C (pc' := 55) dX13_account_54 (v := (0 : Int32)) (by decide) rfl ?_
      cases At4
      exact Kt4
    · rw [lgc_eq] at q5
      rw [if_neg q5] at At4
      refine v_lload C (pc' := 29) dX13_account_27 rfl rfl ?_
      refine v_lconst C (pc' := 30) dX13_account_29 (v := (0 : Int64)) (by decide) rfl ?_
      refine v_lcmp C (pc' := 31) dX13_account_30 rfl ?_
      refine v_if_eq C (tg := 54) (pc' := 34) dX13_account_31 (by decide) rfl (fun q6 => ?_) (fun q6 => ?_)
      · rw [lgc_eq] at q6
        rw [if_pos q6] at At4
        refine v_iconst C (pc' := 55) dX13_account_54 (v := (0 : Int32)) (by decide) rfl ?_
        cases At4
        exact Kt4
      · rw [lgc_eq] at q6
        rw [if_neg q6] at At4
        refine v_aload_n C (pc' := 35) dX13_account_34 rfl rfl rfl ?_
        obtain ⟨y7, hy7, At4⟩ := bind_some At4
        refine v_callV C (pc' := 38) (rest := []) (c_m_freeNode l h _ hy7) mv_X13_119 rfl rfl lv0_20 dX13_account_35 rfl rfl rfl ⟨Nat.le_of_ble_eq_true rfl, Nat.le_of_ble_eq_true rfl⟩ (Nat.le_of_ble_eq_true rfl) ⟨Nat.le_of_ble_eq_true rfl, Nat.le_of_ble_eq_true rfl⟩ ?_
        refine V.st (st' := [aI y7]) rfl ?_
        refine v_bipush C (pc' := 40) dX13_account_38 (v := (24 : Int32)) (by decide) rfl ?_
        refine v_icmp_ge C (tg := 54) (pc' := 43) dX13_account_40 (by decide) rfl (fun q8 => ?_) (fun q8 => ?_)
        · rw [if_pos q8] at At4
          refine v_iconst C (pc' := 55) dX13_account_54 (v := (0 : Int32)) (by decide) rfl ?_
          cases At4
          exact Kt4
        · rw [if_neg q8] at At4
          refine v_aload_n C (pc' := 44) dX13_account_43 rfl rfl rfl ?_
          refine v_getI C (pc' := 47) fl_X13_123 rfl (Or.inr rfl) lv0_20 dX13_account_44 rfl ?_
          refine v_if_ne C (tg := 54) (pc' := 50) dX13_account_47 (by decide) rfl (fun q9 => ?_) (fun q9 => ?_)
          · rw [if_neg q9] at At4
            refine v_iconst C (pc' := 55) dX13_account_54 (v := (0 : Int32)) (by decide) rfl ?_
            cases At4
            exact Kt4
          · rw [if_pos q9] at At4
            refine v_iconst C (pc' := 51) dX13_account_50 (v := (1 : Int32)) (by decide) rfl ?_
            refine v_goto C (pc' := 55) dX13_account_51 (by decide) ?_
            cases At4
            exact Kt4

def m_isDots_l5 (v1 : Int32) (v2 : Int32) (h : Hp) : Int32 × Int32 → Option ((Int32 × Int32) ⊕ (Int32 × Int32))
  | (a3, a4) =>
    if v2 ≤ a4 then
      some (.inl (a3, a4))
    else
      (if a3 = 0 then
        some (0 : Int32)
      else
        guardB a4 32 <|
        if (gI h (29, 0) a4.toNatClampNeg) = (46 : Int32) then
          some (1 : Int32)
        else
          some (0 : Int32)).bind fun t3 =>
      some (.inr (t3, (a4 + (1 : Int32))))
def m_isDots (p1 : Int32) (p2 : Int32) (h : Hp) : Option Int32 :=
  (iter (m_isDots_l5 p1 p2 h) FU ((1 : Int32), p1)).bind fun t6 =>
  (if t6.1 = 0 then
    some (0 : Int32)
  else
    if (3 : Int32) ≤ (p2 - p1) then
      some (0 : Int32)
    else
      some (p2 - p1)).bind fun t8 =>
  some t8
set_option maxHeartbeats 2000000 in
set_option maxRecDepth 20000 in
theorem c_m_isDots (l : Launch) (p1 : Int32) (p2 : Int32) (h : Hp) (r : Int32)  (E : m_isDots p1 p2 h = some r) : Ctr l yX13_isDots cX13_isDots 5 (some .int) 0 0 0 0 true [aA 20 (some 0), aI p1, aI p2] h (some (aI r)) h := by
  rw [m_isDots] at E
  refine Ctr.of (ls0 := [some (aA 20 (some 0)), some (aI p1), some (aI p2), none, none]) (by decide +kernel) (Nat.le_of_ble_eq_true rfl) rfl ?_
  intro G p e s m args below meth c C hr hlk hnm
  refine v_iconst C (pc' := 1) dX13_isDots_0 (v := (1 : Int32)) (by decide) rfl ?_
  refine v_istore3 C (pc' := 2) dX13_isDots_1 (by decide) rfl rfl ?_
  refine v_iload_n C (pc' := 3) dX13_isDots_2 rfl rfl rfl ?_
  refine v_istore4 C (pc' := 5) dX13_isDots_3 (by decide) rfl rfl ?_
  obtain ⟨t1, It1, E⟩ := bind_some E
  have Kt1 : V true G p l e { frames := 0, cells := 0, slots := 0, locals := 0 } s m args below meth c 5 (MQ below (QcA true G (some (aI r)) h) args s 0 0 (A_ G)) h 0 0 39 [some (aA 20 (some 0)), some (aI p1), some (aI p2), some (aI t1.1), some (aI t1.2)] [] := by
    refine v_iload_n C (pc' := 40) dX13_isDots_39 rfl rfl rfl ?_
    obtain ⟨t3, At3, E⟩ := bind_some E
    have Kt3 : V true G p l e { frames := 0, cells := 0, slots := 0, locals := 0 } s m args below meth c 5 (MQ below (QcA true G (some (aI r)) h) args s 0 0 (A_ G)) h 0 0 57 [some (aA 20 (some 0)), some (aI p1), some (aI p2), some (aI t1.1), some (aI t1.2)] [aI t3] := by
      cases E
      exact v_reti C hr hlk dX13_isDots_57
    refine v_if_eq C (tg := 56) (pc' := 43) dX13_isDots_40 (by decide) rfl (fun q2 => ?_) (fun q2 => ?_)
    · rw [if_pos q2] at At3
      refine v_iconst C (pc' := 57) dX13_isDots_56 (v := (0 : Int32)) (by decide) rfl ?_
      cases At3
      exact Kt3
    · rw [if_neg q2] at At3
      refine v_iload_n C (pc' := 44) dX13_isDots_43 rfl rfl rfl ?_
      refine v_iload_n C (pc' := 45) dX13_isDots_44 rfl rfl rfl ?_
      refine v_isub C (pc' := 46) dX13_isDots_45 rfl ?_
      refine v_iconst C (pc' := 47) dX13_isDots_46 (v := (3 : Int32)) (by decide) rfl ?_
      refine v_icmp_ge C (tg := 56) (pc' := 50) dX13_isDots_47 (by decide) rfl (fun q4 => ?_) (fun q4 => ?_)
      · rw [if_pos q4] at At3
        refine v_iconst C (pc' := 57) dX13_isDots_56 (v := (0 : Int32)) (by decide) rfl ?_
        cases At3
        exact Kt3
      · rw [if_neg q4] at At3
        refine v_iload_n C (pc' := 51) dX13_isDots_50 rfl rfl rfl ?_
        refine v_iload_n C (pc' := 52) dX13_isDots_51 rfl rfl rfl ?_
        refine v_isub C (pc' := 53) dX13_isDots_52 rfl ?_
        refine v_goto C (pc' := 57) dX13_isDots_53 (by decide) ?_
        cases At3
        exact Kt3
  refine iter_V (P := fun st1 : Int32 × Int32 => V true G p l e { frames := 0, cells := 0, slots := 0, locals := 0 } s m args below meth c 5 (MQ below (QcA true G (some (aI r)) h) args s 0 0 (A_ G)) h 0 0 5 [some (aA 20 (some 0)), some (aI p1), some (aI p2), some (aI st1.1), some (aI st1.2)] []) ?_ _ _ It1
  rintro ⟨a3t1, a4t1⟩ ot1 Lt1 kxt1 kst1
  rw [m_isDots_l5] at Lt1
  show V true G p l e { frames := 0, cells := 0, slots := 0, locals := 0 } s m args below meth c 5 (MQ below (QcA true G (some (aI r)) h) args s 0 0 (A_ G)) h 0 0 5 [some (aA 20 (some 0)), some (aI p1), some (aI p2), some (aI a3t1), some (aI a4t1)] []
  refine v_iload C (pc' := 7) dX13_isDots_5 rfl rfl ?_
  refine v_iload_n C (pc' := 8) dX13_isDots_7 rfl rfl rfl ?_
  refine v_icmp_ge C (tg := 39) (pc' := 11) dX13_isDots_8 (by decide) rfl (fun q5 => ?_) (fun q5 => ?_)
  · rw [if_pos q5] at Lt1
    cases Lt1
    have z := kxt1 _ rfl
    subst z
    exact Kt1
  · rw [if_neg q5] at Lt1
    refine v_iload_n C (pc' := 12) dX13_isDots_11 rfl rfl rfl ?_
    obtain ⟨t7, At7, Lt1⟩ := bind_some Lt1
    have Kt7 : V true G p l e { frames := 0, cells := 0, slots := 0, locals := 0 } s m args below meth c 5 (MQ below (QcA true G (some (aI r)) h) args s 0 0 (A_ G)) h 0 0 32 [some (aA 20 (some 0)), some (aI p1), some (aI p2), some (aI a3t1), some (aI a4t1)] [aI t7] := by
      refine v_istore3 C (pc' := 33) dX13_isDots_32 (by decide) rfl rfl ?_
      refine v_iinc4 C (pc' := 36) dX13_isDots_33 (v := (a4t1 + (1 : Int32))) (by rw [show Int32.ofInt 1 = (1 : Int32) by decide]) (by decide) rfl rfl ?_
      refine v_goto C (pc' := 5) dX13_isDots_36 (by decide) ?_
      cases Lt1
      exact kst1 _ rfl
    refine v_if_eq C (tg := 31) (pc' := 15) dX13_isDots_12 (by decide) rfl (fun q6 => ?_) (fun q6 => ?_)
    · rw [if_pos q6] at At7
      refine v_iconst C (pc' := 32) dX13_isDots_31 (v := (0 : Int32)) (by decide) rfl ?_
      cases At7
      exact Kt7
    · rw [if_neg q6] at At7
      refine v_aload_n C (pc' := 16) dX13_isDots_15 rfl rfl rfl ?_
      refine v_getF C (pc' := 19) rfl fl_X13_35 rfl rfl (t2 := 29) rfl (j := 0) rfl u0_20 dX13_isDots_16 rfl ?_
      refine v_iload C (pc' := 21) dX13_isDots_19 rfl rfl ?_
      obtain ⟨g8, At7⟩ := guardB_some At7
      refine v_cald C (pc' := 22) (t := 29) rfl lv0_29 g8 dX13_isDots_21 rfl ?_
      refine v_bipush C (pc' := 24) dX13_isDots_22 (v := (46 : Int32)) (by decide) rfl ?_
      refine v_icmp_ne C (tg := 31) (pc' := 27) dX13_isDots_24 (by decide) rfl (fun q9 => ?_) (fun q9 => ?_)
      · rw [if_neg q9] at At7
        refine v_iconst C (pc' := 32) dX13_isDots_31 (v := (0 : Int32)) (by decide) rfl ?_
        cases At7
        exact Kt7
      · rw [if_pos q9] at At7
        refine v_iconst C (pc' := 28) dX13_isDots_27 (v := (1 : Int32)) (by decide) rfl ?_
        refine v_goto C (pc' := 32) dX13_isDots_28 (by decide) ?_
        cases At7
        exact Kt7

def m_nameAt_l25 (v1 : Int32) (v2 : Int32) (h : Hp) : Int64 × Int32 × Int32 → Option ((Int64 × Int32 × Int32) ⊕ (Int64 × Int32 × Int32))
  | (a3, a5, a6) =>
    if v2 ≤ a6 then
      some (.inl (a3, a5, a6))
    else
      if a5 = 0 then
        some (.inl (a3, a5, a6))
      else
        guardB a6 32 <|
        (m_fits (gI h (29, 0) a6.toNatClampNeg).toInt64 h).bind fun y7 =>
        guardB a6 32 <|
        some (.inr ((a3 + ((gI h (29, 0) a6.toNatClampNeg).toInt64 <<< (((8 : Int32) * (((5 : Int32) - a6) + v1)).toInt64 &&& 63))), y7, (a6 + (1 : Int32))))
def m_nameAt (p1 : Int32) (p2 : Int32) (h : Hp) : Option Int64 :=
  (if p2 ≤ p1 then
    some (0 : Int32)
  else
    if (6 : Int32) < (p2 - p1) then
      some (0 : Int32)
    else
      some (1 : Int32)).bind fun t2 =>
  (iter (m_nameAt_l25 p1 p2 h) FU ((0 : Int64), t2, p1)).bind fun t9 =>
  (if t9.2.1 = 0 then
    some (0 : Int64)
  else
    (m_isDots p1 p2 h).bind fun y12 =>
    if y12 ≤ 0 then
      some t9.1
    else
      some (0 : Int64)).bind fun t11 =>
  some t11
set_option maxHeartbeats 2000000 in
set_option maxRecDepth 20000 in
theorem c_m_nameAt (l : Launch) (p1 : Int32) (p2 : Int32) (h : Hp) (r : Int64)  (E : m_nameAt p1 p2 h = some r) : Ctr l yX13_nameAt cX13_nameAt 7 (some .long) 1 24 0 0 true [aA 20 (some 0), aI p1, aI p2] h (some (aL r)) h := by
  rw [m_nameAt] at E
  refine Ctr.of (ls0 := [some (aA 20 (some 0)), some (aI p1), some (aI p2), none, none, none, none]) (by decide +kernel) (Nat.le_of_ble_eq_true rfl) rfl ?_
  intro G p e s m args below meth c C hr hlk hnm
  refine v_lconst C (pc' := 1) dX13_nameAt_0 (v := (0 : Int64)) (by decide) rfl ?_
  refine v_lstore3 C (pc' := 2) dX13_nameAt_1 (by decide) rfl rfl ?_
  refine v_iload_n C (pc' := 3) dX13_nameAt_2 rfl rfl rfl ?_
  refine v_iload_n C (pc' := 4) dX13_nameAt_3 rfl rfl rfl ?_
  obtain ⟨t2, At2, E⟩ := bind_some E
  have Kt2 : V true G p l e { frames := 1, cells := 0, slots := 0, locals := 24 } s m args below meth c 7 (MQ below (QcA true G (some (aL r)) h) args s 0 0 (A_ G)) h 0 0 20 [some (aA 20 (some 0)), some (aI p1), some (aI p2), some (aL (0 : Int64)), none, none, none] [aI t2] := by
    refine v_istore5 C (pc' := 22) dX13_nameAt_20 (by decide) rfl rfl ?_
    refine v_iload_n C (pc' := 23) dX13_nameAt_22 rfl rfl rfl ?_
    refine v_istore6 C (pc' := 25) dX13_nameAt_23 (by decide) rfl rfl ?_
    obtain ⟨t4, It4, E⟩ := bind_some E
    have Kt4 : V true G p l e { frames := 1, cells := 0, slots := 0, locals := 24 } s m args below meth c 7 (MQ below (QcA true G (some (aL r)) h) args s 0 0 (A_ G)) h 0 0 76 [some (aA 20 (some 0)), some (aI p1), some (aI p2), some (aL t4.1), none, some (aI t4.2.1), some (aI t4.2.2)] [] := by
      refine v_iload C (pc' := 78) dX13_nameAt_76 rfl rfl ?_
      obtain ⟨t6, At6, E⟩ := bind_some E
      have Kt6 : V true G p l e { frames := 1, cells := 0, slots := 0, locals := 24 } s m args below meth c 7 (MQ below (QcA true G (some (aL r)) h) args s 0 0 (A_ G)) h 0 0 95 [some (aA 20 (some 0)), some (aI p1), some (aI p2), some (aL t4.1), none, some (aI t4.2.1), some (aI t4.2.2)] [aL t6] := by
        cases E
        exact v_retl C hr hlk dX13_nameAt_95
      refine v_if_eq C (tg := 90) (pc' := 81) dX13_nameAt_78 (by decide) rfl (fun q5 => ?_) (fun q5 => ?_)
      · rw [if_pos q5] at At6
        refine v_lconst C (pc' := 91) dX13_nameAt_90 (v := (0 : Int64)) (by decide) rfl ?_
        refine v_goto C (pc' := 95) dX13_nameAt_91 (by decide) ?_
        cases At6
        exact Kt6
      · rw [if_neg q5] at At6
        refine v_aload_n C (pc' := 82) dX13_nameAt_81 rfl rfl rfl ?_
        refine v_iload_n C (pc' := 83) dX13_nameAt_82 rfl rfl rfl ?_
        refine v_iload_n C (pc' := 84) dX13_nameAt_83 rfl rfl rfl ?_
        obtain ⟨y7, hy7, At6⟩ := bind_some At6
        refine v_callV C (pc' := 87) (rest := []) (c_m_isDots l p1 p2 h _ hy7) mv_X13_71 rfl rfl lv0_20 dX13_nameAt_84 rfl rfl rfl ⟨Nat.le_of_ble_eq_true rfl, Nat.le_of_ble_eq_true rfl⟩ (Nat.le_of_ble_eq_true rfl) ⟨Nat.le_of_ble_eq_true rfl, Nat.le_of_ble_eq_true rfl⟩ ?_
        refine V.st (st' := [aI y7]) rfl ?_
        refine v_if_le C (tg := 94) (pc' := 90) dX13_nameAt_87 (by decide) rfl (fun q8 => ?_) (fun q8 => ?_)
        · rw [if_pos q8] at At6
          refine v_lload_n C (pc' := 95) dX13_nameAt_94 rfl rfl rfl ?_
          cases At6
          exact Kt6
        · rw [if_neg q8] at At6
          refine v_lconst C (pc' := 91) dX13_nameAt_90 (v := (0 : Int64)) (by decide) rfl ?_
          refine v_goto C (pc' := 95) dX13_nameAt_91 (by decide) ?_
          cases At6
          exact Kt6
    refine iter_V (P := fun st4 : Int64 × Int32 × Int32 => V true G p l e { frames := 1, cells := 0, slots := 0, locals := 24 } s m args below meth c 7 (MQ below (QcA true G (some (aL r)) h) args s 0 0 (A_ G)) h 0 0 25 [some (aA 20 (some 0)), some (aI p1), some (aI p2), some (aL st4.1), none, some (aI st4.2.1), some (aI st4.2.2)] []) ?_ _ _ It4
    rintro ⟨a3t4, a5t4, a6t4⟩ ot4 Lt4 kxt4 kst4
    rw [m_nameAt_l25] at Lt4
    show V true G p l e { frames := 1, cells := 0, slots := 0, locals := 24 } s m args below meth c 7 (MQ below (QcA true G (some (aL r)) h) args s 0 0 (A_ G)) h 0 0 25 [some (aA 20 (some 0)), some (aI p1), some (aI p2), some (aL a3t4), none, some (aI a5t4), some (aI a6t4)] []
    refine v_iload C (pc' := 27) dX13_nameAt_25 rfl rfl ?_
    refine v_iload_n C (pc' := 28) dX13_nameAt_27 rfl rfl rfl ?_
    refine v_icmp_ge C (tg := 76) (pc' := 31) dX13_nameAt_28 (by decide) rfl (fun q9 => ?_) (fun q9 => ?_)
    · rw [if_pos q9] at Lt4
      cases Lt4
      have z := kxt4 _ rfl
      subst z
      exact Kt4
    · rw [if_neg q9] at Lt4
      refine v_iload C (pc' := 33) dX13_nameAt_31 rfl rfl ?_
      refine v_if_eq C (tg := 76) (pc' := 36) dX13_nameAt_33 (by decide) rfl (fun q10 => ?_) (fun q10 => ?_)
      · rw [if_pos q10] at Lt4
        cases Lt4
        have z := kxt4 _ rfl
        subst z
        exact Kt4
      · rw [if_neg q10] at Lt4
        refine v_aload_n C (pc' := 37) dX13_nameAt_36 rfl rfl rfl ?_
        refine v_getF C (pc' := 40) rfl fl_X13_35 rfl rfl (t2 := 29) rfl (j := 0) rfl u0_20 dX13_nameAt_37 rfl ?_
        refine v_iload C (pc' := 42) dX13_nameAt_40 rfl rfl ?_
        obtain ⟨g11, Lt4⟩ := guardB_some Lt4
        refine v_cald C (pc' := 43) (t := 29) rfl lv0_29 g11 dX13_nameAt_42 rfl ?_
        refine v_i2l C (pc' := 44) dX13_nameAt_43 rfl ?_
        obtain ⟨y12, hy12, Lt4⟩ := bind_some Lt4
        refine v_callS C (pc' := 47) (rest := []) (c_m_fits l (gI h (29, 0) a6t4.toNatClampNeg).toInt64 h _ hy12) ms_X13_67 dX13_nameAt_44 rfl rfl rfl ⟨Nat.le_of_ble_eq_true rfl, Nat.le_of_ble_eq_true rfl⟩ (Nat.le_of_ble_eq_true rfl) ⟨Nat.le_of_ble_eq_true rfl, Nat.le_of_ble_eq_true rfl⟩ ?_
        refine V.st (st' := [aI y12]) rfl ?_
        refine v_istore5 C (pc' := 49) dX13_nameAt_47 (by decide) rfl rfl ?_
        refine v_lload_n C (pc' := 50) dX13_nameAt_49 rfl rfl rfl ?_
        refine v_aload_n C (pc' := 51) dX13_nameAt_50 rfl rfl rfl ?_
        refine v_getF C (pc' := 54) rfl fl_X13_35 rfl rfl (t2 := 29) rfl (j := 0) rfl u0_20 dX13_nameAt_51 rfl ?_
        refine v_iload C (pc' := 56) dX13_nameAt_54 rfl rfl ?_
        obtain ⟨g13, Lt4⟩ := guardB_some Lt4
        refine v_cald C (pc' := 57) (t := 29) rfl lv0_29 g13 dX13_nameAt_56 rfl ?_
        refine v_i2l C (pc' := 58) dX13_nameAt_57 rfl ?_
        refine v_bipush C (pc' := 60) dX13_nameAt_58 (v := (8 : Int32)) (by decide) rfl ?_
        refine v_iconst C (pc' := 61) dX13_nameAt_60 (v := (5 : Int32)) (by decide) rfl ?_
        refine v_iload C (pc' := 63) dX13_nameAt_61 rfl rfl ?_
        refine v_isub C (pc' := 64) dX13_nameAt_63 rfl ?_
        refine v_iload_n C (pc' := 65) dX13_nameAt_64 rfl rfl rfl ?_
        refine v_iadd C (pc' := 66) dX13_nameAt_65 rfl ?_
        refine v_imul C (pc' := 67) dX13_nameAt_66 rfl ?_
        refine v_lshl C (pc' := 68) dX13_nameAt_67 rfl ?_
        refine v_ladd C (pc' := 69) dX13_nameAt_68 rfl ?_
        refine v_lstore3 C (pc' := 70) dX13_nameAt_69 (by decide) rfl rfl ?_
        refine v_iinc6 C (pc' := 73) dX13_nameAt_70 (v := (a6t4 + (1 : Int32))) (by rw [show Int32.ofInt 1 = (1 : Int32) by decide]) (by decide) rfl rfl ?_
        refine v_goto C (pc' := 25) dX13_nameAt_73 (by decide) ?_
        cases Lt4
        exact kst4 _ rfl
  refine v_icmp_le C (tg := 19) (pc' := 7) dX13_nameAt_4 (by decide) rfl (fun q1 => ?_) (fun q1 => ?_)
  · rw [if_pos q1] at At2
    refine v_iconst C (pc' := 20) dX13_nameAt_19 (v := (0 : Int32)) (by decide) rfl ?_
    cases At2
    exact Kt2
  · rw [if_neg q1] at At2
    refine v_iload_n C (pc' := 8) dX13_nameAt_7 rfl rfl rfl ?_
    refine v_iload_n C (pc' := 9) dX13_nameAt_8 rfl rfl rfl ?_
    refine v_isub C (pc' := 10) dX13_nameAt_9 rfl ?_
    refine v_bipush C (pc' := 12) dX13_nameAt_10 (v := (6 : Int32)) (by decide) rfl ?_
    refine v_icmp_gt C (tg := 19) (pc' := 15) dX13_nameAt_12 (by decide) rfl (fun q3 => ?_) (fun q3 => ?_)
    · rw [if_pos q3] at At2
      refine v_iconst C (pc' := 20) dX13_nameAt_19 (v := (0 : Int32)) (by decide) rfl ?_
      cases At2
      exact Kt2
    · rw [if_neg q3] at At2
      refine v_iconst C (pc' := 16) dX13_nameAt_15 (v := (1 : Int32)) (by decide) rfl ?_
      refine v_goto C (pc' := 20) dX13_nameAt_16 (by decide) ?_
      cases At2
      exact Kt2

def m_isDigit (p1 : Int32) (h : Hp) : Option Int32 :=
  (if (gI h (20, 0) 9) ≤ p1 then
    some (0 : Int32)
  else
    guardB p1 32 <|
    if (gI h (29, 0) p1.toNatClampNeg) < (48 : Int32) then
      some (0 : Int32)
    else
      guardB p1 32 <|
      if (57 : Int32) < (gI h (29, 0) p1.toNatClampNeg) then
        some (0 : Int32)
      else
        some (1 : Int32)).bind fun t2 =>
  guardZ t2 <|
  some t2
set_option maxHeartbeats 2000000 in
set_option maxRecDepth 20000 in
theorem c_m_isDigit (l : Launch) (p1 : Int32) (h : Hp) (r : Int32)  (E : m_isDigit p1 h = some r) : Ctr l yX13_isDigit cX13_isDigit 2 (some .boolean) 0 0 0 0 true [aA 20 (some 0), aI p1] h (some (aI r)) h := by
  rw [m_isDigit] at E
  refine Ctr.of (ls0 := [some (aA 20 (some 0)), some (aI p1)]) (by decide +kernel) (Nat.le_of_ble_eq_true rfl) rfl ?_
  intro G p e s m args below meth c C hr hlk hnm
  refine v_iload_n C (pc' := 1) dX13_isDigit_0 rfl rfl rfl ?_
  refine v_aload_n C (pc' := 2) dX13_isDigit_1 rfl rfl rfl ?_
  refine v_getI C (pc' := 5) fl_X13_75 rfl (Or.inl rfl) lv0_20 dX13_isDigit_2 rfl ?_
  obtain ⟨t2, At2, E⟩ := bind_some E
  have Kt2 : V true G p l e { frames := 0, cells := 0, slots := 0, locals := 0 } s m args below meth c 2 (MQ below (QcA true G (some (aI r)) h) args s 0 0 (A_ G)) h 0 0 35 [some (aA 20 (some 0)), some (aI p1)] [aI t2] := by
    obtain ⟨z7, E⟩ := guardZ_some E
    cases E
    exact v_retz C hr hlk z7 dX13_isDigit_35
  refine v_icmp_ge C (tg := 34) (pc' := 8) dX13_isDigit_5 (by decide) rfl (fun q1 => ?_) (fun q1 => ?_)
  · rw [if_pos q1] at At2
    refine v_iconst C (pc' := 35) dX13_isDigit_34 (v := (0 : Int32)) (by decide) rfl ?_
    cases At2
    exact Kt2
  · rw [if_neg q1] at At2
    refine v_aload_n C (pc' := 9) dX13_isDigit_8 rfl rfl rfl ?_
    refine v_getF C (pc' := 12) rfl fl_X13_35 rfl rfl (t2 := 29) rfl (j := 0) rfl u0_20 dX13_isDigit_9 rfl ?_
    refine v_iload_n C (pc' := 13) dX13_isDigit_12 rfl rfl rfl ?_
    obtain ⟨g3, At2⟩ := guardB_some At2
    refine v_cald C (pc' := 14) (t := 29) rfl lv0_29 g3 dX13_isDigit_13 rfl ?_
    refine v_bipush C (pc' := 16) dX13_isDigit_14 (v := (48 : Int32)) (by decide) rfl ?_
    refine v_icmp_lt C (tg := 34) (pc' := 19) dX13_isDigit_16 (by decide) rfl (fun q4 => ?_) (fun q4 => ?_)
    · rw [if_pos q4] at At2
      refine v_iconst C (pc' := 35) dX13_isDigit_34 (v := (0 : Int32)) (by decide) rfl ?_
      cases At2
      exact Kt2
    · rw [if_neg q4] at At2
      refine v_aload_n C (pc' := 20) dX13_isDigit_19 rfl rfl rfl ?_
      refine v_getF C (pc' := 23) rfl fl_X13_35 rfl rfl (t2 := 29) rfl (j := 0) rfl u0_20 dX13_isDigit_20 rfl ?_
      refine v_iload_n C (pc' := 24) dX13_isDigit_23 rfl rfl rfl ?_
      obtain ⟨g5, At2⟩ := guardB_some At2
      refine v_cald C (pc' := 25) (t := 29) rfl lv0_29 g5 dX13_isDigit_24 rfl ?_
      refine v_bipush C (pc' := 27) dX13_isDigit_25 (v := (57 : Int32)) (by decide) rfl ?_
      refine v_icmp_gt C (tg := 34) (pc' := 30) dX13_isDigit_27 (by decide) rfl (fun q6 => ?_) (fun q6 => ?_)
      · rw [if_pos q6] at At2
        refine v_iconst C (pc' := 35) dX13_isDigit_34 (v := (0 : Int32)) (by decide) rfl ?_
        cases At2
        exact Kt2
      · rw [if_neg q6] at At2
        refine v_iconst C (pc' := 31) dX13_isDigit_30 (v := (1 : Int32)) (by decide) rfl ?_
        refine v_goto C (pc' := 35) dX13_isDigit_31 (by decide) ?_
        cases At2
        exact Kt2

def m_digitsFrom_l2 (v1 : Int32) (h : Hp) : Int32 → Option (Int32 ⊕ Int32)
  | a2 =>
    (m_isDigit (v1 + a2) h).bind fun y1 =>
    if y1 = 0 then
      some (.inl a2)
    else
      some (.inr (a2 + (1 : Int32)))
def m_digitsFrom (p1 : Int32) (h : Hp) : Option Int32 :=
  (iter (m_digitsFrom_l2 p1 h) FU (0 : Int32)).bind fun t3 =>
  some t3
set_option maxHeartbeats 2000000 in
set_option maxRecDepth 20000 in
theorem c_m_digitsFrom (l : Launch) (p1 : Int32) (h : Hp) (r : Int32)  (E : m_digitsFrom p1 h = some r) : Ctr l yX13_digitsFrom cX13_digitsFrom 3 (some .int) 1 21 0 0 true [aA 20 (some 0), aI p1] h (some (aI r)) h := by
  rw [m_digitsFrom] at E
  refine Ctr.of (ls0 := [some (aA 20 (some 0)), some (aI p1), none]) (by decide +kernel) (Nat.le_of_ble_eq_true rfl) rfl ?_
  intro G p e s m args below meth c C hr hlk hnm
  refine v_iconst C (pc' := 1) dX13_digitsFrom_0 (v := (0 : Int32)) (by decide) rfl ?_
  refine v_istore2 C (pc' := 2) dX13_digitsFrom_1 (by decide) rfl rfl ?_
  obtain ⟨t1, It1, E⟩ := bind_some E
  have Kt1 : V true G p l e { frames := 1, cells := 0, slots := 0, locals := 21 } s m args below meth c 3 (MQ below (QcA true G (some (aI r)) h) args s 0 0 (A_ G)) h 0 0 19 [some (aA 20 (some 0)), some (aI p1), some (aI t1)] [] := by
    refine v_iload_n C (pc' := 20) dX13_digitsFrom_19 rfl rfl rfl ?_
    cases E
    exact v_reti C hr hlk dX13_digitsFrom_20
  refine iter_V (P := fun st1 : Int32 => V true G p l e { frames := 1, cells := 0, slots := 0, locals := 21 } s m args below meth c 3 (MQ below (QcA true G (some (aI r)) h) args s 0 0 (A_ G)) h 0 0 2 [some (aA 20 (some 0)), some (aI p1), some (aI st1)] []) ?_ _ _ It1
  intro a2t1 ot1 Lt1 kxt1 kst1
  rw [m_digitsFrom_l2] at Lt1
  show V true G p l e { frames := 1, cells := 0, slots := 0, locals := 21 } s m args below meth c 3 (MQ below (QcA true G (some (aI r)) h) args s 0 0 (A_ G)) h 0 0 2 [some (aA 20 (some 0)), some (aI p1), some (aI a2t1)] []
  refine v_aload_n C (pc' := 3) dX13_digitsFrom_2 rfl rfl rfl ?_
  refine v_iload_n C (pc' := 4) dX13_digitsFrom_3 rfl rfl rfl ?_
  refine v_iload_n C (pc' := 5) dX13_digitsFrom_4 rfl rfl rfl ?_
  refine v_iadd C (pc' := 6) dX13_digitsFrom_5 rfl ?_
  obtain ⟨y2, hy2, Lt1⟩ := bind_some Lt1
  refine v_callV C (pc' := 9) (rest := []) (c_m_isDigit l (p1 + a2t1) h _ hy2) mv_X13_160 rfl rfl lv0_20 dX13_digitsFrom_6 rfl rfl rfl ⟨Nat.le_of_ble_eq_true rfl, Nat.le_of_ble_eq_true rfl⟩ (Nat.le_of_ble_eq_true rfl) ⟨Nat.le_of_ble_eq_true rfl, Nat.le_of_ble_eq_true rfl⟩ ?_
  refine V.st (st' := [aI y2]) rfl ?_
  refine v_if_eq C (tg := 19) (pc' := 12) dX13_digitsFrom_9 (by decide) rfl (fun q3 => ?_) (fun q3 => ?_)
  · rw [if_pos q3] at Lt1
    cases Lt1
    have z := kxt1 _ rfl
    subst z
    exact Kt1
  · rw [if_neg q3] at Lt1
    refine v_iload_n C (pc' := 13) dX13_digitsFrom_12 rfl rfl rfl ?_
    refine v_iconst C (pc' := 14) dX13_digitsFrom_13 (v := (1 : Int32)) (by decide) rfl ?_
    refine v_iadd C (pc' := 15) dX13_digitsFrom_14 rfl ?_
    refine v_istore2 C (pc' := 16) dX13_digitsFrom_15 (by decide) rfl rfl ?_
    refine v_goto C (pc' := 2) dX13_digitsFrom_16 (by decide) ?_
    cases Lt1
    exact kst1 _ rfl

def m_numberAt_l5 (v1 : Int32) (v2 : Int32) (h : Hp) : Int32 × Int32 → Option ((Int32 × Int32) ⊕ (Int32 × Int32))
  | (a3, a4) =>
    if (v1 + v2) ≤ a4 then
      some (.inl (a3, a4))
    else
      guardB a4 32 <|
      some (.inr (((((10 : Int32) * a3) + (gI h (29, 0) a4.toNatClampNeg)) - (48 : Int32)), (a4 + (1 : Int32))))
def m_numberAt (p1 : Int32) (p2 : Int32) (h : Hp) : Option Int32 :=
  (iter (m_numberAt_l5 p1 p2 h) FU ((0 : Int32), p1)).bind fun t3 =>
  some t3.1
set_option maxHeartbeats 2000000 in
set_option maxRecDepth 20000 in
theorem c_m_numberAt (l : Launch) (p1 : Int32) (p2 : Int32) (h : Hp) (r : Int32)  (E : m_numberAt p1 p2 h = some r) : Ctr l yX13_numberAt cX13_numberAt 5 (some .int) 0 0 0 0 true [aA 20 (some 0), aI p1, aI p2] h (some (aI r)) h := by
  rw [m_numberAt] at E
  refine Ctr.of (ls0 := [some (aA 20 (some 0)), some (aI p1), some (aI p2), none, none]) (by decide +kernel) (Nat.le_of_ble_eq_true rfl) rfl ?_
  intro G p e s m args below meth c C hr hlk hnm
  refine v_iconst C (pc' := 1) dX13_numberAt_0 (v := (0 : Int32)) (by decide) rfl ?_
  refine v_istore3 C (pc' := 2) dX13_numberAt_1 (by decide) rfl rfl ?_
  refine v_iload_n C (pc' := 3) dX13_numberAt_2 rfl rfl rfl ?_
  refine v_istore4 C (pc' := 5) dX13_numberAt_3 (by decide) rfl rfl ?_
  obtain ⟨t1, It1, E⟩ := bind_some E
  have Kt1 : V true G p l e { frames := 0, cells := 0, slots := 0, locals := 0 } s m args below meth c 5 (MQ below (QcA true G (some (aI r)) h) args s 0 0 (A_ G)) h 0 0 35 [some (aA 20 (some 0)), some (aI p1), some (aI p2), some (aI t1.1), some (aI t1.2)] [] := by
    refine v_iload_n C (pc' := 36) dX13_numberAt_35 rfl rfl rfl ?_
    cases E
    exact v_reti C hr hlk dX13_numberAt_36
  refine iter_V (P := fun st1 : Int32 × Int32 => V true G p l e { frames := 0, cells := 0, slots := 0, locals := 0 } s m args below meth c 5 (MQ below (QcA true G (some (aI r)) h) args s 0 0 (A_ G)) h 0 0 5 [some (aA 20 (some 0)), some (aI p1), some (aI p2), some (aI st1.1), some (aI st1.2)] []) ?_ _ _ It1
  rintro ⟨a3t1, a4t1⟩ ot1 Lt1 kxt1 kst1
  rw [m_numberAt_l5] at Lt1
  show V true G p l e { frames := 0, cells := 0, slots := 0, locals := 0 } s m args below meth c 5 (MQ below (QcA true G (some (aI r)) h) args s 0 0 (A_ G)) h 0 0 5 [some (aA 20 (some 0)), some (aI p1), some (aI p2), some (aI a3t1), some (aI a4t1)] []
  refine v_iload C (pc' := 7) dX13_numberAt_5 rfl rfl ?_
  refine v_iload_n C (pc' := 8) dX13_numberAt_7 rfl rfl rfl ?_
  refine v_iload_n C (pc' := 9) dX13_numberAt_8 rfl rfl rfl ?_
  refine v_iadd C (pc' := 10) dX13_numberAt_9 rfl ?_
  refine v_icmp_ge C (tg := 35) (pc' := 13) dX13_numberAt_10 (by decide) rfl (fun q2 => ?_) (fun q2 => ?_)
  · rw [if_pos q2] at Lt1
    cases Lt1
    have z := kxt1 _ rfl
    subst z
    exact Kt1
  · rw [if_neg q2] at Lt1
    refine v_bipush C (pc' := 15) dX13_numberAt_13 (v := (10 : Int32)) (by decide) rfl ?_
    refine v_iload_n C (pc' := 16) dX13_numberAt_15 rfl rfl rfl ?_
    refine v_imul C (pc' := 17) dX13_numberAt_16 rfl ?_
    refine v_aload_n C (pc' := 18) dX13_numberAt_17 rfl rfl rfl ?_
    refine v_getF C (pc' := 21) rfl fl_X13_35 rfl rfl (t2 := 29) rfl (j := 0) rfl u0_20 dX13_numberAt_18 rfl ?_
    refine v_iload C (pc' := 23) dX13_numberAt_21 rfl rfl ?_
    obtain ⟨g3, Lt1⟩ := guardB_some Lt1
    refine v_cald C (pc' := 24) (t := 29) rfl lv0_29 g3 dX13_numberAt_23 rfl ?_
    refine v_iadd C (pc' := 25) dX13_numberAt_24 rfl ?_
    refine v_bipush C (pc' := 27) dX13_numberAt_25 (v := (48 : Int32)) (by decide) rfl ?_
    refine v_isub C (pc' := 28) dX13_numberAt_27 rfl ?_
    refine v_istore3 C (pc' := 29) dX13_numberAt_28 (by decide) rfl rfl ?_
    refine v_iinc4 C (pc' := 32) dX13_numberAt_29 (v := (a4t1 + (1 : Int32))) (by rw [show Int32.ofInt 1 = (1 : Int32) by decide]) (by decide) rfl rfl ?_
    refine v_goto C (pc' := 5) dX13_numberAt_32 (by decide) ?_
    cases Lt1
    exact kst1 _ rfl

def m_portTold_l9  (h : Hp) : Int32 × Int32 × Int32 → Option ((Int32 ⊕ (Int32 × Int32 × Int32)) ⊕ (Int32 × Int32 × Int32))
  | (a1, a2, a3) =>
    if (6 : Int32) ≤ a3 then
      some (.inl (.inr (a1, a2, a3)))
    else
      (m_digitsFrom a1 h).bind fun y2 =>
      if y2 < (1 : Int32) then
        some (.inl (.inl (-1 : Int32)))
      else
        if (3 : Int32) < y2 then
          some (.inl (.inl (-1 : Int32)))
        else
          (m_numberAt a1 y2 h).bind fun y5 =>
          if y5 ≤ (255 : Int32) then
            (m_numberAt a1 y2 h).bind fun y7 =>
            if (5 : Int32) ≤ a3 then
              if (a1 + y2) = (gI h (20, 0) 9) then
                some (.inr (((a1 + y2) + (1 : Int32)), ((((256 : Int32) * a2) + y7) &&& (65535 : Int32)), (a3 + (1 : Int32))))
              else
                some (.inl (.inl (-1 : Int32)))
            else
              if (gI h (20, 0) 9) ≤ (a1 + y2) then
                some (.inl (.inl (-1 : Int32)))
              else
                guardB (a1 + y2) 32 <|
                if (gI h (29, 0) (a1 + y2).toNatClampNeg) = (44 : Int32) then
                  some (.inr (((a1 + y2) + (1 : Int32)), ((((256 : Int32) * a2) + y7) &&& (65535 : Int32)), (a3 + (1 : Int32))))
                else
                  some (.inl (.inl (-1 : Int32)))
          else
            some (.inl (.inl (-1 : Int32)))
def m_portTold  (h : Hp) : Option Int32 :=
  (iter (m_portTold_l9 h) FU ((gI h (20, 0) 11), (0 : Int32), (0 : Int32))).bind fun t13 =>
  t13.elim (fun r => some r) fun ut13 =>
  some ut13.2.1
set_option maxHeartbeats 2000000 in
set_option maxRecDepth 20000 in
theorem c_m_portTold (l : Launch)  (h : Hp) (r : Int32)  (E : m_portTold  h = some r) : Ctr l yX13_portTold cX13_portTold 5 (some .int) 2 43 0 0 true [aA 20 (some 0)] h (some (aI r)) h := by
  rw [m_portTold] at E
  refine Ctr.of (ls0 := [some (aA 20 (some 0)), none, none, none, none]) (by decide +kernel) (Nat.le_of_ble_eq_true rfl) rfl ?_
  intro G p e s m args below meth c C hr hlk hnm
  refine v_aload_n C (pc' := 1) dX13_portTold_0 rfl rfl rfl ?_
  refine v_getI C (pc' := 4) fl_X13_78 rfl (Or.inl rfl) lv0_20 dX13_portTold_1 rfl ?_
  refine v_istore1 C (pc' := 5) dX13_portTold_4 (by decide) rfl rfl ?_
  refine v_iconst C (pc' := 6) dX13_portTold_5 (v := (0 : Int32)) (by decide) rfl ?_
  refine v_istore2 C (pc' := 7) dX13_portTold_6 (by decide) rfl rfl ?_
  refine v_iconst C (pc' := 8) dX13_portTold_7 (v := (0 : Int32)) (by decide) rfl ?_
  refine v_istore3 C (pc' := 9) dX13_portTold_8 (by decide) rfl rfl ?_
  obtain ⟨t1, It1, E⟩ := bind_some E
  have Kt1 : ∀ ut1, t1 = .inr ut1 → V true G p l e { frames := 2, cells := 0, slots := 0, locals := 43 } s m args below meth c 5 (MQ below (QcA true G (some (aI r)) h) args s 0 0 (A_ G)) h 0 0 118 [some (aA 20 (some 0)), some (aI ut1.1), some (aI ut1.2.1), some (aI ut1.2.2), none] [] := by
    intro ut1 hu
    rw [hu] at E
    simp only [Sum.elim_inr] at E
    refine v_iload_n C (pc' := 119) dX13_portTold_118 rfl rfl rfl ?_
    cases E
    exact v_reti C hr hlk dX13_portTold_119
  refine iter_V (P := fun st1 : Int32 × Int32 × Int32 => V true G p l e { frames := 2, cells := 0, slots := 0, locals := 43 } s m args below meth c 5 (MQ below (QcA true G (some (aI r)) h) args s 0 0 (A_ G)) h 0 0 9 [some (aA 20 (some 0)), some (aI st1.1), some (aI st1.2.1), some (aI st1.2.2), none] []) ?_ _ _ It1
  rintro ⟨a1t1, a2t1, a3t1⟩ ot1 Lt1 kxt1 kst1
  rw [m_portTold_l9] at Lt1
  show V true G p l e { frames := 2, cells := 0, slots := 0, locals := 43 } s m args below meth c 5 (MQ below (QcA true G (some (aI r)) h) args s 0 0 (A_ G)) h 0 0 9 [some (aA 20 (some 0)), some (aI a1t1), some (aI a2t1), some (aI a3t1), none] []
  refine v_iload_n C (pc' := 10) dX13_portTold_9 rfl rfl rfl ?_
  refine v_bipush C (pc' := 12) dX13_portTold_10 (v := (6 : Int32)) (by decide) rfl ?_
  refine v_icmp_ge C (tg := 118) (pc' := 15) dX13_portTold_12 (by decide) rfl (fun q2 => ?_) (fun q2 => ?_)
  · rw [if_pos q2] at Lt1
    cases Lt1
    have z := kxt1 _ rfl
    exact Kt1 _ z.symm
  · rw [if_neg q2] at Lt1
    refine v_aload_n C (pc' := 16) dX13_portTold_15 rfl rfl rfl ?_
    refine v_iload_n C (pc' := 17) dX13_portTold_16 rfl rfl rfl ?_
    obtain ⟨y3, hy3, Lt1⟩ := bind_some Lt1
    refine v_callV C (pc' := 20) (rest := []) (c_m_digitsFrom l a1t1 h _ hy3) mv_X13_164 rfl rfl lv0_20 dX13_portTold_17 rfl rfl rfl ⟨Nat.le_of_ble_eq_true rfl, Nat.le_of_ble_eq_true rfl⟩ (Nat.le_of_ble_eq_true rfl) ⟨Nat.le_of_ble_eq_true rfl, Nat.le_of_ble_eq_true rfl⟩ ?_
    refine V.st (st' := [aI y3]) rfl ?_
    refine v_istore4 C (pc' := 22) dX13_portTold_20 (by decide) rfl rfl ?_
    refine v_iload C (pc' := 24) dX13_portTold_22 rfl rfl ?_
    refine v_iconst C (pc' := 25) dX13_portTold_24 (v := (1 : Int32)) (by decide) rfl ?_
    refine v_icmp_lt C (tg := 47) (pc' := 28) dX13_portTold_25 (by decide) rfl (fun q4 => ?_) (fun q4 => ?_)
    · rw [if_pos q4] at Lt1
      refine v_iconst C (pc' := 48) dX13_portTold_47 (v := (-1 : Int32)) (by decide) rfl ?_
      cases Lt1
      have z := kxt1 _ rfl
      rw [← z] at E
      simp only [Sum.elim_inl] at E
      cases E
      exact v_reti C hr hlk dX13_portTold_48
    · rw [if_neg q4] at Lt1
      refine v_iload C (pc' := 30) dX13_portTold_28 rfl rfl ?_
      refine v_iconst C (pc' := 31) dX13_portTold_30 (v := (3 : Int32)) (by decide) rfl ?_
      refine v_icmp_gt C (tg := 47) (pc' := 34) dX13_portTold_31 (by decide) rfl (fun q5 => ?_) (fun q5 => ?_)
      · rw [if_pos q5] at Lt1
        refine v_iconst C (pc' := 48) dX13_portTold_47 (v := (-1 : Int32)) (by decide) rfl ?_
        cases Lt1
        have z := kxt1 _ rfl
        rw [← z] at E
        simp only [Sum.elim_inl] at E
        cases E
        exact v_reti C hr hlk dX13_portTold_48
      · rw [if_neg q5] at Lt1
        refine v_aload_n C (pc' := 35) dX13_portTold_34 rfl rfl rfl ?_
        refine v_iload_n C (pc' := 36) dX13_portTold_35 rfl rfl rfl ?_
        refine v_iload C (pc' := 38) dX13_portTold_36 rfl rfl ?_
        obtain ⟨y6, hy6, Lt1⟩ := bind_some Lt1
        refine v_callV C (pc' := 41) (rest := []) (c_m_numberAt l a1t1 y3 h _ hy6) mv_X13_167 rfl rfl lv0_20 dX13_portTold_38 rfl rfl rfl ⟨Nat.le_of_ble_eq_true rfl, Nat.le_of_ble_eq_true rfl⟩ (Nat.le_of_ble_eq_true rfl) ⟨Nat.le_of_ble_eq_true rfl, Nat.le_of_ble_eq_true rfl⟩ ?_
        refine V.st (st' := [aI y6]) rfl ?_
        refine v_sipush C (pc' := 44) dX13_portTold_41 (v := (255 : Int32)) (by decide) rfl ?_
        refine v_icmp_le C (tg := 49) (pc' := 47) dX13_portTold_44 (by decide) rfl (fun q7 => ?_) (fun q7 => ?_)
        · rw [if_pos q7] at Lt1
          refine v_sipush C (pc' := 52) dX13_portTold_49 (v := (256 : Int32)) (by decide) rfl ?_
          refine v_iload_n C (pc' := 53) dX13_portTold_52 rfl rfl rfl ?_
          refine v_imul C (pc' := 54) dX13_portTold_53 rfl ?_
          refine v_aload_n C (pc' := 55) dX13_portTold_54 rfl rfl rfl ?_
          refine v_iload_n C (pc' := 56) dX13_portTold_55 rfl rfl rfl ?_
          refine v_iload C (pc' := 58) dX13_portTold_56 rfl rfl ?_
          obtain ⟨y8, hy8, Lt1⟩ := bind_some Lt1
          refine v_callV C (pc' := 61) (rest := [aI ((256 : Int32) * a2t1)]) (c_m_numberAt l a1t1 y3 h _ hy8) mv_X13_167 rfl rfl lv0_20 dX13_portTold_58 rfl rfl rfl ⟨Nat.le_of_ble_eq_true rfl, Nat.le_of_ble_eq_true rfl⟩ (Nat.le_of_ble_eq_true rfl) ⟨Nat.le_of_ble_eq_true rfl, Nat.le_of_ble_eq_true rfl⟩ ?_
          refine V.st (st' := [aI y8, aI ((256 : Int32) * a2t1)]) rfl ?_
          refine v_iadd C (pc' := 62) dX13_portTold_61 rfl ?_
          refine v_ldc C (pc' := 64) dX13_portTold_62 (v := (65535 : Int32)) (TT_of (i := 1117) (by decide +kernel) (by decide +kernel)) rfl ?_
          refine v_iand C (pc' := 65) dX13_portTold_64 rfl ?_
          refine v_istore2 C (pc' := 66) dX13_portTold_65 (by decide) rfl rfl ?_
          refine v_iload_n C (pc' := 67) dX13_portTold_66 rfl rfl rfl ?_
          refine v_iload C (pc' := 69) dX13_portTold_67 rfl rfl ?_
          refine v_iadd C (pc' := 70) dX13_portTold_69 rfl ?_
          refine v_istore1 C (pc' := 71) dX13_portTold_70 (by decide) rfl rfl ?_
          refine v_iload_n C (pc' := 72) dX13_portTold_71 rfl rfl rfl ?_
          refine v_iconst C (pc' := 73) dX13_portTold_72 (v := (5 : Int32)) (by decide) rfl ?_
          refine v_icmp_ge C (tg := 98) (pc' := 76) dX13_portTold_73 (by decide) rfl (fun q9 => ?_) (fun q9 => ?_)
          · rw [if_pos q9] at Lt1
            refine v_iload_n C (pc' := 99) dX13_portTold_98 rfl rfl rfl ?_
            refine v_aload_n C (pc' := 100) dX13_portTold_99 rfl rfl rfl ?_
            refine v_getI C (pc' := 103) fl_X13_75 rfl (Or.inl rfl) lv0_20 dX13_portTold_100 rfl ?_
            refine v_icmp_eq C (tg := 108) (pc' := 106) dX13_portTold_103 (by decide) rfl (fun q10 => ?_) (fun q10 => ?_)
            · rw [if_pos q10] at Lt1
              refine v_iload_n C (pc' := 109) dX13_portTold_108 rfl rfl rfl ?_
              refine v_iconst C (pc' := 110) dX13_portTold_109 (v := (1 : Int32)) (by decide) rfl ?_
              refine v_iadd C (pc' := 111) dX13_portTold_110 rfl ?_
              refine v_istore1 C (pc' := 112) dX13_portTold_111 (by decide) rfl rfl ?_
              refine v_iinc3 C (pc' := 115) dX13_portTold_112 (v := (a3t1 + (1 : Int32))) (by rw [show Int32.ofInt 1 = (1 : Int32) by decide]) (by decide) rfl rfl ?_
              refine v_goto C (pc' := 9) dX13_portTold_115 (by decide) ?_
              cases Lt1
              exact V.ls (ms := [true, true, true, true, false]) rfl (kst1 _ rfl)
            · rw [if_neg q10] at Lt1
              refine v_iconst C (pc' := 107) dX13_portTold_106 (v := (-1 : Int32)) (by decide) rfl ?_
              cases Lt1
              have z := kxt1 _ rfl
              rw [← z] at E
              simp only [Sum.elim_inl] at E
              cases E
              exact v_reti C hr hlk dX13_portTold_107
          · rw [if_neg q9] at Lt1
            refine v_iload_n C (pc' := 77) dX13_portTold_76 rfl rfl rfl ?_
            refine v_aload_n C (pc' := 78) dX13_portTold_77 rfl rfl rfl ?_
            refine v_getI C (pc' := 81) fl_X13_75 rfl (Or.inl rfl) lv0_20 dX13_portTold_78 rfl ?_
            refine v_icmp_ge C (tg := 106) (pc' := 84) dX13_portTold_81 (by decide) rfl (fun q11 => ?_) (fun q11 => ?_)
            · rw [if_pos q11] at Lt1
              refine v_iconst C (pc' := 107) dX13_portTold_106 (v := (-1 : Int32)) (by decide) rfl ?_
              cases Lt1
              have z := kxt1 _ rfl
              rw [← z] at E
              simp only [Sum.elim_inl] at E
              cases E
              exact v_reti C hr hlk dX13_portTold_107
            · rw [if_neg q11] at Lt1
              refine v_aload_n C (pc' := 85) dX13_portTold_84 rfl rfl rfl ?_
              refine v_getF C (pc' := 88) rfl fl_X13_35 rfl rfl (t2 := 29) rfl (j := 0) rfl u0_20 dX13_portTold_85 rfl ?_
              refine v_iload_n C (pc' := 89) dX13_portTold_88 rfl rfl rfl ?_
              obtain ⟨g12, Lt1⟩ := guardB_some Lt1
              refine v_cald C (pc' := 90) (t := 29) rfl lv0_29 g12 dX13_portTold_89 rfl ?_
              refine v_bipush C (pc' := 92) dX13_portTold_90 (v := (44 : Int32)) (by decide) rfl ?_
              refine v_icmp_eq C (tg := 108) (pc' := 95) dX13_portTold_92 (by decide) rfl (fun q13 => ?_) (fun q13 => ?_)
              · rw [if_pos q13] at Lt1
                refine v_iload_n C (pc' := 109) dX13_portTold_108 rfl rfl rfl ?_
                refine v_iconst C (pc' := 110) dX13_portTold_109 (v := (1 : Int32)) (by decide) rfl ?_
                refine v_iadd C (pc' := 111) dX13_portTold_110 rfl ?_
                refine v_istore1 C (pc' := 112) dX13_portTold_111 (by decide) rfl rfl ?_
                refine v_iinc3 C (pc' := 115) dX13_portTold_112 (v := (a3t1 + (1 : Int32))) (by rw [show Int32.ofInt 1 = (1 : Int32) by decide]) (by decide) rfl rfl ?_
                refine v_goto C (pc' := 9) dX13_portTold_115 (by decide) ?_
                cases Lt1
                exact V.ls (ms := [true, true, true, true, false]) rfl (kst1 _ rfl)
              · rw [if_neg q13] at Lt1
                refine v_goto C (pc' := 106) dX13_portTold_95 (by decide) ?_
                refine v_iconst C (pc' := 107) dX13_portTold_106 (v := (-1 : Int32)) (by decide) rfl ?_
                cases Lt1
                have z := kxt1 _ rfl
                rw [← z] at E
                simp only [Sum.elim_inl] at E
                cases E
                exact v_reti C hr hlk dX13_portTold_107
        · rw [if_neg q7] at Lt1
          refine v_iconst C (pc' := 48) dX13_portTold_47 (v := (-1 : Int32)) (by decide) rfl ?_
          cases Lt1
          have z := kxt1 _ rfl
          rw [← z] at E
          simp only [Sum.elim_inl] at E
          cases E
          exact v_reti C hr hlk dX13_portTold_48

def m_endOfPart_l2  (h : Hp) : Int32 → Option (Int32 ⊕ Int32)
  | a2 =>
    if (gI h (20, 0) 9) ≤ a2 then
      some (.inl a2)
    else
      guardB a2 32 <|
      if (gI h (29, 0) a2.toNatClampNeg) = (47 : Int32) then
        some (.inl a2)
      else
        some (.inr (a2 + (1 : Int32)))
def m_endOfPart (p1 : Int32) (h : Hp) : Option Int32 :=
  (iter (m_endOfPart_l2 h) FU p1).bind fun t4 =>
  some t4
set_option maxHeartbeats 2000000 in
set_option maxRecDepth 20000 in
theorem c_m_endOfPart (l : Launch) (p1 : Int32) (h : Hp) (r : Int32)  (E : m_endOfPart p1 h = some r) : Ctr l yX13_endOfPart cX13_endOfPart 3 (some .int) 0 0 0 0 true [aA 20 (some 0), aI p1] h (some (aI r)) h := by
  rw [m_endOfPart] at E
  refine Ctr.of (ls0 := [some (aA 20 (some 0)), some (aI p1), none]) (by decide +kernel) (Nat.le_of_ble_eq_true rfl) rfl ?_
  intro G p e s m args below meth c C hr hlk hnm
  refine v_iload_n C (pc' := 1) dX13_endOfPart_0 rfl rfl rfl ?_
  refine v_istore2 C (pc' := 2) dX13_endOfPart_1 (by decide) rfl rfl ?_
  obtain ⟨t1, It1, E⟩ := bind_some E
  have Kt1 : V true G p l e { frames := 0, cells := 0, slots := 0, locals := 0 } s m args below meth c 3 (MQ below (QcA true G (some (aI r)) h) args s 0 0 (A_ G)) h 0 0 28 [some (aA 20 (some 0)), some (aI p1), some (aI t1)] [] := by
    refine v_iload_n C (pc' := 29) dX13_endOfPart_28 rfl rfl rfl ?_
    cases E
    exact v_reti C hr hlk dX13_endOfPart_29
  refine iter_V (P := fun st1 : Int32 => V true G p l e { frames := 0, cells := 0, slots := 0, locals := 0 } s m args below meth c 3 (MQ below (QcA true G (some (aI r)) h) args s 0 0 (A_ G)) h 0 0 2 [some (aA 20 (some 0)), some (aI p1), some (aI st1)] []) ?_ _ _ It1
  intro a2t1 ot1 Lt1 kxt1 kst1
  rw [m_endOfPart_l2] at Lt1
  show V true G p l e { frames := 0, cells := 0, slots := 0, locals := 0 } s m args below meth c 3 (MQ below (QcA true G (some (aI r)) h) args s 0 0 (A_ G)) h 0 0 2 [some (aA 20 (some 0)), some (aI p1), some (aI a2t1)] []
  refine v_iload_n C (pc' := 3) dX13_endOfPart_2 rfl rfl rfl ?_
  refine v_aload_n C (pc' := 4) dX13_endOfPart_3 rfl rfl rfl ?_
  refine v_getI C (pc' := 7) fl_X13_75 rfl (Or.inl rfl) lv0_20 dX13_endOfPart_4 rfl ?_
  refine v_icmp_ge C (tg := 28) (pc' := 10) dX13_endOfPart_7 (by decide) rfl (fun q2 => ?_) (fun q2 => ?_)
  · rw [if_pos q2] at Lt1
    cases Lt1
    have z := kxt1 _ rfl
    subst z
    exact Kt1
  · rw [if_neg q2] at Lt1
    refine v_aload_n C (pc' := 11) dX13_endOfPart_10 rfl rfl rfl ?_
    refine v_getF C (pc' := 14) rfl fl_X13_35 rfl rfl (t2 := 29) rfl (j := 0) rfl u0_20 dX13_endOfPart_11 rfl ?_
    refine v_iload_n C (pc' := 15) dX13_endOfPart_14 rfl rfl rfl ?_
    obtain ⟨g3, Lt1⟩ := guardB_some Lt1
    refine v_cald C (pc' := 16) (t := 29) rfl lv0_29 g3 dX13_endOfPart_15 rfl ?_
    refine v_bipush C (pc' := 18) dX13_endOfPart_16 (v := (47 : Int32)) (by decide) rfl ?_
    refine v_icmp_eq C (tg := 28) (pc' := 21) dX13_endOfPart_18 (by decide) rfl (fun q4 => ?_) (fun q4 => ?_)
    · rw [if_pos q4] at Lt1
      cases Lt1
      have z := kxt1 _ rfl
      subst z
      exact Kt1
    · rw [if_neg q4] at Lt1
      refine v_iload_n C (pc' := 22) dX13_endOfPart_21 rfl rfl rfl ?_
      refine v_iconst C (pc' := 23) dX13_endOfPart_22 (v := (1 : Int32)) (by decide) rfl ?_
      refine v_iadd C (pc' := 24) dX13_endOfPart_23 rfl ?_
      refine v_istore2 C (pc' := 25) dX13_endOfPart_24 (by decide) rfl rfl ?_
      refine v_goto C (pc' := 2) dX13_endOfPart_25 (by decide) ?_
      cases Lt1
      exact kst1 _ rfl

def m_isPath_l30  (h : Hp) : Int32 × Int32 → Option ((Int32 × Int32) ⊕ (Int32 × Int32))
  | (a1, a2) =>
    if (gI h (20, 0) 9) ≤ a1 then
      some (.inl (a1, a2))
    else
      if a2 = 0 then
        some (.inl (a1, a2))
      else
        (m_endOfPart a1 h).bind fun y6 =>
        (m_isDots a1 y6 h).bind fun y7 =>
        (if 0 < y7 then
          some (1 : Int32)
        else
          (m_nameAt a1 y6 h).bind fun y10 =>
          if y10 = (0 : Int64) then
            some (0 : Int32)
          else
            some (1 : Int32)).bind fun t9 =>
        some (.inr ((y6 + (1 : Int32)), t9))
def m_isPath  (h : Hp) : Option Int32 :=
  guardB (gI h (20, 0) 11) 32 <|
  (if (gI h (29, 0) (gI h (20, 0) 11).toNatClampNeg) = (47 : Int32) then
    some ((gI h (20, 0) 11) + (1 : Int32))
  else
    some (gI h (20, 0) 11)).bind fun t3 =>
  (iter (m_isPath_l30 h) FU (t3, (1 : Int32))).bind fun t12 =>
  guardZ t12.2 <|
  some t12.2
set_option maxHeartbeats 2000000 in
set_option maxRecDepth 20000 in
theorem c_m_isPath (l : Launch)  (h : Hp) (r : Int32)  (E : m_isPath  h = some r) : Ctr l yX13_isPath cX13_isPath 4 (some .boolean) 2 50 0 0 true [aA 20 (some 0)] h (some (aI r)) h := by
  rw [m_isPath] at E
  refine Ctr.of (ls0 := [some (aA 20 (some 0)), none, none, none]) (by decide +kernel) (Nat.le_of_ble_eq_true rfl) rfl ?_
  intro G p e s m args below meth c C hr hlk hnm
  refine v_aload_n C (pc' := 1) dX13_isPath_0 rfl rfl rfl ?_
  refine v_getF C (pc' := 4) rfl fl_X13_35 rfl rfl (t2 := 29) rfl (j := 0) rfl u0_20 dX13_isPath_1 rfl ?_
  refine v_aload_n C (pc' := 5) dX13_isPath_4 rfl rfl rfl ?_
  refine v_getI C (pc' := 8) fl_X13_78 rfl (Or.inl rfl) lv0_20 dX13_isPath_5 rfl ?_
  obtain ⟨g1, E⟩ := guardB_some E
  refine v_cald C (pc' := 9) (t := 29) rfl lv0_29 g1 dX13_isPath_8 rfl ?_
  refine v_bipush C (pc' := 11) dX13_isPath_9 (v := (47 : Int32)) (by decide) rfl ?_
  obtain ⟨t3, At3, E⟩ := bind_some E
  have Kt3 : V true G p l e { frames := 2, cells := 0, slots := 0, locals := 50 } s m args below meth c 4 (MQ below (QcA true G (some (aI r)) h) args s 0 0 (A_ G)) h 0 0 27 [some (aA 20 (some 0)), none, none, none] [aI t3] := by
    refine v_istore1 C (pc' := 28) dX13_isPath_27 (by decide) rfl rfl ?_
    refine v_iconst C (pc' := 29) dX13_isPath_28 (v := (1 : Int32)) (by decide) rfl ?_
    refine v_istore2 C (pc' := 30) dX13_isPath_29 (by decide) rfl rfl ?_
    obtain ⟨t4, It4, E⟩ := bind_some E
    have Kt4 : V true G p l e { frames := 2, cells := 0, slots := 0, locals := 50 } s m args below meth c 4 (MQ below (QcA true G (some (aI r)) h) args s 0 0 (A_ G)) h 0 0 81 [some (aA 20 (some 0)), some (aI t4.1), some (aI t4.2), none] [] := by
      refine v_iload_n C (pc' := 82) dX13_isPath_81 rfl rfl rfl ?_
      obtain ⟨z5, E⟩ := guardZ_some E
      cases E
      exact v_retz C hr hlk z5 dX13_isPath_82
    refine iter_V (P := fun st4 : Int32 × Int32 => V true G p l e { frames := 2, cells := 0, slots := 0, locals := 50 } s m args below meth c 4 (MQ below (QcA true G (some (aI r)) h) args s 0 0 (A_ G)) h 0 0 30 [some (aA 20 (some 0)), some (aI st4.1), some (aI st4.2), none] []) ?_ _ _ It4
    rintro ⟨a1t4, a2t4⟩ ot4 Lt4 kxt4 kst4
    rw [m_isPath_l30] at Lt4
    show V true G p l e { frames := 2, cells := 0, slots := 0, locals := 50 } s m args below meth c 4 (MQ below (QcA true G (some (aI r)) h) args s 0 0 (A_ G)) h 0 0 30 [some (aA 20 (some 0)), some (aI a1t4), some (aI a2t4), none] []
    refine v_iload_n C (pc' := 31) dX13_isPath_30 rfl rfl rfl ?_
    refine v_aload_n C (pc' := 32) dX13_isPath_31 rfl rfl rfl ?_
    refine v_getI C (pc' := 35) fl_X13_75 rfl (Or.inl rfl) lv0_20 dX13_isPath_32 rfl ?_
    refine v_icmp_ge C (tg := 81) (pc' := 38) dX13_isPath_35 (by decide) rfl (fun q6 => ?_) (fun q6 => ?_)
    · rw [if_pos q6] at Lt4
      cases Lt4
      have z := kxt4 _ rfl
      subst z
      exact Kt4
    · rw [if_neg q6] at Lt4
      refine v_iload_n C (pc' := 39) dX13_isPath_38 rfl rfl rfl ?_
      refine v_if_eq C (tg := 81) (pc' := 42) dX13_isPath_39 (by decide) rfl (fun q7 => ?_) (fun q7 => ?_)
      · rw [if_pos q7] at Lt4
        cases Lt4
        have z := kxt4 _ rfl
        subst z
        exact Kt4
      · rw [if_neg q7] at Lt4
        refine v_aload_n C (pc' := 43) dX13_isPath_42 rfl rfl rfl ?_
        refine v_iload_n C (pc' := 44) dX13_isPath_43 rfl rfl rfl ?_
        obtain ⟨y8, hy8, Lt4⟩ := bind_some Lt4
        refine v_callV C (pc' := 47) (rest := []) (c_m_endOfPart l a1t4 h _ hy8) mv_X13_81 rfl rfl lv0_20 dX13_isPath_44 rfl rfl rfl ⟨Nat.le_of_ble_eq_true rfl, Nat.le_of_ble_eq_true rfl⟩ (Nat.le_of_ble_eq_true rfl) ⟨Nat.le_of_ble_eq_true rfl, Nat.le_of_ble_eq_true rfl⟩ ?_
        refine V.st (st' := [aI y8]) rfl ?_
        refine v_istore3 C (pc' := 48) dX13_isPath_47 (by decide) rfl rfl ?_
        refine v_aload_n C (pc' := 49) dX13_isPath_48 rfl rfl rfl ?_
        refine v_iload_n C (pc' := 50) dX13_isPath_49 rfl rfl rfl ?_
        refine v_iload_n C (pc' := 51) dX13_isPath_50 rfl rfl rfl ?_
        obtain ⟨y9, hy9, Lt4⟩ := bind_some Lt4
        refine v_callV C (pc' := 54) (rest := []) (c_m_isDots l a1t4 y8 h _ hy9) mv_X13_71 rfl rfl lv0_20 dX13_isPath_51 rfl rfl rfl ⟨Nat.le_of_ble_eq_true rfl, Nat.le_of_ble_eq_true rfl⟩ (Nat.le_of_ble_eq_true rfl) ⟨Nat.le_of_ble_eq_true rfl, Nat.le_of_ble_eq_true rfl⟩ ?_
        refine V.st (st' := [aI y9]) rfl ?_
        obtain ⟨t11, At11, Lt4⟩ := bind_some Lt4
        have Kt11 : V true G p l e { frames := 2, cells := 0, slots := 0, locals := 50 } s m args below meth c 4 (MQ below (QcA true G (some (aI r)) h) args s 0 0 (A_ G)) h 0 0 73 [some (aA 20 (some 0)), some (aI a1t4), some (aI a2t4), some (aI y8)] [aI t11] := by
          refine v_istore2 C (pc' := 74) dX13_isPath_73 (by decide) rfl rfl ?_
          refine v_iload_n C (pc' := 75) dX13_isPath_74 rfl rfl rfl ?_
          refine v_iconst C (pc' := 76) dX13_isPath_75 (v := (1 : Int32)) (by decide) rfl ?_
          refine v_iadd C (pc' := 77) dX13_isPath_76 rfl ?_
          refine v_istore1 C (pc' := 78) dX13_isPath_77 (by decide) rfl rfl ?_
          refine v_goto C (pc' := 30) dX13_isPath_78 (by decide) ?_
          cases Lt4
          exact V.ls (ms := [true, true, true, false]) rfl (kst4 _ rfl)
        refine v_if_gt C (tg := 68) (pc' := 57) dX13_isPath_54 (by decide) rfl (fun q10 => ?_) (fun q10 => ?_)
        · rw [if_pos q10] at At11
          refine v_iconst C (pc' := 69) dX13_isPath_68 (v := (1 : Int32)) (by decide) rfl ?_
          refine v_goto C (pc' := 73) dX13_isPath_69 (by decide) ?_
          cases At11
          exact Kt11
        · rw [if_neg q10] at At11
          refine v_aload_n C (pc' := 58) dX13_isPath_57 rfl rfl rfl ?_
          refine v_iload_n C (pc' := 59) dX13_isPath_58 rfl rfl rfl ?_
          refine v_iload_n C (pc' := 60) dX13_isPath_59 rfl rfl rfl ?_
          obtain ⟨y12, hy12, At11⟩ := bind_some At11
          refine v_callV C (pc' := 63) (rest := []) (c_m_nameAt l a1t4 y8 h _ hy12) mv_X13_85 rfl rfl lv0_20 dX13_isPath_60 rfl rfl rfl ⟨Nat.le_of_ble_eq_true rfl, Nat.le_of_ble_eq_true rfl⟩ (Nat.le_of_ble_eq_true rfl) ⟨Nat.le_of_ble_eq_true rfl, Nat.le_of_ble_eq_true rfl⟩ ?_
          refine V.st (st' := [aL y12]) rfl ?_
          refine v_lconst C (pc' := 64) dX13_isPath_63 (v := (0 : Int64)) (by decide) rfl ?_
          refine v_lcmp C (pc' := 65) dX13_isPath_64 rfl ?_
          refine v_if_eq C (tg := 72) (pc' := 68) dX13_isPath_65 (by decide) rfl (fun q13 => ?_) (fun q13 => ?_)
          · rw [lgc_eq] at q13
            rw [if_pos q13] at At11
            refine v_iconst C (pc' := 73) dX13_isPath_72 (v := (0 : Int32)) (by decide) rfl ?_
            cases At11
            exact Kt11
          · rw [lgc_eq] at q13
            rw [if_neg q13] at At11
            refine v_iconst C (pc' := 69) dX13_isPath_68 (v := (1 : Int32)) (by decide) rfl ?_
            refine v_goto C (pc' := 73) dX13_isPath_69 (by decide) ?_
            cases At11
            exact Kt11
  refine v_icmp_ne C (tg := 23) (pc' := 14) dX13_isPath_11 (by decide) rfl (fun q2 => ?_) (fun q2 => ?_)
  · rw [if_neg q2] at At3
    refine v_aload_n C (pc' := 24) dX13_isPath_23 rfl rfl rfl ?_
    refine v_getI C (pc' := 27) fl_X13_78 rfl (Or.inl rfl) lv0_20 dX13_isPath_24 rfl ?_
    cases At3
    exact Kt3
  · rw [if_pos q2] at At3
    refine v_aload_n C (pc' := 15) dX13_isPath_14 rfl rfl rfl ?_
    refine v_getI C (pc' := 18) fl_X13_78 rfl (Or.inl rfl) lv0_20 dX13_isPath_15 rfl ?_
    refine v_iconst C (pc' := 19) dX13_isPath_18 (v := (1 : Int32)) (by decide) rfl ?_
    refine v_iadd C (pc' := 20) dX13_isPath_19 rfl ?_
    refine v_goto C (pc' := 27) dX13_isPath_20 (by decide) ?_
    cases At3
    exact Kt3

def m_argumentFits (p1 : Int32) (h : Hp) : Option Int32 :=
  (if 0 ≤ (gI h (20, 0) 11) then
    some (0 : Int32)
  else
    some (1 : Int32)).bind fun t2 =>
  if p1 = (3 : Int32) then
    guardZ t2 <|
    some t2
  else
    if p1 = (4 : Int32) then
      guardZ t2 <|
      some t2
    else
      if p1 = (5 : Int32) then
        guardZ t2 <|
        some t2
      else
        if p1 = (7 : Int32) then
          guardZ t2 <|
          some t2
        else
          if p1 = (16 : Int32) then
            guardZ t2 <|
            some t2
          else
            if p1 = (18 : Int32) then
              guardZ t2 <|
              some t2
            else
              if t2 = 0 then
                if (3 : Int32) ≤ p1 then
                  if p1 = (15 : Int32) then
                    (m_digitsFrom (gI h (20, 0) 11) h).bind fun y25 =>
                    (if y25 ≤ 0 then
                      some (0 : Int32)
                    else
                      if (4 : Int32) ≤ y25 then
                        some (0 : Int32)
                      else
                        if ((gI h (20, 0) 11) + y25) = (gI h (20, 0) 9) then
                          some (1 : Int32)
                        else
                          some (0 : Int32)).bind fun t27 =>
                    guardZ t27 <|
                    some t27
                  else
                    (if p1 = (14 : Int32) then
                      some (1 : Int32)
                    else
                      if p1 = (17 : Int32) then
                        (m_portTold h).bind fun y22 =>
                        if y22 < 0 then
                          some (0 : Int32)
                        else
                          some (1 : Int32)
                      else
                        (m_isPath h).bind fun y20 =>
                        if y20 = 0 then
                          some (0 : Int32)
                        else
                          some (1 : Int32)).bind fun t18 =>
                    guardZ t18 <|
                    some t18
                else
                  (m_nameAt (gI h (20, 0) 11) (gI h (20, 0) 9) h).bind fun y31 =>
                  (if y31 = (0 : Int64) then
                    some (0 : Int32)
                  else
                    some (1 : Int32)).bind fun t33 =>
                  guardZ t33 <|
                  some t33
              else
                (if p1 = (22 : Int32) then
                  some (1 : Int32)
                else
                  some (0 : Int32)).bind fun t36 =>
                guardZ t36 <|
                some t36
set_option maxHeartbeats 2000000 in
set_option maxRecDepth 20000 in
theorem c_m_argumentFits (l : Launch) (p1 : Int32) (h : Hp) (r : Int32)  (E : m_argumentFits p1 h = some r) : Ctr l yX13_argumentFits cX13_argumentFits 4 (some .boolean) 3 73 0 0 true [aA 20 (some 0), aI p1] h (some (aI r)) h := by
  rw [m_argumentFits] at E
  refine Ctr.of (ls0 := [some (aA 20 (some 0)), some (aI p1), none, none]) (by decide +kernel) (Nat.le_of_ble_eq_true rfl) rfl ?_
  intro G p e s m args below meth c C hr hlk hnm
  refine v_aload_n C (pc' := 1) dX13_argumentFits_0 rfl rfl rfl ?_
  refine v_getI C (pc' := 4) fl_X13_78 rfl (Or.inl rfl) lv0_20 dX13_argumentFits_1 rfl ?_
  obtain ⟨t2, At2, E⟩ := bind_some E
  have Kt2 : V true G p l e { frames := 3, cells := 0, slots := 0, locals := 73 } s m args below meth c 4 (MQ below (QcA true G (some (aI r)) h) args s 0 0 (A_ G)) h 0 0 12 [some (aA 20 (some 0)), some (aI p1), none, none] [aI t2] := by
    refine v_istore2 C (pc' := 13) dX13_argumentFits_12 (by decide) rfl rfl ?_
    refine v_iload_n C (pc' := 14) dX13_argumentFits_13 rfl rfl rfl ?_
    refine v_iconst C (pc' := 15) dX13_argumentFits_14 (v := (3 : Int32)) (by decide) rfl ?_
    refine v_icmp_eq C (tg := 46) (pc' := 18) dX13_argumentFits_15 (by decide) rfl (fun q3 => ?_) (fun q3 => ?_)
    · rw [if_pos q3] at E
      refine v_iload_n C (pc' := 47) dX13_argumentFits_46 rfl rfl rfl ?_
      obtain ⟨z4, E⟩ := guardZ_some E
      cases E
      exact v_retz C hr hlk z4 dX13_argumentFits_47
    · rw [if_neg q3] at E
      refine v_iload_n C (pc' := 19) dX13_argumentFits_18 rfl rfl rfl ?_
      refine v_iconst C (pc' := 20) dX13_argumentFits_19 (v := (4 : Int32)) (by decide) rfl ?_
      refine v_icmp_eq C (tg := 46) (pc' := 23) dX13_argumentFits_20 (by decide) rfl (fun q5 => ?_) (fun q5 => ?_)
      · rw [if_pos q5] at E
        refine v_iload_n C (pc' := 47) dX13_argumentFits_46 rfl rfl rfl ?_
        obtain ⟨z6, E⟩ := guardZ_some E
        cases E
        exact v_retz C hr hlk z6 dX13_argumentFits_47
      · rw [if_neg q5] at E
        refine v_iload_n C (pc' := 24) dX13_argumentFits_23 rfl rfl rfl ?_
        refine v_iconst C (pc' := 25) dX13_argumentFits_24 (v := (5 : Int32)) (by decide) rfl ?_
        refine v_icmp_eq C (tg := 46) (pc' := 28) dX13_argumentFits_25 (by decide) rfl (fun q7 => ?_) (fun q7 => ?_)
        · rw [if_pos q7] at E
          refine v_iload_n C (pc' := 47) dX13_argumentFits_46 rfl rfl rfl ?_
          obtain ⟨z8, E⟩ := guardZ_some E
          cases E
          exact v_retz C hr hlk z8 dX13_argumentFits_47
        · rw [if_neg q7] at E
          refine v_iload_n C (pc' := 29) dX13_argumentFits_28 rfl rfl rfl ?_
          refine v_bipush C (pc' := 31) dX13_argumentFits_29 (v := (7 : Int32)) (by decide) rfl ?_
          refine v_icmp_eq C (tg := 46) (pc' := 34) dX13_argumentFits_31 (by decide) rfl (fun q9 => ?_) (fun q9 => ?_)
          · rw [if_pos q9] at E
            refine v_iload_n C (pc' := 47) dX13_argumentFits_46 rfl rfl rfl ?_
            obtain ⟨z10, E⟩ := guardZ_some E
            cases E
            exact v_retz C hr hlk z10 dX13_argumentFits_47
          · rw [if_neg q9] at E
            refine v_iload_n C (pc' := 35) dX13_argumentFits_34 rfl rfl rfl ?_
            refine v_bipush C (pc' := 37) dX13_argumentFits_35 (v := (16 : Int32)) (by decide) rfl ?_
            refine v_icmp_eq C (tg := 46) (pc' := 40) dX13_argumentFits_37 (by decide) rfl (fun q11 => ?_) (fun q11 => ?_)
            · rw [if_pos q11] at E
              refine v_iload_n C (pc' := 47) dX13_argumentFits_46 rfl rfl rfl ?_
              obtain ⟨z12, E⟩ := guardZ_some E
              cases E
              exact v_retz C hr hlk z12 dX13_argumentFits_47
            · rw [if_neg q11] at E
              refine v_iload_n C (pc' := 41) dX13_argumentFits_40 rfl rfl rfl ?_
              refine v_bipush C (pc' := 43) dX13_argumentFits_41 (v := (18 : Int32)) (by decide) rfl ?_
              refine v_icmp_ne C (tg := 48) (pc' := 46) dX13_argumentFits_43 (by decide) rfl (fun q13 => ?_) (fun q13 => ?_)
              · rw [if_neg q13] at E
                refine v_iload_n C (pc' := 49) dX13_argumentFits_48 rfl rfl rfl ?_
                refine v_if_eq C (tg := 64) (pc' := 52) dX13_argumentFits_49 (by decide) rfl (fun q14 => ?_) (fun q14 => ?_)
                · rw [if_pos q14] at E
                  refine v_iload_n C (pc' := 65) dX13_argumentFits_64 rfl rfl rfl ?_
                  refine v_iconst C (pc' := 66) dX13_argumentFits_65 (v := (3 : Int32)) (by decide) rfl ?_
                  refine v_icmp_ge C (tg := 92) (pc' := 69) dX13_argumentFits_66 (by decide) rfl (fun q15 => ?_) (fun q15 => ?_)
                  · rw [if_pos q15] at E
                    refine v_iload_n C (pc' := 93) dX13_argumentFits_92 rfl rfl rfl ?_
                    refine v_bipush C (pc' := 95) dX13_argumentFits_93 (v := (15 : Int32)) (by decide) rfl ?_
                    refine v_icmp_ne C (tg := 135) (pc' := 98) dX13_argumentFits_95 (by decide) rfl (fun q16 => ?_) (fun q16 => ?_)
                    · rw [if_neg q16] at E
                      refine v_iload_n C (pc' := 136) dX13_argumentFits_135 rfl rfl rfl ?_
                      refine v_bipush C (pc' := 138) dX13_argumentFits_136 (v := (14 : Int32)) (by decide) rfl ?_
                      obtain ⟨t18, At18, E⟩ := bind_some E
                      have Kt18 : V true G p l e { frames := 3, cells := 0, slots := 0, locals := 73 } s m args below meth c 4 (MQ below (QcA true G (some (aI r)) h) args s 0 0 (A_ G)) h 0 0 169 [some (aA 20 (some 0)), some (aI p1), some (aI t2), none] [aI t18] := by
                        obtain ⟨z24, E⟩ := guardZ_some E
                        cases E
                        exact v_retz C hr hlk z24 dX13_argumentFits_169
                      refine v_icmp_eq C (tg := 164) (pc' := 141) dX13_argumentFits_138 (by decide) rfl (fun q17 => ?_) (fun q17 => ?_)
                      · rw [if_pos q17] at At18
                        refine v_iconst C (pc' := 165) dX13_argumentFits_164 (v := (1 : Int32)) (by decide) rfl ?_
                        refine v_goto C (pc' := 169) dX13_argumentFits_165 (by decide) ?_
                        cases At18
                        exact Kt18
                      · rw [if_neg q17] at At18
                        refine v_iload_n C (pc' := 142) dX13_argumentFits_141 rfl rfl rfl ?_
                        refine v_bipush C (pc' := 144) dX13_argumentFits_142 (v := (17 : Int32)) (by decide) rfl ?_
                        refine v_icmp_ne C (tg := 157) (pc' := 147) dX13_argumentFits_144 (by decide) rfl (fun q19 => ?_) (fun q19 => ?_)
                        · rw [if_neg q19] at At18
                          refine v_aload_n C (pc' := 158) dX13_argumentFits_157 rfl rfl rfl ?_
                          obtain ⟨y20, hy20, At18⟩ := bind_some At18
                          refine v_callV C (pc' := 161) (rest := []) (c_m_isPath l h _ hy20) mv_X13_174 rfl rfl lv0_20 dX13_argumentFits_158 rfl rfl rfl ⟨Nat.le_of_ble_eq_true rfl, Nat.le_of_ble_eq_true rfl⟩ (Nat.le_of_ble_eq_true rfl) ⟨Nat.le_of_ble_eq_true rfl, Nat.le_of_ble_eq_true rfl⟩ ?_
                          refine V.st (st' := [aI y20]) rfl ?_
                          refine v_if_eq C (tg := 168) (pc' := 164) dX13_argumentFits_161 (by decide) rfl (fun q21 => ?_) (fun q21 => ?_)
                          · rw [if_pos q21] at At18
                            refine v_iconst C (pc' := 169) dX13_argumentFits_168 (v := (0 : Int32)) (by decide) rfl ?_
                            cases At18
                            exact Kt18
                          · rw [if_neg q21] at At18
                            refine v_iconst C (pc' := 165) dX13_argumentFits_164 (v := (1 : Int32)) (by decide) rfl ?_
                            refine v_goto C (pc' := 169) dX13_argumentFits_165 (by decide) ?_
                            cases At18
                            exact Kt18
                        · rw [if_pos q19] at At18
                          refine v_aload_n C (pc' := 148) dX13_argumentFits_147 rfl rfl rfl ?_
                          obtain ⟨y22, hy22, At18⟩ := bind_some At18
                          refine v_callV C (pc' := 151) (rest := []) (c_m_portTold l h _ hy22) mv_X13_171 rfl rfl lv0_20 dX13_argumentFits_148 rfl rfl rfl ⟨Nat.le_of_ble_eq_true rfl, Nat.le_of_ble_eq_true rfl⟩ (Nat.le_of_ble_eq_true rfl) ⟨Nat.le_of_ble_eq_true rfl, Nat.le_of_ble_eq_true rfl⟩ ?_
                          refine V.st (st' := [aI y22]) rfl ?_
                          refine v_if_lt C (tg := 168) (pc' := 154) dX13_argumentFits_151 (by decide) rfl (fun q23 => ?_) (fun q23 => ?_)
                          · rw [if_pos q23] at At18
                            refine v_iconst C (pc' := 169) dX13_argumentFits_168 (v := (0 : Int32)) (by decide) rfl ?_
                            cases At18
                            exact Kt18
                          · rw [if_neg q23] at At18
                            refine v_goto C (pc' := 164) dX13_argumentFits_154 (by decide) ?_
                            refine v_iconst C (pc' := 165) dX13_argumentFits_164 (v := (1 : Int32)) (by decide) rfl ?_
                            refine v_goto C (pc' := 169) dX13_argumentFits_165 (by decide) ?_
                            cases At18
                            exact Kt18
                    · rw [if_pos q16] at E
                      refine v_aload_n C (pc' := 99) dX13_argumentFits_98 rfl rfl rfl ?_
                      refine v_aload_n C (pc' := 100) dX13_argumentFits_99 rfl rfl rfl ?_
                      refine v_getI C (pc' := 103) fl_X13_78 rfl (Or.inl rfl) lv0_20 dX13_argumentFits_100 rfl ?_
                      obtain ⟨y25, hy25, E⟩ := bind_some E
                      refine v_callV C (pc' := 106) (rest := []) (c_m_digitsFrom l (gI h (20, 0) 11) h _ hy25) mv_X13_164 rfl rfl lv0_20 dX13_argumentFits_103 rfl rfl rfl ⟨Nat.le_of_ble_eq_true rfl, Nat.le_of_ble_eq_true rfl⟩ (Nat.le_of_ble_eq_true rfl) ⟨Nat.le_of_ble_eq_true rfl, Nat.le_of_ble_eq_true rfl⟩ ?_
                      refine V.st (st' := [aI y25]) rfl ?_
                      refine v_istore3 C (pc' := 107) dX13_argumentFits_106 (by decide) rfl rfl ?_
                      refine v_iload_n C (pc' := 108) dX13_argumentFits_107 rfl rfl rfl ?_
                      obtain ⟨t27, At27, E⟩ := bind_some E
                      have Kt27 : V true G p l e { frames := 3, cells := 0, slots := 0, locals := 73 } s m args below meth c 4 (MQ below (QcA true G (some (aI r)) h) args s 0 0 (A_ G)) h 0 0 134 [some (aA 20 (some 0)), some (aI p1), some (aI t2), some (aI y25)] [aI t27] := by
                        obtain ⟨z30, E⟩ := guardZ_some E
                        cases E
                        exact v_retz C hr hlk z30 dX13_argumentFits_134
                      refine v_if_le C (tg := 133) (pc' := 111) dX13_argumentFits_108 (by decide) rfl (fun q26 => ?_) (fun q26 => ?_)
                      · rw [if_pos q26] at At27
                        refine v_iconst C (pc' := 134) dX13_argumentFits_133 (v := (0 : Int32)) (by decide) rfl ?_
                        cases At27
                        exact Kt27
                      · rw [if_neg q26] at At27
                        refine v_iload_n C (pc' := 112) dX13_argumentFits_111 rfl rfl rfl ?_
                        refine v_iconst C (pc' := 113) dX13_argumentFits_112 (v := (4 : Int32)) (by decide) rfl ?_
                        refine v_icmp_ge C (tg := 133) (pc' := 116) dX13_argumentFits_113 (by decide) rfl (fun q28 => ?_) (fun q28 => ?_)
                        · rw [if_pos q28] at At27
                          refine v_iconst C (pc' := 134) dX13_argumentFits_133 (v := (0 : Int32)) (by decide) rfl ?_
                          cases At27
                          exact Kt27
                        · rw [if_neg q28] at At27
                          refine v_aload_n C (pc' := 117) dX13_argumentFits_116 rfl rfl rfl ?_
                          refine v_getI C (pc' := 120) fl_X13_78 rfl (Or.inl rfl) lv0_20 dX13_argumentFits_117 rfl ?_
                          refine v_iload_n C (pc' := 121) dX13_argumentFits_120 rfl rfl rfl ?_
                          refine v_iadd C (pc' := 122) dX13_argumentFits_121 rfl ?_
                          refine v_aload_n C (pc' := 123) dX13_argumentFits_122 rfl rfl rfl ?_
                          refine v_getI C (pc' := 126) fl_X13_75 rfl (Or.inl rfl) lv0_20 dX13_argumentFits_123 rfl ?_
                          refine v_icmp_ne C (tg := 133) (pc' := 129) dX13_argumentFits_126 (by decide) rfl (fun q29 => ?_) (fun q29 => ?_)
                          · rw [if_neg q29] at At27
                            refine v_iconst C (pc' := 134) dX13_argumentFits_133 (v := (0 : Int32)) (by decide) rfl ?_
                            cases At27
                            exact Kt27
                          · rw [if_pos q29] at At27
                            refine v_iconst C (pc' := 130) dX13_argumentFits_129 (v := (1 : Int32)) (by decide) rfl ?_
                            refine v_goto C (pc' := 134) dX13_argumentFits_130 (by decide) ?_
                            cases At27
                            exact Kt27
                  · rw [if_neg q15] at E
                    refine v_aload_n C (pc' := 70) dX13_argumentFits_69 rfl rfl rfl ?_
                    refine v_aload_n C (pc' := 71) dX13_argumentFits_70 rfl rfl rfl ?_
                    refine v_getI C (pc' := 74) fl_X13_78 rfl (Or.inl rfl) lv0_20 dX13_argumentFits_71 rfl ?_
                    refine v_aload_n C (pc' := 75) dX13_argumentFits_74 rfl rfl rfl ?_
                    refine v_getI C (pc' := 78) fl_X13_75 rfl (Or.inl rfl) lv0_20 dX13_argumentFits_75 rfl ?_
                    obtain ⟨y31, hy31, E⟩ := bind_some E
                    refine v_callV C (pc' := 81) (rest := []) (c_m_nameAt l (gI h (20, 0) 11) (gI h (20, 0) 9) h _ hy31) mv_X13_85 rfl rfl lv0_20 dX13_argumentFits_78 rfl rfl rfl ⟨Nat.le_of_ble_eq_true rfl, Nat.le_of_ble_eq_true rfl⟩ (Nat.le_of_ble_eq_true rfl) ⟨Nat.le_of_ble_eq_true rfl, Nat.le_of_ble_eq_true rfl⟩ ?_
                    refine V.st (st' := [aL y31]) rfl ?_
                    refine v_lconst C (pc' := 82) dX13_argumentFits_81 (v := (0 : Int64)) (by decide) rfl ?_
                    refine v_lcmp C (pc' := 83) dX13_argumentFits_82 rfl ?_
                    obtain ⟨t33, At33, E⟩ := bind_some E
                    have Kt33 : V true G p l e { frames := 3, cells := 0, slots := 0, locals := 73 } s m args below meth c 4 (MQ below (QcA true G (some (aI r)) h) args s 0 0 (A_ G)) h 0 0 91 [some (aA 20 (some 0)), some (aI p1), some (aI t2), none] [aI t33] := by
                      obtain ⟨z34, E⟩ := guardZ_some E
                      cases E
                      exact v_retz C hr hlk z34 dX13_argumentFits_91
                    refine v_if_eq C (tg := 90) (pc' := 86) dX13_argumentFits_83 (by decide) rfl (fun q32 => ?_) (fun q32 => ?_)
                    · rw [lgc_eq] at q32
                      rw [if_pos q32] at At33
                      refine v_iconst C (pc' := 91) dX13_argumentFits_90 (v := (0 : Int32)) (by decide) rfl ?_
                      cases At33
                      exact Kt33
                    · rw [lgc_eq] at q32
                      rw [if_neg q32] at At33
                      refine v_iconst C (pc' := 87) dX13_argumentFits_86 (v := (1 : Int32)) (by decide) rfl ?_
                      refine v_goto C (pc' := 91) dX13_argumentFits_87 (by decide) ?_
                      cases At33
                      exact Kt33
                · rw [if_neg q14] at E
                  refine v_iload_n C (pc' := 53) dX13_argumentFits_52 rfl rfl rfl ?_
                  refine v_bipush C (pc' := 55) dX13_argumentFits_53 (v := (22 : Int32)) (by decide) rfl ?_
                  obtain ⟨t36, At36, E⟩ := bind_some E
                  have Kt36 : V true G p l e { frames := 3, cells := 0, slots := 0, locals := 73 } s m args below meth c 4 (MQ below (QcA true G (some (aI r)) h) args s 0 0 (A_ G)) h 0 0 63 [some (aA 20 (some 0)), some (aI p1), some (aI t2), none] [aI t36] := by
                    obtain ⟨z37, E⟩ := guardZ_some E
                    cases E
                    exact v_retz C hr hlk z37 dX13_argumentFits_63
                  refine v_icmp_ne C (tg := 62) (pc' := 58) dX13_argumentFits_55 (by decide) rfl (fun q35 => ?_) (fun q35 => ?_)
                  · rw [if_neg q35] at At36
                    refine v_iconst C (pc' := 63) dX13_argumentFits_62 (v := (0 : Int32)) (by decide) rfl ?_
                    cases At36
                    exact Kt36
                  · rw [if_pos q35] at At36
                    refine v_iconst C (pc' := 59) dX13_argumentFits_58 (v := (1 : Int32)) (by decide) rfl ?_
                    refine v_goto C (pc' := 63) dX13_argumentFits_59 (by decide) ?_
                    cases At36
                    exact Kt36
              · rw [if_pos q13] at E
                refine v_iload_n C (pc' := 47) dX13_argumentFits_46 rfl rfl rfl ?_
                obtain ⟨z38, E⟩ := guardZ_some E
                cases E
                exact v_retz C hr hlk z38 dX13_argumentFits_47
  refine v_if_ge C (tg := 11) (pc' := 7) dX13_argumentFits_4 (by decide) rfl (fun q1 => ?_) (fun q1 => ?_)
  · rw [if_pos q1] at At2
    refine v_iconst C (pc' := 12) dX13_argumentFits_11 (v := (0 : Int32)) (by decide) rfl ?_
    cases At2
    exact Kt2
  · rw [if_neg q1] at At2
    refine v_iconst C (pc' := 8) dX13_argumentFits_7 (v := (1 : Int32)) (by decide) rfl ?_
    refine v_goto C (pc' := 12) dX13_argumentFits_8 (by decide) ?_
    cases At2
    exact Kt2

def m_bytes_l4  (h : Hp) : Int32 × Int32 → Option ((Int32 × Int32) ⊕ (Int32 × Int32))
  | (a1, a2) =>
    if (24 : Int32) ≤ a2 then
      some (.inl (a1, a2))
    else
      guardB a2 24 <|
      (if (gI h (21, 0) a2.toNatClampNeg) = (2 : Int32) then
        guardB a2 24 <|
        some (a1 + (gI h (24, 0) a2.toNatClampNeg))
      else
        some a1).bind fun t4 =>
      some (.inr (t4, (a2 + (1 : Int32))))
def m_bytes  (h : Hp) : Option Int32 :=
  (iter (m_bytes_l4 h) FU ((0 : Int32), (0 : Int32))).bind fun t6 =>
  some t6.1
set_option maxHeartbeats 2000000 in
set_option maxRecDepth 20000 in
theorem c_m_bytes (l : Launch)  (h : Hp) (r : Int32)  (E : m_bytes  h = some r) : Ctr l yX13_bytes cX13_bytes 3 (some .int) 0 0 0 0 true [aA 20 (some 0)] h (some (aI r)) h := by
  rw [m_bytes] at E
  refine Ctr.of (ls0 := [some (aA 20 (some 0)), none, none]) (by decide +kernel) (Nat.le_of_ble_eq_true rfl) rfl ?_
  intro G p e s m args below meth c C hr hlk hnm
  refine v_iconst C (pc' := 1) dX13_bytes_0 (v := (0 : Int32)) (by decide) rfl ?_
  refine v_istore1 C (pc' := 2) dX13_bytes_1 (by decide) rfl rfl ?_
  refine v_iconst C (pc' := 3) dX13_bytes_2 (v := (0 : Int32)) (by decide) rfl ?_
  refine v_istore2 C (pc' := 4) dX13_bytes_3 (by decide) rfl rfl ?_
  obtain ⟨t1, It1, E⟩ := bind_some E
  have Kt1 : V true G p l e { frames := 0, cells := 0, slots := 0, locals := 0 } s m args below meth c 3 (MQ below (QcA true G (some (aI r)) h) args s 0 0 (A_ G)) h 0 0 39 [some (aA 20 (some 0)), some (aI t1.1), some (aI t1.2)] [] := by
    refine v_iload_n C (pc' := 40) dX13_bytes_39 rfl rfl rfl ?_
    cases E
    exact v_reti C hr hlk dX13_bytes_40
  refine iter_V (P := fun st1 : Int32 × Int32 => V true G p l e { frames := 0, cells := 0, slots := 0, locals := 0 } s m args below meth c 3 (MQ below (QcA true G (some (aI r)) h) args s 0 0 (A_ G)) h 0 0 4 [some (aA 20 (some 0)), some (aI st1.1), some (aI st1.2)] []) ?_ _ _ It1
  rintro ⟨a1t1, a2t1⟩ ot1 Lt1 kxt1 kst1
  rw [m_bytes_l4] at Lt1
  show V true G p l e { frames := 0, cells := 0, slots := 0, locals := 0 } s m args below meth c 3 (MQ below (QcA true G (some (aI r)) h) args s 0 0 (A_ G)) h 0 0 4 [some (aA 20 (some 0)), some (aI a1t1), some (aI a2t1)] []
  refine v_iload_n C (pc' := 5) dX13_bytes_4 rfl rfl rfl ?_
  refine v_bipush C (pc' := 7) dX13_bytes_5 (v := (24 : Int32)) (by decide) rfl ?_
  refine v_icmp_ge C (tg := 39) (pc' := 10) dX13_bytes_7 (by decide) rfl (fun q2 => ?_) (fun q2 => ?_)
  · rw [if_pos q2] at Lt1
    cases Lt1
    have z := kxt1 _ rfl
    subst z
    exact Kt1
  · rw [if_neg q2] at Lt1
    refine v_aload_n C (pc' := 11) dX13_bytes_10 rfl rfl rfl ?_
    refine v_getF C (pc' := 14) rfl fl_X13_7 rfl rfl (t2 := 21) rfl (j := 0) rfl u0_20 dX13_bytes_11 rfl ?_
    refine v_iload_n C (pc' := 15) dX13_bytes_14 rfl rfl rfl ?_
    obtain ⟨g3, Lt1⟩ := guardB_some Lt1
    refine v_iald C (pc' := 16) (t := 21) rfl lv0_21 g3 dX13_bytes_15 rfl ?_
    refine v_iconst C (pc' := 17) dX13_bytes_16 (v := (2 : Int32)) (by decide) rfl ?_
    obtain ⟨t5, At5, Lt1⟩ := bind_some Lt1
    have Kt5 : V true G p l e { frames := 0, cells := 0, slots := 0, locals := 0 } s m args below meth c 3 (MQ below (QcA true G (some (aI r)) h) args s 0 0 (A_ G)) h 0 0 32 [some (aA 20 (some 0)), some (aI a1t1), some (aI a2t1)] [aI t5] := by
      refine v_istore1 C (pc' := 33) dX13_bytes_32 (by decide) rfl rfl ?_
      refine v_iinc2 C (pc' := 36) dX13_bytes_33 (v := (a2t1 + (1 : Int32))) (by rw [show Int32.ofInt 1 = (1 : Int32) by decide]) (by decide) rfl rfl ?_
      refine v_goto C (pc' := 4) dX13_bytes_36 (by decide) ?_
      cases Lt1
      exact kst1 _ rfl
    refine v_icmp_ne C (tg := 31) (pc' := 20) dX13_bytes_17 (by decide) rfl (fun q4 => ?_) (fun q4 => ?_)
    · rw [if_neg q4] at At5
      refine v_iload_n C (pc' := 32) dX13_bytes_31 rfl rfl rfl ?_
      cases At5
      exact Kt5
    · rw [if_pos q4] at At5
      refine v_iload_n C (pc' := 21) dX13_bytes_20 rfl rfl rfl ?_
      refine v_aload_n C (pc' := 22) dX13_bytes_21 rfl rfl rfl ?_
      refine v_getF C (pc' := 25) rfl fl_X13_20 rfl rfl (t2 := 24) rfl (j := 0) rfl u0_20 dX13_bytes_22 rfl ?_
      refine v_iload_n C (pc' := 26) dX13_bytes_25 rfl rfl rfl ?_
      obtain ⟨g6, At5⟩ := guardB_some At5
      refine v_iald C (pc' := 27) (t := 24) rfl lv0_24 g6 dX13_bytes_26 rfl ?_
      refine v_iadd C (pc' := 28) dX13_bytes_27 rfl ?_
      refine v_goto C (pc' := 32) dX13_bytes_28 (by decide) ?_
      cases At5
      exact Kt5

def m_write (p1 : Int32) (h : Hp) : Option Hp :=
  guardB (gI h (20, 0) 14) 200 <|
  some (sI (sI h (30, 0) (gI h (20, 0) 14).toNatClampNeg (vp_nar .char (p1.toUInt32 % 65536).toInt32)) (20, 0) 14 ((gI (sI h (30, 0) (gI h (20, 0) 14).toNatClampNeg (vp_nar .char (p1.toUInt32 % 65536).toInt32)) (20, 0) 14) + (1 : Int32)))
set_option maxHeartbeats 2000000 in
set_option maxRecDepth 20000 in
theorem c_m_write (l : Launch) (p1 : Int32) (h : Hp) (h' : Hp)  (E : m_write p1 h = some h') : Ctr l yX13_write cX13_write 2 none 0 0 0 0 true [aA 20 (some 0), aI p1] h none h' := by
  rw [m_write] at E
  refine Ctr.of (ls0 := [some (aA 20 (some 0)), some (aI p1)]) (by decide +kernel) (Nat.le_of_ble_eq_true rfl) rfl ?_
  intro G p e s m args below meth c C hr hlk hnm
  refine v_aload_n C (pc' := 1) dX13_write_0 rfl rfl rfl ?_
  refine v_getF C (pc' := 4) rfl fl_X13_39 rfl rfl (t2 := 30) rfl (j := 0) rfl u0_20 dX13_write_1 rfl ?_
  refine v_aload_n C (pc' := 5) dX13_write_4 rfl rfl rfl ?_
  refine v_getI C (pc' := 8) fl_X13_134 rfl (Or.inl rfl) lv0_20 dX13_write_5 rfl ?_
  refine v_iload_n C (pc' := 9) dX13_write_8 rfl rfl rfl ?_
  refine v_i2c C (pc' := 10) dX13_write_9 rfl ?_
  obtain ⟨g1, E⟩ := guardB_some E
  refine v_cast C (pc' := 11) (t := 30) rfl lv0_30 g1 dX13_write_10 rfl ?_
  refine v_aload_n C (pc' := 12) dX13_write_11 rfl rfl rfl ?_
  refine v_aload_n C (pc' := 13) dX13_write_12 rfl rfl rfl ?_
  refine v_getI C (pc' := 16) fl_X13_134 rfl (Or.inl rfl) lv0_20 dX13_write_13 rfl ?_
  refine v_iconst C (pc' := 17) dX13_write_16 (v := (1 : Int32)) (by decide) rfl ?_
  refine v_iadd C (pc' := 18) dX13_write_17 rfl ?_
  refine v_putI C (pc' := 21) fp_X13_134 rfl rfl lv0_20 dX13_write_18 rfl ?_
  cases E
  exact v_retv C hr hlk dX13_write_21

def m_writeWay_l31 (v1 : Int32) (v2 : Int32) (h : Hp) : Int32 → Option (Int32 ⊕ Int32)
  | a3 =>
    guardB a3 24 <|
    if (gI h (22, 0) a3.toNatClampNeg) = v2 then
      some (.inl a3)
    else
      guardB a3 24 <|
      some (.inr (gI h (22, 0) a3.toNatClampNeg))
def m_writeWay_l60 (v1 : Int32) (v3 : Int32) : Int32 × Hp → Option ((Int32 × Hp) ⊕ (Int32 × Hp))
  | (a4, h) =>
    if a4 < 0 then
      some (.inl (a4, h))
    else
      guardB v3 24 <|
      (if (((gL h (23, 0) v3.toNatClampNeg) >>> (((8 : Int32) * a4).toInt64 &&& 63)) &&& (255 : Int64)) = (0 : Int64) then
        some h
      else
        guardB v3 24 <|
        (m_write (((gL h (23, 0) v3.toNatClampNeg) >>> (((8 : Int32) * a4).toInt64 &&& 63)) &&& (255 : Int64)).toInt32 h).bind fun y15 =>
        some y15).bind fun t13 =>
      some (.inr ((a4 + (-1 : Int32)), t13))
def m_writeWay_l24 (v1 : Int32) : Int32 × Hp → Option ((Int32 × Hp) ⊕ (Int32 × Hp))
  | (a2, h) =>
    if a2 = v1 then
      some (.inl (a2, h))
    else
      (iter (m_writeWay_l31 v1 a2 h) FU v1).bind fun t8 =>
      (m_write (47 : Int32) h).bind fun y9 =>
      (iter (m_writeWay_l60 v1 t8) FU ((5 : Int32), y9)).bind fun t16 =>
      some (.inr (t8, t16.2))
def m_writeWay (p1 : Int32) (h : Hp) : Option Hp :=
  (if p1 = (gI (sI h (20, 0) 14 (0 : Int32)) (20, 0) 16) then
    (m_write (47 : Int32) (sI h (20, 0) 14 (0 : Int32))).bind fun y3 =>
    some y3
  else
    some (sI h (20, 0) 14 (0 : Int32))).bind fun t2 =>
  (iter (m_writeWay_l24 p1) FU ((gI (sI h (20, 0) 14 (0 : Int32)) (20, 0) 16), t2)).bind fun t17 =>
  some t17.2
set_option maxHeartbeats 2000000 in
set_option maxRecDepth 20000 in
theorem c_m_writeWay (l : Launch) (p1 : Int32) (h : Hp) (h' : Hp)  (E : m_writeWay p1 h = some h') : Ctr l yX13_writeWay cX13_writeWay 5 none 1 21 0 0 true [aA 20 (some 0), aI p1] h none h' := by
  rw [m_writeWay] at E
  refine Ctr.of (ls0 := [some (aA 20 (some 0)), some (aI p1), none, none, none]) (by decide +kernel) (Nat.le_of_ble_eq_true rfl) rfl ?_
  intro G p e s m args below meth c C hr hlk hnm
  refine v_aload_n C (pc' := 1) dX13_writeWay_0 rfl rfl rfl ?_
  refine v_iconst C (pc' := 2) dX13_writeWay_1 (v := (0 : Int32)) (by decide) rfl ?_
  refine v_putI C (pc' := 5) fp_X13_134 rfl rfl lv0_20 dX13_writeWay_2 rfl ?_
  refine v_aload_n C (pc' := 6) dX13_writeWay_5 rfl rfl rfl ?_
  refine v_getI C (pc' := 9) fl_X13_42 rfl (Or.inl rfl) lv0_20 dX13_writeWay_6 rfl ?_
  refine v_istore2 C (pc' := 10) dX13_writeWay_9 (by decide) rfl rfl ?_
  refine v_iload_n C (pc' := 11) dX13_writeWay_10 rfl rfl rfl ?_
  refine v_aload_n C (pc' := 12) dX13_writeWay_11 rfl rfl rfl ?_
  refine v_getI C (pc' := 15) fl_X13_42 rfl (Or.inl rfl) lv0_20 dX13_writeWay_12 rfl ?_
  obtain ⟨t2, At2, E⟩ := bind_some E
  have Kt2 : V true G p l e { frames := 1, cells := 0, slots := 0, locals := 21 } s m args below meth c 5 (MQ below (QcA true G none h') args s 0 0 (A_ G)) t2 0 0 24 [some (aA 20 (some 0)), some (aI p1), some (aI (gI (sI h (20, 0) 14 (0 : Int32)) (20, 0) 16)), none, none] [] := by
    obtain ⟨t4, It4, E⟩ := bind_some E
    have Kt4 : V true G p l e { frames := 1, cells := 0, slots := 0, locals := 21 } s m args below meth c 5 (MQ below (QcA true G none h') args s 0 0 (A_ G)) t4.2 0 0 118 [some (aA 20 (some 0)), some (aI p1), some (aI t4.1), none, none] [] := by
      cases E
      exact v_retv C hr hlk dX13_writeWay_118
    refine iter_V (P := fun st4 : Int32 × Hp => V true G p l e { frames := 1, cells := 0, slots := 0, locals := 21 } s m args below meth c 5 (MQ below (QcA true G none h') args s 0 0 (A_ G)) st4.2 0 0 24 [some (aA 20 (some 0)), some (aI p1), some (aI st4.1), none, none] []) ?_ _ _ It4
    rintro ⟨a2t4, ht4⟩ ot4 Lt4 kxt4 kst4
    rw [m_writeWay_l24] at Lt4
    show V true G p l e { frames := 1, cells := 0, slots := 0, locals := 21 } s m args below meth c 5 (MQ below (QcA true G none h') args s 0 0 (A_ G)) ht4 0 0 24 [some (aA 20 (some 0)), some (aI p1), some (aI a2t4), none, none] []
    refine v_iload_n C (pc' := 25) dX13_writeWay_24 rfl rfl rfl ?_
    refine v_iload_n C (pc' := 26) dX13_writeWay_25 rfl rfl rfl ?_
    refine v_icmp_eq C (tg := 118) (pc' := 29) dX13_writeWay_26 (by decide) rfl (fun q5 => ?_) (fun q5 => ?_)
    · rw [if_pos q5] at Lt4
      cases Lt4
      have z := kxt4 _ rfl
      subst z
      exact Kt4
    · rw [if_neg q5] at Lt4
      refine v_iload_n C (pc' := 30) dX13_writeWay_29 rfl rfl rfl ?_
      refine v_istore3 C (pc' := 31) dX13_writeWay_30 (by decide) rfl rfl ?_
      obtain ⟨t6, It6, Lt4⟩ := bind_some Lt4
      have Kt6 : V true G p l e { frames := 1, cells := 0, slots := 0, locals := 21 } s m args below meth c 5 (MQ below (QcA true G none h') args s 0 0 (A_ G)) ht4 0 0 51 [some (aA 20 (some 0)), some (aI p1), some (aI a2t4), some (aI t6), none] [] := by
        refine v_aload_n C (pc' := 52) dX13_writeWay_51 rfl rfl rfl ?_
        refine v_bipush C (pc' := 54) dX13_writeWay_52 (v := (47 : Int32)) (by decide) rfl ?_
        obtain ⟨y7, hy7, Lt4⟩ := bind_some Lt4
        refine v_callV C (pc' := 57) (rest := []) (c_m_write l (47 : Int32) ht4 _ hy7) mv_X13_214 rfl rfl lv0_20 dX13_writeWay_54 rfl rfl rfl ⟨Nat.le_of_ble_eq_true rfl, Nat.le_of_ble_eq_true rfl⟩ (Nat.le_of_ble_eq_true rfl) ⟨Nat.le_of_ble_eq_true rfl, Nat.le_of_ble_eq_true rfl⟩ ?_
        refine V.st (st' := []) rfl ?_
        refine v_iconst C (pc' := 58) dX13_writeWay_57 (v := (5 : Int32)) (by decide) rfl ?_
        refine v_istore4 C (pc' := 60) dX13_writeWay_58 (by decide) rfl rfl ?_
        obtain ⟨t8, It8, Lt4⟩ := bind_some Lt4
        have Kt8 : V true G p l e { frames := 1, cells := 0, slots := 0, locals := 21 } s m args below meth c 5 (MQ below (QcA true G none h') args s 0 0 (A_ G)) t8.2 0 0 113 [some (aA 20 (some 0)), some (aI p1), some (aI a2t4), some (aI t6), some (aI t8.1)] [] := by
          refine v_iload_n C (pc' := 114) dX13_writeWay_113 rfl rfl rfl ?_
          refine v_istore2 C (pc' := 115) dX13_writeWay_114 (by decide) rfl rfl ?_
          refine v_goto C (pc' := 24) dX13_writeWay_115 (by decide) ?_
          cases Lt4
          exact V.ls (ms := [true, true, true, false, false]) rfl (kst4 _ rfl)
        refine iter_V (P := fun st8 : Int32 × Hp => V true G p l e { frames := 1, cells := 0, slots := 0, locals := 21 } s m args below meth c 5 (MQ below (QcA true G none h') args s 0 0 (A_ G)) st8.2 0 0 60 [some (aA 20 (some 0)), some (aI p1), some (aI a2t4), some (aI t6), some (aI st8.1)] []) ?_ _ _ It8
        rintro ⟨a4t8, ht8⟩ ot8 Lt8 kxt8 kst8
        rw [m_writeWay_l60] at Lt8
        show V true G p l e { frames := 1, cells := 0, slots := 0, locals := 21 } s m args below meth c 5 (MQ below (QcA true G none h') args s 0 0 (A_ G)) ht8 0 0 60 [some (aA 20 (some 0)), some (aI p1), some (aI a2t4), some (aI t6), some (aI a4t8)] []
        refine v_iload C (pc' := 62) dX13_writeWay_60 rfl rfl ?_
        refine v_if_lt C (tg := 113) (pc' := 65) dX13_writeWay_62 (by decide) rfl (fun q9 => ?_) (fun q9 => ?_)
        · rw [if_pos q9] at Lt8
          cases Lt8
          have z := kxt8 _ rfl
          subst z
          exact Kt8
        · rw [if_neg q9] at Lt8
          refine v_aload_n C (pc' := 66) dX13_writeWay_65 rfl rfl rfl ?_
          refine v_getF C (pc' := 69) rfl fl_X13_16 rfl rfl (t2 := 23) rfl (j := 0) rfl u0_20 dX13_writeWay_66 rfl ?_
          refine v_iload_n C (pc' := 70) dX13_writeWay_69 rfl rfl rfl ?_
          obtain ⟨g10, Lt8⟩ := guardB_some Lt8
          refine v_lald C (pc' := 71) (t := 23) rfl lv0_23 g10 dX13_writeWay_70 rfl ?_
          refine v_bipush C (pc' := 73) dX13_writeWay_71 (v := (8 : Int32)) (by decide) rfl ?_
          refine v_iload C (pc' := 75) dX13_writeWay_73 rfl rfl ?_
          refine v_imul C (pc' := 76) dX13_writeWay_75 rfl ?_
          refine v_lshr C (pc' := 77) dX13_writeWay_76 rfl ?_
          refine v_ldc2 C (pc' := 80) dX13_writeWay_77 (v := (255 : Int64)) (TT_of (i := 1028) (by decide +kernel) (by decide +kernel)) rfl ?_
          refine v_land C (pc' := 81) dX13_writeWay_80 rfl ?_
          refine v_lconst C (pc' := 82) dX13_writeWay_81 (v := (0 : Int64)) (by decide) rfl ?_
          refine v_lcmp C (pc' := 83) dX13_writeWay_82 rfl ?_
          obtain ⟨t12, At12, Lt8⟩ := bind_some Lt8
          have Kt12 : V true G p l e { frames := 1, cells := 0, slots := 0, locals := 21 } s m args below meth c 5 (MQ below (QcA true G none h') args s 0 0 (A_ G)) t12 0 0 107 [some (aA 20 (some 0)), some (aI p1), some (aI a2t4), some (aI t6), some (aI a4t8)] [] := by
            refine v_iinc4 C (pc' := 110) dX13_writeWay_107 (v := (a4t8 + (-1 : Int32))) (by rw [show Int32.ofInt (-1) = (-1 : Int32) by decide]) (by decide) rfl rfl ?_
            refine v_goto C (pc' := 60) dX13_writeWay_110 (by decide) ?_
            cases Lt8
            exact kst8 _ rfl
          refine v_if_eq C (tg := 107) (pc' := 86) dX13_writeWay_83 (by decide) rfl (fun q11 => ?_) (fun q11 => ?_)
          · rw [lgc_eq] at q11
            rw [if_pos q11] at At12
            cases At12
            exact Kt12
          · rw [lgc_eq] at q11
            rw [if_neg q11] at At12
            refine v_aload_n C (pc' := 87) dX13_writeWay_86 rfl rfl rfl ?_
            refine v_aload_n C (pc' := 88) dX13_writeWay_87 rfl rfl rfl ?_
            refine v_getF C (pc' := 91) rfl fl_X13_16 rfl rfl (t2 := 23) rfl (j := 0) rfl u0_20 dX13_writeWay_88 rfl ?_
            refine v_iload_n C (pc' := 92) dX13_writeWay_91 rfl rfl rfl ?_
            obtain ⟨g13, At12⟩ := guardB_some At12
            refine v_lald C (pc' := 93) (t := 23) rfl lv0_23 g13 dX13_writeWay_92 rfl ?_
            refine v_bipush C (pc' := 95) dX13_writeWay_93 (v := (8 : Int32)) (by decide) rfl ?_
            refine v_iload C (pc' := 97) dX13_writeWay_95 rfl rfl ?_
            refine v_imul C (pc' := 98) dX13_writeWay_97 rfl ?_
            refine v_lshr C (pc' := 99) dX13_writeWay_98 rfl ?_
            refine v_ldc2 C (pc' := 102) dX13_writeWay_99 (v := (255 : Int64)) (TT_of (i := 1028) (by decide +kernel) (by decide +kernel)) rfl ?_
            refine v_land C (pc' := 103) dX13_writeWay_102 rfl ?_
            refine v_l2i C (pc' := 104) dX13_writeWay_103 rfl ?_
            obtain ⟨y14, hy14, At12⟩ := bind_some At12
            refine v_callV C (pc' := 107) (rest := []) (c_m_write l (((gL ht8 (23, 0) t6.toNatClampNeg) >>> (((8 : Int32) * a4t8).toInt64 &&& 63)) &&& (255 : Int64)).toInt32 ht8 _ hy14) mv_X13_214 rfl rfl lv0_20 dX13_writeWay_104 rfl rfl rfl ⟨Nat.le_of_ble_eq_true rfl, Nat.le_of_ble_eq_true rfl⟩ (Nat.le_of_ble_eq_true rfl) ⟨Nat.le_of_ble_eq_true rfl, Nat.le_of_ble_eq_true rfl⟩ ?_
            refine V.st (st' := []) rfl ?_
            cases At12
            exact Kt12
      refine iter_V (P := fun st6 : Int32 => V true G p l e { frames := 1, cells := 0, slots := 0, locals := 21 } s m args below meth c 5 (MQ below (QcA true G none h') args s 0 0 (A_ G)) ht4 0 0 31 [some (aA 20 (some 0)), some (aI p1), some (aI a2t4), some (aI st6), none] []) ?_ _ _ It6
      intro a3t6 ot6 Lt6 kxt6 kst6
      rw [m_writeWay_l31] at Lt6
      show V true G p l e { frames := 1, cells := 0, slots := 0, locals := 21 } s m args below meth c 5 (MQ below (QcA true G none h') args s 0 0 (A_ G)) ht4 0 0 31 [some (aA 20 (some 0)), some (aI p1), some (aI a2t4), some (aI a3t6), none] []
      refine v_aload_n C (pc' := 32) dX13_writeWay_31 rfl rfl rfl ?_
      refine v_getF C (pc' := 35) rfl fl_X13_13 rfl rfl (t2 := 22) rfl (j := 0) rfl u0_20 dX13_writeWay_32 rfl ?_
      refine v_iload_n C (pc' := 36) dX13_writeWay_35 rfl rfl rfl ?_
      obtain ⟨g15, Lt6⟩ := guardB_some Lt6
      refine v_iald C (pc' := 37) (t := 22) rfl lv0_22 g15 dX13_writeWay_36 rfl ?_
      refine v_iload_n C (pc' := 38) dX13_writeWay_37 rfl rfl rfl ?_
      refine v_icmp_eq C (tg := 51) (pc' := 41) dX13_writeWay_38 (by decide) rfl (fun q16 => ?_) (fun q16 => ?_)
      · rw [if_pos q16] at Lt6
        cases Lt6
        have z := kxt6 _ rfl
        subst z
        exact Kt6
      · rw [if_neg q16] at Lt6
        refine v_aload_n C (pc' := 42) dX13_writeWay_41 rfl rfl rfl ?_
        refine v_getF C (pc' := 45) rfl fl_X13_13 rfl rfl (t2 := 22) rfl (j := 0) rfl u0_20 dX13_writeWay_42 rfl ?_
        refine v_iload_n C (pc' := 46) dX13_writeWay_45 rfl rfl rfl ?_
        obtain ⟨g17, Lt6⟩ := guardB_some Lt6
        refine v_iald C (pc' := 47) (t := 22) rfl lv0_22 g17 dX13_writeWay_46 rfl ?_
        refine v_istore3 C (pc' := 48) dX13_writeWay_47 (by decide) rfl rfl ?_
        refine v_goto C (pc' := 31) dX13_writeWay_48 (by decide) ?_
        cases Lt6
        exact kst6 _ rfl
  refine v_icmp_ne C (tg := 24) (pc' := 18) dX13_writeWay_15 (by decide) rfl (fun q1 => ?_) (fun q1 => ?_)
  · rw [if_neg q1] at At2
    cases At2
    exact Kt2
  · rw [if_pos q1] at At2
    refine v_aload_n C (pc' := 19) dX13_writeWay_18 rfl rfl rfl ?_
    refine v_bipush C (pc' := 21) dX13_writeWay_19 (v := (47 : Int32)) (by decide) rfl ?_
    obtain ⟨y3, hy3, At2⟩ := bind_some At2
    refine v_callV C (pc' := 24) (rest := []) (c_m_write l (47 : Int32) (sI h (20, 0) 14 (0 : Int32)) _ hy3) mv_X13_214 rfl rfl lv0_20 dX13_writeWay_21 rfl rfl rfl ⟨Nat.le_of_ble_eq_true rfl, Nat.le_of_ble_eq_true rfl⟩ (Nat.le_of_ble_eq_true rfl) ⟨Nat.le_of_ble_eq_true rfl, Nat.le_of_ble_eq_true rfl⟩ ?_
    refine V.st (st' := []) rfl ?_
    cases At2
    exact Kt2

def m_child_l3 (v1 : Int32) (v2 : Int64) (h : Hp) : Int32 → Option ((Int32 ⊕ Int32) ⊕ Int32)
  | a4 =>
    if (24 : Int32) ≤ a4 then
      some (.inl (.inr a4))
    else
      guardB a4 24 <|
      if (gI h (21, 0) a4.toNatClampNeg) ≤ 0 then
        some (.inr (a4 + (1 : Int32)))
      else
        guardB a4 24 <|
        if (gI h (22, 0) a4.toNatClampNeg) = v1 then
          if a4 = v1 then
            some (.inr (a4 + (1 : Int32)))
          else
            guardB a4 24 <|
            if (gL h (23, 0) a4.toNatClampNeg) = v2 then
              some (.inl (.inl a4))
            else
              some (.inr (a4 + (1 : Int32)))
        else
          some (.inr (a4 + (1 : Int32)))
def m_child (p1 : Int32) (p2 : Int64) (h : Hp) : Option Int32 :=
  (iter (m_child_l3 p1 p2 h) FU (0 : Int32)).bind fun t9 =>
  t9.elim (fun r => some r) fun ut9 =>
  some (-1 : Int32)
set_option maxHeartbeats 2000000 in
set_option maxRecDepth 20000 in
theorem c_m_child (l : Launch) (p1 : Int32) (p2 : Int64) (h : Hp) (r : Int32)  (E : m_child p1 p2 h = some r) : Ctr l yX13_child cX13_child 5 (some .int) 0 0 0 0 true [aA 20 (some 0), aI p1, aL p2] h (some (aI r)) h := by
  rw [m_child] at E
  refine Ctr.of (ls0 := [some (aA 20 (some 0)), some (aI p1), some (aL p2), none, none]) (by decide +kernel) (Nat.le_of_ble_eq_true rfl) rfl ?_
  intro G p e s m args below meth c C hr hlk hnm
  refine v_iconst C (pc' := 1) dX13_child_0 (v := (0 : Int32)) (by decide) rfl ?_
  refine v_istore4 C (pc' := 3) dX13_child_1 (by decide) rfl rfl ?_
  obtain ⟨t1, It1, E⟩ := bind_some E
  have Kt1 : ∀ ut1, t1 = .inr ut1 → V true G p l e { frames := 0, cells := 0, slots := 0, locals := 0 } s m args below meth c 5 (MQ below (QcA true G (some (aI r)) h) args s 0 0 (A_ G)) h 0 0 58 [some (aA 20 (some 0)), some (aI p1), some (aL p2), none, some (aI ut1)] [] := by
    intro ut1 hu
    rw [hu] at E
    simp only [Sum.elim_inr] at E
    refine v_iconst C (pc' := 59) dX13_child_58 (v := (-1 : Int32)) (by decide) rfl ?_
    cases E
    exact v_reti C hr hlk dX13_child_59
  refine iter_V (P := fun st1 : Int32 => V true G p l e { frames := 0, cells := 0, slots := 0, locals := 0 } s m args below meth c 5 (MQ below (QcA true G (some (aI r)) h) args s 0 0 (A_ G)) h 0 0 3 [some (aA 20 (some 0)), some (aI p1), some (aL p2), none, some (aI st1)] []) ?_ _ _ It1
  intro a4t1 ot1 Lt1 kxt1 kst1
  rw [m_child_l3] at Lt1
  show V true G p l e { frames := 0, cells := 0, slots := 0, locals := 0 } s m args below meth c 5 (MQ below (QcA true G (some (aI r)) h) args s 0 0 (A_ G)) h 0 0 3 [some (aA 20 (some 0)), some (aI p1), some (aL p2), none, some (aI a4t1)] []
  refine v_iload C (pc' := 5) dX13_child_3 rfl rfl ?_
  refine v_bipush C (pc' := 7) dX13_child_5 (v := (24 : Int32)) (by decide) rfl ?_
  refine v_icmp_ge C (tg := 58) (pc' := 10) dX13_child_7 (by decide) rfl (fun q2 => ?_) (fun q2 => ?_)
  · rw [if_pos q2] at Lt1
    cases Lt1
    have z := kxt1 _ rfl
    exact Kt1 _ z.symm
  · rw [if_neg q2] at Lt1
    refine v_aload_n C (pc' := 11) dX13_child_10 rfl rfl rfl ?_
    refine v_getF C (pc' := 14) rfl fl_X13_7 rfl rfl (t2 := 21) rfl (j := 0) rfl u0_20 dX13_child_11 rfl ?_
    refine v_iload C (pc' := 16) dX13_child_14 rfl rfl ?_
    obtain ⟨g3, Lt1⟩ := guardB_some Lt1
    refine v_iald C (pc' := 17) (t := 21) rfl lv0_21 g3 dX13_child_16 rfl ?_
    refine v_if_le C (tg := 52) (pc' := 20) dX13_child_17 (by decide) rfl (fun q4 => ?_) (fun q4 => ?_)
    · rw [if_pos q4] at Lt1
      refine v_iinc4 C (pc' := 55) dX13_child_52 (v := (a4t1 + (1 : Int32))) (by rw [show Int32.ofInt 1 = (1 : Int32) by decide]) (by decide) rfl rfl ?_
      refine v_goto C (pc' := 3) dX13_child_55 (by decide) ?_
      cases Lt1
      exact kst1 _ rfl
    · rw [if_neg q4] at Lt1
      refine v_aload_n C (pc' := 21) dX13_child_20 rfl rfl rfl ?_
      refine v_getF C (pc' := 24) rfl fl_X13_13 rfl rfl (t2 := 22) rfl (j := 0) rfl u0_20 dX13_child_21 rfl ?_
      refine v_iload C (pc' := 26) dX13_child_24 rfl rfl ?_
      obtain ⟨g5, Lt1⟩ := guardB_some Lt1
      refine v_iald C (pc' := 27) (t := 22) rfl lv0_22 g5 dX13_child_26 rfl ?_
      refine v_iload_n C (pc' := 28) dX13_child_27 rfl rfl rfl ?_
      refine v_icmp_ne C (tg := 52) (pc' := 31) dX13_child_28 (by decide) rfl (fun q6 => ?_) (fun q6 => ?_)
      · rw [if_neg q6] at Lt1
        refine v_iinc4 C (pc' := 55) dX13_child_52 (v := (a4t1 + (1 : Int32))) (by rw [show Int32.ofInt 1 = (1 : Int32) by decide]) (by decide) rfl rfl ?_
        refine v_goto C (pc' := 3) dX13_child_55 (by decide) ?_
        cases Lt1
        exact kst1 _ rfl
      · rw [if_pos q6] at Lt1
        refine v_iload C (pc' := 33) dX13_child_31 rfl rfl ?_
        refine v_iload_n C (pc' := 34) dX13_child_33 rfl rfl rfl ?_
        refine v_icmp_eq C (tg := 52) (pc' := 37) dX13_child_34 (by decide) rfl (fun q7 => ?_) (fun q7 => ?_)
        · rw [if_pos q7] at Lt1
          refine v_iinc4 C (pc' := 55) dX13_child_52 (v := (a4t1 + (1 : Int32))) (by rw [show Int32.ofInt 1 = (1 : Int32) by decide]) (by decide) rfl rfl ?_
          refine v_goto C (pc' := 3) dX13_child_55 (by decide) ?_
          cases Lt1
          exact kst1 _ rfl
        · rw [if_neg q7] at Lt1
          refine v_aload_n C (pc' := 38) dX13_child_37 rfl rfl rfl ?_
          refine v_getF C (pc' := 41) rfl fl_X13_16 rfl rfl (t2 := 23) rfl (j := 0) rfl u0_20 dX13_child_38 rfl ?_
          refine v_iload C (pc' := 43) dX13_child_41 rfl rfl ?_
          obtain ⟨g8, Lt1⟩ := guardB_some Lt1
          refine v_lald C (pc' := 44) (t := 23) rfl lv0_23 g8 dX13_child_43 rfl ?_
          refine v_lload_n C (pc' := 45) dX13_child_44 rfl rfl rfl ?_
          refine v_lcmp C (pc' := 46) dX13_child_45 rfl ?_
          refine v_if_ne C (tg := 52) (pc' := 49) dX13_child_46 (by decide) rfl (fun q9 => ?_) (fun q9 => ?_)
          · rw [lgc_eq] at q9
            rw [if_neg q9] at Lt1
            refine v_iinc4 C (pc' := 55) dX13_child_52 (v := (a4t1 + (1 : Int32))) (by rw [show Int32.ofInt 1 = (1 : Int32) by decide]) (by decide) rfl rfl ?_
            refine v_goto C (pc' := 3) dX13_child_55 (by decide) ?_
            cases Lt1
            exact kst1 _ rfl
          · rw [lgc_eq] at q9
            rw [if_pos q9] at Lt1
            refine v_iload C (pc' := 51) dX13_child_49 rfl rfl ?_
            cases Lt1
            have z := kxt1 _ rfl
            rw [← z] at E
            simp only [Sum.elim_inl] at E
            cases E
            exact v_reti C hr hlk dX13_child_51

def m_go (p1 : Int32) (p2 : Int32) (p3 : Int32) (h : Hp) : Option Int32 :=
  if p1 < 0 then
    some (-1 : Int32)
  else
    guardB p1 24 <|
    if (gI h (21, 0) p1.toNatClampNeg) = (1 : Int32) then
      (m_isDots p2 p3 h).bind fun y4 =>
      (if y4 = (1 : Int32) then
        some p1
      else
        if y4 = (2 : Int32) then
          guardB p1 24 <|
          some (gI h (22, 0) p1.toNatClampNeg)
        else
          (m_nameAt p2 p3 h).bind fun y8 =>
          (m_child p1 y8 h).bind fun y9 =>
          some y9).bind fun t6 =>
      some t6
    else
      some (-1 : Int32)
set_option maxHeartbeats 2000000 in
set_option maxRecDepth 20000 in
theorem c_m_go (l : Launch) (p1 : Int32) (p2 : Int32) (p3 : Int32) (h : Hp) (r : Int32)  (E : m_go p1 p2 p3 h = some r) : Ctr l yX13_go cX13_go 5 (some .int) 2 50 0 0 true [aA 20 (some 0), aI p1, aI p2, aI p3] h (some (aI r)) h := by
  rw [m_go] at E
  refine Ctr.of (ls0 := [some (aA 20 (some 0)), some (aI p1), some (aI p2), some (aI p3), none]) (by decide +kernel) (Nat.le_of_ble_eq_true rfl) rfl ?_
  intro G p e s m args below meth c C hr hlk hnm
  refine v_iload_n C (pc' := 1) dX13_go_0 rfl rfl rfl ?_
  refine v_if_lt C (tg := 14) (pc' := 4) dX13_go_1 (by decide) rfl (fun q1 => ?_) (fun q1 => ?_)
  · rw [if_pos q1] at E
    refine v_iconst C (pc' := 15) dX13_go_14 (v := (-1 : Int32)) (by decide) rfl ?_
    cases E
    exact v_reti C hr hlk dX13_go_15
  · rw [if_neg q1] at E
    refine v_aload_n C (pc' := 5) dX13_go_4 rfl rfl rfl ?_
    refine v_getF C (pc' := 8) rfl fl_X13_7 rfl rfl (t2 := 21) rfl (j := 0) rfl u0_20 dX13_go_5 rfl ?_
    refine v_iload_n C (pc' := 9) dX13_go_8 rfl rfl rfl ?_
    obtain ⟨g2, E⟩ := guardB_some E
    refine v_iald C (pc' := 10) (t := 21) rfl lv0_21 g2 dX13_go_9 rfl ?_
    refine v_iconst C (pc' := 11) dX13_go_10 (v := (1 : Int32)) (by decide) rfl ?_
    refine v_icmp_eq C (tg := 16) (pc' := 14) dX13_go_11 (by decide) rfl (fun q3 => ?_) (fun q3 => ?_)
    · rw [if_pos q3] at E
      refine v_aload_n C (pc' := 17) dX13_go_16 rfl rfl rfl ?_
      refine v_iload_n C (pc' := 18) dX13_go_17 rfl rfl rfl ?_
      refine v_iload_n C (pc' := 19) dX13_go_18 rfl rfl rfl ?_
      obtain ⟨y4, hy4, E⟩ := bind_some E
      refine v_callV C (pc' := 22) (rest := []) (c_m_isDots l p2 p3 h _ hy4) mv_X13_71 rfl rfl lv0_20 dX13_go_19 rfl rfl rfl ⟨Nat.le_of_ble_eq_true rfl, Nat.le_of_ble_eq_true rfl⟩ (Nat.le_of_ble_eq_true rfl) ⟨Nat.le_of_ble_eq_true rfl, Nat.le_of_ble_eq_true rfl⟩ ?_
      refine V.st (st' := [aI y4]) rfl ?_
      refine v_istore4 C (pc' := 24) dX13_go_22 (by decide) rfl rfl ?_
      refine v_iload C (pc' := 26) dX13_go_24 rfl rfl ?_
      refine v_iconst C (pc' := 27) dX13_go_26 (v := (1 : Int32)) (by decide) rfl ?_
      obtain ⟨t6, At6, E⟩ := bind_some E
      have Kt6 : V true G p l e { frames := 2, cells := 0, slots := 0, locals := 50 } s m args below meth c 5 (MQ below (QcA true G (some (aI r)) h) args s 0 0 (A_ G)) h 0 0 60 [some (aA 20 (some 0)), some (aI p1), some (aI p2), some (aI p3), some (aI y4)] [aI t6] := by
        cases E
        exact v_reti C hr hlk dX13_go_60
      refine v_icmp_ne C (tg := 34) (pc' := 30) dX13_go_27 (by decide) rfl (fun q5 => ?_) (fun q5 => ?_)
      · rw [if_neg q5] at At6
        refine v_iload C (pc' := 36) dX13_go_34 rfl rfl ?_
        refine v_iconst C (pc' := 37) dX13_go_36 (v := (2 : Int32)) (by decide) rfl ?_
        refine v_icmp_ne C (tg := 49) (pc' := 40) dX13_go_37 (by decide) rfl (fun q7 => ?_) (fun q7 => ?_)
        · rw [if_neg q7] at At6
          refine v_aload_n C (pc' := 50) dX13_go_49 rfl rfl rfl ?_
          refine v_iload_n C (pc' := 51) dX13_go_50 rfl rfl rfl ?_
          refine v_aload_n C (pc' := 52) dX13_go_51 rfl rfl rfl ?_
          refine v_iload_n C (pc' := 53) dX13_go_52 rfl rfl rfl ?_
          refine v_iload_n C (pc' := 54) dX13_go_53 rfl rfl rfl ?_
          obtain ⟨y8, hy8, At6⟩ := bind_some At6
          refine v_callV C (pc' := 57) (rest := [aI p1, aA 20 (some 0)]) (c_m_nameAt l p2 p3 h _ hy8) mv_X13_85 rfl rfl lv0_20 dX13_go_54 rfl rfl rfl ⟨Nat.le_of_ble_eq_true rfl, Nat.le_of_ble_eq_true rfl⟩ (Nat.le_of_ble_eq_true rfl) ⟨Nat.le_of_ble_eq_true rfl, Nat.le_of_ble_eq_true rfl⟩ ?_
          refine V.st (st' := [aL y8, aI p1, aA 20 (some 0)]) rfl ?_
          obtain ⟨y9, hy9, At6⟩ := bind_some At6
          refine v_callV C (pc' := 60) (rest := []) (c_m_child l p1 y8 h _ hy9) mv_X13_89 rfl rfl lv0_20 dX13_go_57 rfl rfl rfl ⟨Nat.le_of_ble_eq_true rfl, Nat.le_of_ble_eq_true rfl⟩ (Nat.le_of_ble_eq_true rfl) ⟨Nat.le_of_ble_eq_true rfl, Nat.le_of_ble_eq_true rfl⟩ ?_
          refine V.st (st' := [aI y9]) rfl ?_
          cases At6
          exact Kt6
        · rw [if_pos q7] at At6
          refine v_aload_n C (pc' := 41) dX13_go_40 rfl rfl rfl ?_
          refine v_getF C (pc' := 44) rfl fl_X13_13 rfl rfl (t2 := 22) rfl (j := 0) rfl u0_20 dX13_go_41 rfl ?_
          refine v_iload_n C (pc' := 45) dX13_go_44 rfl rfl rfl ?_
          obtain ⟨g10, At6⟩ := guardB_some At6
          refine v_iald C (pc' := 46) (t := 22) rfl lv0_22 g10 dX13_go_45 rfl ?_
          refine v_goto C (pc' := 60) dX13_go_46 (by decide) ?_
          cases At6
          exact Kt6
      · rw [if_pos q5] at At6
        refine v_iload_n C (pc' := 31) dX13_go_30 rfl rfl rfl ?_
        refine v_goto C (pc' := 60) dX13_go_31 (by decide) ?_
        cases At6
        exact Kt6
    · rw [if_neg q3] at E
      refine v_iconst C (pc' := 15) dX13_go_14 (v := (-1 : Int32)) (by decide) rfl ?_
      cases E
      exact v_reti C hr hlk dX13_go_15

def m_lead_l35 (v1 : Int32) (h : Hp) : Int32 × Int32 → Option ((Int32 × Int32) ⊕ (Int32 × Int32))
  | (a2, a3) =>
    if v1 ≤ a2 then
      some (.inl (a2, a3))
    else
      (m_endOfPart a2 h).bind fun y6 =>
      (m_go a3 a2 y6 h).bind fun y7 =>
      (if y7 < 0 then
        some y7
      else
        if v1 ≤ y6 then
          some y7
        else
          guardB y7 24 <|
          if (gI h (21, 0) y7.toNatClampNeg) = (1 : Int32) then
            some y7
          else
            some (-1 : Int32)).bind fun t9 =>
      some (.inr ((y6 + (1 : Int32)), t9))
def m_lead (p1 : Int32) (h : Hp) : Option Int32 :=
  (if p1 ≤ (gI h (20, 0) 11) then
    some ((gI h (20, 0) 11), (gI h (20, 0) 17))
  else
    guardB (gI h (20, 0) 11) 32 <|
    if (gI h (29, 0) (gI h (20, 0) 11).toNatClampNeg) = (47 : Int32) then
      some (((gI h (20, 0) 11) + (1 : Int32)), (gI h (20, 0) 16))
    else
      some ((gI h (20, 0) 11), (gI h (20, 0) 17))).bind fun t2 =>
  (iter (m_lead_l35 p1 h) FU (t2.1, t2.2)).bind fun t13 =>
  some t13.2
set_option maxHeartbeats 2000000 in
set_option maxRecDepth 20000 in
theorem c_m_lead (l : Launch) (p1 : Int32) (h : Hp) (r : Int32)  (E : m_lead p1 h = some r) : Ctr l yX13_lead cX13_lead 5 (some .int) 3 74 0 0 true [aA 20 (some 0), aI p1] h (some (aI r)) h := by
  rw [m_lead] at E
  refine Ctr.of (ls0 := [some (aA 20 (some 0)), some (aI p1), none, none, none]) (by decide +kernel) (Nat.le_of_ble_eq_true rfl) rfl ?_
  intro G p e s m args below meth c C hr hlk hnm
  refine v_aload_n C (pc' := 1) dX13_lead_0 rfl rfl rfl ?_
  refine v_getI C (pc' := 4) fl_X13_78 rfl (Or.inl rfl) lv0_20 dX13_lead_1 rfl ?_
  refine v_istore2 C (pc' := 5) dX13_lead_4 (by decide) rfl rfl ?_
  refine v_aload_n C (pc' := 6) dX13_lead_5 rfl rfl rfl ?_
  refine v_getI C (pc' := 9) fl_X13_93 rfl (Or.inl rfl) lv0_20 dX13_lead_6 rfl ?_
  refine v_istore3 C (pc' := 10) dX13_lead_9 (by decide) rfl rfl ?_
  refine v_iload_n C (pc' := 11) dX13_lead_10 rfl rfl rfl ?_
  refine v_iload_n C (pc' := 12) dX13_lead_11 rfl rfl rfl ?_
  obtain ⟨t2, At2, E⟩ := bind_some E
  have Kt2 : V true G p l e { frames := 3, cells := 0, slots := 0, locals := 74 } s m args below meth c 5 (MQ below (QcA true G (some (aI r)) h) args s 0 0 (A_ G)) h 0 0 35 [some (aA 20 (some 0)), some (aI p1), some (aI t2.1), some (aI t2.2), none] [] := by
    obtain ⟨t5, It5, E⟩ := bind_some E
    have Kt5 : V true G p l e { frames := 3, cells := 0, slots := 0, locals := 74 } s m args below meth c 5 (MQ below (QcA true G (some (aI r)) h) args s 0 0 (A_ G)) h 0 0 90 [some (aA 20 (some 0)), some (aI p1), some (aI t5.1), some (aI t5.2), none] [] := by
      refine v_iload_n C (pc' := 91) dX13_lead_90 rfl rfl rfl ?_
      cases E
      exact v_reti C hr hlk dX13_lead_91
    refine iter_V (P := fun st5 : Int32 × Int32 => V true G p l e { frames := 3, cells := 0, slots := 0, locals := 74 } s m args below meth c 5 (MQ below (QcA true G (some (aI r)) h) args s 0 0 (A_ G)) h 0 0 35 [some (aA 20 (some 0)), some (aI p1), some (aI st5.1), some (aI st5.2), none] []) ?_ _ _ It5
    rintro ⟨a2t5, a3t5⟩ ot5 Lt5 kxt5 kst5
    rw [m_lead_l35] at Lt5
    show V true G p l e { frames := 3, cells := 0, slots := 0, locals := 74 } s m args below meth c 5 (MQ below (QcA true G (some (aI r)) h) args s 0 0 (A_ G)) h 0 0 35 [some (aA 20 (some 0)), some (aI p1), some (aI a2t5), some (aI a3t5), none] []
    refine v_iload_n C (pc' := 36) dX13_lead_35 rfl rfl rfl ?_
    refine v_iload_n C (pc' := 37) dX13_lead_36 rfl rfl rfl ?_
    refine v_icmp_ge C (tg := 90) (pc' := 40) dX13_lead_37 (by decide) rfl (fun q6 => ?_) (fun q6 => ?_)
    · rw [if_pos q6] at Lt5
      cases Lt5
      have z := kxt5 _ rfl
      subst z
      exact Kt5
    · rw [if_neg q6] at Lt5
      refine v_aload_n C (pc' := 41) dX13_lead_40 rfl rfl rfl ?_
      refine v_iload_n C (pc' := 42) dX13_lead_41 rfl rfl rfl ?_
      obtain ⟨y7, hy7, Lt5⟩ := bind_some Lt5
      refine v_callV C (pc' := 45) (rest := []) (c_m_endOfPart l a2t5 h _ hy7) mv_X13_81 rfl rfl lv0_20 dX13_lead_42 rfl rfl rfl ⟨Nat.le_of_ble_eq_true rfl, Nat.le_of_ble_eq_true rfl⟩ (Nat.le_of_ble_eq_true rfl) ⟨Nat.le_of_ble_eq_true rfl, Nat.le_of_ble_eq_true rfl⟩ ?_
      refine V.st (st' := [aI y7]) rfl ?_
      refine v_istore4 C (pc' := 47) dX13_lead_45 (by decide) rfl rfl ?_
      refine v_aload_n C (pc' := 48) dX13_lead_47 rfl rfl rfl ?_
      refine v_iload_n C (pc' := 49) dX13_lead_48 rfl rfl rfl ?_
      refine v_iload_n C (pc' := 50) dX13_lead_49 rfl rfl rfl ?_
      refine v_iload C (pc' := 52) dX13_lead_50 rfl rfl ?_
      obtain ⟨y8, hy8, Lt5⟩ := bind_some Lt5
      refine v_callV C (pc' := 55) (rest := []) (c_m_go l a3t5 a2t5 y7 h _ hy8) mv_X13_96 rfl rfl lv0_20 dX13_lead_52 rfl rfl rfl ⟨Nat.le_of_ble_eq_true rfl, Nat.le_of_ble_eq_true rfl⟩ (Nat.le_of_ble_eq_true rfl) ⟨Nat.le_of_ble_eq_true rfl, Nat.le_of_ble_eq_true rfl⟩ ?_
      refine V.st (st' := [aI y8]) rfl ?_
      refine v_istore3 C (pc' := 56) dX13_lead_55 (by decide) rfl rfl ?_
      refine v_iload_n C (pc' := 57) dX13_lead_56 rfl rfl rfl ?_
      obtain ⟨t10, At10, Lt5⟩ := bind_some Lt5
      have Kt10 : V true G p l e { frames := 3, cells := 0, slots := 0, locals := 74 } s m args below meth c 5 (MQ below (QcA true G (some (aI r)) h) args s 0 0 (A_ G)) h 0 0 81 [some (aA 20 (some 0)), some (aI p1), some (aI a2t5), some (aI y8), some (aI y7)] [aI t10] := by
        refine v_istore3 C (pc' := 82) dX13_lead_81 (by decide) rfl rfl ?_
        refine v_iload C (pc' := 84) dX13_lead_82 rfl rfl ?_
        refine v_iconst C (pc' := 85) dX13_lead_84 (v := (1 : Int32)) (by decide) rfl ?_
        refine v_iadd C (pc' := 86) dX13_lead_85 rfl ?_
        refine v_istore2 C (pc' := 87) dX13_lead_86 (by decide) rfl rfl ?_
        refine v_goto C (pc' := 35) dX13_lead_87 (by decide) ?_
        cases Lt5
        exact V.ls (ms := [true, true, true, true, false]) rfl (kst5 _ rfl)
      refine v_if_lt C (tg := 80) (pc' := 60) dX13_lead_57 (by decide) rfl (fun q9 => ?_) (fun q9 => ?_)
      · rw [if_pos q9] at At10
        refine v_iload_n C (pc' := 81) dX13_lead_80 rfl rfl rfl ?_
        cases At10
        exact Kt10
      · rw [if_neg q9] at At10
        refine v_iload C (pc' := 62) dX13_lead_60 rfl rfl ?_
        refine v_iload_n C (pc' := 63) dX13_lead_62 rfl rfl rfl ?_
        refine v_icmp_ge C (tg := 80) (pc' := 66) dX13_lead_63 (by decide) rfl (fun q11 => ?_) (fun q11 => ?_)
        · rw [if_pos q11] at At10
          refine v_iload_n C (pc' := 81) dX13_lead_80 rfl rfl rfl ?_
          cases At10
          exact Kt10
        · rw [if_neg q11] at At10
          refine v_aload_n C (pc' := 67) dX13_lead_66 rfl rfl rfl ?_
          refine v_getF C (pc' := 70) rfl fl_X13_7 rfl rfl (t2 := 21) rfl (j := 0) rfl u0_20 dX13_lead_67 rfl ?_
          refine v_iload_n C (pc' := 71) dX13_lead_70 rfl rfl rfl ?_
          obtain ⟨g12, At10⟩ := guardB_some At10
          refine v_iald C (pc' := 72) (t := 21) rfl lv0_21 g12 dX13_lead_71 rfl ?_
          refine v_iconst C (pc' := 73) dX13_lead_72 (v := (1 : Int32)) (by decide) rfl ?_
          refine v_icmp_eq C (tg := 80) (pc' := 76) dX13_lead_73 (by decide) rfl (fun q13 => ?_) (fun q13 => ?_)
          · rw [if_pos q13] at At10
            refine v_iload_n C (pc' := 81) dX13_lead_80 rfl rfl rfl ?_
            cases At10
            exact Kt10
          · rw [if_neg q13] at At10
            refine v_iconst C (pc' := 77) dX13_lead_76 (v := (-1 : Int32)) (by decide) rfl ?_
            refine v_goto C (pc' := 81) dX13_lead_77 (by decide) ?_
            cases At10
            exact Kt10
  refine v_icmp_ge C (tg := 35) (pc' := 15) dX13_lead_12 (by decide) rfl (fun q1 => ?_) (fun q1 => ?_)
  · rw [if_pos q1] at At2
    cases At2
    exact Kt2
  · rw [if_neg q1] at At2
    refine v_aload_n C (pc' := 16) dX13_lead_15 rfl rfl rfl ?_
    refine v_getF C (pc' := 19) rfl fl_X13_35 rfl rfl (t2 := 29) rfl (j := 0) rfl u0_20 dX13_lead_16 rfl ?_
    refine v_iload_n C (pc' := 20) dX13_lead_19 rfl rfl rfl ?_
    obtain ⟨g3, At2⟩ := guardB_some At2
    refine v_cald C (pc' := 21) (t := 29) rfl lv0_29 g3 dX13_lead_20 rfl ?_
    refine v_bipush C (pc' := 23) dX13_lead_21 (v := (47 : Int32)) (by decide) rfl ?_
    refine v_icmp_ne C (tg := 35) (pc' := 26) dX13_lead_23 (by decide) rfl (fun q4 => ?_) (fun q4 => ?_)
    · rw [if_neg q4] at At2
      cases At2
      exact Kt2
    · rw [if_pos q4] at At2
      refine v_aload_n C (pc' := 27) dX13_lead_26 rfl rfl rfl ?_
      refine v_getI C (pc' := 30) fl_X13_42 rfl (Or.inl rfl) lv0_20 dX13_lead_27 rfl ?_
      refine v_istore3 C (pc' := 31) dX13_lead_30 (by decide) rfl rfl ?_
      refine v_iload_n C (pc' := 32) dX13_lead_31 rfl rfl rfl ?_
      refine v_iconst C (pc' := 33) dX13_lead_32 (v := (1 : Int32)) (by decide) rfl ?_
      refine v_iadd C (pc' := 34) dX13_lead_33 rfl ?_
      refine v_istore2 C (pc' := 35) dX13_lead_34 (by decide) rfl rfl ?_
      cases At2
      exact Kt2

def m_findPlace_l5  (h : Hp) : Int32 → Option (Int32 ⊕ Int32)
  | a1 =>
    if a1 ≤ (gI h (20, 0) 11) then
      some (.inl a1)
    else
      guardB (a1 - (1 : Int32)) 32 <|
      if (gI h (29, 0) (a1 - (1 : Int32)).toNatClampNeg) = (47 : Int32) then
        some (.inl a1)
      else
        some (.inr (a1 - (1 : Int32)))
def m_findPlace  (h : Hp) : Option (Int32 × Hp) :=
  (iter (m_findPlace_l5 h) FU (gI h (20, 0) 9)).bind fun t4 =>
  (m_nameAt t4 (gI h (20, 0) 9) h).bind fun y5 =>
  (m_lead t4 (sL h (20, 0) 35 y5)).bind fun y6 =>
  (if (gL (sI (sL h (20, 0) 35 y5) (20, 0) 34 y6) (20, 0) 35) = (0 : Int64) then
    some (0 : Int32)
  else
    if (gI (sI (sL h (20, 0) 35 y5) (20, 0) 34 y6) (20, 0) 34) < 0 then
      some (0 : Int32)
    else
      guardB (gI (sI (sL h (20, 0) 35 y5) (20, 0) 34 y6) (20, 0) 34) 24 <|
      if (gI (sI (sL h (20, 0) 35 y5) (20, 0) 34 y6) (21, 0) (gI (sI (sL h (20, 0) 35 y5) (20, 0) 34 y6) (20, 0) 34).toNatClampNeg) = (1 : Int32) then
        some (1 : Int32)
      else
        some (0 : Int32)).bind fun t8 =>
  guardZ t8 <|
  some (t8, (sI (sL h (20, 0) 35 y5) (20, 0) 34 y6))
set_option maxHeartbeats 2000000 in
set_option maxRecDepth 20000 in
theorem c_m_findPlace (l : Launch)  (h : Hp) (r : Int32) (h' : Hp)  (E : m_findPlace  h = some (r, h')) : Ctr l yX13_findPlace cX13_findPlace 2 (some .boolean) 4 98 0 0 true [aA 20 (some 0)] h (some (aI r)) h' := by
  rw [m_findPlace] at E
  refine Ctr.of (ls0 := [some (aA 20 (some 0)), none]) (by decide +kernel) (Nat.le_of_ble_eq_true rfl) rfl ?_
  intro G p e s m args below meth c C hr hlk hnm
  refine v_aload_n C (pc' := 1) dX13_findPlace_0 rfl rfl rfl ?_
  refine v_getI C (pc' := 4) fl_X13_75 rfl (Or.inl rfl) lv0_20 dX13_findPlace_1 rfl ?_
  refine v_istore1 C (pc' := 5) dX13_findPlace_4 (by decide) rfl rfl ?_
  obtain ⟨t1, It1, E⟩ := bind_some E
  have Kt1 : V true G p l e { frames := 4, cells := 0, slots := 0, locals := 98 } s m args below meth c 2 (MQ below (QcA true G (some (aI r)) h') args s 0 0 (A_ G)) h 0 0 33 [some (aA 20 (some 0)), some (aI t1)] [] := by
    refine v_aload_n C (pc' := 34) dX13_findPlace_33 rfl rfl rfl ?_
    refine v_aload_n C (pc' := 35) dX13_findPlace_34 rfl rfl rfl ?_
    refine v_iload_n C (pc' := 36) dX13_findPlace_35 rfl rfl rfl ?_
    refine v_aload_n C (pc' := 37) dX13_findPlace_36 rfl rfl rfl ?_
    refine v_getI C (pc' := 40) fl_X13_75 rfl (Or.inl rfl) lv0_20 dX13_findPlace_37 rfl ?_
    obtain ⟨y2, hy2, E⟩ := bind_some E
    refine v_callV C (pc' := 43) (rest := [aA 20 (some 0)]) (c_m_nameAt l t1 (gI h (20, 0) 9) h _ hy2) mv_X13_85 rfl rfl lv0_20 dX13_findPlace_40 rfl rfl rfl ⟨Nat.le_of_ble_eq_true rfl, Nat.le_of_ble_eq_true rfl⟩ (Nat.le_of_ble_eq_true rfl) ⟨Nat.le_of_ble_eq_true rfl, Nat.le_of_ble_eq_true rfl⟩ ?_
    refine V.st (st' := [aL y2, aA 20 (some 0)]) rfl ?_
    refine v_putL C (pc' := 46) fp_X13_100 rfl rfl lv0_20 dX13_findPlace_43 rfl ?_
    refine v_aload_n C (pc' := 47) dX13_findPlace_46 rfl rfl rfl ?_
    refine v_aload_n C (pc' := 48) dX13_findPlace_47 rfl rfl rfl ?_
    refine v_iload_n C (pc' := 49) dX13_findPlace_48 rfl rfl rfl ?_
    obtain ⟨y3, hy3, E⟩ := bind_some E
    refine v_callV C (pc' := 52) (rest := [aA 20 (some 0)]) (c_m_lead l t1 (sL h (20, 0) 35 y2) _ hy3) mv_X13_104 rfl rfl lv0_20 dX13_findPlace_49 rfl rfl rfl ⟨Nat.le_of_ble_eq_true rfl, Nat.le_of_ble_eq_true rfl⟩ (Nat.le_of_ble_eq_true rfl) ⟨Nat.le_of_ble_eq_true rfl, Nat.le_of_ble_eq_true rfl⟩ ?_
    refine V.st (st' := [aI y3, aA 20 (some 0)]) rfl ?_
    refine v_putI C (pc' := 55) fp_X13_107 rfl rfl lv0_20 dX13_findPlace_52 rfl ?_
    refine v_aload_n C (pc' := 56) dX13_findPlace_55 rfl rfl rfl ?_
    refine v_getL C (pc' := 59) fl_X13_100 rfl rfl lv0_20 dX13_findPlace_56 rfl ?_
    refine v_lconst C (pc' := 60) dX13_findPlace_59 (v := (0 : Int64)) (by decide) rfl ?_
    refine v_lcmp C (pc' := 61) dX13_findPlace_60 rfl ?_
    obtain ⟨t5, At5, E⟩ := bind_some E
    have Kt5 : V true G p l e { frames := 4, cells := 0, slots := 0, locals := 98 } s m args below meth c 2 (MQ below (QcA true G (some (aI r)) h') args s 0 0 (A_ G)) (sI (sL h (20, 0) 35 y2) (20, 0) 34 y3) 0 0 89 [some (aA 20 (some 0)), some (aI t1)] [aI t5] := by
      obtain ⟨z9, E⟩ := guardZ_some E
      cases E
      exact v_retz C hr hlk z9 dX13_findPlace_89
    refine v_if_eq C (tg := 88) (pc' := 64) dX13_findPlace_61 (by decide) rfl (fun q4 => ?_) (fun q4 => ?_)
    · rw [lgc_eq] at q4
      rw [if_pos q4] at At5
      refine v_iconst C (pc' := 89) dX13_findPlace_88 (v := (0 : Int32)) (by decide) rfl ?_
      cases At5
      exact Kt5
    · rw [lgc_eq] at q4
      rw [if_neg q4] at At5
      refine v_aload_n C (pc' := 65) dX13_findPlace_64 rfl rfl rfl ?_
      refine v_getI C (pc' := 68) fl_X13_107 rfl (Or.inl rfl) lv0_20 dX13_findPlace_65 rfl ?_
      refine v_if_lt C (tg := 88) (pc' := 71) dX13_findPlace_68 (by decide) rfl (fun q6 => ?_) (fun q6 => ?_)
      · rw [if_pos q6] at At5
        refine v_iconst C (pc' := 89) dX13_findPlace_88 (v := (0 : Int32)) (by decide) rfl ?_
        cases At5
        exact Kt5
      · rw [if_neg q6] at At5
        refine v_aload_n C (pc' := 72) dX13_findPlace_71 rfl rfl rfl ?_
        refine v_getF C (pc' := 75) rfl fl_X13_7 rfl rfl (t2 := 21) rfl (j := 0) rfl u0_20 dX13_findPlace_72 rfl ?_
        refine v_aload_n C (pc' := 76) dX13_findPlace_75 rfl rfl rfl ?_
        refine v_getI C (pc' := 79) fl_X13_107 rfl (Or.inl rfl) lv0_20 dX13_findPlace_76 rfl ?_
        obtain ⟨g7, At5⟩ := guardB_some At5
        refine v_iald C (pc' := 80) (t := 21) rfl lv0_21 g7 dX13_findPlace_79 rfl ?_
        refine v_iconst C (pc' := 81) dX13_findPlace_80 (v := (1 : Int32)) (by decide) rfl ?_
        refine v_icmp_ne C (tg := 88) (pc' := 84) dX13_findPlace_81 (by decide) rfl (fun q8 => ?_) (fun q8 => ?_)
        · rw [if_neg q8] at At5
          refine v_iconst C (pc' := 89) dX13_findPlace_88 (v := (0 : Int32)) (by decide) rfl ?_
          cases At5
          exact Kt5
        · rw [if_pos q8] at At5
          refine v_iconst C (pc' := 85) dX13_findPlace_84 (v := (1 : Int32)) (by decide) rfl ?_
          refine v_goto C (pc' := 89) dX13_findPlace_85 (by decide) ?_
          cases At5
          exact Kt5
  refine iter_V (P := fun st1 : Int32 => V true G p l e { frames := 4, cells := 0, slots := 0, locals := 98 } s m args below meth c 2 (MQ below (QcA true G (some (aI r)) h') args s 0 0 (A_ G)) h 0 0 5 [some (aA 20 (some 0)), some (aI st1)] []) ?_ _ _ It1
  intro a1t1 ot1 Lt1 kxt1 kst1
  rw [m_findPlace_l5] at Lt1
  show V true G p l e { frames := 4, cells := 0, slots := 0, locals := 98 } s m args below meth c 2 (MQ below (QcA true G (some (aI r)) h') args s 0 0 (A_ G)) h 0 0 5 [some (aA 20 (some 0)), some (aI a1t1)] []
  refine v_iload_n C (pc' := 6) dX13_findPlace_5 rfl rfl rfl ?_
  refine v_aload_n C (pc' := 7) dX13_findPlace_6 rfl rfl rfl ?_
  refine v_getI C (pc' := 10) fl_X13_78 rfl (Or.inl rfl) lv0_20 dX13_findPlace_7 rfl ?_
  refine v_icmp_le C (tg := 33) (pc' := 13) dX13_findPlace_10 (by decide) rfl (fun q10 => ?_) (fun q10 => ?_)
  · rw [if_pos q10] at Lt1
    cases Lt1
    have z := kxt1 _ rfl
    subst z
    exact Kt1
  · rw [if_neg q10] at Lt1
    refine v_aload_n C (pc' := 14) dX13_findPlace_13 rfl rfl rfl ?_
    refine v_getF C (pc' := 17) rfl fl_X13_35 rfl rfl (t2 := 29) rfl (j := 0) rfl u0_20 dX13_findPlace_14 rfl ?_
    refine v_iload_n C (pc' := 18) dX13_findPlace_17 rfl rfl rfl ?_
    refine v_iconst C (pc' := 19) dX13_findPlace_18 (v := (1 : Int32)) (by decide) rfl ?_
    refine v_isub C (pc' := 20) dX13_findPlace_19 rfl ?_
    obtain ⟨g11, Lt1⟩ := guardB_some Lt1
    refine v_cald C (pc' := 21) (t := 29) rfl lv0_29 g11 dX13_findPlace_20 rfl ?_
    refine v_bipush C (pc' := 23) dX13_findPlace_21 (v := (47 : Int32)) (by decide) rfl ?_
    refine v_icmp_eq C (tg := 33) (pc' := 26) dX13_findPlace_23 (by decide) rfl (fun q12 => ?_) (fun q12 => ?_)
    · rw [if_pos q12] at Lt1
      cases Lt1
      have z := kxt1 _ rfl
      subst z
      exact Kt1
    · rw [if_neg q12] at Lt1
      refine v_iload_n C (pc' := 27) dX13_findPlace_26 rfl rfl rfl ?_
      refine v_iconst C (pc' := 28) dX13_findPlace_27 (v := (1 : Int32)) (by decide) rfl ?_
      refine v_isub C (pc' := 29) dX13_findPlace_28 rfl ?_
      refine v_istore1 C (pc' := 30) dX13_findPlace_29 (by decide) rfl rfl ?_
      refine v_goto C (pc' := 5) dX13_findPlace_30 (by decide) ?_
      cases Lt1
      exact kst1 _ rfl

def m_makeDirectory  (h : Hp) : Option (Int32 × Hp) :=
  (m_freeNode h).bind fun y1 =>
  (m_findPlace h).bind fun y2 =>
  if y2.1 = 0 then
    some ((550 : Int32), y2.2)
  else
    (m_child (gI y2.2 (20, 0) 34) (gL y2.2 (20, 0) 35) y2.2).bind fun y4 =>
    if 0 ≤ y4 then
      some ((550 : Int32), y2.2)
    else
      if y1 = (24 : Int32) then
        some ((550 : Int32), y2.2)
      else
        (m_make y1 (1 : Int32) (gI y2.2 (20, 0) 34) (gL y2.2 (20, 0) 35) y2.2).bind fun y7 =>
        (m_writeWay y1 y7).bind fun y8 =>
        some ((257 : Int32), y8)
set_option maxHeartbeats 2000000 in
set_option maxRecDepth 20000 in
theorem c_m_makeDirectory (l : Launch)  (h : Hp) (r : Int32) (h' : Hp)  (E : m_makeDirectory  h = some (r, h')) : Ctr l yX13_makeDirectory cX13_makeDirectory 2 (some .int) 5 119 0 0 true [aA 20 (some 0)] h (some (aI r)) h' := by
  rw [m_makeDirectory] at E
  refine Ctr.of (ls0 := [some (aA 20 (some 0)), none]) (by decide +kernel) (Nat.le_of_ble_eq_true rfl) rfl ?_
  intro G p e s m args below meth c C hr hlk hnm
  refine v_aload_n C (pc' := 1) dX13_makeDirectory_0 rfl rfl rfl ?_
  obtain ⟨y1, hy1, E⟩ := bind_some E
  refine v_callV C (pc' := 4) (rest := []) (c_m_freeNode l h _ hy1) mv_X13_119 rfl rfl lv0_20 dX13_makeDirectory_1 rfl rfl rfl ⟨Nat.le_of_ble_eq_true rfl, Nat.le_of_ble_eq_true rfl⟩ (Nat.le_of_ble_eq_true rfl) ⟨Nat.le_of_ble_eq_true rfl, Nat.le_of_ble_eq_true rfl⟩ ?_
  refine V.st (st' := [aI y1]) rfl ?_
  refine v_istore1 C (pc' := 5) dX13_makeDirectory_4 (by decide) rfl rfl ?_
  refine v_aload_n C (pc' := 6) dX13_makeDirectory_5 rfl rfl rfl ?_
  obtain ⟨y2, hy2, E⟩ := bind_some E
  refine v_callV C (pc' := 9) (rest := []) (c_m_findPlace l h _ _ hy2) mv_X13_218 rfl rfl lv0_20 dX13_makeDirectory_6 rfl rfl rfl ⟨Nat.le_of_ble_eq_true rfl, Nat.le_of_ble_eq_true rfl⟩ (Nat.le_of_ble_eq_true rfl) ⟨Nat.le_of_ble_eq_true rfl, Nat.le_of_ble_eq_true rfl⟩ ?_
  refine V.st (st' := [aI y2.1]) rfl ?_
  refine v_if_eq C (tg := 33) (pc' := 12) dX13_makeDirectory_9 (by decide) rfl (fun q3 => ?_) (fun q3 => ?_)
  · rw [if_pos q3] at E
    refine v_sipush C (pc' := 36) dX13_makeDirectory_33 (v := (550 : Int32)) (by decide) rfl ?_
    cases E
    exact v_reti C hr hlk dX13_makeDirectory_36
  · rw [if_neg q3] at E
    refine v_aload_n C (pc' := 13) dX13_makeDirectory_12 rfl rfl rfl ?_
    refine v_aload_n C (pc' := 14) dX13_makeDirectory_13 rfl rfl rfl ?_
    refine v_getI C (pc' := 17) fl_X13_107 rfl (Or.inl rfl) lv0_20 dX13_makeDirectory_14 rfl ?_
    refine v_aload_n C (pc' := 18) dX13_makeDirectory_17 rfl rfl rfl ?_
    refine v_getL C (pc' := 21) fl_X13_100 rfl rfl lv0_20 dX13_makeDirectory_18 rfl ?_
    obtain ⟨y4, hy4, E⟩ := bind_some E
    refine v_callV C (pc' := 24) (rest := []) (c_m_child l (gI y2.2 (20, 0) 34) (gL y2.2 (20, 0) 35) y2.2 _ hy4) mv_X13_89 rfl rfl lv0_20 dX13_makeDirectory_21 rfl rfl rfl ⟨Nat.le_of_ble_eq_true rfl, Nat.le_of_ble_eq_true rfl⟩ (Nat.le_of_ble_eq_true rfl) ⟨Nat.le_of_ble_eq_true rfl, Nat.le_of_ble_eq_true rfl⟩ ?_
    refine V.st (st' := [aI y4]) rfl ?_
    refine v_if_ge C (tg := 33) (pc' := 27) dX13_makeDirectory_24 (by decide) rfl (fun q5 => ?_) (fun q5 => ?_)
    · rw [if_pos q5] at E
      refine v_sipush C (pc' := 36) dX13_makeDirectory_33 (v := (550 : Int32)) (by decide) rfl ?_
      cases E
      exact v_reti C hr hlk dX13_makeDirectory_36
    · rw [if_neg q5] at E
      refine v_iload_n C (pc' := 28) dX13_makeDirectory_27 rfl rfl rfl ?_
      refine v_bipush C (pc' := 30) dX13_makeDirectory_28 (v := (24 : Int32)) (by decide) rfl ?_
      refine v_icmp_ne C (tg := 37) (pc' := 33) dX13_makeDirectory_30 (by decide) rfl (fun q6 => ?_) (fun q6 => ?_)
      · rw [if_neg q6] at E
        refine v_aload_n C (pc' := 38) dX13_makeDirectory_37 rfl rfl rfl ?_
        refine v_iload_n C (pc' := 39) dX13_makeDirectory_38 rfl rfl rfl ?_
        refine v_iconst C (pc' := 40) dX13_makeDirectory_39 (v := (1 : Int32)) (by decide) rfl ?_
        refine v_aload_n C (pc' := 41) dX13_makeDirectory_40 rfl rfl rfl ?_
        refine v_getI C (pc' := 44) fl_X13_107 rfl (Or.inl rfl) lv0_20 dX13_makeDirectory_41 rfl ?_
        refine v_aload_n C (pc' := 45) dX13_makeDirectory_44 rfl rfl rfl ?_
        refine v_getL C (pc' := 48) fl_X13_100 rfl rfl lv0_20 dX13_makeDirectory_45 rfl ?_
        obtain ⟨y7, hy7, E⟩ := bind_some E
        refine v_callV C (pc' := 51) (rest := []) (c_m_make l y1 (1 : Int32) (gI y2.2 (20, 0) 34) (gL y2.2 (20, 0) 35) y2.2 _ hy7) mv_X13_127 rfl rfl lv0_20 dX13_makeDirectory_48 rfl rfl rfl ⟨Nat.le_of_ble_eq_true rfl, Nat.le_of_ble_eq_true rfl⟩ (Nat.le_of_ble_eq_true rfl) ⟨Nat.le_of_ble_eq_true rfl, Nat.le_of_ble_eq_true rfl⟩ ?_
        refine V.st (st' := []) rfl ?_
        refine v_aload_n C (pc' := 52) dX13_makeDirectory_51 rfl rfl rfl ?_
        refine v_iload_n C (pc' := 53) dX13_makeDirectory_52 rfl rfl rfl ?_
        obtain ⟨y8, hy8, E⟩ := bind_some E
        refine v_callV C (pc' := 56) (rest := []) (c_m_writeWay l y1 y7 _ hy8) mv_X13_221 rfl rfl lv0_20 dX13_makeDirectory_53 rfl rfl rfl ⟨Nat.le_of_ble_eq_true rfl, Nat.le_of_ble_eq_true rfl⟩ (Nat.le_of_ble_eq_true rfl) ⟨Nat.le_of_ble_eq_true rfl, Nat.le_of_ble_eq_true rfl⟩ ?_
        refine V.st (st' := []) rfl ?_
        refine v_sipush C (pc' := 59) dX13_makeDirectory_56 (v := (257 : Int32)) (by decide) rfl ?_
        cases E
        exact v_reti C hr hlk dX13_makeDirectory_59
      · rw [if_pos q6] at E
        refine v_sipush C (pc' := 36) dX13_makeDirectory_33 (v := (550 : Int32)) (by decide) rfl ?_
        cases E
        exact v_reti C hr hlk dX13_makeDirectory_36

def m_liesIn_l2 (v2 : Int32) (h : Hp) : Int32 → Option (Int32 ⊕ Int32)
  | a3 =>
    if a3 = v2 then
      some (.inl a3)
    else
      guardB a3 24 <|
      if (gI h (22, 0) a3.toNatClampNeg) = a3 then
        some (.inl a3)
      else
        guardB a3 24 <|
        some (.inr (gI h (22, 0) a3.toNatClampNeg))
def m_liesIn (p1 : Int32) (p2 : Int32) (h : Hp) : Option Int32 :=
  (iter (m_liesIn_l2 p2 h) FU p1).bind fun t5 =>
  (if t5 = p2 then
    some (1 : Int32)
  else
    some (0 : Int32)).bind fun t7 =>
  guardZ t7 <|
  some t7
set_option maxHeartbeats 2000000 in
set_option maxRecDepth 20000 in
theorem c_m_liesIn (l : Launch) (p1 : Int32) (p2 : Int32) (h : Hp) (r : Int32)  (E : m_liesIn p1 p2 h = some r) : Ctr l yX13_liesIn cX13_liesIn 4 (some .boolean) 0 0 0 0 true [aA 20 (some 0), aI p1, aI p2] h (some (aI r)) h := by
  rw [m_liesIn] at E
  refine Ctr.of (ls0 := [some (aA 20 (some 0)), some (aI p1), some (aI p2), none]) (by decide +kernel) (Nat.le_of_ble_eq_true rfl) rfl ?_
  intro G p e s m args below meth c C hr hlk hnm
  refine v_iload_n C (pc' := 1) dX13_liesIn_0 rfl rfl rfl ?_
  refine v_istore3 C (pc' := 2) dX13_liesIn_1 (by decide) rfl rfl ?_
  obtain ⟨t1, It1, E⟩ := bind_some E
  have Kt1 : V true G p l e { frames := 0, cells := 0, slots := 0, locals := 0 } s m args below meth c 4 (MQ below (QcA true G (some (aI r)) h) args s 0 0 (A_ G)) h 0 0 27 [some (aA 20 (some 0)), some (aI p1), some (aI p2), some (aI t1)] [] := by
    refine v_iload_n C (pc' := 28) dX13_liesIn_27 rfl rfl rfl ?_
    refine v_iload_n C (pc' := 29) dX13_liesIn_28 rfl rfl rfl ?_
    obtain ⟨t3, At3, E⟩ := bind_some E
    have Kt3 : V true G p l e { frames := 0, cells := 0, slots := 0, locals := 0 } s m args below meth c 4 (MQ below (QcA true G (some (aI r)) h) args s 0 0 (A_ G)) h 0 0 37 [some (aA 20 (some 0)), some (aI p1), some (aI p2), some (aI t1)] [aI t3] := by
      obtain ⟨z4, E⟩ := guardZ_some E
      cases E
      exact v_retz C hr hlk z4 dX13_liesIn_37
    refine v_icmp_ne C (tg := 36) (pc' := 32) dX13_liesIn_29 (by decide) rfl (fun q2 => ?_) (fun q2 => ?_)
    · rw [if_neg q2] at At3
      refine v_iconst C (pc' := 37) dX13_liesIn_36 (v := (0 : Int32)) (by decide) rfl ?_
      cases At3
      exact Kt3
    · rw [if_pos q2] at At3
      refine v_iconst C (pc' := 33) dX13_liesIn_32 (v := (1 : Int32)) (by decide) rfl ?_
      refine v_goto C (pc' := 37) dX13_liesIn_33 (by decide) ?_
      cases At3
      exact Kt3
  refine iter_V (P := fun st1 : Int32 => V true G p l e { frames := 0, cells := 0, slots := 0, locals := 0 } s m args below meth c 4 (MQ below (QcA true G (some (aI r)) h) args s 0 0 (A_ G)) h 0 0 2 [some (aA 20 (some 0)), some (aI p1), some (aI p2), some (aI st1)] []) ?_ _ _ It1
  intro a3t1 ot1 Lt1 kxt1 kst1
  rw [m_liesIn_l2] at Lt1
  show V true G p l e { frames := 0, cells := 0, slots := 0, locals := 0 } s m args below meth c 4 (MQ below (QcA true G (some (aI r)) h) args s 0 0 (A_ G)) h 0 0 2 [some (aA 20 (some 0)), some (aI p1), some (aI p2), some (aI a3t1)] []
  refine v_iload_n C (pc' := 3) dX13_liesIn_2 rfl rfl rfl ?_
  refine v_iload_n C (pc' := 4) dX13_liesIn_3 rfl rfl rfl ?_
  refine v_icmp_eq C (tg := 27) (pc' := 7) dX13_liesIn_4 (by decide) rfl (fun q5 => ?_) (fun q5 => ?_)
  · rw [if_pos q5] at Lt1
    cases Lt1
    have z := kxt1 _ rfl
    subst z
    exact Kt1
  · rw [if_neg q5] at Lt1
    refine v_aload_n C (pc' := 8) dX13_liesIn_7 rfl rfl rfl ?_
    refine v_getF C (pc' := 11) rfl fl_X13_13 rfl rfl (t2 := 22) rfl (j := 0) rfl u0_20 dX13_liesIn_8 rfl ?_
    refine v_iload_n C (pc' := 12) dX13_liesIn_11 rfl rfl rfl ?_
    obtain ⟨g6, Lt1⟩ := guardB_some Lt1
    refine v_iald C (pc' := 13) (t := 22) rfl lv0_22 g6 dX13_liesIn_12 rfl ?_
    refine v_iload_n C (pc' := 14) dX13_liesIn_13 rfl rfl rfl ?_
    refine v_icmp_eq C (tg := 27) (pc' := 17) dX13_liesIn_14 (by decide) rfl (fun q7 => ?_) (fun q7 => ?_)
    · rw [if_pos q7] at Lt1
      cases Lt1
      have z := kxt1 _ rfl
      subst z
      exact Kt1
    · rw [if_neg q7] at Lt1
      refine v_aload_n C (pc' := 18) dX13_liesIn_17 rfl rfl rfl ?_
      refine v_getF C (pc' := 21) rfl fl_X13_13 rfl rfl (t2 := 22) rfl (j := 0) rfl u0_20 dX13_liesIn_18 rfl ?_
      refine v_iload_n C (pc' := 22) dX13_liesIn_21 rfl rfl rfl ?_
      obtain ⟨g8, Lt1⟩ := guardB_some Lt1
      refine v_iald C (pc' := 23) (t := 22) rfl lv0_22 g8 dX13_liesIn_22 rfl ?_
      refine v_istore3 C (pc' := 24) dX13_liesIn_23 (by decide) rfl rfl ?_
      refine v_goto C (pc' := 2) dX13_liesIn_24 (by decide) ?_
      cases Lt1
      exact kst1 _ rfl

def m_rename_j61 (v1 : Int32) (h : Hp) : Option (Int32 × Hp) :=
  guardB v1 24 <|
  guardB v1 24 <|
  some ((250 : Int32), (sL (sI h (22, 0) v1.toNatClampNeg (gI h (20, 0) 34)) (23, 0) v1.toNatClampNeg (gL (sI h (22, 0) v1.toNatClampNeg (gI h (20, 0) 34)) (20, 0) 35)))
def m_rename  (h : Hp) : Option (Int32 × Hp) :=
  if 0 ≤ (gI h (20, 0) 23) then
    (m_findPlace h).bind fun y2 =>
    if y2.1 = 0 then
      some ((553 : Int32), y2.2)
    else
      (m_child (gI y2.2 (20, 0) 34) (gL y2.2 (20, 0) 35) y2.2).bind fun y4 =>
      if 0 ≤ y4 then
        some ((553 : Int32), y2.2)
      else
        guardB (gI h (20, 0) 23) 24 <|
        if (gI y2.2 (21, 0) (gI h (20, 0) 23).toNatClampNeg) = (1 : Int32) then
          (m_liesIn (gI y2.2 (20, 0) 34) (gI h (20, 0) 23) y2.2).bind fun y8 =>
          if y8 = 0 then
            m_rename_j61 (gI h (20, 0) 23) y2.2
          else
            some ((553 : Int32), y2.2)
        else
          m_rename_j61 (gI h (20, 0) 23) y2.2
  else
    some ((503 : Int32), h)
set_option maxHeartbeats 2000000 in
set_option maxRecDepth 20000 in
theorem c_m_rename (l : Launch)  (h : Hp) (r : Int32) (h' : Hp)  (E : m_rename  h = some (r, h')) : Ctr l yX13_rename cX13_rename 2 (some .int) 5 119 0 0 true [aA 20 (some 0)] h (some (aI r)) h' := by
  rw [m_rename] at E
  refine Ctr.of (ls0 := [some (aA 20 (some 0)), none]) (by decide +kernel) (Nat.le_of_ble_eq_true rfl) rfl ?_
  intro G p e s m args below meth c C hr hlk hnm
  refine v_aload_n C (pc' := 1) dX13_rename_0 rfl rfl rfl ?_
  refine v_getI C (pc' := 4) fl_X13_181 rfl (Or.inl rfl) lv0_20 dX13_rename_1 rfl ?_
  refine v_istore1 C (pc' := 5) dX13_rename_4 (by decide) rfl rfl ?_
  refine v_iload_n C (pc' := 6) dX13_rename_5 rfl rfl rfl ?_
  refine v_if_ge C (tg := 13) (pc' := 9) dX13_rename_6 (by decide) rfl (fun q1 => ?_) (fun q1 => ?_)
  · rw [if_pos q1] at E
    refine v_aload_n C (pc' := 14) dX13_rename_13 rfl rfl rfl ?_
    obtain ⟨y2, hy2, E⟩ := bind_some E
    refine v_callV C (pc' := 17) (rest := []) (c_m_findPlace l h _ _ hy2) mv_X13_218 rfl rfl lv0_20 dX13_rename_14 rfl rfl rfl ⟨Nat.le_of_ble_eq_true rfl, Nat.le_of_ble_eq_true rfl⟩ (Nat.le_of_ble_eq_true rfl) ⟨Nat.le_of_ble_eq_true rfl, Nat.le_of_ble_eq_true rfl⟩ ?_
    refine V.st (st' := [aI y2.1]) rfl ?_
    refine v_if_eq C (tg := 57) (pc' := 20) dX13_rename_17 (by decide) rfl (fun q3 => ?_) (fun q3 => ?_)
    · rw [if_pos q3] at E
      refine v_sipush C (pc' := 60) dX13_rename_57 (v := (553 : Int32)) (by decide) rfl ?_
      cases E
      exact v_reti C hr hlk dX13_rename_60
    · rw [if_neg q3] at E
      refine v_aload_n C (pc' := 21) dX13_rename_20 rfl rfl rfl ?_
      refine v_aload_n C (pc' := 22) dX13_rename_21 rfl rfl rfl ?_
      refine v_getI C (pc' := 25) fl_X13_107 rfl (Or.inl rfl) lv0_20 dX13_rename_22 rfl ?_
      refine v_aload_n C (pc' := 26) dX13_rename_25 rfl rfl rfl ?_
      refine v_getL C (pc' := 29) fl_X13_100 rfl rfl lv0_20 dX13_rename_26 rfl ?_
      obtain ⟨y4, hy4, E⟩ := bind_some E
      refine v_callV C (pc' := 32) (rest := []) (c_m_child l (gI y2.2 (20, 0) 34) (gL y2.2 (20, 0) 35) y2.2 _ hy4) mv_X13_89 rfl rfl lv0_20 dX13_rename_29 rfl rfl rfl ⟨Nat.le_of_ble_eq_true rfl, Nat.le_of_ble_eq_true rfl⟩ (Nat.le_of_ble_eq_true rfl) ⟨Nat.le_of_ble_eq_true rfl, Nat.le_of_ble_eq_true rfl⟩ ?_
      refine V.st (st' := [aI y4]) rfl ?_
      refine v_if_ge C (tg := 57) (pc' := 35) dX13_rename_32 (by decide) rfl (fun q5 => ?_) (fun q5 => ?_)
      · rw [if_pos q5] at E
        refine v_sipush C (pc' := 60) dX13_rename_57 (v := (553 : Int32)) (by decide) rfl ?_
        cases E
        exact v_reti C hr hlk dX13_rename_60
      · rw [if_neg q5] at E
        refine v_aload_n C (pc' := 36) dX13_rename_35 rfl rfl rfl ?_
        refine v_getF C (pc' := 39) rfl fl_X13_7 rfl rfl (t2 := 21) rfl (j := 0) rfl u0_20 dX13_rename_36 rfl ?_
        refine v_iload_n C (pc' := 40) dX13_rename_39 rfl rfl rfl ?_
        obtain ⟨g6, E⟩ := guardB_some E
        refine v_iald C (pc' := 41) (t := 21) rfl lv0_21 g6 dX13_rename_40 rfl ?_
        refine v_iconst C (pc' := 42) dX13_rename_41 (v := (1 : Int32)) (by decide) rfl ?_
        have J61 : m_rename_j61 (gI h (20, 0) 23) y2.2 = some (r, h') → V true G p l e { frames := 5, cells := 0, slots := 0, locals := 119 } s m args below meth c 2 (MQ below (QcA true G (some (aI r)) h') args s 0 0 (A_ G)) y2.2 0 0 61 [some (aA 20 (some 0)), some (aI (gI h (20, 0) 23))] [] := by
          intro  Ej61
          rw [m_rename_j61] at Ej61
          refine v_aload_n C (pc' := 62) dX13_rename_61 rfl rfl rfl ?_
          refine v_getF C (pc' := 65) rfl fl_X13_13 rfl rfl (t2 := 22) rfl (j := 0) rfl u0_20 dX13_rename_62 rfl ?_
          refine v_iload_n C (pc' := 66) dX13_rename_65 rfl rfl rfl ?_
          refine v_aload_n C (pc' := 67) dX13_rename_66 rfl rfl rfl ?_
          refine v_getI C (pc' := 70) fl_X13_107 rfl (Or.inl rfl) lv0_20 dX13_rename_67 rfl ?_
          obtain ⟨g10, Ej61⟩ := guardB_some Ej61
          refine v_iast C (pc' := 71) (t := 22) rfl lv0_22 g10 dX13_rename_70 rfl ?_
          refine v_aload_n C (pc' := 72) dX13_rename_71 rfl rfl rfl ?_
          refine v_getF C (pc' := 75) rfl fl_X13_16 rfl rfl (t2 := 23) rfl (j := 0) rfl u0_20 dX13_rename_72 rfl ?_
          refine v_iload_n C (pc' := 76) dX13_rename_75 rfl rfl rfl ?_
          refine v_aload_n C (pc' := 77) dX13_rename_76 rfl rfl rfl ?_
          refine v_getL C (pc' := 80) fl_X13_100 rfl rfl lv0_20 dX13_rename_77 rfl ?_
          obtain ⟨g11, Ej61⟩ := guardB_some Ej61
          refine v_last C (pc' := 81) (t := 23) rfl lv0_23 g11 dX13_rename_80 rfl ?_
          refine v_sipush C (pc' := 84) dX13_rename_81 (v := (250 : Int32)) (by decide) rfl ?_
          cases Ej61
          exact v_reti C hr hlk dX13_rename_84
        refine v_icmp_ne C (tg := 61) (pc' := 45) dX13_rename_42 (by decide) rfl (fun q7 => ?_) (fun q7 => ?_)
        · rw [if_neg q7] at E
          exact J61  E
        · rw [if_pos q7] at E
          refine v_aload_n C (pc' := 46) dX13_rename_45 rfl rfl rfl ?_
          refine v_aload_n C (pc' := 47) dX13_rename_46 rfl rfl rfl ?_
          refine v_getI C (pc' := 50) fl_X13_107 rfl (Or.inl rfl) lv0_20 dX13_rename_47 rfl ?_
          refine v_iload_n C (pc' := 51) dX13_rename_50 rfl rfl rfl ?_
          obtain ⟨y8, hy8, E⟩ := bind_some E
          refine v_callV C (pc' := 54) (rest := []) (c_m_liesIn l (gI y2.2 (20, 0) 34) (gI h (20, 0) 23) y2.2 _ hy8) mv_X13_224 rfl rfl lv0_20 dX13_rename_51 rfl rfl rfl ⟨Nat.le_of_ble_eq_true rfl, Nat.le_of_ble_eq_true rfl⟩ (Nat.le_of_ble_eq_true rfl) ⟨Nat.le_of_ble_eq_true rfl, Nat.le_of_ble_eq_true rfl⟩ ?_
          refine V.st (st' := [aI y8]) rfl ?_
          refine v_if_eq C (tg := 61) (pc' := 57) dX13_rename_54 (by decide) rfl (fun q9 => ?_) (fun q9 => ?_)
          · rw [if_pos q9] at E
            exact J61  E
          · rw [if_neg q9] at E
            refine v_sipush C (pc' := 60) dX13_rename_57 (v := (553 : Int32)) (by decide) rfl ?_
            cases E
            exact v_reti C hr hlk dX13_rename_60
  · rw [if_neg q1] at E
    refine v_sipush C (pc' := 12) dX13_rename_9 (v := (503 : Int32)) (by decide) rfl ?_
    cases E
    exact v_reti C hr hlk dX13_rename_12

def m_isEmpty_l4 (v1 : Int32) (h : Hp) : Int32 × Int32 → Option ((Int32 × Int32) ⊕ (Int32 × Int32))
  | (a2, a3) =>
    if (24 : Int32) ≤ a3 then
      some (.inl (a2, a3))
    else
      (if a2 = 0 then
        some (0 : Int32)
      else
        guardB a3 24 <|
        if (gI h (21, 0) a3.toNatClampNeg) = 0 then
          some (1 : Int32)
        else
          if a3 = v1 then
            some (1 : Int32)
          else
            guardB a3 24 <|
            if (gI h (22, 0) a3.toNatClampNeg) = v1 then
              some (0 : Int32)
            else
              some (1 : Int32)).bind fun t3 =>
      some (.inr (t3, (a3 + (1 : Int32))))
def m_isEmpty (p1 : Int32) (h : Hp) : Option Int32 :=
  (iter (m_isEmpty_l4 p1 h) FU ((1 : Int32), (0 : Int32))).bind fun t9 =>
  guardZ t9.1 <|
  some t9.1
set_option maxHeartbeats 2000000 in
set_option maxRecDepth 20000 in
theorem c_m_isEmpty (l : Launch) (p1 : Int32) (h : Hp) (r : Int32)  (E : m_isEmpty p1 h = some r) : Ctr l yX13_isEmpty cX13_isEmpty 4 (some .boolean) 0 0 0 0 true [aA 20 (some 0), aI p1] h (some (aI r)) h := by
  rw [m_isEmpty] at E
  refine Ctr.of (ls0 := [some (aA 20 (some 0)), some (aI p1), none, none]) (by decide +kernel) (Nat.le_of_ble_eq_true rfl) rfl ?_
  intro G p e s m args below meth c C hr hlk hnm
  refine v_iconst C (pc' := 1) dX13_isEmpty_0 (v := (1 : Int32)) (by decide) rfl ?_
  refine v_istore2 C (pc' := 2) dX13_isEmpty_1 (by decide) rfl rfl ?_
  refine v_iconst C (pc' := 3) dX13_isEmpty_2 (v := (0 : Int32)) (by decide) rfl ?_
  refine v_istore3 C (pc' := 4) dX13_isEmpty_3 (by decide) rfl rfl ?_
  obtain ⟨t1, It1, E⟩ := bind_some E
  have Kt1 : V true G p l e { frames := 0, cells := 0, slots := 0, locals := 0 } s m args below meth c 4 (MQ below (QcA true G (some (aI r)) h) args s 0 0 (A_ G)) h 0 0 50 [some (aA 20 (some 0)), some (aI p1), some (aI t1.1), some (aI t1.2)] [] := by
    refine v_iload_n C (pc' := 51) dX13_isEmpty_50 rfl rfl rfl ?_
    obtain ⟨z2, E⟩ := guardZ_some E
    cases E
    exact v_retz C hr hlk z2 dX13_isEmpty_51
  refine iter_V (P := fun st1 : Int32 × Int32 => V true G p l e { frames := 0, cells := 0, slots := 0, locals := 0 } s m args below meth c 4 (MQ below (QcA true G (some (aI r)) h) args s 0 0 (A_ G)) h 0 0 4 [some (aA 20 (some 0)), some (aI p1), some (aI st1.1), some (aI st1.2)] []) ?_ _ _ It1
  rintro ⟨a2t1, a3t1⟩ ot1 Lt1 kxt1 kst1
  rw [m_isEmpty_l4] at Lt1
  show V true G p l e { frames := 0, cells := 0, slots := 0, locals := 0 } s m args below meth c 4 (MQ below (QcA true G (some (aI r)) h) args s 0 0 (A_ G)) h 0 0 4 [some (aA 20 (some 0)), some (aI p1), some (aI a2t1), some (aI a3t1)] []
  refine v_iload_n C (pc' := 5) dX13_isEmpty_4 rfl rfl rfl ?_
  refine v_bipush C (pc' := 7) dX13_isEmpty_5 (v := (24 : Int32)) (by decide) rfl ?_
  refine v_icmp_ge C (tg := 50) (pc' := 10) dX13_isEmpty_7 (by decide) rfl (fun q3 => ?_) (fun q3 => ?_)
  · rw [if_pos q3] at Lt1
    cases Lt1
    have z := kxt1 _ rfl
    subst z
    exact Kt1
  · rw [if_neg q3] at Lt1
    refine v_iload_n C (pc' := 11) dX13_isEmpty_10 rfl rfl rfl ?_
    obtain ⟨t5, At5, Lt1⟩ := bind_some Lt1
    have Kt5 : V true G p l e { frames := 0, cells := 0, slots := 0, locals := 0 } s m args below meth c 4 (MQ below (QcA true G (some (aI r)) h) args s 0 0 (A_ G)) h 0 0 43 [some (aA 20 (some 0)), some (aI p1), some (aI a2t1), some (aI a3t1)] [aI t5] := by
      refine v_istore2 C (pc' := 44) dX13_isEmpty_43 (by decide) rfl rfl ?_
      refine v_iinc3 C (pc' := 47) dX13_isEmpty_44 (v := (a3t1 + (1 : Int32))) (by rw [show Int32.ofInt 1 = (1 : Int32) by decide]) (by decide) rfl rfl ?_
      refine v_goto C (pc' := 4) dX13_isEmpty_47 (by decide) ?_
      cases Lt1
      exact kst1 _ rfl
    refine v_if_eq C (tg := 42) (pc' := 14) dX13_isEmpty_11 (by decide) rfl (fun q4 => ?_) (fun q4 => ?_)
    · rw [if_pos q4] at At5
      refine v_iconst C (pc' := 43) dX13_isEmpty_42 (v := (0 : Int32)) (by decide) rfl ?_
      cases At5
      exact Kt5
    · rw [if_neg q4] at At5
      refine v_aload_n C (pc' := 15) dX13_isEmpty_14 rfl rfl rfl ?_
      refine v_getF C (pc' := 18) rfl fl_X13_7 rfl rfl (t2 := 21) rfl (j := 0) rfl u0_20 dX13_isEmpty_15 rfl ?_
      refine v_iload_n C (pc' := 19) dX13_isEmpty_18 rfl rfl rfl ?_
      obtain ⟨g6, At5⟩ := guardB_some At5
      refine v_iald C (pc' := 20) (t := 21) rfl lv0_21 g6 dX13_isEmpty_19 rfl ?_
      refine v_if_eq C (tg := 38) (pc' := 23) dX13_isEmpty_20 (by decide) rfl (fun q7 => ?_) (fun q7 => ?_)
      · rw [if_pos q7] at At5
        refine v_iconst C (pc' := 39) dX13_isEmpty_38 (v := (1 : Int32)) (by decide) rfl ?_
        refine v_goto C (pc' := 43) dX13_isEmpty_39 (by decide) ?_
        cases At5
        exact Kt5
      · rw [if_neg q7] at At5
        refine v_iload_n C (pc' := 24) dX13_isEmpty_23 rfl rfl rfl ?_
        refine v_iload_n C (pc' := 25) dX13_isEmpty_24 rfl rfl rfl ?_
        refine v_icmp_eq C (tg := 38) (pc' := 28) dX13_isEmpty_25 (by decide) rfl (fun q8 => ?_) (fun q8 => ?_)
        · rw [if_pos q8] at At5
          refine v_iconst C (pc' := 39) dX13_isEmpty_38 (v := (1 : Int32)) (by decide) rfl ?_
          refine v_goto C (pc' := 43) dX13_isEmpty_39 (by decide) ?_
          cases At5
          exact Kt5
        · rw [if_neg q8] at At5
          refine v_aload_n C (pc' := 29) dX13_isEmpty_28 rfl rfl rfl ?_
          refine v_getF C (pc' := 32) rfl fl_X13_13 rfl rfl (t2 := 22) rfl (j := 0) rfl u0_20 dX13_isEmpty_29 rfl ?_
          refine v_iload_n C (pc' := 33) dX13_isEmpty_32 rfl rfl rfl ?_
          obtain ⟨g9, At5⟩ := guardB_some At5
          refine v_iald C (pc' := 34) (t := 22) rfl lv0_22 g9 dX13_isEmpty_33 rfl ?_
          refine v_iload_n C (pc' := 35) dX13_isEmpty_34 rfl rfl rfl ?_
          refine v_icmp_eq C (tg := 42) (pc' := 38) dX13_isEmpty_35 (by decide) rfl (fun q10 => ?_) (fun q10 => ?_)
          · rw [if_pos q10] at At5
            refine v_iconst C (pc' := 43) dX13_isEmpty_42 (v := (0 : Int32)) (by decide) rfl ?_
            cases At5
            exact Kt5
          · rw [if_neg q10] at At5
            refine v_iconst C (pc' := 39) dX13_isEmpty_38 (v := (1 : Int32)) (by decide) rfl ?_
            refine v_goto C (pc' := 43) dX13_isEmpty_39 (by decide) ?_
            cases At5
            exact Kt5

def m_sizeTold (p1 : Int32) (h : Hp) : Option (Int32 × Hp) :=
  guardB p1 24 <|
  (if (gI (sI h (20, 0) 14 (0 : Int32)) (24, 0) p1.toNatClampNeg) ≤ (9 : Int32) then
    some (sI h (20, 0) 14 (0 : Int32))
  else
    (m_write ((48 : Int32) + ((gI (sI h (20, 0) 14 (0 : Int32)) (24, 0) p1.toNatClampNeg) / (10 : Int32))) (sI h (20, 0) 14 (0 : Int32))).bind fun y4 =>
    some y4).bind fun t3 =>
  (m_write ((48 : Int32) + ((gI (sI h (20, 0) 14 (0 : Int32)) (24, 0) p1.toNatClampNeg) - ((gI (sI h (20, 0) 14 (0 : Int32)) (24, 0) p1.toNatClampNeg) / (10 : Int32)) * (10 : Int32))) t3).bind fun y5 =>
  some ((213 : Int32), y5)
set_option maxHeartbeats 2000000 in
set_option maxRecDepth 20000 in
theorem c_m_sizeTold (l : Launch) (p1 : Int32) (h : Hp) (r : Int32) (h' : Hp)  (E : m_sizeTold p1 h = some (r, h')) : Ctr l yX13_sizeTold cX13_sizeTold 3 (some .int) 1 21 0 0 true [aA 20 (some 0), aI p1] h (some (aI r)) h' := by
  rw [m_sizeTold] at E
  refine Ctr.of (ls0 := [some (aA 20 (some 0)), some (aI p1), none]) (by decide +kernel) (Nat.le_of_ble_eq_true rfl) rfl ?_
  intro G p e s m args below meth c C hr hlk hnm
  refine v_aload_n C (pc' := 1) dX13_sizeTold_0 rfl rfl rfl ?_
  refine v_iconst C (pc' := 2) dX13_sizeTold_1 (v := (0 : Int32)) (by decide) rfl ?_
  refine v_putI C (pc' := 5) fp_X13_134 rfl rfl lv0_20 dX13_sizeTold_2 rfl ?_
  refine v_aload_n C (pc' := 6) dX13_sizeTold_5 rfl rfl rfl ?_
  refine v_getF C (pc' := 9) rfl fl_X13_20 rfl rfl (t2 := 24) rfl (j := 0) rfl u0_20 dX13_sizeTold_6 rfl ?_
  refine v_iload_n C (pc' := 10) dX13_sizeTold_9 rfl rfl rfl ?_
  obtain ⟨g1, E⟩ := guardB_some E
  refine v_iald C (pc' := 11) (t := 24) rfl lv0_24 g1 dX13_sizeTold_10 rfl ?_
  refine v_istore2 C (pc' := 12) dX13_sizeTold_11 (by decide) rfl rfl ?_
  refine v_iload_n C (pc' := 13) dX13_sizeTold_12 rfl rfl rfl ?_
  refine v_bipush C (pc' := 15) dX13_sizeTold_13 (v := (9 : Int32)) (by decide) rfl ?_
  obtain ⟨t3, At3, E⟩ := bind_some E
  have Kt3 : V true G p l e { frames := 1, cells := 0, slots := 0, locals := 21 } s m args below meth c 3 (MQ below (QcA true G (some (aI r)) h') args s 0 0 (A_ G)) t3 0 0 29 [some (aA 20 (some 0)), some (aI p1), some (aI (gI (sI h (20, 0) 14 (0 : Int32)) (24, 0) p1.toNatClampNeg))] [] := by
    refine v_aload_n C (pc' := 30) dX13_sizeTold_29 rfl rfl rfl ?_
    refine v_bipush C (pc' := 32) dX13_sizeTold_30 (v := (48 : Int32)) (by decide) rfl ?_
    refine v_iload_n C (pc' := 33) dX13_sizeTold_32 rfl rfl rfl ?_
    refine v_bipush C (pc' := 35) dX13_sizeTold_33 (v := (10 : Int32)) (by decide) rfl ?_
    refine v_irem C (pc' := 36) dX13_sizeTold_35 (by decide) rfl ?_
    refine v_iadd C (pc' := 37) dX13_sizeTold_36 rfl ?_
    obtain ⟨y5, hy5, E⟩ := bind_some E
    refine v_callV C (pc' := 40) (rest := []) (c_m_write l ((48 : Int32) + ((gI (sI h (20, 0) 14 (0 : Int32)) (24, 0) p1.toNatClampNeg) - ((gI (sI h (20, 0) 14 (0 : Int32)) (24, 0) p1.toNatClampNeg) / (10 : Int32)) * (10 : Int32))) t3 _ hy5) mv_X13_214 rfl rfl lv0_20 dX13_sizeTold_37 rfl rfl rfl ⟨Nat.le_of_ble_eq_true rfl, Nat.le_of_ble_eq_true rfl⟩ (Nat.le_of_ble_eq_true rfl) ⟨Nat.le_of_ble_eq_true rfl, Nat.le_of_ble_eq_true rfl⟩ ?_
    refine V.st (st' := []) rfl ?_
    refine v_sipush C (pc' := 43) dX13_sizeTold_40 (v := (213 : Int32)) (by decide) rfl ?_
    cases E
    exact v_reti C hr hlk dX13_sizeTold_43
  refine v_icmp_le C (tg := 29) (pc' := 18) dX13_sizeTold_15 (by decide) rfl (fun q2 => ?_) (fun q2 => ?_)
  · rw [if_pos q2] at At3
    cases At3
    exact Kt3
  · rw [if_neg q2] at At3
    refine v_aload_n C (pc' := 19) dX13_sizeTold_18 rfl rfl rfl ?_
    refine v_bipush C (pc' := 21) dX13_sizeTold_19 (v := (48 : Int32)) (by decide) rfl ?_
    refine v_iload_n C (pc' := 22) dX13_sizeTold_21 rfl rfl rfl ?_
    refine v_bipush C (pc' := 24) dX13_sizeTold_22 (v := (10 : Int32)) (by decide) rfl ?_
    refine v_idiv C (pc' := 25) dX13_sizeTold_24 (by decide) rfl ?_
    refine v_iadd C (pc' := 26) dX13_sizeTold_25 rfl ?_
    obtain ⟨y4, hy4, At3⟩ := bind_some At3
    refine v_callV C (pc' := 29) (rest := []) (c_m_write l ((48 : Int32) + ((gI (sI h (20, 0) 14 (0 : Int32)) (24, 0) p1.toNatClampNeg) / (10 : Int32))) (sI h (20, 0) 14 (0 : Int32)) _ hy4) mv_X13_214 rfl rfl lv0_20 dX13_sizeTold_26 rfl rfl rfl ⟨Nat.le_of_ble_eq_true rfl, Nat.le_of_ble_eq_true rfl⟩ (Nat.le_of_ble_eq_true rfl) ⟨Nat.le_of_ble_eq_true rfl, Nat.le_of_ble_eq_true rfl⟩ ?_
    refine V.st (st' := []) rfl ?_
    cases At3
    exact Kt3

def m_change (p1 : Int32) (h : Hp) : Option (Int32 × Hp) :=
  if p1 = (5 : Int32) then
    (m_writeWay (gI h (20, 0) 17) h).bind fun y40 =>
    some ((257 : Int32), y40)
  else
    if p1 = (7 : Int32) then
      guardB (gI h (20, 0) 17) 24 <|
      some ((200 : Int32), (sI h (20, 0) 17 (gI h (22, 0) (gI h (20, 0) 17).toNatClampNeg)))
    else
      if p1 = (8 : Int32) then
        (m_makeDirectory h).bind fun y38 =>
        some (y38.1, y38.2)
      else
        if p1 = (13 : Int32) then
          (m_rename h).bind fun y37 =>
          some (y37.1, y37.2)
        else
          (m_lead (gI h (20, 0) 9) h).bind fun y5 =>
          (if y5 < 0 then
            some (0 : Int32)
          else
            guardB y5 24 <|
            if (gI h (21, 0) y5.toNatClampNeg) = (1 : Int32) then
              some (1 : Int32)
            else
              some (0 : Int32)).bind fun t7 =>
          (if p1 = (6 : Int32) then
            some t7
          else
            if p1 = (9 : Int32) then
              if t7 = 0 then
                some (0 : Int32)
              else
                (m_isEmpty y5 h).bind fun y19 =>
                if y19 = 0 then
                  some (0 : Int32)
                else
                  if y5 = (gI h (20, 0) 16) then
                    some (0 : Int32)
                  else
                    if y5 = (gI h (20, 0) 17) then
                      some (0 : Int32)
                    else
                      some (1 : Int32)
            else
              if p1 = (12 : Int32) then
                if y5 < 0 then
                  some (0 : Int32)
                else
                  if y5 = (gI h (20, 0) 16) then
                    some (0 : Int32)
                  else
                    some (1 : Int32)
              else
                if y5 < 0 then
                  some (0 : Int32)
                else
                  if t7 = 0 then
                    some (1 : Int32)
                  else
                    some (0 : Int32)).bind fun t11 =>
          if t11 = 0 then
            some ((550 : Int32), h)
          else
            if p1 = (11 : Int32) then
              (m_sizeTold y5 h).bind fun y36 =>
              some (y36.1, y36.2)
            else
              (if p1 = (6 : Int32) then
                some y5
              else
                some (gI h (20, 0) 17)).bind fun t26 =>
              (if p1 = (12 : Int32) then
                some y5
              else
                some (-1 : Int32)).bind fun t28 =>
              (if p1 = (9 : Int32) then
                some (0 : Int32)
              else
                if p1 = (10 : Int32) then
                  some (0 : Int32)
                else
                  guardB y5 24 <|
                  some (gI (sI (sI h (20, 0) 17 t26) (20, 0) 20 t28) (21, 0) y5.toNatClampNeg)).bind fun t30 =>
              guardB y5 24 <|
              (if p1 = (12 : Int32) then
                some (350 : Int32)
              else
                some (250 : Int32)).bind fun t35 =>
              some (t35, (sI (sI (sI h (20, 0) 17 t26) (20, 0) 20 t28) (21, 0) y5.toNatClampNeg t30))
set_option maxHeartbeats 2000000 in
set_option maxRecDepth 20000 in
theorem c_m_change (l : Launch) (p1 : Int32) (h : Hp) (r : Int32) (h' : Hp)  (E : m_change p1 h = some (r, h')) : Ctr l yX13_change cX13_change 5 (some .int) 6 140 0 0 true [aA 20 (some 0), aI p1] h (some (aI r)) h' := by
  rw [m_change] at E
  refine Ctr.of (ls0 := [some (aA 20 (some 0)), some (aI p1), none, none, none]) (by decide +kernel) (Nat.le_of_ble_eq_true rfl) rfl ?_
  intro G p e s m args below meth c C hr hlk hnm
  refine v_iload_n C (pc' := 1) dX13_change_0 rfl rfl rfl ?_
  refine v_iconst C (pc' := 2) dX13_change_1 (v := (5 : Int32)) (by decide) rfl ?_
  refine v_icmp_ne C (tg := 17) (pc' := 5) dX13_change_2 (by decide) rfl (fun q1 => ?_) (fun q1 => ?_)
  · rw [if_neg q1] at E
    refine v_iload_n C (pc' := 18) dX13_change_17 rfl rfl rfl ?_
    refine v_bipush C (pc' := 20) dX13_change_18 (v := (7 : Int32)) (by decide) rfl ?_
    refine v_icmp_ne C (tg := 40) (pc' := 23) dX13_change_20 (by decide) rfl (fun q2 => ?_) (fun q2 => ?_)
    · rw [if_neg q2] at E
      refine v_iload_n C (pc' := 41) dX13_change_40 rfl rfl rfl ?_
      refine v_bipush C (pc' := 43) dX13_change_41 (v := (8 : Int32)) (by decide) rfl ?_
      refine v_icmp_ne C (tg := 51) (pc' := 46) dX13_change_43 (by decide) rfl (fun q3 => ?_) (fun q3 => ?_)
      · rw [if_neg q3] at E
        refine v_iload_n C (pc' := 52) dX13_change_51 rfl rfl rfl ?_
        refine v_bipush C (pc' := 54) dX13_change_52 (v := (13 : Int32)) (by decide) rfl ?_
        refine v_icmp_ne C (tg := 62) (pc' := 57) dX13_change_54 (by decide) rfl (fun q4 => ?_) (fun q4 => ?_)
        · rw [if_neg q4] at E
          refine v_aload_n C (pc' := 63) dX13_change_62 rfl rfl rfl ?_
          refine v_aload_n C (pc' := 64) dX13_change_63 rfl rfl rfl ?_
          refine v_getI C (pc' := 67) fl_X13_75 rfl (Or.inl rfl) lv0_20 dX13_change_64 rfl ?_
          obtain ⟨y5, hy5, E⟩ := bind_some E
          refine v_callV C (pc' := 70) (rest := []) (c_m_lead l (gI h (20, 0) 9) h _ hy5) mv_X13_104 rfl rfl lv0_20 dX13_change_67 rfl rfl rfl ⟨Nat.le_of_ble_eq_true rfl, Nat.le_of_ble_eq_true rfl⟩ (Nat.le_of_ble_eq_true rfl) ⟨Nat.le_of_ble_eq_true rfl, Nat.le_of_ble_eq_true rfl⟩ ?_
          refine V.st (st' := [aI y5]) rfl ?_
          refine v_istore2 C (pc' := 71) dX13_change_70 (by decide) rfl rfl ?_
          refine v_iload_n C (pc' := 72) dX13_change_71 rfl rfl rfl ?_
          obtain ⟨t7, At7, E⟩ := bind_some E
          have Kt7 : V true G p l e { frames := 6, cells := 0, slots := 0, locals := 140 } s m args below meth c 5 (MQ below (QcA true G (some (aI r)) h') args s 0 0 (A_ G)) h 0 0 90 [some (aA 20 (some 0)), some (aI p1), some (aI y5), none, none] [aI t7] := by
            refine v_istore3 C (pc' := 91) dX13_change_90 (by decide) rfl rfl ?_
            refine v_iload_n C (pc' := 92) dX13_change_91 rfl rfl rfl ?_
            refine v_bipush C (pc' := 94) dX13_change_92 (v := (6 : Int32)) (by decide) rfl ?_
            obtain ⟨t11, At11, E⟩ := bind_some E
            have Kt11 : V true G p l e { frames := 6, cells := 0, slots := 0, locals := 140 } s m args below meth c 5 (MQ below (QcA true G (some (aI r)) h') args s 0 0 (A_ G)) h 0 0 182 [some (aA 20 (some 0)), some (aI p1), some (aI y5), some (aI t7), none] [aI t11] := by
              refine v_istore4 C (pc' := 184) dX13_change_182 (by decide) rfl rfl ?_
              refine v_iload C (pc' := 186) dX13_change_184 rfl rfl ?_
              refine v_if_ne C (tg := 193) (pc' := 189) dX13_change_186 (by decide) rfl (fun q23 => ?_) (fun q23 => ?_)
              · rw [if_neg q23] at E
                refine v_iload_n C (pc' := 194) dX13_change_193 rfl rfl rfl ?_
                refine v_bipush C (pc' := 196) dX13_change_194 (v := (11 : Int32)) (by decide) rfl ?_
                refine v_icmp_ne C (tg := 205) (pc' := 199) dX13_change_196 (by decide) rfl (fun q24 => ?_) (fun q24 => ?_)
                · rw [if_neg q24] at E
                  refine v_aload_n C (pc' := 206) dX13_change_205 rfl rfl rfl ?_
                  refine v_iload_n C (pc' := 207) dX13_change_206 rfl rfl rfl ?_
                  refine v_bipush C (pc' := 209) dX13_change_207 (v := (6 : Int32)) (by decide) rfl ?_
                  obtain ⟨t26, At26, E⟩ := bind_some E
                  have Kt26 : V true G p l e { frames := 6, cells := 0, slots := 0, locals := 140 } s m args below meth c 5 (MQ below (QcA true G (some (aI r)) h') args s 0 0 (A_ G)) h 0 0 220 [some (aA 20 (some 0)), some (aI p1), some (aI y5), some (aI t7), some (aI t11)] [aI t26, aA 20 (some 0)] := by
                    refine v_putI C (pc' := 223) fp_X13_93 rfl rfl lv0_20 dX13_change_220 rfl ?_
                    refine v_aload_n C (pc' := 224) dX13_change_223 rfl rfl rfl ?_
                    refine v_iload_n C (pc' := 225) dX13_change_224 rfl rfl rfl ?_
                    refine v_bipush C (pc' := 227) dX13_change_225 (v := (12 : Int32)) (by decide) rfl ?_
                    obtain ⟨t28, At28, E⟩ := bind_some E
                    have Kt28 : V true G p l e { frames := 6, cells := 0, slots := 0, locals := 140 } s m args below meth c 5 (MQ below (QcA true G (some (aI r)) h') args s 0 0 (A_ G)) (sI h (20, 0) 17 t26) 0 0 235 [some (aA 20 (some 0)), some (aI p1), some (aI y5), some (aI t7), some (aI t11)] [aI t28, aA 20 (some 0)] := by
                      refine v_putI C (pc' := 238) fp_X13_46 rfl rfl lv0_20 dX13_change_235 rfl ?_
                      refine v_aload_n C (pc' := 239) dX13_change_238 rfl rfl rfl ?_
                      refine v_getF C (pc' := 242) rfl fl_X13_7 rfl rfl (t2 := 21) rfl (j := 0) rfl u0_20 dX13_change_239 rfl ?_
                      refine v_iload_n C (pc' := 243) dX13_change_242 rfl rfl rfl ?_
                      refine v_iload_n C (pc' := 244) dX13_change_243 rfl rfl rfl ?_
                      refine v_bipush C (pc' := 246) dX13_change_244 (v := (9 : Int32)) (by decide) rfl ?_
                      obtain ⟨t30, At30, E⟩ := bind_some E
                      have Kt30 : V true G p l e { frames := 6, cells := 0, slots := 0, locals := 140 } s m args below meth c 5 (MQ below (QcA true G (some (aI r)) h') args s 0 0 (A_ G)) (sI (sI h (20, 0) 17 t26) (20, 0) 20 t28) 0 0 265 [some (aA 20 (some 0)), some (aI p1), some (aI y5), some (aI t7), some (aI t11)] [aI t30, aI y5, aA 21 (some 0)] := by
                        obtain ⟨g33, E⟩ := guardB_some E
                        refine v_iast C (pc' := 266) (t := 21) rfl lv0_21 g33 dX13_change_265 rfl ?_
                        refine v_iload_n C (pc' := 267) dX13_change_266 rfl rfl rfl ?_
                        refine v_bipush C (pc' := 269) dX13_change_267 (v := (12 : Int32)) (by decide) rfl ?_
                        obtain ⟨t35, At35, E⟩ := bind_some E
                        have Kt35 : V true G p l e { frames := 6, cells := 0, slots := 0, locals := 140 } s m args below meth c 5 (MQ below (QcA true G (some (aI r)) h') args s 0 0 (A_ G)) (sI (sI (sI h (20, 0) 17 t26) (20, 0) 20 t28) (21, 0) y5.toNatClampNeg t30) 0 0 281 [some (aA 20 (some 0)), some (aI p1), some (aI y5), some (aI t7), some (aI t11)] [aI t35] := by
                          cases E
                          exact v_reti C hr hlk dX13_change_281
                        refine v_icmp_ne C (tg := 278) (pc' := 272) dX13_change_269 (by decide) rfl (fun q34 => ?_) (fun q34 => ?_)
                        · rw [if_neg q34] at At35
                          refine v_sipush C (pc' := 281) dX13_change_278 (v := (250 : Int32)) (by decide) rfl ?_
                          cases At35
                          exact Kt35
                        · rw [if_pos q34] at At35
                          refine v_sipush C (pc' := 275) dX13_change_272 (v := (350 : Int32)) (by decide) rfl ?_
                          refine v_goto C (pc' := 281) dX13_change_275 (by decide) ?_
                          cases At35
                          exact Kt35
                      refine v_icmp_eq C (tg := 255) (pc' := 249) dX13_change_246 (by decide) rfl (fun q29 => ?_) (fun q29 => ?_)
                      · rw [if_pos q29] at At30
                        refine v_iconst C (pc' := 256) dX13_change_255 (v := (0 : Int32)) (by decide) rfl ?_
                        refine v_goto C (pc' := 265) dX13_change_256 (by decide) ?_
                        cases At30
                        exact Kt30
                      · rw [if_neg q29] at At30
                        refine v_iload_n C (pc' := 250) dX13_change_249 rfl rfl rfl ?_
                        refine v_bipush C (pc' := 252) dX13_change_250 (v := (10 : Int32)) (by decide) rfl ?_
                        refine v_icmp_ne C (tg := 259) (pc' := 255) dX13_change_252 (by decide) rfl (fun q31 => ?_) (fun q31 => ?_)
                        · rw [if_neg q31] at At30
                          refine v_aload_n C (pc' := 260) dX13_change_259 rfl rfl rfl ?_
                          refine v_getF C (pc' := 263) rfl fl_X13_7 rfl rfl (t2 := 21) rfl (j := 0) rfl u0_20 dX13_change_260 rfl ?_
                          refine v_iload_n C (pc' := 264) dX13_change_263 rfl rfl rfl ?_
                          obtain ⟨g32, At30⟩ := guardB_some At30
                          refine v_iald C (pc' := 265) (t := 21) rfl lv0_21 g32 dX13_change_264 rfl ?_
                          cases At30
                          exact Kt30
                        · rw [if_pos q31] at At30
                          refine v_iconst C (pc' := 256) dX13_change_255 (v := (0 : Int32)) (by decide) rfl ?_
                          refine v_goto C (pc' := 265) dX13_change_256 (by decide) ?_
                          cases At30
                          exact Kt30
                    refine v_icmp_ne C (tg := 234) (pc' := 230) dX13_change_227 (by decide) rfl (fun q27 => ?_) (fun q27 => ?_)
                    · rw [if_neg q27] at At28
                      refine v_iconst C (pc' := 235) dX13_change_234 (v := (-1 : Int32)) (by decide) rfl ?_
                      cases At28
                      exact Kt28
                    · rw [if_pos q27] at At28
                      refine v_iload_n C (pc' := 231) dX13_change_230 rfl rfl rfl ?_
                      refine v_goto C (pc' := 235) dX13_change_231 (by decide) ?_
                      cases At28
                      exact Kt28
                  refine v_icmp_ne C (tg := 216) (pc' := 212) dX13_change_209 (by decide) rfl (fun q25 => ?_) (fun q25 => ?_)
                  · rw [if_neg q25] at At26
                    refine v_aload_n C (pc' := 217) dX13_change_216 rfl rfl rfl ?_
                    refine v_getI C (pc' := 220) fl_X13_93 rfl (Or.inl rfl) lv0_20 dX13_change_217 rfl ?_
                    cases At26
                    exact Kt26
                  · rw [if_pos q25] at At26
                    refine v_iload_n C (pc' := 213) dX13_change_212 rfl rfl rfl ?_
                    refine v_goto C (pc' := 220) dX13_change_213 (by decide) ?_
                    cases At26
                    exact Kt26
                · rw [if_pos q24] at E
                  refine v_aload_n C (pc' := 200) dX13_change_199 rfl rfl rfl ?_
                  refine v_iload_n C (pc' := 201) dX13_change_200 rfl rfl rfl ?_
                  obtain ⟨y36, hy36, E⟩ := bind_some E
                  refine v_callV C (pc' := 204) (rest := []) (c_m_sizeTold l y5 h _ _ hy36) mv_X13_237 rfl rfl lv0_20 dX13_change_201 rfl rfl rfl ⟨Nat.le_of_ble_eq_true rfl, Nat.le_of_ble_eq_true rfl⟩ (Nat.le_of_ble_eq_true rfl) ⟨Nat.le_of_ble_eq_true rfl, Nat.le_of_ble_eq_true rfl⟩ ?_
                  refine V.st (st' := [aI y36.1]) rfl ?_
                  cases E
                  exact v_reti C hr hlk dX13_change_204
              · rw [if_pos q23] at E
                refine v_sipush C (pc' := 192) dX13_change_189 (v := (550 : Int32)) (by decide) rfl ?_
                cases E
                exact v_reti C hr hlk dX13_change_192
            refine v_icmp_ne C (tg := 101) (pc' := 97) dX13_change_94 (by decide) rfl (fun q10 => ?_) (fun q10 => ?_)
            · rw [if_neg q10] at At11
              refine v_iload_n C (pc' := 102) dX13_change_101 rfl rfl rfl ?_
              refine v_bipush C (pc' := 104) dX13_change_102 (v := (9 : Int32)) (by decide) rfl ?_
              refine v_icmp_ne C (tg := 143) (pc' := 107) dX13_change_104 (by decide) rfl (fun q12 => ?_) (fun q12 => ?_)
              · rw [if_neg q12] at At11
                refine v_iload_n C (pc' := 144) dX13_change_143 rfl rfl rfl ?_
                refine v_bipush C (pc' := 146) dX13_change_144 (v := (12 : Int32)) (by decide) rfl ?_
                refine v_icmp_ne C (tg := 169) (pc' := 149) dX13_change_146 (by decide) rfl (fun q13 => ?_) (fun q13 => ?_)
                · rw [if_neg q13] at At11
                  refine v_iload_n C (pc' := 170) dX13_change_169 rfl rfl rfl ?_
                  refine v_if_lt C (tg := 181) (pc' := 173) dX13_change_170 (by decide) rfl (fun q14 => ?_) (fun q14 => ?_)
                  · rw [if_pos q14] at At11
                    refine v_iconst C (pc' := 182) dX13_change_181 (v := (0 : Int32)) (by decide) rfl ?_
                    cases At11
                    exact Kt11
                  · rw [if_neg q14] at At11
                    refine v_iload_n C (pc' := 174) dX13_change_173 rfl rfl rfl ?_
                    refine v_if_ne C (tg := 181) (pc' := 177) dX13_change_174 (by decide) rfl (fun q15 => ?_) (fun q15 => ?_)
                    · rw [if_neg q15] at At11
                      refine v_iconst C (pc' := 182) dX13_change_181 (v := (0 : Int32)) (by decide) rfl ?_
                      cases At11
                      exact Kt11
                    · rw [if_pos q15] at At11
                      refine v_iconst C (pc' := 178) dX13_change_177 (v := (1 : Int32)) (by decide) rfl ?_
                      refine v_goto C (pc' := 182) dX13_change_178 (by decide) ?_
                      cases At11
                      exact Kt11
                · rw [if_pos q13] at At11
                  refine v_iload_n C (pc' := 150) dX13_change_149 rfl rfl rfl ?_
                  refine v_if_lt C (tg := 165) (pc' := 153) dX13_change_150 (by decide) rfl (fun q16 => ?_) (fun q16 => ?_)
                  · rw [if_pos q16] at At11
                    refine v_iconst C (pc' := 166) dX13_change_165 (v := (0 : Int32)) (by decide) rfl ?_
                    refine v_goto C (pc' := 182) dX13_change_166 (by decide) ?_
                    cases At11
                    exact Kt11
                  · rw [if_neg q16] at At11
                    refine v_iload_n C (pc' := 154) dX13_change_153 rfl rfl rfl ?_
                    refine v_aload_n C (pc' := 155) dX13_change_154 rfl rfl rfl ?_
                    refine v_getI C (pc' := 158) fl_X13_42 rfl (Or.inl rfl) lv0_20 dX13_change_155 rfl ?_
                    refine v_icmp_eq C (tg := 165) (pc' := 161) dX13_change_158 (by decide) rfl (fun q17 => ?_) (fun q17 => ?_)
                    · rw [if_pos q17] at At11
                      refine v_iconst C (pc' := 166) dX13_change_165 (v := (0 : Int32)) (by decide) rfl ?_
                      refine v_goto C (pc' := 182) dX13_change_166 (by decide) ?_
                      cases At11
                      exact Kt11
                    · rw [if_neg q17] at At11
                      refine v_iconst C (pc' := 162) dX13_change_161 (v := (1 : Int32)) (by decide) rfl ?_
                      refine v_goto C (pc' := 182) dX13_change_162 (by decide) ?_
                      cases At11
                      exact Kt11
              · rw [if_pos q12] at At11
                refine v_iload_n C (pc' := 108) dX13_change_107 rfl rfl rfl ?_
                refine v_if_eq C (tg := 139) (pc' := 111) dX13_change_108 (by decide) rfl (fun q18 => ?_) (fun q18 => ?_)
                · rw [if_pos q18] at At11
                  refine v_iconst C (pc' := 140) dX13_change_139 (v := (0 : Int32)) (by decide) rfl ?_
                  refine v_goto C (pc' := 182) dX13_change_140 (by decide) ?_
                  cases At11
                  exact Kt11
                · rw [if_neg q18] at At11
                  refine v_aload_n C (pc' := 112) dX13_change_111 rfl rfl rfl ?_
                  refine v_iload_n C (pc' := 113) dX13_change_112 rfl rfl rfl ?_
                  obtain ⟨y19, hy19, At11⟩ := bind_some At11
                  refine v_callV C (pc' := 116) (rest := []) (c_m_isEmpty l y5 h _ hy19) mv_X13_234 rfl rfl lv0_20 dX13_change_113 rfl rfl rfl ⟨Nat.le_of_ble_eq_true rfl, Nat.le_of_ble_eq_true rfl⟩ (Nat.le_of_ble_eq_true rfl) ⟨Nat.le_of_ble_eq_true rfl, Nat.le_of_ble_eq_true rfl⟩ ?_
                  refine V.st (st' := [aI y19]) rfl ?_
                  refine v_if_eq C (tg := 139) (pc' := 119) dX13_change_116 (by decide) rfl (fun q20 => ?_) (fun q20 => ?_)
                  · rw [if_pos q20] at At11
                    refine v_iconst C (pc' := 140) dX13_change_139 (v := (0 : Int32)) (by decide) rfl ?_
                    refine v_goto C (pc' := 182) dX13_change_140 (by decide) ?_
                    cases At11
                    exact Kt11
                  · rw [if_neg q20] at At11
                    refine v_iload_n C (pc' := 120) dX13_change_119 rfl rfl rfl ?_
                    refine v_aload_n C (pc' := 121) dX13_change_120 rfl rfl rfl ?_
                    refine v_getI C (pc' := 124) fl_X13_42 rfl (Or.inl rfl) lv0_20 dX13_change_121 rfl ?_
                    refine v_icmp_eq C (tg := 139) (pc' := 127) dX13_change_124 (by decide) rfl (fun q21 => ?_) (fun q21 => ?_)
                    · rw [if_pos q21] at At11
                      refine v_iconst C (pc' := 140) dX13_change_139 (v := (0 : Int32)) (by decide) rfl ?_
                      refine v_goto C (pc' := 182) dX13_change_140 (by decide) ?_
                      cases At11
                      exact Kt11
                    · rw [if_neg q21] at At11
                      refine v_iload_n C (pc' := 128) dX13_change_127 rfl rfl rfl ?_
                      refine v_aload_n C (pc' := 129) dX13_change_128 rfl rfl rfl ?_
                      refine v_getI C (pc' := 132) fl_X13_93 rfl (Or.inl rfl) lv0_20 dX13_change_129 rfl ?_
                      refine v_icmp_eq C (tg := 139) (pc' := 135) dX13_change_132 (by decide) rfl (fun q22 => ?_) (fun q22 => ?_)
                      · rw [if_pos q22] at At11
                        refine v_iconst C (pc' := 140) dX13_change_139 (v := (0 : Int32)) (by decide) rfl ?_
                        refine v_goto C (pc' := 182) dX13_change_140 (by decide) ?_
                        cases At11
                        exact Kt11
                      · rw [if_neg q22] at At11
                        refine v_iconst C (pc' := 136) dX13_change_135 (v := (1 : Int32)) (by decide) rfl ?_
                        refine v_goto C (pc' := 182) dX13_change_136 (by decide) ?_
                        cases At11
                        exact Kt11
            · rw [if_pos q10] at At11
              refine v_iload_n C (pc' := 98) dX13_change_97 rfl rfl rfl ?_
              refine v_goto C (pc' := 182) dX13_change_98 (by decide) ?_
              cases At11
              exact Kt11
          refine v_if_lt C (tg := 89) (pc' := 75) dX13_change_72 (by decide) rfl (fun q6 => ?_) (fun q6 => ?_)
          · rw [if_pos q6] at At7
            refine v_iconst C (pc' := 90) dX13_change_89 (v := (0 : Int32)) (by decide) rfl ?_
            cases At7
            exact Kt7
          · rw [if_neg q6] at At7
            refine v_aload_n C (pc' := 76) dX13_change_75 rfl rfl rfl ?_
            refine v_getF C (pc' := 79) rfl fl_X13_7 rfl rfl (t2 := 21) rfl (j := 0) rfl u0_20 dX13_change_76 rfl ?_
            refine v_iload_n C (pc' := 80) dX13_change_79 rfl rfl rfl ?_
            obtain ⟨g8, At7⟩ := guardB_some At7
            refine v_iald C (pc' := 81) (t := 21) rfl lv0_21 g8 dX13_change_80 rfl ?_
            refine v_iconst C (pc' := 82) dX13_change_81 (v := (1 : Int32)) (by decide) rfl ?_
            refine v_icmp_ne C (tg := 89) (pc' := 85) dX13_change_82 (by decide) rfl (fun q9 => ?_) (fun q9 => ?_)
            · rw [if_neg q9] at At7
              refine v_iconst C (pc' := 90) dX13_change_89 (v := (0 : Int32)) (by decide) rfl ?_
              cases At7
              exact Kt7
            · rw [if_pos q9] at At7
              refine v_iconst C (pc' := 86) dX13_change_85 (v := (1 : Int32)) (by decide) rfl ?_
              refine v_goto C (pc' := 90) dX13_change_86 (by decide) ?_
              cases At7
              exact Kt7
        · rw [if_pos q4] at E
          refine v_aload_n C (pc' := 58) dX13_change_57 rfl rfl rfl ?_
          obtain ⟨y37, hy37, E⟩ := bind_some E
          refine v_callV C (pc' := 61) (rest := []) (c_m_rename l h _ _ hy37) mv_X13_231 rfl rfl lv0_20 dX13_change_58 rfl rfl rfl ⟨Nat.le_of_ble_eq_true rfl, Nat.le_of_ble_eq_true rfl⟩ (Nat.le_of_ble_eq_true rfl) ⟨Nat.le_of_ble_eq_true rfl, Nat.le_of_ble_eq_true rfl⟩ ?_
          refine V.st (st' := [aI y37.1]) rfl ?_
          cases E
          exact v_reti C hr hlk dX13_change_61
      · rw [if_pos q3] at E
        refine v_aload_n C (pc' := 47) dX13_change_46 rfl rfl rfl ?_
        obtain ⟨y38, hy38, E⟩ := bind_some E
        refine v_callV C (pc' := 50) (rest := []) (c_m_makeDirectory l h _ _ hy38) mv_X13_228 rfl rfl lv0_20 dX13_change_47 rfl rfl rfl ⟨Nat.le_of_ble_eq_true rfl, Nat.le_of_ble_eq_true rfl⟩ (Nat.le_of_ble_eq_true rfl) ⟨Nat.le_of_ble_eq_true rfl, Nat.le_of_ble_eq_true rfl⟩ ?_
        refine V.st (st' := [aI y38.1]) rfl ?_
        cases E
        exact v_reti C hr hlk dX13_change_50
    · rw [if_pos q2] at E
      refine v_aload_n C (pc' := 24) dX13_change_23 rfl rfl rfl ?_
      refine v_aload_n C (pc' := 25) dX13_change_24 rfl rfl rfl ?_
      refine v_getF C (pc' := 28) rfl fl_X13_13 rfl rfl (t2 := 22) rfl (j := 0) rfl u0_20 dX13_change_25 rfl ?_
      refine v_aload_n C (pc' := 29) dX13_change_28 rfl rfl rfl ?_
      refine v_getI C (pc' := 32) fl_X13_93 rfl (Or.inl rfl) lv0_20 dX13_change_29 rfl ?_
      obtain ⟨g39, E⟩ := guardB_some E
      refine v_iald C (pc' := 33) (t := 22) rfl lv0_22 g39 dX13_change_32 rfl ?_
      refine v_putI C (pc' := 36) fp_X13_93 rfl rfl lv0_20 dX13_change_33 rfl ?_
      refine v_sipush C (pc' := 39) dX13_change_36 (v := (200 : Int32)) (by decide) rfl ?_
      cases E
      exact v_reti C hr hlk dX13_change_39
  · rw [if_pos q1] at E
    refine v_aload_n C (pc' := 6) dX13_change_5 rfl rfl rfl ?_
    refine v_aload_n C (pc' := 7) dX13_change_6 rfl rfl rfl ?_
    refine v_getI C (pc' := 10) fl_X13_93 rfl (Or.inl rfl) lv0_20 dX13_change_7 rfl ?_
    obtain ⟨y40, hy40, E⟩ := bind_some E
    refine v_callV C (pc' := 13) (rest := []) (c_m_writeWay l (gI h (20, 0) 17) h _ hy40) mv_X13_221 rfl rfl lv0_20 dX13_change_10 rfl rfl rfl ⟨Nat.le_of_ble_eq_true rfl, Nat.le_of_ble_eq_true rfl⟩ (Nat.le_of_ble_eq_true rfl) ⟨Nat.le_of_ble_eq_true rfl, Nat.le_of_ble_eq_true rfl⟩ ?_
    refine V.st (st' := []) rfl ?_
    refine v_sipush C (pc' := 16) dX13_change_13 (v := (257 : Int32)) (by decide) rfl ?_
    cases E
    exact v_reti C hr hlk dX13_change_16

def m_pack (p0 : Int32) (p1 : Int32) (p2 : Int32) (p3 : Int32) (h : Hp) : Option Int32 :=
  some ((((p0 <<< ((24 : Int32) &&& 31)) ||| (p1 <<< ((16 : Int32) &&& 31))) ||| (p2 <<< ((8 : Int32) &&& 31))) ||| p3)
set_option maxHeartbeats 2000000 in
set_option maxRecDepth 20000 in
theorem c_m_pack (l : Launch) (p0 : Int32) (p1 : Int32) (p2 : Int32) (p3 : Int32) (h : Hp) (r : Int32)  (E : m_pack p0 p1 p2 p3 h = some r) : Ctr l yX13_pack cX13_pack 4 (some .int) 0 0 0 0 true [aI p0, aI p1, aI p2, aI p3] h (some (aI r)) h := by
  rw [m_pack] at E
  refine Ctr.of (ls0 := [some (aI p0), some (aI p1), some (aI p2), some (aI p3)]) (by decide +kernel) (Nat.le_of_ble_eq_true rfl) rfl ?_
  intro G p e s m args below meth c C hr hlk hnm
  refine v_iload_n C (pc' := 1) dX13_pack_0 rfl rfl rfl ?_
  refine v_bipush C (pc' := 3) dX13_pack_1 (v := (24 : Int32)) (by decide) rfl ?_
  refine v_ishl C (pc' := 4) dX13_pack_3 rfl ?_
  refine v_iload_n C (pc' := 5) dX13_pack_4 rfl rfl rfl ?_
  refine v_bipush C (pc' := 7) dX13_pack_5 (v := (16 : Int32)) (by decide) rfl ?_
  refine v_ishl C (pc' := 8) dX13_pack_7 rfl ?_
  refine v_ior C (pc' := 9) dX13_pack_8 rfl ?_
  refine v_iload_n C (pc' := 10) dX13_pack_9 rfl rfl rfl ?_
  refine v_bipush C (pc' := 12) dX13_pack_10 (v := (8 : Int32)) (by decide) rfl ?_
  refine v_ishl C (pc' := 13) dX13_pack_12 rfl ?_
  refine v_ior C (pc' := 14) dX13_pack_13 rfl ?_
  refine v_iload_n C (pc' := 15) dX13_pack_14 rfl rfl rfl ?_
  refine v_ior C (pc' := 16) dX13_pack_15 rfl ?_
  cases E
  exact v_reti C hr hlk dX13_pack_16

def m_commandOf (p0 : Int32) (h : Hp) : Option Int32 :=
  (m_pack (85 : Int32) (83 : Int32) (69 : Int32) (82 : Int32) h).bind fun y1 =>
  (if p0 = y1 then
    some (1 : Int32)
  else
    (m_pack (80 : Int32) (65 : Int32) (83 : Int32) (83 : Int32) h).bind fun y4 =>
    if p0 = y4 then
      some (2 : Int32)
    else
      (m_pack (81 : Int32) (85 : Int32) (73 : Int32) (84 : Int32) h).bind fun y6 =>
      if p0 = y6 then
        some (3 : Int32)
      else
        (m_pack (78 : Int32) (79 : Int32) (79 : Int32) (80 : Int32) h).bind fun y8 =>
        if p0 = y8 then
          some (4 : Int32)
        else
          (m_pack (0 : Int32) (80 : Int32) (87 : Int32) (68 : Int32) h).bind fun y10 =>
          if p0 = y10 then
            some (5 : Int32)
          else
            (m_pack (0 : Int32) (67 : Int32) (87 : Int32) (68 : Int32) h).bind fun y12 =>
            if p0 = y12 then
              some (6 : Int32)
            else
              (m_pack (67 : Int32) (68 : Int32) (85 : Int32) (80 : Int32) h).bind fun y14 =>
              if p0 = y14 then
                some (7 : Int32)
              else
                some (0 : Int32)).bind fun t3 =>
  (m_pack (0 : Int32) (77 : Int32) (75 : Int32) (68 : Int32) h).bind fun y16 =>
  (if p0 = y16 then
    some (8 : Int32)
  else
    (m_pack (0 : Int32) (82 : Int32) (77 : Int32) (68 : Int32) h).bind fun y19 =>
    if p0 = y19 then
      some (9 : Int32)
    else
      (m_pack (68 : Int32) (69 : Int32) (76 : Int32) (69 : Int32) h).bind fun y21 =>
      if p0 = y21 then
        some (10 : Int32)
      else
        (m_pack (83 : Int32) (73 : Int32) (90 : Int32) (69 : Int32) h).bind fun y23 =>
        if p0 = y23 then
          some (11 : Int32)
        else
          (m_pack (82 : Int32) (78 : Int32) (70 : Int32) (82 : Int32) h).bind fun y25 =>
          if p0 = y25 then
            some (12 : Int32)
          else
            (m_pack (82 : Int32) (78 : Int32) (84 : Int32) (79 : Int32) h).bind fun y27 =>
            if p0 = y27 then
              some (13 : Int32)
            else
              (m_pack (84 : Int32) (89 : Int32) (80 : Int32) (69 : Int32) h).bind fun y29 =>
              if p0 = y29 then
                some (14 : Int32)
              else
                some (0 : Int32)).bind fun t18 =>
  (m_pack (82 : Int32) (69 : Int32) (83 : Int32) (84 : Int32) h).bind fun y31 =>
  (if p0 = y31 then
    some (15 : Int32)
  else
    (m_pack (80 : Int32) (65 : Int32) (83 : Int32) (86 : Int32) h).bind fun y34 =>
    if p0 = y34 then
      some (16 : Int32)
    else
      (m_pack (80 : Int32) (79 : Int32) (82 : Int32) (84 : Int32) h).bind fun y36 =>
      if p0 = y36 then
        some (17 : Int32)
      else
        (m_pack (65 : Int32) (66 : Int32) (79 : Int32) (82 : Int32) h).bind fun y38 =>
        if p0 = y38 then
          some (18 : Int32)
        else
          (m_pack (82 : Int32) (69 : Int32) (84 : Int32) (82 : Int32) h).bind fun y40 =>
          if p0 = y40 then
            some (19 : Int32)
          else
            (m_pack (83 : Int32) (84 : Int32) (79 : Int32) (82 : Int32) h).bind fun y42 =>
            if p0 = y42 then
              some (20 : Int32)
            else
              (m_pack (65 : Int32) (80 : Int32) (80 : Int32) (69 : Int32) h).bind fun y44 =>
              if p0 = y44 then
                some (21 : Int32)
              else
                (m_pack (78 : Int32) (76 : Int32) (83 : Int32) (84 : Int32) h).bind fun y46 =>
                if p0 = y46 then
                  some (22 : Int32)
                else
                  some (0 : Int32)).bind fun t33 =>
  some ((t3 + t18) + t33)
set_option maxHeartbeats 2000000 in
set_option maxRecDepth 20000 in
theorem c_m_commandOf (l : Launch) (p0 : Int32) (h : Hp) (r : Int32)  (E : m_commandOf p0 h = some r) : Ctr l yX13_commandOf cX13_commandOf 4 (some .int) 1 23 0 0 true [aI p0] h (some (aI r)) h := by
  rw [m_commandOf] at E
  refine Ctr.of (ls0 := [some (aI p0), none, none, none]) (by decide +kernel) (Nat.le_of_ble_eq_true rfl) rfl ?_
  intro G p e s m args below meth c C hr hlk hnm
  refine v_iload_n C (pc' := 1) dX13_commandOf_0 rfl rfl rfl ?_
  refine v_bipush C (pc' := 3) dX13_commandOf_1 (v := (85 : Int32)) (by decide) rfl ?_
  refine v_bipush C (pc' := 5) dX13_commandOf_3 (v := (83 : Int32)) (by decide) rfl ?_
  refine v_bipush C (pc' := 7) dX13_commandOf_5 (v := (69 : Int32)) (by decide) rfl ?_
  refine v_bipush C (pc' := 9) dX13_commandOf_7 (v := (82 : Int32)) (by decide) rfl ?_
  obtain ⟨y1, hy1, E⟩ := bind_some E
  refine v_callS C (pc' := 12) (rest := [aI p0]) (c_m_pack l (85 : Int32) (83 : Int32) (69 : Int32) (82 : Int32) h _ hy1) ms_X13_156 dX13_commandOf_9 rfl rfl rfl ⟨Nat.le_of_ble_eq_true rfl, Nat.le_of_ble_eq_true rfl⟩ (Nat.le_of_ble_eq_true rfl) ⟨Nat.le_of_ble_eq_true rfl, Nat.le_of_ble_eq_true rfl⟩ ?_
  refine V.st (st' := [aI y1, aI p0]) rfl ?_
  obtain ⟨t3, At3, E⟩ := bind_some E
  have Kt3 : V true G p l e { frames := 1, cells := 0, slots := 0, locals := 23 } s m args below meth c 4 (MQ below (QcA true G (some (aI r)) h) args s 0 0 (A_ G)) h 0 0 134 [some (aI p0), none, none, none] [aI t3] := by
    refine v_istore1 C (pc' := 135) dX13_commandOf_134 (by decide) rfl rfl ?_
    refine v_iload_n C (pc' := 136) dX13_commandOf_135 rfl rfl rfl ?_
    refine v_iconst C (pc' := 137) dX13_commandOf_136 (v := (0 : Int32)) (by decide) rfl ?_
    refine v_bipush C (pc' := 139) dX13_commandOf_137 (v := (77 : Int32)) (by decide) rfl ?_
    refine v_bipush C (pc' := 141) dX13_commandOf_139 (v := (75 : Int32)) (by decide) rfl ?_
    refine v_bipush C (pc' := 143) dX13_commandOf_141 (v := (68 : Int32)) (by decide) rfl ?_
    obtain ⟨y16, hy16, E⟩ := bind_some E
    refine v_callS C (pc' := 146) (rest := [aI p0]) (c_m_pack l (0 : Int32) (77 : Int32) (75 : Int32) (68 : Int32) h _ hy16) ms_X13_156 dX13_commandOf_143 rfl rfl rfl ⟨Nat.le_of_ble_eq_true rfl, Nat.le_of_ble_eq_true rfl⟩ (Nat.le_of_ble_eq_true rfl) ⟨Nat.le_of_ble_eq_true rfl, Nat.le_of_ble_eq_true rfl⟩ ?_
    refine V.st (st' := [aI y16, aI p0]) rfl ?_
    obtain ⟨t18, At18, E⟩ := bind_some E
    have Kt18 : V true G p l e { frames := 1, cells := 0, slots := 0, locals := 23 } s m args below meth c 4 (MQ below (QcA true G (some (aI r)) h) args s 0 0 (A_ G)) h 0 0 274 [some (aI p0), some (aI t3), none, none] [aI t18] := by
      refine v_istore2 C (pc' := 275) dX13_commandOf_274 (by decide) rfl rfl ?_
      refine v_iload_n C (pc' := 276) dX13_commandOf_275 rfl rfl rfl ?_
      refine v_bipush C (pc' := 278) dX13_commandOf_276 (v := (82 : Int32)) (by decide) rfl ?_
      refine v_bipush C (pc' := 280) dX13_commandOf_278 (v := (69 : Int32)) (by decide) rfl ?_
      refine v_bipush C (pc' := 282) dX13_commandOf_280 (v := (83 : Int32)) (by decide) rfl ?_
      refine v_bipush C (pc' := 284) dX13_commandOf_282 (v := (84 : Int32)) (by decide) rfl ?_
      obtain ⟨y31, hy31, E⟩ := bind_some E
      refine v_callS C (pc' := 287) (rest := [aI p0]) (c_m_pack l (82 : Int32) (69 : Int32) (83 : Int32) (84 : Int32) h _ hy31) ms_X13_156 dX13_commandOf_284 rfl rfl rfl ⟨Nat.le_of_ble_eq_true rfl, Nat.le_of_ble_eq_true rfl⟩ (Nat.le_of_ble_eq_true rfl) ⟨Nat.le_of_ble_eq_true rfl, Nat.le_of_ble_eq_true rfl⟩ ?_
      refine V.st (st' := [aI y31, aI p0]) rfl ?_
      obtain ⟨t33, At33, E⟩ := bind_some E
      have Kt33 : V true G p l e { frames := 1, cells := 0, slots := 0, locals := 23 } s m args below meth c 4 (MQ below (QcA true G (some (aI r)) h) args s 0 0 (A_ G)) h 0 0 436 [some (aI p0), some (aI t3), some (aI t18), none] [aI t33] := by
        refine v_istore3 C (pc' := 437) dX13_commandOf_436 (by decide) rfl rfl ?_
        refine v_iload_n C (pc' := 438) dX13_commandOf_437 rfl rfl rfl ?_
        refine v_iload_n C (pc' := 439) dX13_commandOf_438 rfl rfl rfl ?_
        refine v_iadd C (pc' := 440) dX13_commandOf_439 rfl ?_
        refine v_iload_n C (pc' := 441) dX13_commandOf_440 rfl rfl rfl ?_
        refine v_iadd C (pc' := 442) dX13_commandOf_441 rfl ?_
        cases E
        exact v_reti C hr hlk dX13_commandOf_442
      refine v_icmp_ne C (tg := 295) (pc' := 290) dX13_commandOf_287 (by decide) rfl (fun q32 => ?_) (fun q32 => ?_)
      · rw [if_neg q32] at At33
        refine v_iload_n C (pc' := 296) dX13_commandOf_295 rfl rfl rfl ?_
        refine v_bipush C (pc' := 298) dX13_commandOf_296 (v := (80 : Int32)) (by decide) rfl ?_
        refine v_bipush C (pc' := 300) dX13_commandOf_298 (v := (65 : Int32)) (by decide) rfl ?_
        refine v_bipush C (pc' := 302) dX13_commandOf_300 (v := (83 : Int32)) (by decide) rfl ?_
        refine v_bipush C (pc' := 304) dX13_commandOf_302 (v := (86 : Int32)) (by decide) rfl ?_
        obtain ⟨y34, hy34, At33⟩ := bind_some At33
        refine v_callS C (pc' := 307) (rest := [aI p0]) (c_m_pack l (80 : Int32) (65 : Int32) (83 : Int32) (86 : Int32) h _ hy34) ms_X13_156 dX13_commandOf_304 rfl rfl rfl ⟨Nat.le_of_ble_eq_true rfl, Nat.le_of_ble_eq_true rfl⟩ (Nat.le_of_ble_eq_true rfl) ⟨Nat.le_of_ble_eq_true rfl, Nat.le_of_ble_eq_true rfl⟩ ?_
        refine V.st (st' := [aI y34, aI p0]) rfl ?_
        refine v_icmp_ne C (tg := 315) (pc' := 310) dX13_commandOf_307 (by decide) rfl (fun q35 => ?_) (fun q35 => ?_)
        · rw [if_neg q35] at At33
          refine v_iload_n C (pc' := 316) dX13_commandOf_315 rfl rfl rfl ?_
          refine v_bipush C (pc' := 318) dX13_commandOf_316 (v := (80 : Int32)) (by decide) rfl ?_
          refine v_bipush C (pc' := 320) dX13_commandOf_318 (v := (79 : Int32)) (by decide) rfl ?_
          refine v_bipush C (pc' := 322) dX13_commandOf_320 (v := (82 : Int32)) (by decide) rfl ?_
          refine v_bipush C (pc' := 324) dX13_commandOf_322 (v := (84 : Int32)) (by decide) rfl ?_
          obtain ⟨y36, hy36, At33⟩ := bind_some At33
          refine v_callS C (pc' := 327) (rest := [aI p0]) (c_m_pack l (80 : Int32) (79 : Int32) (82 : Int32) (84 : Int32) h _ hy36) ms_X13_156 dX13_commandOf_324 rfl rfl rfl ⟨Nat.le_of_ble_eq_true rfl, Nat.le_of_ble_eq_true rfl⟩ (Nat.le_of_ble_eq_true rfl) ⟨Nat.le_of_ble_eq_true rfl, Nat.le_of_ble_eq_true rfl⟩ ?_
          refine V.st (st' := [aI y36, aI p0]) rfl ?_
          refine v_icmp_ne C (tg := 335) (pc' := 330) dX13_commandOf_327 (by decide) rfl (fun q37 => ?_) (fun q37 => ?_)
          · rw [if_neg q37] at At33
            refine v_iload_n C (pc' := 336) dX13_commandOf_335 rfl rfl rfl ?_
            refine v_bipush C (pc' := 338) dX13_commandOf_336 (v := (65 : Int32)) (by decide) rfl ?_
            refine v_bipush C (pc' := 340) dX13_commandOf_338 (v := (66 : Int32)) (by decide) rfl ?_
            refine v_bipush C (pc' := 342) dX13_commandOf_340 (v := (79 : Int32)) (by decide) rfl ?_
            refine v_bipush C (pc' := 344) dX13_commandOf_342 (v := (82 : Int32)) (by decide) rfl ?_
            obtain ⟨y38, hy38, At33⟩ := bind_some At33
            refine v_callS C (pc' := 347) (rest := [aI p0]) (c_m_pack l (65 : Int32) (66 : Int32) (79 : Int32) (82 : Int32) h _ hy38) ms_X13_156 dX13_commandOf_344 rfl rfl rfl ⟨Nat.le_of_ble_eq_true rfl, Nat.le_of_ble_eq_true rfl⟩ (Nat.le_of_ble_eq_true rfl) ⟨Nat.le_of_ble_eq_true rfl, Nat.le_of_ble_eq_true rfl⟩ ?_
            refine V.st (st' := [aI y38, aI p0]) rfl ?_
            refine v_icmp_ne C (tg := 355) (pc' := 350) dX13_commandOf_347 (by decide) rfl (fun q39 => ?_) (fun q39 => ?_)
            · rw [if_neg q39] at At33
              refine v_iload_n C (pc' := 356) dX13_commandOf_355 rfl rfl rfl ?_
              refine v_bipush C (pc' := 358) dX13_commandOf_356 (v := (82 : Int32)) (by decide) rfl ?_
              refine v_bipush C (pc' := 360) dX13_commandOf_358 (v := (69 : Int32)) (by decide) rfl ?_
              refine v_bipush C (pc' := 362) dX13_commandOf_360 (v := (84 : Int32)) (by decide) rfl ?_
              refine v_bipush C (pc' := 364) dX13_commandOf_362 (v := (82 : Int32)) (by decide) rfl ?_
              obtain ⟨y40, hy40, At33⟩ := bind_some At33
              refine v_callS C (pc' := 367) (rest := [aI p0]) (c_m_pack l (82 : Int32) (69 : Int32) (84 : Int32) (82 : Int32) h _ hy40) ms_X13_156 dX13_commandOf_364 rfl rfl rfl ⟨Nat.le_of_ble_eq_true rfl, Nat.le_of_ble_eq_true rfl⟩ (Nat.le_of_ble_eq_true rfl) ⟨Nat.le_of_ble_eq_true rfl, Nat.le_of_ble_eq_true rfl⟩ ?_
              refine V.st (st' := [aI y40, aI p0]) rfl ?_
              refine v_icmp_ne C (tg := 375) (pc' := 370) dX13_commandOf_367 (by decide) rfl (fun q41 => ?_) (fun q41 => ?_)
              · rw [if_neg q41] at At33
                refine v_iload_n C (pc' := 376) dX13_commandOf_375 rfl rfl rfl ?_
                refine v_bipush C (pc' := 378) dX13_commandOf_376 (v := (83 : Int32)) (by decide) rfl ?_
                refine v_bipush C (pc' := 380) dX13_commandOf_378 (v := (84 : Int32)) (by decide) rfl ?_
                refine v_bipush C (pc' := 382) dX13_commandOf_380 (v := (79 : Int32)) (by decide) rfl ?_
                refine v_bipush C (pc' := 384) dX13_commandOf_382 (v := (82 : Int32)) (by decide) rfl ?_
                obtain ⟨y42, hy42, At33⟩ := bind_some At33
                refine v_callS C (pc' := 387) (rest := [aI p0]) (c_m_pack l (83 : Int32) (84 : Int32) (79 : Int32) (82 : Int32) h _ hy42) ms_X13_156 dX13_commandOf_384 rfl rfl rfl ⟨Nat.le_of_ble_eq_true rfl, Nat.le_of_ble_eq_true rfl⟩ (Nat.le_of_ble_eq_true rfl) ⟨Nat.le_of_ble_eq_true rfl, Nat.le_of_ble_eq_true rfl⟩ ?_
                refine V.st (st' := [aI y42, aI p0]) rfl ?_
                refine v_icmp_ne C (tg := 395) (pc' := 390) dX13_commandOf_387 (by decide) rfl (fun q43 => ?_) (fun q43 => ?_)
                · rw [if_neg q43] at At33
                  refine v_iload_n C (pc' := 396) dX13_commandOf_395 rfl rfl rfl ?_
                  refine v_bipush C (pc' := 398) dX13_commandOf_396 (v := (65 : Int32)) (by decide) rfl ?_
                  refine v_bipush C (pc' := 400) dX13_commandOf_398 (v := (80 : Int32)) (by decide) rfl ?_
                  refine v_bipush C (pc' := 402) dX13_commandOf_400 (v := (80 : Int32)) (by decide) rfl ?_
                  refine v_bipush C (pc' := 404) dX13_commandOf_402 (v := (69 : Int32)) (by decide) rfl ?_
                  obtain ⟨y44, hy44, At33⟩ := bind_some At33
                  refine v_callS C (pc' := 407) (rest := [aI p0]) (c_m_pack l (65 : Int32) (80 : Int32) (80 : Int32) (69 : Int32) h _ hy44) ms_X13_156 dX13_commandOf_404 rfl rfl rfl ⟨Nat.le_of_ble_eq_true rfl, Nat.le_of_ble_eq_true rfl⟩ (Nat.le_of_ble_eq_true rfl) ⟨Nat.le_of_ble_eq_true rfl, Nat.le_of_ble_eq_true rfl⟩ ?_
                  refine V.st (st' := [aI y44, aI p0]) rfl ?_
                  refine v_icmp_ne C (tg := 415) (pc' := 410) dX13_commandOf_407 (by decide) rfl (fun q45 => ?_) (fun q45 => ?_)
                  · rw [if_neg q45] at At33
                    refine v_iload_n C (pc' := 416) dX13_commandOf_415 rfl rfl rfl ?_
                    refine v_bipush C (pc' := 418) dX13_commandOf_416 (v := (78 : Int32)) (by decide) rfl ?_
                    refine v_bipush C (pc' := 420) dX13_commandOf_418 (v := (76 : Int32)) (by decide) rfl ?_
                    refine v_bipush C (pc' := 422) dX13_commandOf_420 (v := (83 : Int32)) (by decide) rfl ?_
                    refine v_bipush C (pc' := 424) dX13_commandOf_422 (v := (84 : Int32)) (by decide) rfl ?_
                    obtain ⟨y46, hy46, At33⟩ := bind_some At33
                    refine v_callS C (pc' := 427) (rest := [aI p0]) (c_m_pack l (78 : Int32) (76 : Int32) (83 : Int32) (84 : Int32) h _ hy46) ms_X13_156 dX13_commandOf_424 rfl rfl rfl ⟨Nat.le_of_ble_eq_true rfl, Nat.le_of_ble_eq_true rfl⟩ (Nat.le_of_ble_eq_true rfl) ⟨Nat.le_of_ble_eq_true rfl, Nat.le_of_ble_eq_true rfl⟩ ?_
                    refine V.st (st' := [aI y46, aI p0]) rfl ?_
                    refine v_icmp_ne C (tg := 435) (pc' := 430) dX13_commandOf_427 (by decide) rfl (fun q47 => ?_) (fun q47 => ?_)
                    · rw [if_neg q47] at At33
                      refine v_iconst C (pc' := 436) dX13_commandOf_435 (v := (0 : Int32)) (by decide) rfl ?_
                      cases At33
                      exact Kt33
                    · rw [if_pos q47] at At33
                      refine v_bipush C (pc' := 432) dX13_commandOf_430 (v := (22 : Int32)) (by decide) rfl ?_
                      refine v_goto C (pc' := 436) dX13_commandOf_432 (by decide) ?_
                      cases At33
                      exact Kt33
                  · rw [if_pos q45] at At33
                    refine v_bipush C (pc' := 412) dX13_commandOf_410 (v := (21 : Int32)) (by decide) rfl ?_
                    refine v_goto C (pc' := 436) dX13_commandOf_412 (by decide) ?_
                    cases At33
                    exact Kt33
                · rw [if_pos q43] at At33
                  refine v_bipush C (pc' := 392) dX13_commandOf_390 (v := (20 : Int32)) (by decide) rfl ?_
                  refine v_goto C (pc' := 436) dX13_commandOf_392 (by decide) ?_
                  cases At33
                  exact Kt33
              · rw [if_pos q41] at At33
                refine v_bipush C (pc' := 372) dX13_commandOf_370 (v := (19 : Int32)) (by decide) rfl ?_
                refine v_goto C (pc' := 436) dX13_commandOf_372 (by decide) ?_
                cases At33
                exact Kt33
            · rw [if_pos q39] at At33
              refine v_bipush C (pc' := 352) dX13_commandOf_350 (v := (18 : Int32)) (by decide) rfl ?_
              refine v_goto C (pc' := 436) dX13_commandOf_352 (by decide) ?_
              cases At33
              exact Kt33
          · rw [if_pos q37] at At33
            refine v_bipush C (pc' := 332) dX13_commandOf_330 (v := (17 : Int32)) (by decide) rfl ?_
            refine v_goto C (pc' := 436) dX13_commandOf_332 (by decide) ?_
            cases At33
            exact Kt33
        · rw [if_pos q35] at At33
          refine v_bipush C (pc' := 312) dX13_commandOf_310 (v := (16 : Int32)) (by decide) rfl ?_
          refine v_goto C (pc' := 436) dX13_commandOf_312 (by decide) ?_
          cases At33
          exact Kt33
      · rw [if_pos q32] at At33
        refine v_bipush C (pc' := 292) dX13_commandOf_290 (v := (15 : Int32)) (by decide) rfl ?_
        refine v_goto C (pc' := 436) dX13_commandOf_292 (by decide) ?_
        cases At33
        exact Kt33
    refine v_icmp_ne C (tg := 154) (pc' := 149) dX13_commandOf_146 (by decide) rfl (fun q17 => ?_) (fun q17 => ?_)
    · rw [if_neg q17] at At18
      refine v_iload_n C (pc' := 155) dX13_commandOf_154 rfl rfl rfl ?_
      refine v_iconst C (pc' := 156) dX13_commandOf_155 (v := (0 : Int32)) (by decide) rfl ?_
      refine v_bipush C (pc' := 158) dX13_commandOf_156 (v := (82 : Int32)) (by decide) rfl ?_
      refine v_bipush C (pc' := 160) dX13_commandOf_158 (v := (77 : Int32)) (by decide) rfl ?_
      refine v_bipush C (pc' := 162) dX13_commandOf_160 (v := (68 : Int32)) (by decide) rfl ?_
      obtain ⟨y19, hy19, At18⟩ := bind_some At18
      refine v_callS C (pc' := 165) (rest := [aI p0]) (c_m_pack l (0 : Int32) (82 : Int32) (77 : Int32) (68 : Int32) h _ hy19) ms_X13_156 dX13_commandOf_162 rfl rfl rfl ⟨Nat.le_of_ble_eq_true rfl, Nat.le_of_ble_eq_true rfl⟩ (Nat.le_of_ble_eq_true rfl) ⟨Nat.le_of_ble_eq_true rfl, Nat.le_of_ble_eq_true rfl⟩ ?_
      refine V.st (st' := [aI y19, aI p0]) rfl ?_
      refine v_icmp_ne C (tg := 173) (pc' := 168) dX13_commandOf_165 (by decide) rfl (fun q20 => ?_) (fun q20 => ?_)
      · rw [if_neg q20] at At18
        refine v_iload_n C (pc' := 174) dX13_commandOf_173 rfl rfl rfl ?_
        refine v_bipush C (pc' := 176) dX13_commandOf_174 (v := (68 : Int32)) (by decide) rfl ?_
        refine v_bipush C (pc' := 178) dX13_commandOf_176 (v := (69 : Int32)) (by decide) rfl ?_
        refine v_bipush C (pc' := 180) dX13_commandOf_178 (v := (76 : Int32)) (by decide) rfl ?_
        refine v_bipush C (pc' := 182) dX13_commandOf_180 (v := (69 : Int32)) (by decide) rfl ?_
        obtain ⟨y21, hy21, At18⟩ := bind_some At18
        refine v_callS C (pc' := 185) (rest := [aI p0]) (c_m_pack l (68 : Int32) (69 : Int32) (76 : Int32) (69 : Int32) h _ hy21) ms_X13_156 dX13_commandOf_182 rfl rfl rfl ⟨Nat.le_of_ble_eq_true rfl, Nat.le_of_ble_eq_true rfl⟩ (Nat.le_of_ble_eq_true rfl) ⟨Nat.le_of_ble_eq_true rfl, Nat.le_of_ble_eq_true rfl⟩ ?_
        refine V.st (st' := [aI y21, aI p0]) rfl ?_
        refine v_icmp_ne C (tg := 193) (pc' := 188) dX13_commandOf_185 (by decide) rfl (fun q22 => ?_) (fun q22 => ?_)
        · rw [if_neg q22] at At18
          refine v_iload_n C (pc' := 194) dX13_commandOf_193 rfl rfl rfl ?_
          refine v_bipush C (pc' := 196) dX13_commandOf_194 (v := (83 : Int32)) (by decide) rfl ?_
          refine v_bipush C (pc' := 198) dX13_commandOf_196 (v := (73 : Int32)) (by decide) rfl ?_
          refine v_bipush C (pc' := 200) dX13_commandOf_198 (v := (90 : Int32)) (by decide) rfl ?_
          refine v_bipush C (pc' := 202) dX13_commandOf_200 (v := (69 : Int32)) (by decide) rfl ?_
          obtain ⟨y23, hy23, At18⟩ := bind_some At18
          refine v_callS C (pc' := 205) (rest := [aI p0]) (c_m_pack l (83 : Int32) (73 : Int32) (90 : Int32) (69 : Int32) h _ hy23) ms_X13_156 dX13_commandOf_202 rfl rfl rfl ⟨Nat.le_of_ble_eq_true rfl, Nat.le_of_ble_eq_true rfl⟩ (Nat.le_of_ble_eq_true rfl) ⟨Nat.le_of_ble_eq_true rfl, Nat.le_of_ble_eq_true rfl⟩ ?_
          refine V.st (st' := [aI y23, aI p0]) rfl ?_
          refine v_icmp_ne C (tg := 213) (pc' := 208) dX13_commandOf_205 (by decide) rfl (fun q24 => ?_) (fun q24 => ?_)
          · rw [if_neg q24] at At18
            refine v_iload_n C (pc' := 214) dX13_commandOf_213 rfl rfl rfl ?_
            refine v_bipush C (pc' := 216) dX13_commandOf_214 (v := (82 : Int32)) (by decide) rfl ?_
            refine v_bipush C (pc' := 218) dX13_commandOf_216 (v := (78 : Int32)) (by decide) rfl ?_
            refine v_bipush C (pc' := 220) dX13_commandOf_218 (v := (70 : Int32)) (by decide) rfl ?_
            refine v_bipush C (pc' := 222) dX13_commandOf_220 (v := (82 : Int32)) (by decide) rfl ?_
            obtain ⟨y25, hy25, At18⟩ := bind_some At18
            refine v_callS C (pc' := 225) (rest := [aI p0]) (c_m_pack l (82 : Int32) (78 : Int32) (70 : Int32) (82 : Int32) h _ hy25) ms_X13_156 dX13_commandOf_222 rfl rfl rfl ⟨Nat.le_of_ble_eq_true rfl, Nat.le_of_ble_eq_true rfl⟩ (Nat.le_of_ble_eq_true rfl) ⟨Nat.le_of_ble_eq_true rfl, Nat.le_of_ble_eq_true rfl⟩ ?_
            refine V.st (st' := [aI y25, aI p0]) rfl ?_
            refine v_icmp_ne C (tg := 233) (pc' := 228) dX13_commandOf_225 (by decide) rfl (fun q26 => ?_) (fun q26 => ?_)
            · rw [if_neg q26] at At18
              refine v_iload_n C (pc' := 234) dX13_commandOf_233 rfl rfl rfl ?_
              refine v_bipush C (pc' := 236) dX13_commandOf_234 (v := (82 : Int32)) (by decide) rfl ?_
              refine v_bipush C (pc' := 238) dX13_commandOf_236 (v := (78 : Int32)) (by decide) rfl ?_
              refine v_bipush C (pc' := 240) dX13_commandOf_238 (v := (84 : Int32)) (by decide) rfl ?_
              refine v_bipush C (pc' := 242) dX13_commandOf_240 (v := (79 : Int32)) (by decide) rfl ?_
              obtain ⟨y27, hy27, At18⟩ := bind_some At18
              refine v_callS C (pc' := 245) (rest := [aI p0]) (c_m_pack l (82 : Int32) (78 : Int32) (84 : Int32) (79 : Int32) h _ hy27) ms_X13_156 dX13_commandOf_242 rfl rfl rfl ⟨Nat.le_of_ble_eq_true rfl, Nat.le_of_ble_eq_true rfl⟩ (Nat.le_of_ble_eq_true rfl) ⟨Nat.le_of_ble_eq_true rfl, Nat.le_of_ble_eq_true rfl⟩ ?_
              refine V.st (st' := [aI y27, aI p0]) rfl ?_
              refine v_icmp_ne C (tg := 253) (pc' := 248) dX13_commandOf_245 (by decide) rfl (fun q28 => ?_) (fun q28 => ?_)
              · rw [if_neg q28] at At18
                refine v_iload_n C (pc' := 254) dX13_commandOf_253 rfl rfl rfl ?_
                refine v_bipush C (pc' := 256) dX13_commandOf_254 (v := (84 : Int32)) (by decide) rfl ?_
                refine v_bipush C (pc' := 258) dX13_commandOf_256 (v := (89 : Int32)) (by decide) rfl ?_
                refine v_bipush C (pc' := 260) dX13_commandOf_258 (v := (80 : Int32)) (by decide) rfl ?_
                refine v_bipush C (pc' := 262) dX13_commandOf_260 (v := (69 : Int32)) (by decide) rfl ?_
                obtain ⟨y29, hy29, At18⟩ := bind_some At18
                refine v_callS C (pc' := 265) (rest := [aI p0]) (c_m_pack l (84 : Int32) (89 : Int32) (80 : Int32) (69 : Int32) h _ hy29) ms_X13_156 dX13_commandOf_262 rfl rfl rfl ⟨Nat.le_of_ble_eq_true rfl, Nat.le_of_ble_eq_true rfl⟩ (Nat.le_of_ble_eq_true rfl) ⟨Nat.le_of_ble_eq_true rfl, Nat.le_of_ble_eq_true rfl⟩ ?_
                refine V.st (st' := [aI y29, aI p0]) rfl ?_
                refine v_icmp_ne C (tg := 273) (pc' := 268) dX13_commandOf_265 (by decide) rfl (fun q30 => ?_) (fun q30 => ?_)
                · rw [if_neg q30] at At18
                  refine v_iconst C (pc' := 274) dX13_commandOf_273 (v := (0 : Int32)) (by decide) rfl ?_
                  cases At18
                  exact Kt18
                · rw [if_pos q30] at At18
                  refine v_bipush C (pc' := 270) dX13_commandOf_268 (v := (14 : Int32)) (by decide) rfl ?_
                  refine v_goto C (pc' := 274) dX13_commandOf_270 (by decide) ?_
                  cases At18
                  exact Kt18
              · rw [if_pos q28] at At18
                refine v_bipush C (pc' := 250) dX13_commandOf_248 (v := (13 : Int32)) (by decide) rfl ?_
                refine v_goto C (pc' := 274) dX13_commandOf_250 (by decide) ?_
                cases At18
                exact Kt18
            · rw [if_pos q26] at At18
              refine v_bipush C (pc' := 230) dX13_commandOf_228 (v := (12 : Int32)) (by decide) rfl ?_
              refine v_goto C (pc' := 274) dX13_commandOf_230 (by decide) ?_
              cases At18
              exact Kt18
          · rw [if_pos q24] at At18
            refine v_bipush C (pc' := 210) dX13_commandOf_208 (v := (11 : Int32)) (by decide) rfl ?_
            refine v_goto C (pc' := 274) dX13_commandOf_210 (by decide) ?_
            cases At18
            exact Kt18
        · rw [if_pos q22] at At18
          refine v_bipush C (pc' := 190) dX13_commandOf_188 (v := (10 : Int32)) (by decide) rfl ?_
          refine v_goto C (pc' := 274) dX13_commandOf_190 (by decide) ?_
          cases At18
          exact Kt18
      · rw [if_pos q20] at At18
        refine v_bipush C (pc' := 170) dX13_commandOf_168 (v := (9 : Int32)) (by decide) rfl ?_
        refine v_goto C (pc' := 274) dX13_commandOf_170 (by decide) ?_
        cases At18
        exact Kt18
    · rw [if_pos q17] at At18
      refine v_bipush C (pc' := 151) dX13_commandOf_149 (v := (8 : Int32)) (by decide) rfl ?_
      refine v_goto C (pc' := 274) dX13_commandOf_151 (by decide) ?_
      cases At18
      exact Kt18
  refine v_icmp_ne C (tg := 19) (pc' := 15) dX13_commandOf_12 (by decide) rfl (fun q2 => ?_) (fun q2 => ?_)
  · rw [if_neg q2] at At3
    refine v_iload_n C (pc' := 20) dX13_commandOf_19 rfl rfl rfl ?_
    refine v_bipush C (pc' := 22) dX13_commandOf_20 (v := (80 : Int32)) (by decide) rfl ?_
    refine v_bipush C (pc' := 24) dX13_commandOf_22 (v := (65 : Int32)) (by decide) rfl ?_
    refine v_bipush C (pc' := 26) dX13_commandOf_24 (v := (83 : Int32)) (by decide) rfl ?_
    refine v_bipush C (pc' := 28) dX13_commandOf_26 (v := (83 : Int32)) (by decide) rfl ?_
    obtain ⟨y4, hy4, At3⟩ := bind_some At3
    refine v_callS C (pc' := 31) (rest := [aI p0]) (c_m_pack l (80 : Int32) (65 : Int32) (83 : Int32) (83 : Int32) h _ hy4) ms_X13_156 dX13_commandOf_28 rfl rfl rfl ⟨Nat.le_of_ble_eq_true rfl, Nat.le_of_ble_eq_true rfl⟩ (Nat.le_of_ble_eq_true rfl) ⟨Nat.le_of_ble_eq_true rfl, Nat.le_of_ble_eq_true rfl⟩ ?_
    refine V.st (st' := [aI y4, aI p0]) rfl ?_
    refine v_icmp_ne C (tg := 38) (pc' := 34) dX13_commandOf_31 (by decide) rfl (fun q5 => ?_) (fun q5 => ?_)
    · rw [if_neg q5] at At3
      refine v_iload_n C (pc' := 39) dX13_commandOf_38 rfl rfl rfl ?_
      refine v_bipush C (pc' := 41) dX13_commandOf_39 (v := (81 : Int32)) (by decide) rfl ?_
      refine v_bipush C (pc' := 43) dX13_commandOf_41 (v := (85 : Int32)) (by decide) rfl ?_
      refine v_bipush C (pc' := 45) dX13_commandOf_43 (v := (73 : Int32)) (by decide) rfl ?_
      refine v_bipush C (pc' := 47) dX13_commandOf_45 (v := (84 : Int32)) (by decide) rfl ?_
      obtain ⟨y6, hy6, At3⟩ := bind_some At3
      refine v_callS C (pc' := 50) (rest := [aI p0]) (c_m_pack l (81 : Int32) (85 : Int32) (73 : Int32) (84 : Int32) h _ hy6) ms_X13_156 dX13_commandOf_47 rfl rfl rfl ⟨Nat.le_of_ble_eq_true rfl, Nat.le_of_ble_eq_true rfl⟩ (Nat.le_of_ble_eq_true rfl) ⟨Nat.le_of_ble_eq_true rfl, Nat.le_of_ble_eq_true rfl⟩ ?_
      refine V.st (st' := [aI y6, aI p0]) rfl ?_
      refine v_icmp_ne C (tg := 57) (pc' := 53) dX13_commandOf_50 (by decide) rfl (fun q7 => ?_) (fun q7 => ?_)
      · rw [if_neg q7] at At3
        refine v_iload_n C (pc' := 58) dX13_commandOf_57 rfl rfl rfl ?_
        refine v_bipush C (pc' := 60) dX13_commandOf_58 (v := (78 : Int32)) (by decide) rfl ?_
        refine v_bipush C (pc' := 62) dX13_commandOf_60 (v := (79 : Int32)) (by decide) rfl ?_
        refine v_bipush C (pc' := 64) dX13_commandOf_62 (v := (79 : Int32)) (by decide) rfl ?_
        refine v_bipush C (pc' := 66) dX13_commandOf_64 (v := (80 : Int32)) (by decide) rfl ?_
        obtain ⟨y8, hy8, At3⟩ := bind_some At3
        refine v_callS C (pc' := 69) (rest := [aI p0]) (c_m_pack l (78 : Int32) (79 : Int32) (79 : Int32) (80 : Int32) h _ hy8) ms_X13_156 dX13_commandOf_66 rfl rfl rfl ⟨Nat.le_of_ble_eq_true rfl, Nat.le_of_ble_eq_true rfl⟩ (Nat.le_of_ble_eq_true rfl) ⟨Nat.le_of_ble_eq_true rfl, Nat.le_of_ble_eq_true rfl⟩ ?_
        refine V.st (st' := [aI y8, aI p0]) rfl ?_
        refine v_icmp_ne C (tg := 76) (pc' := 72) dX13_commandOf_69 (by decide) rfl (fun q9 => ?_) (fun q9 => ?_)
        · rw [if_neg q9] at At3
          refine v_iload_n C (pc' := 77) dX13_commandOf_76 rfl rfl rfl ?_
          refine v_iconst C (pc' := 78) dX13_commandOf_77 (v := (0 : Int32)) (by decide) rfl ?_
          refine v_bipush C (pc' := 80) dX13_commandOf_78 (v := (80 : Int32)) (by decide) rfl ?_
          refine v_bipush C (pc' := 82) dX13_commandOf_80 (v := (87 : Int32)) (by decide) rfl ?_
          refine v_bipush C (pc' := 84) dX13_commandOf_82 (v := (68 : Int32)) (by decide) rfl ?_
          obtain ⟨y10, hy10, At3⟩ := bind_some At3
          refine v_callS C (pc' := 87) (rest := [aI p0]) (c_m_pack l (0 : Int32) (80 : Int32) (87 : Int32) (68 : Int32) h _ hy10) ms_X13_156 dX13_commandOf_84 rfl rfl rfl ⟨Nat.le_of_ble_eq_true rfl, Nat.le_of_ble_eq_true rfl⟩ (Nat.le_of_ble_eq_true rfl) ⟨Nat.le_of_ble_eq_true rfl, Nat.le_of_ble_eq_true rfl⟩ ?_
          refine V.st (st' := [aI y10, aI p0]) rfl ?_
          refine v_icmp_ne C (tg := 94) (pc' := 90) dX13_commandOf_87 (by decide) rfl (fun q11 => ?_) (fun q11 => ?_)
          · rw [if_neg q11] at At3
            refine v_iload_n C (pc' := 95) dX13_commandOf_94 rfl rfl rfl ?_
            refine v_iconst C (pc' := 96) dX13_commandOf_95 (v := (0 : Int32)) (by decide) rfl ?_
            refine v_bipush C (pc' := 98) dX13_commandOf_96 (v := (67 : Int32)) (by decide) rfl ?_
            refine v_bipush C (pc' := 100) dX13_commandOf_98 (v := (87 : Int32)) (by decide) rfl ?_
            refine v_bipush C (pc' := 102) dX13_commandOf_100 (v := (68 : Int32)) (by decide) rfl ?_
            obtain ⟨y12, hy12, At3⟩ := bind_some At3
            refine v_callS C (pc' := 105) (rest := [aI p0]) (c_m_pack l (0 : Int32) (67 : Int32) (87 : Int32) (68 : Int32) h _ hy12) ms_X13_156 dX13_commandOf_102 rfl rfl rfl ⟨Nat.le_of_ble_eq_true rfl, Nat.le_of_ble_eq_true rfl⟩ (Nat.le_of_ble_eq_true rfl) ⟨Nat.le_of_ble_eq_true rfl, Nat.le_of_ble_eq_true rfl⟩ ?_
            refine V.st (st' := [aI y12, aI p0]) rfl ?_
            refine v_icmp_ne C (tg := 113) (pc' := 108) dX13_commandOf_105 (by decide) rfl (fun q13 => ?_) (fun q13 => ?_)
            · rw [if_neg q13] at At3
              refine v_iload_n C (pc' := 114) dX13_commandOf_113 rfl rfl rfl ?_
              refine v_bipush C (pc' := 116) dX13_commandOf_114 (v := (67 : Int32)) (by decide) rfl ?_
              refine v_bipush C (pc' := 118) dX13_commandOf_116 (v := (68 : Int32)) (by decide) rfl ?_
              refine v_bipush C (pc' := 120) dX13_commandOf_118 (v := (85 : Int32)) (by decide) rfl ?_
              refine v_bipush C (pc' := 122) dX13_commandOf_120 (v := (80 : Int32)) (by decide) rfl ?_
              obtain ⟨y14, hy14, At3⟩ := bind_some At3
              refine v_callS C (pc' := 125) (rest := [aI p0]) (c_m_pack l (67 : Int32) (68 : Int32) (85 : Int32) (80 : Int32) h _ hy14) ms_X13_156 dX13_commandOf_122 rfl rfl rfl ⟨Nat.le_of_ble_eq_true rfl, Nat.le_of_ble_eq_true rfl⟩ (Nat.le_of_ble_eq_true rfl) ⟨Nat.le_of_ble_eq_true rfl, Nat.le_of_ble_eq_true rfl⟩ ?_
              refine V.st (st' := [aI y14, aI p0]) rfl ?_
              refine v_icmp_ne C (tg := 133) (pc' := 128) dX13_commandOf_125 (by decide) rfl (fun q15 => ?_) (fun q15 => ?_)
              · rw [if_neg q15] at At3
                refine v_iconst C (pc' := 134) dX13_commandOf_133 (v := (0 : Int32)) (by decide) rfl ?_
                cases At3
                exact Kt3
              · rw [if_pos q15] at At3
                refine v_bipush C (pc' := 130) dX13_commandOf_128 (v := (7 : Int32)) (by decide) rfl ?_
                refine v_goto C (pc' := 134) dX13_commandOf_130 (by decide) ?_
                cases At3
                exact Kt3
            · rw [if_pos q13] at At3
              refine v_bipush C (pc' := 110) dX13_commandOf_108 (v := (6 : Int32)) (by decide) rfl ?_
              refine v_goto C (pc' := 134) dX13_commandOf_110 (by decide) ?_
              cases At3
              exact Kt3
          · rw [if_pos q11] at At3
            refine v_iconst C (pc' := 91) dX13_commandOf_90 (v := (5 : Int32)) (by decide) rfl ?_
            refine v_goto C (pc' := 134) dX13_commandOf_91 (by decide) ?_
            cases At3
            exact Kt3
        · rw [if_pos q9] at At3
          refine v_iconst C (pc' := 73) dX13_commandOf_72 (v := (4 : Int32)) (by decide) rfl ?_
          refine v_goto C (pc' := 134) dX13_commandOf_73 (by decide) ?_
          cases At3
          exact Kt3
      · rw [if_pos q7] at At3
        refine v_iconst C (pc' := 54) dX13_commandOf_53 (v := (3 : Int32)) (by decide) rfl ?_
        refine v_goto C (pc' := 134) dX13_commandOf_54 (by decide) ?_
        cases At3
        exact Kt3
    · rw [if_pos q5] at At3
      refine v_iconst C (pc' := 35) dX13_commandOf_34 (v := (2 : Int32)) (by decide) rfl ?_
      refine v_goto C (pc' := 134) dX13_commandOf_35 (by decide) ?_
      cases At3
      exact Kt3
  · rw [if_pos q2] at At3
    refine v_iconst C (pc' := 16) dX13_commandOf_15 (v := (1 : Int32)) (by decide) rfl ?_
    refine v_goto C (pc' := 134) dX13_commandOf_16 (by decide) ?_
    cases At3
    exact Kt3

def m_staying_l4  : Int32 × Int32 × Hp → Option ((Int32 × Int32 × Hp) ⊕ (Int32 × Int32 × Hp))
  | (a1, a2, h) =>
    if (gI h (20, 0) 30) ≤ a2 then
      some (.inl (a1, a2, h))
    else
      (if (gI h (20, 0) 18) = 0 then
        guardB a2 200 <|
        if (gI h (31, 0) a2.toNatClampNeg) = (13 : Int32) then
          if (gI h (20, 0) 30) ≤ (a2 + (1 : Int32)) then
            some (0 : Int32)
          else
            guardB (a2 + (1 : Int32)) 200 <|
            if (gI h (31, 0) (a2 + (1 : Int32)).toNatClampNeg) = (10 : Int32) then
              some (1 : Int32)
            else
              some (0 : Int32)
        else
          some (0 : Int32)
      else
        some (0 : Int32)).bind fun t3 =>
      guardB a2 200 <|
      guardB a1 200 <|
      (if t3 = 0 then
        some (a1 + (1 : Int32))
      else
        some a1).bind fun t12 =>
      some (.inr (t12, (a2 + (1 : Int32)), (sI h (31, 0) a1.toNatClampNeg (gI h (31, 0) a2.toNatClampNeg))))
def m_staying  (h : Hp) : Option (Int32 × Hp) :=
  (iter (m_staying_l4) FU ((0 : Int32), (0 : Int32), h)).bind fun t13 =>
  some (t13.1, t13.2.2)
set_option maxHeartbeats 2000000 in
set_option maxRecDepth 20000 in
theorem c_m_staying (l : Launch)  (h : Hp) (r : Int32) (h' : Hp)  (E : m_staying  h = some (r, h')) : Ctr l yX13_staying cX13_staying 4 (some .int) 0 0 0 0 true [aA 20 (some 0)] h (some (aI r)) h' := by
  rw [m_staying] at E
  refine Ctr.of (ls0 := [some (aA 20 (some 0)), none, none, none]) (by decide +kernel) (Nat.le_of_ble_eq_true rfl) rfl ?_
  intro G p e s m args below meth c C hr hlk hnm
  refine v_iconst C (pc' := 1) dX13_staying_0 (v := (0 : Int32)) (by decide) rfl ?_
  refine v_istore1 C (pc' := 2) dX13_staying_1 (by decide) rfl rfl ?_
  refine v_iconst C (pc' := 3) dX13_staying_2 (v := (0 : Int32)) (by decide) rfl ?_
  refine v_istore2 C (pc' := 4) dX13_staying_3 (by decide) rfl rfl ?_
  obtain ⟨t1, It1, E⟩ := bind_some E
  have Kt1 : V true G p l e { frames := 0, cells := 0, slots := 0, locals := 0 } s m args below meth c 4 (MQ below (QcA true G (some (aI r)) h') args s 0 0 (A_ G)) t1.2.2 0 0 89 [some (aA 20 (some 0)), some (aI t1.1), some (aI t1.2.1), none] [] := by
    refine v_iload_n C (pc' := 90) dX13_staying_89 rfl rfl rfl ?_
    cases E
    exact v_reti C hr hlk dX13_staying_90
  refine iter_V (P := fun st1 : Int32 × Int32 × Hp => V true G p l e { frames := 0, cells := 0, slots := 0, locals := 0 } s m args below meth c 4 (MQ below (QcA true G (some (aI r)) h') args s 0 0 (A_ G)) st1.2.2 0 0 4 [some (aA 20 (some 0)), some (aI st1.1), some (aI st1.2.1), none] []) ?_ _ _ It1
  rintro ⟨a1t1, a2t1, ht1⟩ ot1 Lt1 kxt1 kst1
  rw [m_staying_l4] at Lt1
  show V true G p l e { frames := 0, cells := 0, slots := 0, locals := 0 } s m args below meth c 4 (MQ below (QcA true G (some (aI r)) h') args s 0 0 (A_ G)) ht1 0 0 4 [some (aA 20 (some 0)), some (aI a1t1), some (aI a2t1), none] []
  refine v_iload_n C (pc' := 5) dX13_staying_4 rfl rfl rfl ?_
  refine v_aload_n C (pc' := 6) dX13_staying_5 rfl rfl rfl ?_
  refine v_getI C (pc' := 9) fl_X13_246 rfl (Or.inl rfl) lv0_20 dX13_staying_6 rfl ?_
  refine v_icmp_ge C (tg := 89) (pc' := 12) dX13_staying_9 (by decide) rfl (fun q2 => ?_) (fun q2 => ?_)
  · rw [if_pos q2] at Lt1
    cases Lt1
    have z := kxt1 _ rfl
    subst z
    exact Kt1
  · rw [if_neg q2] at Lt1
    refine v_aload_n C (pc' := 13) dX13_staying_12 rfl rfl rfl ?_
    refine v_getI C (pc' := 16) fl_X13_137 rfl (Or.inr rfl) lv0_20 dX13_staying_13 rfl ?_
    obtain ⟨t4, At4, Lt1⟩ := bind_some Lt1
    have Kt4 : V true G p l e { frames := 0, cells := 0, slots := 0, locals := 0 } s m args below meth c 4 (MQ below (QcA true G (some (aI r)) h') args s 0 0 (A_ G)) ht1 0 0 58 [some (aA 20 (some 0)), some (aI a1t1), some (aI a2t1), none] [aI t4] := by
      refine v_istore3 C (pc' := 59) dX13_staying_58 (by decide) rfl rfl ?_
      refine v_aload_n C (pc' := 60) dX13_staying_59 rfl rfl rfl ?_
      refine v_getF C (pc' := 63) rfl fl_X13_52 rfl rfl (t2 := 31) rfl (j := 0) rfl u0_20 dX13_staying_60 rfl ?_
      refine v_iload_n C (pc' := 64) dX13_staying_63 rfl rfl rfl ?_
      refine v_aload_n C (pc' := 65) dX13_staying_64 rfl rfl rfl ?_
      refine v_getF C (pc' := 68) rfl fl_X13_52 rfl rfl (t2 := 31) rfl (j := 0) rfl u0_20 dX13_staying_65 rfl ?_
      refine v_iload_n C (pc' := 69) dX13_staying_68 rfl rfl rfl ?_
      obtain ⟨g10, Lt1⟩ := guardB_some Lt1
      refine v_iald C (pc' := 70) (t := 31) rfl lv0_31 g10 dX13_staying_69 rfl ?_
      obtain ⟨g11, Lt1⟩ := guardB_some Lt1
      refine v_iast C (pc' := 71) (t := 31) rfl lv0_31 g11 dX13_staying_70 rfl ?_
      refine v_iload_n C (pc' := 72) dX13_staying_71 rfl rfl rfl ?_
      obtain ⟨t13, At13, Lt1⟩ := bind_some Lt1
      have Kt13 : V true G p l e { frames := 0, cells := 0, slots := 0, locals := 0 } s m args below meth c 4 (MQ below (QcA true G (some (aI r)) h') args s 0 0 (A_ G)) (sI ht1 (31, 0) a1t1.toNatClampNeg (gI ht1 (31, 0) a2t1.toNatClampNeg)) 0 0 82 [some (aA 20 (some 0)), some (aI a1t1), some (aI a2t1), some (aI t4)] [aI t13] := by
        refine v_istore1 C (pc' := 83) dX13_staying_82 (by decide) rfl rfl ?_
        refine v_iinc2 C (pc' := 86) dX13_staying_83 (v := (a2t1 + (1 : Int32))) (by rw [show Int32.ofInt 1 = (1 : Int32) by decide]) (by decide) rfl rfl ?_
        refine v_goto C (pc' := 4) dX13_staying_86 (by decide) ?_
        cases Lt1
        exact V.ls (ms := [true, true, true, false]) rfl (kst1 _ rfl)
      refine v_if_eq C (tg := 79) (pc' := 75) dX13_staying_72 (by decide) rfl (fun q12 => ?_) (fun q12 => ?_)
      · rw [if_pos q12] at At13
        refine v_iload_n C (pc' := 80) dX13_staying_79 rfl rfl rfl ?_
        refine v_iconst C (pc' := 81) dX13_staying_80 (v := (1 : Int32)) (by decide) rfl ?_
        refine v_iadd C (pc' := 82) dX13_staying_81 rfl ?_
        cases At13
        exact Kt13
      · rw [if_neg q12] at At13
        refine v_iload_n C (pc' := 76) dX13_staying_75 rfl rfl rfl ?_
        refine v_goto C (pc' := 82) dX13_staying_76 (by decide) ?_
        cases At13
        exact Kt13
    refine v_if_ne C (tg := 57) (pc' := 19) dX13_staying_16 (by decide) rfl (fun q3 => ?_) (fun q3 => ?_)
    · rw [if_neg q3] at At4
      refine v_iconst C (pc' := 58) dX13_staying_57 (v := (0 : Int32)) (by decide) rfl ?_
      cases At4
      exact Kt4
    · rw [if_pos q3] at At4
      refine v_aload_n C (pc' := 20) dX13_staying_19 rfl rfl rfl ?_
      refine v_getF C (pc' := 23) rfl fl_X13_52 rfl rfl (t2 := 31) rfl (j := 0) rfl u0_20 dX13_staying_20 rfl ?_
      refine v_iload_n C (pc' := 24) dX13_staying_23 rfl rfl rfl ?_
      obtain ⟨g5, At4⟩ := guardB_some At4
      refine v_iald C (pc' := 25) (t := 31) rfl lv0_31 g5 dX13_staying_24 rfl ?_
      refine v_bipush C (pc' := 27) dX13_staying_25 (v := (13 : Int32)) (by decide) rfl ?_
      refine v_icmp_ne C (tg := 57) (pc' := 30) dX13_staying_27 (by decide) rfl (fun q6 => ?_) (fun q6 => ?_)
      · rw [if_neg q6] at At4
        refine v_iconst C (pc' := 58) dX13_staying_57 (v := (0 : Int32)) (by decide) rfl ?_
        cases At4
        exact Kt4
      · rw [if_pos q6] at At4
        refine v_iload_n C (pc' := 31) dX13_staying_30 rfl rfl rfl ?_
        refine v_iconst C (pc' := 32) dX13_staying_31 (v := (1 : Int32)) (by decide) rfl ?_
        refine v_iadd C (pc' := 33) dX13_staying_32 rfl ?_
        refine v_aload_n C (pc' := 34) dX13_staying_33 rfl rfl rfl ?_
        refine v_getI C (pc' := 37) fl_X13_246 rfl (Or.inl rfl) lv0_20 dX13_staying_34 rfl ?_
        refine v_icmp_ge C (tg := 57) (pc' := 40) dX13_staying_37 (by decide) rfl (fun q7 => ?_) (fun q7 => ?_)
        · rw [if_pos q7] at At4
          refine v_iconst C (pc' := 58) dX13_staying_57 (v := (0 : Int32)) (by decide) rfl ?_
          cases At4
          exact Kt4
        · rw [if_neg q7] at At4
          refine v_aload_n C (pc' := 41) dX13_staying_40 rfl rfl rfl ?_
          refine v_getF C (pc' := 44) rfl fl_X13_52 rfl rfl (t2 := 31) rfl (j := 0) rfl u0_20 dX13_staying_41 rfl ?_
          refine v_iload_n C (pc' := 45) dX13_staying_44 rfl rfl rfl ?_
          refine v_iconst C (pc' := 46) dX13_staying_45 (v := (1 : Int32)) (by decide) rfl ?_
          refine v_iadd C (pc' := 47) dX13_staying_46 rfl ?_
          obtain ⟨g8, At4⟩ := guardB_some At4
          refine v_iald C (pc' := 48) (t := 31) rfl lv0_31 g8 dX13_staying_47 rfl ?_
          refine v_bipush C (pc' := 50) dX13_staying_48 (v := (10 : Int32)) (by decide) rfl ?_
          refine v_icmp_ne C (tg := 57) (pc' := 53) dX13_staying_50 (by decide) rfl (fun q9 => ?_) (fun q9 => ?_)
          · rw [if_neg q9] at At4
            refine v_iconst C (pc' := 58) dX13_staying_57 (v := (0 : Int32)) (by decide) rfl ?_
            cases At4
            exact Kt4
          · rw [if_pos q9] at At4
            refine v_iconst C (pc' := 54) dX13_staying_53 (v := (1 : Int32)) (by decide) rfl ?_
            refine v_goto C (pc' := 58) dX13_staying_54 (by decide) ?_
            cases At4
            exact Kt4

def m_say (p1 : Int32) (h : Hp) : Option (Int32 × Hp) :=
  (if p1 = (257 : Int32) then
    some (gI (sI h (20, 0) 13 p1) (20, 0) 14)
  else
    if p1 = (213 : Int32) then
      some (gI (sI h (20, 0) 13 p1) (20, 0) 14)
    else
      some (0 : Int32)).bind fun t2 =>
  some (p1, (sI (sI h (20, 0) 13 p1) (20, 0) 14 t2))
set_option maxHeartbeats 2000000 in
set_option maxRecDepth 20000 in
theorem c_m_say (l : Launch) (p1 : Int32) (h : Hp) (r : Int32) (h' : Hp)  (E : m_say p1 h = some (r, h')) : Ctr l yX13_say cX13_say 2 (some .int) 0 0 0 0 true [aA 20 (some 0), aI p1] h (some (aI r)) h' := by
  rw [m_say] at E
  refine Ctr.of (ls0 := [some (aA 20 (some 0)), some (aI p1)]) (by decide +kernel) (Nat.le_of_ble_eq_true rfl) rfl ?_
  intro G p e s m args below meth c C hr hlk hnm
  refine v_aload_n C (pc' := 1) dX13_say_0 rfl rfl rfl ?_
  refine v_iload_n C (pc' := 2) dX13_say_1 rfl rfl rfl ?_
  refine v_putI C (pc' := 5) fp_X13_131 rfl rfl lv0_20 dX13_say_2 rfl ?_
  refine v_aload_n C (pc' := 6) dX13_say_5 rfl rfl rfl ?_
  refine v_iload_n C (pc' := 7) dX13_say_6 rfl rfl rfl ?_
  refine v_sipush C (pc' := 10) dX13_say_7 (v := (257 : Int32)) (by decide) rfl ?_
  obtain ⟨t2, At2, E⟩ := bind_some E
  have Kt2 : V true G p l e { frames := 0, cells := 0, slots := 0, locals := 0 } s m args below meth c 2 (MQ below (QcA true G (some (aI r)) h') args s 0 0 (A_ G)) (sI h (20, 0) 13 p1) 0 0 28 [some (aA 20 (some 0)), some (aI p1)] [aI t2, aA 20 (some 0)] := by
    refine v_putI C (pc' := 31) fp_X13_134 rfl rfl lv0_20 dX13_say_28 rfl ?_
    refine v_iload_n C (pc' := 32) dX13_say_31 rfl rfl rfl ?_
    cases E
    exact v_reti C hr hlk dX13_say_32
  refine v_icmp_eq C (tg := 20) (pc' := 13) dX13_say_10 (by decide) rfl (fun q1 => ?_) (fun q1 => ?_)
  · rw [if_pos q1] at At2
    refine v_aload_n C (pc' := 21) dX13_say_20 rfl rfl rfl ?_
    refine v_getI C (pc' := 24) fl_X13_134 rfl (Or.inl rfl) lv0_20 dX13_say_21 rfl ?_
    refine v_goto C (pc' := 28) dX13_say_24 (by decide) ?_
    cases At2
    exact Kt2
  · rw [if_neg q1] at At2
    refine v_iload_n C (pc' := 14) dX13_say_13 rfl rfl rfl ?_
    refine v_sipush C (pc' := 17) dX13_say_14 (v := (213 : Int32)) (by decide) rfl ?_
    refine v_icmp_ne C (tg := 27) (pc' := 20) dX13_say_17 (by decide) rfl (fun q3 => ?_) (fun q3 => ?_)
    · rw [if_neg q3] at At2
      refine v_iconst C (pc' := 28) dX13_say_27 (v := (0 : Int32)) (by decide) rfl ?_
      cases At2
      exact Kt2
    · rw [if_pos q3] at At2
      refine v_aload_n C (pc' := 21) dX13_say_20 rfl rfl rfl ?_
      refine v_getI C (pc' := 24) fl_X13_134 rfl (Or.inl rfl) lv0_20 dX13_say_21 rfl ?_
      refine v_goto C (pc' := 28) dX13_say_24 (by decide) ?_
      cases At2
      exact Kt2

def m_end_l136 (v1 : Int32) (v3 : Int32) (v4 : Int32) : Int32 × Hp → Option ((Int32 × Hp) ⊕ (Int32 × Hp))
  | (a5, h) =>
    if v1 ≤ a5 then
      some (.inl (a5, h))
    else
      guardB a5 200 <|
      guardB ((((32 : Int32) * v4) + v3) + a5) 768 <|
      some (.inr ((a5 + (1 : Int32)), (sI h (25, 0) ((((32 : Int32) * v4) + v3) + a5).toNatClampNeg (gI h (31, 0) a5.toNatClampNeg))))
def m_end  (h : Hp) : Option (Int32 × Hp) :=
  if (gI h (20, 0) 28) = (2 : Int32) then
    (m_staying (sI (sI h (20, 0) 28 (0 : Int32)) (20, 0) 25 (0 : Int32))).bind fun y2 =>
    (if 0 ≤ (gI y2.2 (20, 0) 32) then
      guardB (gI y2.2 (20, 0) 32) 24 <|
      some (gI y2.2 (24, 0) (gI y2.2 (20, 0) 32).toNatClampNeg)
    else
      some (0 : Int32)).bind fun t4 =>
    (if (gI y2.2 (20, 0) 33) = 0 then
      some (0 : Int32)
    else
      some t4).bind fun t7 =>
    if (32 : Int32) < (t7 + y2.1) then
      (m_say (452 : Int32) y2.2).bind fun y9 =>
      some (y9.1, y9.2)
    else
      (m_bytes y2.2).bind fun y10 =>
      if (((y10 - t4) + t7) + y2.1) ≤ (200 : Int32) then
        (if 0 ≤ (gI y2.2 (20, 0) 32) then
          some (gI y2.2 (20, 0) 32)
        else
          (m_freeNode y2.2).bind fun y14 =>
          some y14).bind fun t13 =>
        (if 0 ≤ (gI y2.2 (20, 0) 32) then
          some y2.2
        else
          (m_make t13 (2 : Int32) (gI y2.2 (20, 0) 34) (gL y2.2 (20, 0) 35) y2.2).bind fun y17 =>
          some y17).bind fun t16 =>
        (iter (m_end_l136 y2.1 t7 t13) FU ((0 : Int32), t16)).bind fun t21 =>
        guardB t13 24 <|
        (m_say (226 : Int32) (sI t21.2 (24, 0) t13.toNatClampNeg (t7 + y2.1))).bind fun y23 =>
        some (y23.1, y23.2)
      else
        (m_say (452 : Int32) y2.2).bind fun y24 =>
        some (y24.1, y24.2)
  else
    some ((-1 : Int32), h)
set_option maxHeartbeats 2000000 in
set_option maxRecDepth 20000 in
theorem c_m_end (l : Launch)  (h : Hp) (r : Int32) (h' : Hp)  (E : m_end  h = some (r, h')) : Ctr l yX13_end cX13_end 6 (some .int) 1 25 0 0 true [aA 20 (some 0)] h (some (aI r)) h' := by
  rw [m_end] at E
  refine Ctr.of (ls0 := [some (aA 20 (some 0)), none, none, none, none, none]) (by decide +kernel) (Nat.le_of_ble_eq_true rfl) rfl ?_
  intro G p e s m args below meth c C hr hlk hnm
  refine v_aload_n C (pc' := 1) dX13_end_0 rfl rfl rfl ?_
  refine v_getI C (pc' := 4) fl_X13_199 rfl (Or.inl rfl) lv0_20 dX13_end_1 rfl ?_
  refine v_iconst C (pc' := 5) dX13_end_4 (v := (2 : Int32)) (by decide) rfl ?_
  refine v_icmp_eq C (tg := 10) (pc' := 8) dX13_end_5 (by decide) rfl (fun q1 => ?_) (fun q1 => ?_)
  · rw [if_pos q1] at E
    refine v_aload_n C (pc' := 11) dX13_end_10 rfl rfl rfl ?_
    refine v_iconst C (pc' := 12) dX13_end_11 (v := (0 : Int32)) (by decide) rfl ?_
    refine v_putI C (pc' := 15) fp_X13_199 rfl rfl lv0_20 dX13_end_12 rfl ?_
    refine v_aload_n C (pc' := 16) dX13_end_15 rfl rfl rfl ?_
    refine v_iconst C (pc' := 17) dX13_end_16 (v := (0 : Int32)) (by decide) rfl ?_
    refine v_putI C (pc' := 20) fp_X13_146 rfl rfl lv0_20 dX13_end_17 rfl ?_
    refine v_aload_n C (pc' := 21) dX13_end_20 rfl rfl rfl ?_
    obtain ⟨y2, hy2, E⟩ := bind_some E
    refine v_callV C (pc' := 24) (rest := []) (c_m_staying l (sI (sI h (20, 0) 28 (0 : Int32)) (20, 0) 25 (0 : Int32)) _ _ hy2) mv_X13_266 rfl rfl lv0_20 dX13_end_21 rfl rfl rfl ⟨Nat.le_of_ble_eq_true rfl, Nat.le_of_ble_eq_true rfl⟩ (Nat.le_of_ble_eq_true rfl) ⟨Nat.le_of_ble_eq_true rfl, Nat.le_of_ble_eq_true rfl⟩ ?_
    refine V.st (st' := [aI y2.1]) rfl ?_
    refine v_istore1 C (pc' := 25) dX13_end_24 (by decide) rfl rfl ?_
    refine v_aload_n C (pc' := 26) dX13_end_25 rfl rfl rfl ?_
    refine v_getI C (pc' := 29) fl_X13_249 rfl (Or.inl rfl) lv0_20 dX13_end_26 rfl ?_
    obtain ⟨t4, At4, E⟩ := bind_some E
    have Kt4 : V true G p l e { frames := 1, cells := 0, slots := 0, locals := 25 } s m args below meth c 6 (MQ below (QcA true G (some (aI r)) h') args s 0 0 (A_ G)) y2.2 0 0 45 [some (aA 20 (some 0)), some (aI y2.1), none, none, none, none] [aI t4] := by
      refine v_istore2 C (pc' := 46) dX13_end_45 (by decide) rfl rfl ?_
      refine v_aload_n C (pc' := 47) dX13_end_46 rfl rfl rfl ?_
      refine v_getI C (pc' := 50) fl_X13_252 rfl (Or.inr rfl) lv0_20 dX13_end_47 rfl ?_
      obtain ⟨t7, At7, E⟩ := bind_some E
      have Kt7 : V true G p l e { frames := 1, cells := 0, slots := 0, locals := 25 } s m args below meth c 6 (MQ below (QcA true G (some (aI r)) h') args s 0 0 (A_ G)) y2.2 0 0 58 [some (aA 20 (some 0)), some (aI y2.1), some (aI t4), none, none, none] [aI t7] := by
        refine v_istore3 C (pc' := 59) dX13_end_58 (by decide) rfl rfl ?_
        refine v_iload_n C (pc' := 60) dX13_end_59 rfl rfl rfl ?_
        refine v_iload_n C (pc' := 61) dX13_end_60 rfl rfl rfl ?_
        refine v_iadd C (pc' := 62) dX13_end_61 rfl ?_
        refine v_bipush C (pc' := 64) dX13_end_62 (v := (32 : Int32)) (by decide) rfl ?_
        refine v_icmp_gt C (tg := 83) (pc' := 67) dX13_end_64 (by decide) rfl (fun q8 => ?_) (fun q8 => ?_)
        · rw [if_pos q8] at E
          refine v_aload_n C (pc' := 84) dX13_end_83 rfl rfl rfl ?_
          refine v_sipush C (pc' := 87) dX13_end_84 (v := (452 : Int32)) (by decide) rfl ?_
          obtain ⟨y9, hy9, E⟩ := bind_some E
          refine v_callV C (pc' := 90) (rest := []) (c_m_say l (452 : Int32) y2.2 _ _ hy9) mv_X13_149 rfl rfl lv0_20 dX13_end_87 rfl rfl rfl ⟨Nat.le_of_ble_eq_true rfl, Nat.le_of_ble_eq_true rfl⟩ (Nat.le_of_ble_eq_true rfl) ⟨Nat.le_of_ble_eq_true rfl, Nat.le_of_ble_eq_true rfl⟩ ?_
          refine V.st (st' := [aI y9.1]) rfl ?_
          cases E
          exact v_reti C hr hlk dX13_end_90
        · rw [if_neg q8] at E
          refine v_aload_n C (pc' := 68) dX13_end_67 rfl rfl rfl ?_
          obtain ⟨y10, hy10, E⟩ := bind_some E
          refine v_callV C (pc' := 71) (rest := []) (c_m_bytes l y2.2 _ hy10) mv_X13_269 rfl rfl lv0_20 dX13_end_68 rfl rfl rfl ⟨Nat.le_of_ble_eq_true rfl, Nat.le_of_ble_eq_true rfl⟩ (Nat.le_of_ble_eq_true rfl) ⟨Nat.le_of_ble_eq_true rfl, Nat.le_of_ble_eq_true rfl⟩ ?_
          refine V.st (st' := [aI y10]) rfl ?_
          refine v_iload_n C (pc' := 72) dX13_end_71 rfl rfl rfl ?_
          refine v_isub C (pc' := 73) dX13_end_72 rfl ?_
          refine v_iload_n C (pc' := 74) dX13_end_73 rfl rfl rfl ?_
          refine v_iadd C (pc' := 75) dX13_end_74 rfl ?_
          refine v_iload_n C (pc' := 76) dX13_end_75 rfl rfl rfl ?_
          refine v_iadd C (pc' := 77) dX13_end_76 rfl ?_
          refine v_sipush C (pc' := 80) dX13_end_77 (v := (200 : Int32)) (by decide) rfl ?_
          refine v_icmp_le C (tg := 91) (pc' := 83) dX13_end_80 (by decide) rfl (fun q11 => ?_) (fun q11 => ?_)
          · rw [if_pos q11] at E
            refine v_aload_n C (pc' := 92) dX13_end_91 rfl rfl rfl ?_
            refine v_getI C (pc' := 95) fl_X13_249 rfl (Or.inl rfl) lv0_20 dX13_end_92 rfl ?_
            obtain ⟨t13, At13, E⟩ := bind_some E
            have Kt13 : V true G p l e { frames := 1, cells := 0, slots := 0, locals := 25 } s m args below meth c 6 (MQ below (QcA true G (some (aI r)) h') args s 0 0 (A_ G)) y2.2 0 0 109 [some (aA 20 (some 0)), some (aI y2.1), some (aI t4), some (aI t7), none, none] [aI t13] := by
              refine v_istore4 C (pc' := 111) dX13_end_109 (by decide) rfl rfl ?_
              refine v_aload_n C (pc' := 112) dX13_end_111 rfl rfl rfl ?_
              refine v_getI C (pc' := 115) fl_X13_249 rfl (Or.inl rfl) lv0_20 dX13_end_112 rfl ?_
              obtain ⟨t16, At16, E⟩ := bind_some E
              have Kt16 : V true G p l e { frames := 1, cells := 0, slots := 0, locals := 25 } s m args below meth c 6 (MQ below (QcA true G (some (aI r)) h') args s 0 0 (A_ G)) t16 0 0 133 [some (aA 20 (some 0)), some (aI y2.1), some (aI t4), some (aI t7), some (aI t13), none] [] := by
                refine v_iconst C (pc' := 134) dX13_end_133 (v := (0 : Int32)) (by decide) rfl ?_
                refine v_istore5 C (pc' := 136) dX13_end_134 (by decide) rfl rfl ?_
                obtain ⟨t18, It18, E⟩ := bind_some E
                have Kt18 : V true G p l e { frames := 1, cells := 0, slots := 0, locals := 25 } s m args below meth c 6 (MQ below (QcA true G (some (aI r)) h') args s 0 0 (A_ G)) t18.2 0 0 170 [some (aA 20 (some 0)), some (aI y2.1), some (aI t4), some (aI t7), some (aI t13), some (aI t18.1)] [] := by
                  refine v_aload_n C (pc' := 171) dX13_end_170 rfl rfl rfl ?_
                  refine v_getF C (pc' := 174) rfl fl_X13_20 rfl rfl (t2 := 24) rfl (j := 0) rfl u0_20 dX13_end_171 rfl ?_
                  refine v_iload C (pc' := 176) dX13_end_174 rfl rfl ?_
                  refine v_iload_n C (pc' := 177) dX13_end_176 rfl rfl rfl ?_
                  refine v_iload_n C (pc' := 178) dX13_end_177 rfl rfl rfl ?_
                  refine v_iadd C (pc' := 179) dX13_end_178 rfl ?_
                  obtain ⟨g19, E⟩ := guardB_some E
                  refine v_iast C (pc' := 180) (t := 24) rfl lv0_24 g19 dX13_end_179 rfl ?_
                  refine v_aload_n C (pc' := 181) dX13_end_180 rfl rfl rfl ?_
                  refine v_sipush C (pc' := 184) dX13_end_181 (v := (226 : Int32)) (by decide) rfl ?_
                  obtain ⟨y20, hy20, E⟩ := bind_some E
                  refine v_callV C (pc' := 187) (rest := []) (c_m_say l (226 : Int32) (sI t18.2 (24, 0) t13.toNatClampNeg (t7 + y2.1)) _ _ hy20) mv_X13_149 rfl rfl lv0_20 dX13_end_184 rfl rfl rfl ⟨Nat.le_of_ble_eq_true rfl, Nat.le_of_ble_eq_true rfl⟩ (Nat.le_of_ble_eq_true rfl) ⟨Nat.le_of_ble_eq_true rfl, Nat.le_of_ble_eq_true rfl⟩ ?_
                  refine V.st (st' := [aI y20.1]) rfl ?_
                  cases E
                  exact v_reti C hr hlk dX13_end_187
                refine iter_V (P := fun st18 : Int32 × Hp => V true G p l e { frames := 1, cells := 0, slots := 0, locals := 25 } s m args below meth c 6 (MQ below (QcA true G (some (aI r)) h') args s 0 0 (A_ G)) st18.2 0 0 136 [some (aA 20 (some 0)), some (aI y2.1), some (aI t4), some (aI t7), some (aI t13), some (aI st18.1)] []) ?_ _ _ It18
                rintro ⟨a5t18, ht18⟩ ot18 Lt18 kxt18 kst18
                rw [m_end_l136] at Lt18
                show V true G p l e { frames := 1, cells := 0, slots := 0, locals := 25 } s m args below meth c 6 (MQ below (QcA true G (some (aI r)) h') args s 0 0 (A_ G)) ht18 0 0 136 [some (aA 20 (some 0)), some (aI y2.1), some (aI t4), some (aI t7), some (aI t13), some (aI a5t18)] []
                refine v_iload C (pc' := 138) dX13_end_136 rfl rfl ?_
                refine v_iload_n C (pc' := 139) dX13_end_138 rfl rfl rfl ?_
                refine v_icmp_ge C (tg := 170) (pc' := 142) dX13_end_139 (by decide) rfl (fun q21 => ?_) (fun q21 => ?_)
                · rw [if_pos q21] at Lt18
                  cases Lt18
                  have z := kxt18 _ rfl
                  subst z
                  exact Kt18
                · rw [if_neg q21] at Lt18
                  refine v_aload_n C (pc' := 143) dX13_end_142 rfl rfl rfl ?_
                  refine v_getF C (pc' := 146) rfl fl_X13_23 rfl rfl (t2 := 25) rfl (j := 0) rfl u0_20 dX13_end_143 rfl ?_
                  refine v_bipush C (pc' := 148) dX13_end_146 (v := (32 : Int32)) (by decide) rfl ?_
                  refine v_iload C (pc' := 150) dX13_end_148 rfl rfl ?_
                  refine v_imul C (pc' := 151) dX13_end_150 rfl ?_
                  refine v_iload_n C (pc' := 152) dX13_end_151 rfl rfl rfl ?_
                  refine v_iadd C (pc' := 153) dX13_end_152 rfl ?_
                  refine v_iload C (pc' := 155) dX13_end_153 rfl rfl ?_
                  refine v_iadd C (pc' := 156) dX13_end_155 rfl ?_
                  refine v_aload_n C (pc' := 157) dX13_end_156 rfl rfl rfl ?_
                  refine v_getF C (pc' := 160) rfl fl_X13_52 rfl rfl (t2 := 31) rfl (j := 0) rfl u0_20 dX13_end_157 rfl ?_
                  refine v_iload C (pc' := 162) dX13_end_160 rfl rfl ?_
                  obtain ⟨g22, Lt18⟩ := guardB_some Lt18
                  refine v_iald C (pc' := 163) (t := 31) rfl lv0_31 g22 dX13_end_162 rfl ?_
                  obtain ⟨g23, Lt18⟩ := guardB_some Lt18
                  refine v_iast C (pc' := 164) (t := 25) rfl lv0_25 g23 dX13_end_163 rfl ?_
                  refine v_iinc5 C (pc' := 167) dX13_end_164 (v := (a5t18 + (1 : Int32))) (by rw [show Int32.ofInt 1 = (1 : Int32) by decide]) (by decide) rfl rfl ?_
                  refine v_goto C (pc' := 136) dX13_end_167 (by decide) ?_
                  cases Lt18
                  exact kst18 _ rfl
              refine v_if_ge C (tg := 133) (pc' := 118) dX13_end_115 (by decide) rfl (fun q15 => ?_) (fun q15 => ?_)
              · rw [if_pos q15] at At16
                cases At16
                exact Kt16
              · rw [if_neg q15] at At16
                refine v_aload_n C (pc' := 119) dX13_end_118 rfl rfl rfl ?_
                refine v_iload C (pc' := 121) dX13_end_119 rfl rfl ?_
                refine v_iconst C (pc' := 122) dX13_end_121 (v := (2 : Int32)) (by decide) rfl ?_
                refine v_aload_n C (pc' := 123) dX13_end_122 rfl rfl rfl ?_
                refine v_getI C (pc' := 126) fl_X13_107 rfl (Or.inl rfl) lv0_20 dX13_end_123 rfl ?_
                refine v_aload_n C (pc' := 127) dX13_end_126 rfl rfl rfl ?_
                refine v_getL C (pc' := 130) fl_X13_100 rfl rfl lv0_20 dX13_end_127 rfl ?_
                obtain ⟨y17, hy17, At16⟩ := bind_some At16
                refine v_callV C (pc' := 133) (rest := []) (c_m_make l t13 (2 : Int32) (gI y2.2 (20, 0) 34) (gL y2.2 (20, 0) 35) y2.2 _ hy17) mv_X13_127 rfl rfl lv0_20 dX13_end_130 rfl rfl rfl ⟨Nat.le_of_ble_eq_true rfl, Nat.le_of_ble_eq_true rfl⟩ (Nat.le_of_ble_eq_true rfl) ⟨Nat.le_of_ble_eq_true rfl, Nat.le_of_ble_eq_true rfl⟩ ?_
                refine V.st (st' := []) rfl ?_
                cases At16
                exact Kt16
            refine v_if_ge C (tg := 105) (pc' := 98) dX13_end_95 (by decide) rfl (fun q12 => ?_) (fun q12 => ?_)
            · rw [if_pos q12] at At13
              refine v_aload_n C (pc' := 106) dX13_end_105 rfl rfl rfl ?_
              refine v_getI C (pc' := 109) fl_X13_249 rfl (Or.inl rfl) lv0_20 dX13_end_106 rfl ?_
              cases At13
              exact Kt13
            · rw [if_neg q12] at At13
              refine v_aload_n C (pc' := 99) dX13_end_98 rfl rfl rfl ?_
              obtain ⟨y14, hy14, At13⟩ := bind_some At13
              refine v_callV C (pc' := 102) (rest := []) (c_m_freeNode l y2.2 _ hy14) mv_X13_119 rfl rfl lv0_20 dX13_end_99 rfl rfl rfl ⟨Nat.le_of_ble_eq_true rfl, Nat.le_of_ble_eq_true rfl⟩ (Nat.le_of_ble_eq_true rfl) ⟨Nat.le_of_ble_eq_true rfl, Nat.le_of_ble_eq_true rfl⟩ ?_
              refine V.st (st' := [aI y14]) rfl ?_
              refine v_goto C (pc' := 109) dX13_end_102 (by decide) ?_
              cases At13
              exact Kt13
          · rw [if_neg q11] at E
            refine v_aload_n C (pc' := 84) dX13_end_83 rfl rfl rfl ?_
            refine v_sipush C (pc' := 87) dX13_end_84 (v := (452 : Int32)) (by decide) rfl ?_
            obtain ⟨y24, hy24, E⟩ := bind_some E
            refine v_callV C (pc' := 90) (rest := []) (c_m_say l (452 : Int32) y2.2 _ _ hy24) mv_X13_149 rfl rfl lv0_20 dX13_end_87 rfl rfl rfl ⟨Nat.le_of_ble_eq_true rfl, Nat.le_of_ble_eq_true rfl⟩ (Nat.le_of_ble_eq_true rfl) ⟨Nat.le_of_ble_eq_true rfl, Nat.le_of_ble_eq_true rfl⟩ ?_
            refine V.st (st' := [aI y24.1]) rfl ?_
            cases E
            exact v_reti C hr hlk dX13_end_90
      refine v_if_eq C (tg := 57) (pc' := 53) dX13_end_50 (by decide) rfl (fun q6 => ?_) (fun q6 => ?_)
      · rw [if_pos q6] at At7
        refine v_iconst C (pc' := 58) dX13_end_57 (v := (0 : Int32)) (by decide) rfl ?_
        cases At7
        exact Kt7
      · rw [if_neg q6] at At7
        refine v_iload_n C (pc' := 54) dX13_end_53 rfl rfl rfl ?_
        refine v_goto C (pc' := 58) dX13_end_54 (by decide) ?_
        cases At7
        exact Kt7
    refine v_if_ge C (tg := 36) (pc' := 32) dX13_end_29 (by decide) rfl (fun q3 => ?_) (fun q3 => ?_)
    · rw [if_pos q3] at At4
      refine v_aload_n C (pc' := 37) dX13_end_36 rfl rfl rfl ?_
      refine v_getF C (pc' := 40) rfl fl_X13_20 rfl rfl (t2 := 24) rfl (j := 0) rfl u0_20 dX13_end_37 rfl ?_
      refine v_aload_n C (pc' := 41) dX13_end_40 rfl rfl rfl ?_
      refine v_getI C (pc' := 44) fl_X13_249 rfl (Or.inl rfl) lv0_20 dX13_end_41 rfl ?_
      obtain ⟨g5, At4⟩ := guardB_some At4
      refine v_iald C (pc' := 45) (t := 24) rfl lv0_24 g5 dX13_end_44 rfl ?_
      cases At4
      exact Kt4
    · rw [if_neg q3] at At4
      refine v_iconst C (pc' := 33) dX13_end_32 (v := (0 : Int32)) (by decide) rfl ?_
      refine v_goto C (pc' := 45) dX13_end_33 (by decide) ?_
      cases At4
      exact Kt4
  · rw [if_neg q1] at E
    refine v_iconst C (pc' := 9) dX13_end_8 (v := (-1 : Int32)) (by decide) rfl ?_
    cases E
    exact v_reti C hr hlk dX13_end_9

def m_readLetters_j56 (v1 : Int32) (v2 : Int32) (h : Hp) : Option ((Int32 × Int32) ⊕ (Int32 × Int32)) :=
  guardB v1 32 <|
  some (.inr ((v1 + (1 : Int32)), ((v2 <<< ((8 : Int32) &&& 31)) ||| ((gI h (29, 0) v1.toNatClampNeg) &&& (95 : Int32)))))
def m_readLetters_j34 (v1 : Int32) (v2 : Int32) (h : Hp) : Option ((Int32 × Int32) ⊕ (Int32 × Int32)) :=
  guardB v1 32 <|
  if (gI h (29, 0) v1.toNatClampNeg) < (65 : Int32) then
    some (.inl (v1, v2))
  else
    guardB v1 32 <|
    if (90 : Int32) < (gI h (29, 0) v1.toNatClampNeg) then
      some (.inl (v1, v2))
    else
      m_readLetters_j56 v1 v2 h
def m_readLetters_l4  (h : Hp) : Int32 × Int32 → Option ((Int32 × Int32) ⊕ (Int32 × Int32))
  | (a1, a2) =>
    if (gI h (20, 0) 9) ≤ a1 then
      some (.inl (a1, a2))
    else
      guardB a1 32 <|
      if (gI h (29, 0) a1.toNatClampNeg) < (97 : Int32) then
        m_readLetters_j34 a1 a2 h
      else
        guardB a1 32 <|
        if (gI h (29, 0) a1.toNatClampNeg) ≤ (122 : Int32) then
          m_readLetters_j56 a1 a2 h
        else
          m_readLetters_j34 a1 a2 h
def m_readLetters  (h : Hp) : Option (Int32 × Hp) :=
  (iter (m_readLetters_l4 h) FU ((0 : Int32), (0 : Int32))).bind fun t11 =>
  (if (gI h (20, 0) 9) ≤ t11.1 then
    some (-1 : Int32)
  else
    some (t11.1 + (1 : Int32))).bind fun t13 =>
  (if t11.1 = (gI (sI h (20, 0) 11 t13) (20, 0) 9) then
    some (1 : Int32)
  else
    guardB t11.1 32 <|
    if (gI (sI h (20, 0) 11 t13) (29, 0) t11.1.toNatClampNeg) = (32 : Int32) then
      if (gI (sI h (20, 0) 11 t13) (20, 0) 9) ≤ (t11.1 + (1 : Int32)) then
        some (0 : Int32)
      else
        some (1 : Int32)
    else
      some (0 : Int32)).bind fun t15 =>
  (if t15 = 0 then
    some (0 : Int32)
  else
    if (5 : Int32) ≤ t11.1 then
      some (0 : Int32)
    else
      some t11.2).bind fun t20 =>
  some (t20, (sI h (20, 0) 11 t13))
set_option maxHeartbeats 2000000 in
set_option maxRecDepth 20000 in
theorem c_m_readLetters (l : Launch)  (h : Hp) (r : Int32) (h' : Hp)  (E : m_readLetters  h = some (r, h')) : Ctr l yX13_readLetters cX13_readLetters 4 (some .int) 0 0 0 0 true [aA 20 (some 0)] h (some (aI r)) h' := by
  rw [m_readLetters] at E
  refine Ctr.of (ls0 := [some (aA 20 (some 0)), none, none, none]) (by decide +kernel) (Nat.le_of_ble_eq_true rfl) rfl ?_
  intro G p e s m args below meth c C hr hlk hnm
  refine v_iconst C (pc' := 1) dX13_readLetters_0 (v := (0 : Int32)) (by decide) rfl ?_
  refine v_istore1 C (pc' := 2) dX13_readLetters_1 (by decide) rfl rfl ?_
  refine v_iconst C (pc' := 3) dX13_readLetters_2 (v := (0 : Int32)) (by decide) rfl ?_
  refine v_istore2 C (pc' := 4) dX13_readLetters_3 (by decide) rfl rfl ?_
  obtain ⟨t1, It1, E⟩ := bind_some E
  have Kt1 : V true G p l e { frames := 0, cells := 0, slots := 0, locals := 0 } s m args below meth c 4 (MQ below (QcA true G (some (aI r)) h') args s 0 0 (A_ G)) h 0 0 78 [some (aA 20 (some 0)), some (aI t1.1), some (aI t1.2), none] [] := by
    refine v_aload_n C (pc' := 79) dX13_readLetters_78 rfl rfl rfl ?_
    refine v_iload_n C (pc' := 80) dX13_readLetters_79 rfl rfl rfl ?_
    refine v_aload_n C (pc' := 81) dX13_readLetters_80 rfl rfl rfl ?_
    refine v_getI C (pc' := 84) fl_X13_75 rfl (Or.inl rfl) lv0_20 dX13_readLetters_81 rfl ?_
    obtain ⟨t3, At3, E⟩ := bind_some E
    have Kt3 : V true G p l e { frames := 0, cells := 0, slots := 0, locals := 0 } s m args below meth c 4 (MQ below (QcA true G (some (aI r)) h') args s 0 0 (A_ G)) h 0 0 94 [some (aA 20 (some 0)), some (aI t1.1), some (aI t1.2), none] [aI t3, aA 20 (some 0)] := by
      refine v_putI C (pc' := 97) fp_X13_78 rfl rfl lv0_20 dX13_readLetters_94 rfl ?_
      refine v_iload_n C (pc' := 98) dX13_readLetters_97 rfl rfl rfl ?_
      refine v_aload_n C (pc' := 99) dX13_readLetters_98 rfl rfl rfl ?_
      refine v_getI C (pc' := 102) fl_X13_75 rfl (Or.inl rfl) lv0_20 dX13_readLetters_99 rfl ?_
      obtain ⟨t5, At5, E⟩ := bind_some E
      have Kt5 : V true G p l e { frames := 0, cells := 0, slots := 0, locals := 0 } s m args below meth c 4 (MQ below (QcA true G (some (aI r)) h') args s 0 0 (A_ G)) (sI h (20, 0) 11 t3) 0 0 131 [some (aA 20 (some 0)), some (aI t1.1), some (aI t1.2), none] [aI t5] := by
        refine v_istore3 C (pc' := 132) dX13_readLetters_131 (by decide) rfl rfl ?_
        refine v_iload_n C (pc' := 133) dX13_readLetters_132 rfl rfl rfl ?_
        obtain ⟨t10, At10, E⟩ := bind_some E
        have Kt10 : V true G p l e { frames := 0, cells := 0, slots := 0, locals := 0 } s m args below meth c 4 (MQ below (QcA true G (some (aI r)) h') args s 0 0 (A_ G)) (sI h (20, 0) 11 t3) 0 0 146 [some (aA 20 (some 0)), some (aI t1.1), some (aI t1.2), some (aI t5)] [aI t10] := by
          cases E
          exact v_reti C hr hlk dX13_readLetters_146
        refine v_if_eq C (tg := 145) (pc' := 136) dX13_readLetters_133 (by decide) rfl (fun q9 => ?_) (fun q9 => ?_)
        · rw [if_pos q9] at At10
          refine v_iconst C (pc' := 146) dX13_readLetters_145 (v := (0 : Int32)) (by decide) rfl ?_
          cases At10
          exact Kt10
        · rw [if_neg q9] at At10
          refine v_iload_n C (pc' := 137) dX13_readLetters_136 rfl rfl rfl ?_
          refine v_iconst C (pc' := 138) dX13_readLetters_137 (v := (5 : Int32)) (by decide) rfl ?_
          refine v_icmp_ge C (tg := 145) (pc' := 141) dX13_readLetters_138 (by decide) rfl (fun q11 => ?_) (fun q11 => ?_)
          · rw [if_pos q11] at At10
            refine v_iconst C (pc' := 146) dX13_readLetters_145 (v := (0 : Int32)) (by decide) rfl ?_
            cases At10
            exact Kt10
          · rw [if_neg q11] at At10
            refine v_iload_n C (pc' := 142) dX13_readLetters_141 rfl rfl rfl ?_
            refine v_goto C (pc' := 146) dX13_readLetters_142 (by decide) ?_
            cases At10
            exact Kt10
      refine v_icmp_eq C (tg := 126) (pc' := 105) dX13_readLetters_102 (by decide) rfl (fun q4 => ?_) (fun q4 => ?_)
      · rw [if_pos q4] at At5
        refine v_iconst C (pc' := 127) dX13_readLetters_126 (v := (1 : Int32)) (by decide) rfl ?_
        refine v_goto C (pc' := 131) dX13_readLetters_127 (by decide) ?_
        cases At5
        exact Kt5
      · rw [if_neg q4] at At5
        refine v_aload_n C (pc' := 106) dX13_readLetters_105 rfl rfl rfl ?_
        refine v_getF C (pc' := 109) rfl fl_X13_35 rfl rfl (t2 := 29) rfl (j := 0) rfl u0_20 dX13_readLetters_106 rfl ?_
        refine v_iload_n C (pc' := 110) dX13_readLetters_109 rfl rfl rfl ?_
        obtain ⟨g6, At5⟩ := guardB_some At5
        refine v_cald C (pc' := 111) (t := 29) rfl lv0_29 g6 dX13_readLetters_110 rfl ?_
        refine v_bipush C (pc' := 113) dX13_readLetters_111 (v := (32 : Int32)) (by decide) rfl ?_
        refine v_icmp_ne C (tg := 130) (pc' := 116) dX13_readLetters_113 (by decide) rfl (fun q7 => ?_) (fun q7 => ?_)
        · rw [if_neg q7] at At5
          refine v_iconst C (pc' := 131) dX13_readLetters_130 (v := (0 : Int32)) (by decide) rfl ?_
          cases At5
          exact Kt5
        · rw [if_pos q7] at At5
          refine v_iload_n C (pc' := 117) dX13_readLetters_116 rfl rfl rfl ?_
          refine v_iconst C (pc' := 118) dX13_readLetters_117 (v := (1 : Int32)) (by decide) rfl ?_
          refine v_iadd C (pc' := 119) dX13_readLetters_118 rfl ?_
          refine v_aload_n C (pc' := 120) dX13_readLetters_119 rfl rfl rfl ?_
          refine v_getI C (pc' := 123) fl_X13_75 rfl (Or.inl rfl) lv0_20 dX13_readLetters_120 rfl ?_
          refine v_icmp_ge C (tg := 130) (pc' := 126) dX13_readLetters_123 (by decide) rfl (fun q8 => ?_) (fun q8 => ?_)
          · rw [if_pos q8] at At5
            refine v_iconst C (pc' := 131) dX13_readLetters_130 (v := (0 : Int32)) (by decide) rfl ?_
            cases At5
            exact Kt5
          · rw [if_neg q8] at At5
            refine v_iconst C (pc' := 127) dX13_readLetters_126 (v := (1 : Int32)) (by decide) rfl ?_
            refine v_goto C (pc' := 131) dX13_readLetters_127 (by decide) ?_
            cases At5
            exact Kt5
    refine v_icmp_ge C (tg := 93) (pc' := 87) dX13_readLetters_84 (by decide) rfl (fun q2 => ?_) (fun q2 => ?_)
    · rw [if_pos q2] at At3
      refine v_iconst C (pc' := 94) dX13_readLetters_93 (v := (-1 : Int32)) (by decide) rfl ?_
      cases At3
      exact Kt3
    · rw [if_neg q2] at At3
      refine v_iload_n C (pc' := 88) dX13_readLetters_87 rfl rfl rfl ?_
      refine v_iconst C (pc' := 89) dX13_readLetters_88 (v := (1 : Int32)) (by decide) rfl ?_
      refine v_iadd C (pc' := 90) dX13_readLetters_89 rfl ?_
      refine v_goto C (pc' := 94) dX13_readLetters_90 (by decide) ?_
      cases At3
      exact Kt3
  refine iter_V (P := fun st1 : Int32 × Int32 => V true G p l e { frames := 0, cells := 0, slots := 0, locals := 0 } s m args below meth c 4 (MQ below (QcA true G (some (aI r)) h') args s 0 0 (A_ G)) h 0 0 4 [some (aA 20 (some 0)), some (aI st1.1), some (aI st1.2), none] []) ?_ _ _ It1
  rintro ⟨a1t1, a2t1⟩ ot1 Lt1 kxt1 kst1
  rw [m_readLetters_l4] at Lt1
  show V true G p l e { frames := 0, cells := 0, slots := 0, locals := 0 } s m args below meth c 4 (MQ below (QcA true G (some (aI r)) h') args s 0 0 (A_ G)) h 0 0 4 [some (aA 20 (some 0)), some (aI a1t1), some (aI a2t1), none] []
  refine v_iload_n C (pc' := 5) dX13_readLetters_4 rfl rfl rfl ?_
  refine v_aload_n C (pc' := 6) dX13_readLetters_5 rfl rfl rfl ?_
  refine v_getI C (pc' := 9) fl_X13_75 rfl (Or.inl rfl) lv0_20 dX13_readLetters_6 rfl ?_
  refine v_icmp_ge C (tg := 78) (pc' := 12) dX13_readLetters_9 (by decide) rfl (fun q12 => ?_) (fun q12 => ?_)
  · rw [if_pos q12] at Lt1
    cases Lt1
    have z := kxt1 _ rfl
    subst z
    exact Kt1
  · rw [if_neg q12] at Lt1
    refine v_aload_n C (pc' := 13) dX13_readLetters_12 rfl rfl rfl ?_
    refine v_getF C (pc' := 16) rfl fl_X13_35 rfl rfl (t2 := 29) rfl (j := 0) rfl u0_20 dX13_readLetters_13 rfl ?_
    refine v_iload_n C (pc' := 17) dX13_readLetters_16 rfl rfl rfl ?_
    obtain ⟨g13, Lt1⟩ := guardB_some Lt1
    refine v_cald C (pc' := 18) (t := 29) rfl lv0_29 g13 dX13_readLetters_17 rfl ?_
    refine v_bipush C (pc' := 20) dX13_readLetters_18 (v := (97 : Int32)) (by decide) rfl ?_
    have J56 : m_readLetters_j56 a1t1 a2t1 h = some ot1 → V true G p l e { frames := 0, cells := 0, slots := 0, locals := 0 } s m args below meth c 4 (MQ below (QcA true G (some (aI r)) h') args s 0 0 (A_ G)) h 0 0 56 [some (aA 20 (some 0)), some (aI a1t1), some (aI a2t1), none] [] := by
      intro  Ej56
      rw [m_readLetters_j56] at Ej56
      refine v_iload_n C (pc' := 57) dX13_readLetters_56 rfl rfl rfl ?_
      refine v_bipush C (pc' := 59) dX13_readLetters_57 (v := (8 : Int32)) (by decide) rfl ?_
      refine v_ishl C (pc' := 60) dX13_readLetters_59 rfl ?_
      refine v_aload_n C (pc' := 61) dX13_readLetters_60 rfl rfl rfl ?_
      refine v_getF C (pc' := 64) rfl fl_X13_35 rfl rfl (t2 := 29) rfl (j := 0) rfl u0_20 dX13_readLetters_61 rfl ?_
      refine v_iload_n C (pc' := 65) dX13_readLetters_64 rfl rfl rfl ?_
      obtain ⟨g21, Ej56⟩ := guardB_some Ej56
      refine v_cald C (pc' := 66) (t := 29) rfl lv0_29 g21 dX13_readLetters_65 rfl ?_
      refine v_bipush C (pc' := 68) dX13_readLetters_66 (v := (95 : Int32)) (by decide) rfl ?_
      refine v_iand C (pc' := 69) dX13_readLetters_68 rfl ?_
      refine v_ior C (pc' := 70) dX13_readLetters_69 rfl ?_
      refine v_istore2 C (pc' := 71) dX13_readLetters_70 (by decide) rfl rfl ?_
      refine v_iload_n C (pc' := 72) dX13_readLetters_71 rfl rfl rfl ?_
      refine v_iconst C (pc' := 73) dX13_readLetters_72 (v := (1 : Int32)) (by decide) rfl ?_
      refine v_iadd C (pc' := 74) dX13_readLetters_73 rfl ?_
      refine v_istore1 C (pc' := 75) dX13_readLetters_74 (by decide) rfl rfl ?_
      refine v_goto C (pc' := 4) dX13_readLetters_75 (by decide) ?_
      cases Ej56
      exact kst1 _ rfl
    have J34 : m_readLetters_j34 a1t1 a2t1 h = some ot1 → V true G p l e { frames := 0, cells := 0, slots := 0, locals := 0 } s m args below meth c 4 (MQ below (QcA true G (some (aI r)) h') args s 0 0 (A_ G)) h 0 0 34 [some (aA 20 (some 0)), some (aI a1t1), some (aI a2t1), none] [] := by
      intro  Ej34
      rw [m_readLetters_j34] at Ej34
      refine v_aload_n C (pc' := 35) dX13_readLetters_34 rfl rfl rfl ?_
      refine v_getF C (pc' := 38) rfl fl_X13_35 rfl rfl (t2 := 29) rfl (j := 0) rfl u0_20 dX13_readLetters_35 rfl ?_
      refine v_iload_n C (pc' := 39) dX13_readLetters_38 rfl rfl rfl ?_
      obtain ⟨g17, Ej34⟩ := guardB_some Ej34
      refine v_cald C (pc' := 40) (t := 29) rfl lv0_29 g17 dX13_readLetters_39 rfl ?_
      refine v_bipush C (pc' := 42) dX13_readLetters_40 (v := (65 : Int32)) (by decide) rfl ?_
      refine v_icmp_lt C (tg := 78) (pc' := 45) dX13_readLetters_42 (by decide) rfl (fun q18 => ?_) (fun q18 => ?_)
      · rw [if_pos q18] at Ej34
        cases Ej34
        have z := kxt1 _ rfl
        subst z
        exact Kt1
      · rw [if_neg q18] at Ej34
        refine v_aload_n C (pc' := 46) dX13_readLetters_45 rfl rfl rfl ?_
        refine v_getF C (pc' := 49) rfl fl_X13_35 rfl rfl (t2 := 29) rfl (j := 0) rfl u0_20 dX13_readLetters_46 rfl ?_
        refine v_iload_n C (pc' := 50) dX13_readLetters_49 rfl rfl rfl ?_
        obtain ⟨g19, Ej34⟩ := guardB_some Ej34
        refine v_cald C (pc' := 51) (t := 29) rfl lv0_29 g19 dX13_readLetters_50 rfl ?_
        refine v_bipush C (pc' := 53) dX13_readLetters_51 (v := (90 : Int32)) (by decide) rfl ?_
        refine v_icmp_gt C (tg := 78) (pc' := 56) dX13_readLetters_53 (by decide) rfl (fun q20 => ?_) (fun q20 => ?_)
        · rw [if_pos q20] at Ej34
          cases Ej34
          have z := kxt1 _ rfl
          subst z
          exact Kt1
        · rw [if_neg q20] at Ej34
          exact J56  Ej34
    refine v_icmp_lt C (tg := 34) (pc' := 23) dX13_readLetters_20 (by decide) rfl (fun q14 => ?_) (fun q14 => ?_)
    · rw [if_pos q14] at Lt1
      exact J34  Lt1
    · rw [if_neg q14] at Lt1
      refine v_aload_n C (pc' := 24) dX13_readLetters_23 rfl rfl rfl ?_
      refine v_getF C (pc' := 27) rfl fl_X13_35 rfl rfl (t2 := 29) rfl (j := 0) rfl u0_20 dX13_readLetters_24 rfl ?_
      refine v_iload_n C (pc' := 28) dX13_readLetters_27 rfl rfl rfl ?_
      obtain ⟨g15, Lt1⟩ := guardB_some Lt1
      refine v_cald C (pc' := 29) (t := 29) rfl lv0_29 g15 dX13_readLetters_28 rfl ?_
      refine v_bipush C (pc' := 31) dX13_readLetters_29 (v := (122 : Int32)) (by decide) rfl ?_
      refine v_icmp_le C (tg := 56) (pc' := 34) dX13_readLetters_31 (by decide) rfl (fun q16 => ?_) (fun q16 => ?_)
      · rw [if_pos q16] at Lt1
        exact J56  Lt1
      · rw [if_neg q16] at Lt1
        exact J34  Lt1

def m_enterAs_l83  : Int32 × Hp → Option ((Int32 × Hp) ⊕ (Int32 × Hp))
  | (a2, h) =>
    if (gI h (20, 0) 5) ≤ a2 then
      some (.inl (a2, h))
    else
      guardB a2 4 <|
      (if (gL h (26, 0) a2.toNatClampNeg) = (gL h (20, 0) 22) then
        guardB a2 4 <|
        (m_nameAt (gI h (20, 0) 11) (gI h (20, 0) 9) h).bind fun y10 =>
        if (gL h (27, 0) a2.toNatClampNeg) = y10 then
          guardB a2 4 <|
          some (gI h (28, 0) a2.toNatClampNeg)
        else
          some (gI h (20, 0) 16)
      else
        some (gI h (20, 0) 16)).bind fun t8 =>
      some (.inr ((a2 + (1 : Int32)), (sI h (20, 0) 16 t8)))
def m_enterAs (p1 : Int32) (h : Hp) : Option (Int32 × Hp) :=
  if p1 = (1 : Int32) then
    (m_nameAt (gI (sI h (20, 0) 16 (-1 : Int32)) (20, 0) 11) (gI (sI h (20, 0) 16 (-1 : Int32)) (20, 0) 9) (sI h (20, 0) 16 (-1 : Int32))).bind fun y16 =>
    some ((331 : Int32), (sL (sI h (20, 0) 16 (-1 : Int32)) (20, 0) 19 y16))
  else
    if p1 = (3 : Int32) then
      some ((221 : Int32), (sI (sI (sI h (20, 0) 12 (0 : Int32)) (20, 0) 28 (0 : Int32)) (20, 0) 25 (0 : Int32)))
    else
      if p1 = (4 : Int32) then
        some ((200 : Int32), h)
      else
        if (gL h (20, 0) 22) = (0 : Int64) then
          some ((503 : Int32), h)
        else
          (iter (m_enterAs_l83) FU ((0 : Int32), (sI h (20, 0) 16 (-1 : Int32)))).bind fun t13 =>
          (if 0 ≤ (gI (sI t13.2 (20, 0) 17 (gI t13.2 (20, 0) 16)) (20, 0) 16) then
            some (230 : Int32)
          else
            some (530 : Int32)).bind fun t15 =>
          some (t15, (sI t13.2 (20, 0) 17 (gI t13.2 (20, 0) 16)))
set_option maxHeartbeats 2000000 in
set_option maxRecDepth 20000 in
theorem c_m_enterAs (l : Launch) (p1 : Int32) (h : Hp) (r : Int32) (h' : Hp)  (E : m_enterAs p1 h = some (r, h')) : Ctr l yX13_enterAs cX13_enterAs 3 (some .int) 2 50 0 0 true [aA 20 (some 0), aI p1] h (some (aI r)) h' := by
  rw [m_enterAs] at E
  refine Ctr.of (ls0 := [some (aA 20 (some 0)), some (aI p1), none]) (by decide +kernel) (Nat.le_of_ble_eq_true rfl) rfl ?_
  intro G p e s m args below meth c C hr hlk hnm
  refine v_iload_n C (pc' := 1) dX13_enterAs_0 rfl rfl rfl ?_
  refine v_iconst C (pc' := 2) dX13_enterAs_1 (v := (1 : Int32)) (by decide) rfl ?_
  refine v_icmp_ne C (tg := 30) (pc' := 5) dX13_enterAs_2 (by decide) rfl (fun q1 => ?_) (fun q1 => ?_)
  · rw [if_neg q1] at E
    refine v_iload_n C (pc' := 31) dX13_enterAs_30 rfl rfl rfl ?_
    refine v_iconst C (pc' := 32) dX13_enterAs_31 (v := (3 : Int32)) (by decide) rfl ?_
    refine v_icmp_ne C (tg := 54) (pc' := 35) dX13_enterAs_32 (by decide) rfl (fun q2 => ?_) (fun q2 => ?_)
    · rw [if_neg q2] at E
      refine v_iload_n C (pc' := 55) dX13_enterAs_54 rfl rfl rfl ?_
      refine v_iconst C (pc' := 56) dX13_enterAs_55 (v := (4 : Int32)) (by decide) rfl ?_
      refine v_icmp_ne C (tg := 63) (pc' := 59) dX13_enterAs_56 (by decide) rfl (fun q3 => ?_) (fun q3 => ?_)
      · rw [if_neg q3] at E
        refine v_aload_n C (pc' := 64) dX13_enterAs_63 rfl rfl rfl ?_
        refine v_getL C (pc' := 67) fl_X13_178 rfl rfl lv0_20 dX13_enterAs_64 rfl ?_
        refine v_lconst C (pc' := 68) dX13_enterAs_67 (v := (0 : Int64)) (by decide) rfl ?_
        refine v_lcmp C (pc' := 69) dX13_enterAs_68 rfl ?_
        refine v_if_ne C (tg := 76) (pc' := 72) dX13_enterAs_69 (by decide) rfl (fun q4 => ?_) (fun q4 => ?_)
        · rw [lgc_eq] at q4
          rw [if_neg q4] at E
          refine v_aload_n C (pc' := 77) dX13_enterAs_76 rfl rfl rfl ?_
          refine v_iconst C (pc' := 78) dX13_enterAs_77 (v := (-1 : Int32)) (by decide) rfl ?_
          refine v_putI C (pc' := 81) fp_X13_42 rfl rfl lv0_20 dX13_enterAs_78 rfl ?_
          refine v_iconst C (pc' := 82) dX13_enterAs_81 (v := (0 : Int32)) (by decide) rfl ?_
          refine v_istore2 C (pc' := 83) dX13_enterAs_82 (by decide) rfl rfl ?_
          obtain ⟨t5, It5, E⟩ := bind_some E
          have Kt5 : V true G p l e { frames := 2, cells := 0, slots := 0, locals := 50 } s m args below meth c 3 (MQ below (QcA true G (some (aI r)) h') args s 0 0 (A_ G)) t5.2 0 0 150 [some (aA 20 (some 0)), some (aI p1), some (aI t5.1)] [] := by
            refine v_aload_n C (pc' := 151) dX13_enterAs_150 rfl rfl rfl ?_
            refine v_aload_n C (pc' := 152) dX13_enterAs_151 rfl rfl rfl ?_
            refine v_getI C (pc' := 155) fl_X13_42 rfl (Or.inl rfl) lv0_20 dX13_enterAs_152 rfl ?_
            refine v_putI C (pc' := 158) fp_X13_93 rfl rfl lv0_20 dX13_enterAs_155 rfl ?_
            refine v_aload_n C (pc' := 159) dX13_enterAs_158 rfl rfl rfl ?_
            refine v_getI C (pc' := 162) fl_X13_42 rfl (Or.inl rfl) lv0_20 dX13_enterAs_159 rfl ?_
            obtain ⟨t7, At7, E⟩ := bind_some E
            have Kt7 : V true G p l e { frames := 2, cells := 0, slots := 0, locals := 50 } s m args below meth c 3 (MQ below (QcA true G (some (aI r)) h') args s 0 0 (A_ G)) (sI t5.2 (20, 0) 17 (gI t5.2 (20, 0) 16)) 0 0 174 [some (aA 20 (some 0)), some (aI p1), some (aI t5.1)] [aI t7] := by
              cases E
              exact v_reti C hr hlk dX13_enterAs_174
            refine v_if_ge C (tg := 171) (pc' := 165) dX13_enterAs_162 (by decide) rfl (fun q6 => ?_) (fun q6 => ?_)
            · rw [if_pos q6] at At7
              refine v_sipush C (pc' := 174) dX13_enterAs_171 (v := (230 : Int32)) (by decide) rfl ?_
              cases At7
              exact Kt7
            · rw [if_neg q6] at At7
              refine v_sipush C (pc' := 168) dX13_enterAs_165 (v := (530 : Int32)) (by decide) rfl ?_
              refine v_goto C (pc' := 174) dX13_enterAs_168 (by decide) ?_
              cases At7
              exact Kt7
          refine iter_V (P := fun st5 : Int32 × Hp => V true G p l e { frames := 2, cells := 0, slots := 0, locals := 50 } s m args below meth c 3 (MQ below (QcA true G (some (aI r)) h') args s 0 0 (A_ G)) st5.2 0 0 83 [some (aA 20 (some 0)), some (aI p1), some (aI st5.1)] []) ?_ _ _ It5
          rintro ⟨a2t5, ht5⟩ ot5 Lt5 kxt5 kst5
          rw [m_enterAs_l83] at Lt5
          show V true G p l e { frames := 2, cells := 0, slots := 0, locals := 50 } s m args below meth c 3 (MQ below (QcA true G (some (aI r)) h') args s 0 0 (A_ G)) ht5 0 0 83 [some (aA 20 (some 0)), some (aI p1), some (aI a2t5)] []
          refine v_iload_n C (pc' := 84) dX13_enterAs_83 rfl rfl rfl ?_
          refine v_aload_n C (pc' := 85) dX13_enterAs_84 rfl rfl rfl ?_
          refine v_getI C (pc' := 88) fl_X13_116 rfl (Or.inl rfl) lv0_20 dX13_enterAs_85 rfl ?_
          refine v_icmp_ge C (tg := 150) (pc' := 91) dX13_enterAs_88 (by decide) rfl (fun q8 => ?_) (fun q8 => ?_)
          · rw [if_pos q8] at Lt5
            cases Lt5
            have z := kxt5 _ rfl
            subst z
            exact Kt5
          · rw [if_neg q8] at Lt5
            refine v_aload_n C (pc' := 92) dX13_enterAs_91 rfl rfl rfl ?_
            refine v_aload_n C (pc' := 93) dX13_enterAs_92 rfl rfl rfl ?_
            refine v_getF C (pc' := 96) rfl fl_X13_26 rfl rfl (t2 := 26) rfl (j := 0) rfl u0_20 dX13_enterAs_93 rfl ?_
            refine v_iload_n C (pc' := 97) dX13_enterAs_96 rfl rfl rfl ?_
            obtain ⟨g9, Lt5⟩ := guardB_some Lt5
            refine v_lald C (pc' := 98) (t := 26) rfl lv0_26 g9 dX13_enterAs_97 rfl ?_
            refine v_aload_n C (pc' := 99) dX13_enterAs_98 rfl rfl rfl ?_
            refine v_getL C (pc' := 102) fl_X13_178 rfl rfl lv0_20 dX13_enterAs_99 rfl ?_
            refine v_lcmp C (pc' := 103) dX13_enterAs_102 rfl ?_
            obtain ⟨t11, At11, Lt5⟩ := bind_some Lt5
            have Kt11 : V true G p l e { frames := 2, cells := 0, slots := 0, locals := 50 } s m args below meth c 3 (MQ below (QcA true G (some (aI r)) h') args s 0 0 (A_ G)) ht5 0 0 141 [some (aA 20 (some 0)), some (aI p1), some (aI a2t5)] [aI t11, aA 20 (some 0)] := by
              refine v_putI C (pc' := 144) fp_X13_42 rfl rfl lv0_20 dX13_enterAs_141 rfl ?_
              refine v_iinc2 C (pc' := 147) dX13_enterAs_144 (v := (a2t5 + (1 : Int32))) (by rw [show Int32.ofInt 1 = (1 : Int32) by decide]) (by decide) rfl rfl ?_
              refine v_goto C (pc' := 83) dX13_enterAs_147 (by decide) ?_
              cases Lt5
              exact kst5 _ rfl
            refine v_if_ne C (tg := 137) (pc' := 106) dX13_enterAs_103 (by decide) rfl (fun q10 => ?_) (fun q10 => ?_)
            · rw [lgc_eq] at q10
              rw [if_neg q10] at At11
              refine v_aload_n C (pc' := 138) dX13_enterAs_137 rfl rfl rfl ?_
              refine v_getI C (pc' := 141) fl_X13_42 rfl (Or.inl rfl) lv0_20 dX13_enterAs_138 rfl ?_
              cases At11
              exact Kt11
            · rw [lgc_eq] at q10
              rw [if_pos q10] at At11
              refine v_aload_n C (pc' := 107) dX13_enterAs_106 rfl rfl rfl ?_
              refine v_getF C (pc' := 110) rfl fl_X13_29 rfl rfl (t2 := 27) rfl (j := 0) rfl u0_20 dX13_enterAs_107 rfl ?_
              refine v_iload_n C (pc' := 111) dX13_enterAs_110 rfl rfl rfl ?_
              obtain ⟨g12, At11⟩ := guardB_some At11
              refine v_lald C (pc' := 112) (t := 27) rfl lv0_27 g12 dX13_enterAs_111 rfl ?_
              refine v_aload_n C (pc' := 113) dX13_enterAs_112 rfl rfl rfl ?_
              refine v_aload_n C (pc' := 114) dX13_enterAs_113 rfl rfl rfl ?_
              refine v_getI C (pc' := 117) fl_X13_78 rfl (Or.inl rfl) lv0_20 dX13_enterAs_114 rfl ?_
              refine v_aload_n C (pc' := 118) dX13_enterAs_117 rfl rfl rfl ?_
              refine v_getI C (pc' := 121) fl_X13_75 rfl (Or.inl rfl) lv0_20 dX13_enterAs_118 rfl ?_
              obtain ⟨y13, hy13, At11⟩ := bind_some At11
              refine v_callV C (pc' := 124) (rest := [aL (gL ht5 (27, 0) a2t5.toNatClampNeg), aA 20 (some 0)]) (c_m_nameAt l (gI ht5 (20, 0) 11) (gI ht5 (20, 0) 9) ht5 _ hy13) mv_X13_85 rfl rfl lv0_20 dX13_enterAs_121 rfl rfl rfl ⟨Nat.le_of_ble_eq_true rfl, Nat.le_of_ble_eq_true rfl⟩ (Nat.le_of_ble_eq_true rfl) ⟨Nat.le_of_ble_eq_true rfl, Nat.le_of_ble_eq_true rfl⟩ ?_
              refine V.st (st' := [aL y13, aL (gL ht5 (27, 0) a2t5.toNatClampNeg), aA 20 (some 0)]) rfl ?_
              refine v_lcmp C (pc' := 125) dX13_enterAs_124 rfl ?_
              refine v_if_ne C (tg := 137) (pc' := 128) dX13_enterAs_125 (by decide) rfl (fun q14 => ?_) (fun q14 => ?_)
              · rw [lgc_eq] at q14
                rw [if_neg q14] at At11
                refine v_aload_n C (pc' := 138) dX13_enterAs_137 rfl rfl rfl ?_
                refine v_getI C (pc' := 141) fl_X13_42 rfl (Or.inl rfl) lv0_20 dX13_enterAs_138 rfl ?_
                cases At11
                exact Kt11
              · rw [lgc_eq] at q14
                rw [if_pos q14] at At11
                refine v_aload_n C (pc' := 129) dX13_enterAs_128 rfl rfl rfl ?_
                refine v_getF C (pc' := 132) rfl fl_X13_32 rfl rfl (t2 := 28) rfl (j := 0) rfl u0_20 dX13_enterAs_129 rfl ?_
                refine v_iload_n C (pc' := 133) dX13_enterAs_132 rfl rfl rfl ?_
                obtain ⟨g15, At11⟩ := guardB_some At11
                refine v_iald C (pc' := 134) (t := 28) rfl lv0_28 g15 dX13_enterAs_133 rfl ?_
                refine v_goto C (pc' := 141) dX13_enterAs_134 (by decide) ?_
                cases At11
                exact Kt11
        · rw [lgc_eq] at q4
          rw [if_pos q4] at E
          refine v_sipush C (pc' := 75) dX13_enterAs_72 (v := (503 : Int32)) (by decide) rfl ?_
          cases E
          exact v_reti C hr hlk dX13_enterAs_75
      · rw [if_pos q3] at E
        refine v_sipush C (pc' := 62) dX13_enterAs_59 (v := (200 : Int32)) (by decide) rfl ?_
        cases E
        exact v_reti C hr hlk dX13_enterAs_62
    · rw [if_pos q2] at E
      refine v_aload_n C (pc' := 36) dX13_enterAs_35 rfl rfl rfl ?_
      refine v_iconst C (pc' := 37) dX13_enterAs_36 (v := (0 : Int32)) (by decide) rfl ?_
      refine v_putZ C (pc' := 40) fp_X13_123 rfl rfl lv0_20 dX13_enterAs_37 rfl (Or.inl rfl) ?_
      refine v_aload_n C (pc' := 41) dX13_enterAs_40 rfl rfl rfl ?_
      refine v_iconst C (pc' := 42) dX13_enterAs_41 (v := (0 : Int32)) (by decide) rfl ?_
      refine v_putI C (pc' := 45) fp_X13_199 rfl rfl lv0_20 dX13_enterAs_42 rfl ?_
      refine v_aload_n C (pc' := 46) dX13_enterAs_45 rfl rfl rfl ?_
      refine v_iconst C (pc' := 47) dX13_enterAs_46 (v := (0 : Int32)) (by decide) rfl ?_
      refine v_putI C (pc' := 50) fp_X13_146 rfl rfl lv0_20 dX13_enterAs_47 rfl ?_
      refine v_sipush C (pc' := 53) dX13_enterAs_50 (v := (221 : Int32)) (by decide) rfl ?_
      cases E
      exact v_reti C hr hlk dX13_enterAs_53
  · rw [if_pos q1] at E
    refine v_aload_n C (pc' := 6) dX13_enterAs_5 rfl rfl rfl ?_
    refine v_iconst C (pc' := 7) dX13_enterAs_6 (v := (-1 : Int32)) (by decide) rfl ?_
    refine v_putI C (pc' := 10) fp_X13_42 rfl rfl lv0_20 dX13_enterAs_7 rfl ?_
    refine v_aload_n C (pc' := 11) dX13_enterAs_10 rfl rfl rfl ?_
    refine v_aload_n C (pc' := 12) dX13_enterAs_11 rfl rfl rfl ?_
    refine v_aload_n C (pc' := 13) dX13_enterAs_12 rfl rfl rfl ?_
    refine v_getI C (pc' := 16) fl_X13_78 rfl (Or.inl rfl) lv0_20 dX13_enterAs_13 rfl ?_
    refine v_aload_n C (pc' := 17) dX13_enterAs_16 rfl rfl rfl ?_
    refine v_getI C (pc' := 20) fl_X13_75 rfl (Or.inl rfl) lv0_20 dX13_enterAs_17 rfl ?_
    obtain ⟨y16, hy16, E⟩ := bind_some E
    refine v_callV C (pc' := 23) (rest := [aA 20 (some 0)]) (c_m_nameAt l (gI (sI h (20, 0) 16 (-1 : Int32)) (20, 0) 11) (gI (sI h (20, 0) 16 (-1 : Int32)) (20, 0) 9) (sI h (20, 0) 16 (-1 : Int32)) _ hy16) mv_X13_85 rfl rfl lv0_20 dX13_enterAs_20 rfl rfl rfl ⟨Nat.le_of_ble_eq_true rfl, Nat.le_of_ble_eq_true rfl⟩ (Nat.le_of_ble_eq_true rfl) ⟨Nat.le_of_ble_eq_true rfl, Nat.le_of_ble_eq_true rfl⟩ ?_
    refine V.st (st' := [aL y16, aA 20 (some 0)]) rfl ?_
    refine v_putL C (pc' := 26) fp_X13_140 rfl rfl lv0_20 dX13_enterAs_23 rfl ?_
    refine v_sipush C (pc' := 29) dX13_enterAs_26 (v := (331 : Int32)) (by decide) rfl ?_
    cases E
    exact v_reti C hr hlk dX13_enterAs_29

def m_prepare_j80 (v2 : Int32) (v3 : Int32) (h : Hp) : Option (Int32) :=
  if (gI h (20, 0) 18) = 0 then
    some (0 : Int32)
  else
    if v3 = 0 then
      some (1 : Int32)
    else
      if v2 = (65 : Int32) then
        some (0 : Int32)
      else
        some (1 : Int32)
def m_prepare (p1 : Int32) (h : Hp) : Option (Int32 × Hp) :=
  if p1 = (14 : Int32) then
    (if (gI h (20, 0) 9) = ((gI h (20, 0) 11) + (1 : Int32)) then
      guardB (gI h (20, 0) 11) 32 <|
      some ((gI h (29, 0) (gI h (20, 0) 11).toNatClampNeg) &&& (95 : Int32))
    else
      some (0 : Int32)).bind fun t18 =>
    (if (gI h (20, 0) 9) = ((gI h (20, 0) 11) + (1 : Int32)) then
      guardB (gI h (20, 0) 11) 32 <|
      if (gI h (29, 0) (gI h (20, 0) 11).toNatClampNeg) < (65 : Int32) then
        some (0 : Int32)
      else
        some (1 : Int32)
    else
      some (0 : Int32)).bind fun t21 =>
    (if t21 = 0 then
      m_prepare_j80 t18 t21 h
    else
      if t18 = (73 : Int32) then
        some (1 : Int32)
      else
        m_prepare_j80 t18 t21 h).bind fun t25 =>
    guardZ t25 <|
    (if t21 = 0 then
      some (504 : Int32)
    else
      if t18 = (65 : Int32) then
        some (200 : Int32)
      else
        if t18 = (73 : Int32) then
          some (200 : Int32)
        else
          some (504 : Int32)).bind fun t32 =>
    some (t32, (sI h (20, 0) 18 t25))
  else
    if p1 = (15 : Int32) then
      (if (gI h (20, 0) 18) = 0 then
        some (0 : Int32)
      else
        (m_numberAt (gI h (20, 0) 11) ((gI h (20, 0) 9) - (gI h (20, 0) 11)) h).bind fun y14 =>
        some y14).bind fun t13 =>
      (if (gI (sI h (20, 0) 21 t13) (20, 0) 18) = 0 then
        some (504 : Int32)
      else
        some (350 : Int32)).bind fun t16 =>
      some (t16, (sI h (20, 0) 21 t13))
    else
      if p1 = (16 : Int32) then
        some ((227 : Int32), (sI h (20, 0) 25 (1 : Int32)))
      else
        if p1 = (17 : Int32) then
          (m_portTold (sI h (20, 0) 25 (3 : Int32))).bind fun y11 =>
          some ((200 : Int32), (sI (sI h (20, 0) 25 (3 : Int32)) (20, 0) 26 y11))
        else
          (if (gI h (20, 0) 28) ≤ 0 then
            some (0 : Int32)
          else
            some (1 : Int32)).bind fun t6 =>
          (if t6 = 0 then
            some (gI h (20, 0) 25)
          else
            some (0 : Int32)).bind fun t8 =>
          (if t6 = 0 then
            some (226 : Int32)
          else
            some (426 : Int32)).bind fun t10 =>
          some (t10, (sI (sI h (20, 0) 25 t8) (20, 0) 28 (0 : Int32)))
set_option maxHeartbeats 2000000 in
set_option maxRecDepth 20000 in
theorem c_m_prepare (l : Launch) (p1 : Int32) (h : Hp) (r : Int32) (h' : Hp)  (E : m_prepare p1 h = some (r, h')) : Ctr l yX13_prepare cX13_prepare 4 (some .int) 3 67 0 0 true [aA 20 (some 0), aI p1] h (some (aI r)) h' := by
  rw [m_prepare] at E
  refine Ctr.of (ls0 := [some (aA 20 (some 0)), some (aI p1), none, none]) (by decide +kernel) (Nat.le_of_ble_eq_true rfl) rfl ?_
  intro G p e s m args below meth c C hr hlk hnm
  refine v_iload_n C (pc' := 1) dX13_prepare_0 rfl rfl rfl ?_
  refine v_bipush C (pc' := 3) dX13_prepare_1 (v := (14 : Int32)) (by decide) rfl ?_
  refine v_icmp_ne C (tg := 131) (pc' := 6) dX13_prepare_3 (by decide) rfl (fun q1 => ?_) (fun q1 => ?_)
  · rw [if_neg q1] at E
    refine v_iload_n C (pc' := 132) dX13_prepare_131 rfl rfl rfl ?_
    refine v_bipush C (pc' := 134) dX13_prepare_132 (v := (15 : Int32)) (by decide) rfl ?_
    refine v_icmp_ne C (tg := 186) (pc' := 137) dX13_prepare_134 (by decide) rfl (fun q2 => ?_) (fun q2 => ?_)
    · rw [if_neg q2] at E
      refine v_iload_n C (pc' := 187) dX13_prepare_186 rfl rfl rfl ?_
      refine v_bipush C (pc' := 189) dX13_prepare_187 (v := (16 : Int32)) (by decide) rfl ?_
      refine v_icmp_ne C (tg := 201) (pc' := 192) dX13_prepare_189 (by decide) rfl (fun q3 => ?_) (fun q3 => ?_)
      · rw [if_neg q3] at E
        refine v_iload_n C (pc' := 202) dX13_prepare_201 rfl rfl rfl ?_
        refine v_bipush C (pc' := 204) dX13_prepare_202 (v := (17 : Int32)) (by decide) rfl ?_
        refine v_icmp_ne C (tg := 224) (pc' := 207) dX13_prepare_204 (by decide) rfl (fun q4 => ?_) (fun q4 => ?_)
        · rw [if_neg q4] at E
          refine v_aload_n C (pc' := 225) dX13_prepare_224 rfl rfl rfl ?_
          refine v_getI C (pc' := 228) fl_X13_199 rfl (Or.inl rfl) lv0_20 dX13_prepare_225 rfl ?_
          obtain ⟨t6, At6, E⟩ := bind_some E
          have Kt6 : V true G p l e { frames := 3, cells := 0, slots := 0, locals := 67 } s m args below meth c 4 (MQ below (QcA true G (some (aI r)) h') args s 0 0 (A_ G)) h 0 0 236 [some (aA 20 (some 0)), some (aI p1), none, none] [aI t6] := by
            refine v_istore2 C (pc' := 237) dX13_prepare_236 (by decide) rfl rfl ?_
            refine v_aload_n C (pc' := 238) dX13_prepare_237 rfl rfl rfl ?_
            refine v_iload_n C (pc' := 239) dX13_prepare_238 rfl rfl rfl ?_
            obtain ⟨t8, At8, E⟩ := bind_some E
            have Kt8 : V true G p l e { frames := 3, cells := 0, slots := 0, locals := 67 } s m args below meth c 4 (MQ below (QcA true G (some (aI r)) h') args s 0 0 (A_ G)) h 0 0 250 [some (aA 20 (some 0)), some (aI p1), some (aI t6), none] [aI t8, aA 20 (some 0)] := by
              refine v_putI C (pc' := 253) fp_X13_146 rfl rfl lv0_20 dX13_prepare_250 rfl ?_
              refine v_aload_n C (pc' := 254) dX13_prepare_253 rfl rfl rfl ?_
              refine v_iconst C (pc' := 255) dX13_prepare_254 (v := (0 : Int32)) (by decide) rfl ?_
              refine v_putI C (pc' := 258) fp_X13_199 rfl rfl lv0_20 dX13_prepare_255 rfl ?_
              refine v_iload_n C (pc' := 259) dX13_prepare_258 rfl rfl rfl ?_
              obtain ⟨t10, At10, E⟩ := bind_some E
              have Kt10 : V true G p l e { frames := 3, cells := 0, slots := 0, locals := 67 } s m args below meth c 4 (MQ below (QcA true G (some (aI r)) h') args s 0 0 (A_ G)) (sI (sI h (20, 0) 25 t8) (20, 0) 28 (0 : Int32)) 0 0 271 [some (aA 20 (some 0)), some (aI p1), some (aI t6), none] [aI t10] := by
                cases E
                exact v_reti C hr hlk dX13_prepare_271
              refine v_if_eq C (tg := 268) (pc' := 262) dX13_prepare_259 (by decide) rfl (fun q9 => ?_) (fun q9 => ?_)
              · rw [if_pos q9] at At10
                refine v_sipush C (pc' := 271) dX13_prepare_268 (v := (226 : Int32)) (by decide) rfl ?_
                cases At10
                exact Kt10
              · rw [if_neg q9] at At10
                refine v_sipush C (pc' := 265) dX13_prepare_262 (v := (426 : Int32)) (by decide) rfl ?_
                refine v_goto C (pc' := 271) dX13_prepare_265 (by decide) ?_
                cases At10
                exact Kt10
            refine v_if_eq C (tg := 246) (pc' := 242) dX13_prepare_239 (by decide) rfl (fun q7 => ?_) (fun q7 => ?_)
            · rw [if_pos q7] at At8
              refine v_aload_n C (pc' := 247) dX13_prepare_246 rfl rfl rfl ?_
              refine v_getI C (pc' := 250) fl_X13_146 rfl (Or.inl rfl) lv0_20 dX13_prepare_247 rfl ?_
              cases At8
              exact Kt8
            · rw [if_neg q7] at At8
              refine v_iconst C (pc' := 243) dX13_prepare_242 (v := (0 : Int32)) (by decide) rfl ?_
              refine v_goto C (pc' := 250) dX13_prepare_243 (by decide) ?_
              cases At8
              exact Kt8
          refine v_if_le C (tg := 235) (pc' := 231) dX13_prepare_228 (by decide) rfl (fun q5 => ?_) (fun q5 => ?_)
          · rw [if_pos q5] at At6
            refine v_iconst C (pc' := 236) dX13_prepare_235 (v := (0 : Int32)) (by decide) rfl ?_
            cases At6
            exact Kt6
          · rw [if_neg q5] at At6
            refine v_iconst C (pc' := 232) dX13_prepare_231 (v := (1 : Int32)) (by decide) rfl ?_
            refine v_goto C (pc' := 236) dX13_prepare_232 (by decide) ?_
            cases At6
            exact Kt6
        · rw [if_pos q4] at E
          refine v_aload_n C (pc' := 208) dX13_prepare_207 rfl rfl rfl ?_
          refine v_iconst C (pc' := 209) dX13_prepare_208 (v := (3 : Int32)) (by decide) rfl ?_
          refine v_putI C (pc' := 212) fp_X13_146 rfl rfl lv0_20 dX13_prepare_209 rfl ?_
          refine v_aload_n C (pc' := 213) dX13_prepare_212 rfl rfl rfl ?_
          refine v_aload_n C (pc' := 214) dX13_prepare_213 rfl rfl rfl ?_
          obtain ⟨y11, hy11, E⟩ := bind_some E
          refine v_callV C (pc' := 217) (rest := [aA 20 (some 0)]) (c_m_portTold l (sI h (20, 0) 25 (3 : Int32)) _ hy11) mv_X13_171 rfl rfl lv0_20 dX13_prepare_214 rfl rfl rfl ⟨Nat.le_of_ble_eq_true rfl, Nat.le_of_ble_eq_true rfl⟩ (Nat.le_of_ble_eq_true rfl) ⟨Nat.le_of_ble_eq_true rfl, Nat.le_of_ble_eq_true rfl⟩ ?_
          refine V.st (st' := [aI y11, aA 20 (some 0)]) rfl ?_
          refine v_putI C (pc' := 220) fp_X13_240 rfl rfl lv0_20 dX13_prepare_217 rfl ?_
          refine v_sipush C (pc' := 223) dX13_prepare_220 (v := (200 : Int32)) (by decide) rfl ?_
          cases E
          exact v_reti C hr hlk dX13_prepare_223
      · rw [if_pos q3] at E
        refine v_aload_n C (pc' := 193) dX13_prepare_192 rfl rfl rfl ?_
        refine v_iconst C (pc' := 194) dX13_prepare_193 (v := (1 : Int32)) (by decide) rfl ?_
        refine v_putI C (pc' := 197) fp_X13_146 rfl rfl lv0_20 dX13_prepare_194 rfl ?_
        refine v_sipush C (pc' := 200) dX13_prepare_197 (v := (227 : Int32)) (by decide) rfl ?_
        cases E
        exact v_reti C hr hlk dX13_prepare_200
    · rw [if_pos q2] at E
      refine v_aload_n C (pc' := 138) dX13_prepare_137 rfl rfl rfl ?_
      refine v_aload_n C (pc' := 139) dX13_prepare_138 rfl rfl rfl ?_
      refine v_getI C (pc' := 142) fl_X13_137 rfl (Or.inr rfl) lv0_20 dX13_prepare_139 rfl ?_
      obtain ⟨t13, At13, E⟩ := bind_some E
      have Kt13 : V true G p l e { frames := 3, cells := 0, slots := 0, locals := 67 } s m args below meth c 4 (MQ below (QcA true G (some (aI r)) h') args s 0 0 (A_ G)) h 0 0 166 [some (aA 20 (some 0)), some (aI p1), none, none] [aI t13, aA 20 (some 0)] := by
        refine v_putI C (pc' := 169) fp_X13_143 rfl rfl lv0_20 dX13_prepare_166 rfl ?_
        refine v_aload_n C (pc' := 170) dX13_prepare_169 rfl rfl rfl ?_
        refine v_getI C (pc' := 173) fl_X13_137 rfl (Or.inr rfl) lv0_20 dX13_prepare_170 rfl ?_
        obtain ⟨t16, At16, E⟩ := bind_some E
        have Kt16 : V true G p l e { frames := 3, cells := 0, slots := 0, locals := 67 } s m args below meth c 4 (MQ below (QcA true G (some (aI r)) h') args s 0 0 (A_ G)) (sI h (20, 0) 21 t13) 0 0 185 [some (aA 20 (some 0)), some (aI p1), none, none] [aI t16] := by
          cases E
          exact v_reti C hr hlk dX13_prepare_185
        refine v_if_eq C (tg := 182) (pc' := 176) dX13_prepare_173 (by decide) rfl (fun q15 => ?_) (fun q15 => ?_)
        · rw [if_pos q15] at At16
          refine v_sipush C (pc' := 185) dX13_prepare_182 (v := (504 : Int32)) (by decide) rfl ?_
          cases At16
          exact Kt16
        · rw [if_neg q15] at At16
          refine v_sipush C (pc' := 179) dX13_prepare_176 (v := (350 : Int32)) (by decide) rfl ?_
          refine v_goto C (pc' := 185) dX13_prepare_179 (by decide) ?_
          cases At16
          exact Kt16
      refine v_if_eq C (tg := 165) (pc' := 145) dX13_prepare_142 (by decide) rfl (fun q12 => ?_) (fun q12 => ?_)
      · rw [if_pos q12] at At13
        refine v_iconst C (pc' := 166) dX13_prepare_165 (v := (0 : Int32)) (by decide) rfl ?_
        cases At13
        exact Kt13
      · rw [if_neg q12] at At13
        refine v_aload_n C (pc' := 146) dX13_prepare_145 rfl rfl rfl ?_
        refine v_aload_n C (pc' := 147) dX13_prepare_146 rfl rfl rfl ?_
        refine v_getI C (pc' := 150) fl_X13_78 rfl (Or.inl rfl) lv0_20 dX13_prepare_147 rfl ?_
        refine v_aload_n C (pc' := 151) dX13_prepare_150 rfl rfl rfl ?_
        refine v_getI C (pc' := 154) fl_X13_75 rfl (Or.inl rfl) lv0_20 dX13_prepare_151 rfl ?_
        refine v_aload_n C (pc' := 155) dX13_prepare_154 rfl rfl rfl ?_
        refine v_getI C (pc' := 158) fl_X13_78 rfl (Or.inl rfl) lv0_20 dX13_prepare_155 rfl ?_
        refine v_isub C (pc' := 159) dX13_prepare_158 rfl ?_
        obtain ⟨y14, hy14, At13⟩ := bind_some At13
        refine v_callV C (pc' := 162) (rest := [aA 20 (some 0)]) (c_m_numberAt l (gI h (20, 0) 11) ((gI h (20, 0) 9) - (gI h (20, 0) 11)) h _ hy14) mv_X13_167 rfl rfl lv0_20 dX13_prepare_159 rfl rfl rfl ⟨Nat.le_of_ble_eq_true rfl, Nat.le_of_ble_eq_true rfl⟩ (Nat.le_of_ble_eq_true rfl) ⟨Nat.le_of_ble_eq_true rfl, Nat.le_of_ble_eq_true rfl⟩ ?_
        refine V.st (st' := [aI y14, aA 20 (some 0)]) rfl ?_
        refine v_goto C (pc' := 166) dX13_prepare_162 (by decide) ?_
        cases At13
        exact Kt13
  · rw [if_pos q1] at E
    refine v_aload_n C (pc' := 7) dX13_prepare_6 rfl rfl rfl ?_
    refine v_getI C (pc' := 10) fl_X13_75 rfl (Or.inl rfl) lv0_20 dX13_prepare_7 rfl ?_
    refine v_aload_n C (pc' := 11) dX13_prepare_10 rfl rfl rfl ?_
    refine v_getI C (pc' := 14) fl_X13_78 rfl (Or.inl rfl) lv0_20 dX13_prepare_11 rfl ?_
    refine v_iconst C (pc' := 15) dX13_prepare_14 (v := (1 : Int32)) (by decide) rfl ?_
    refine v_iadd C (pc' := 16) dX13_prepare_15 rfl ?_
    obtain ⟨t18, At18, E⟩ := bind_some E
    have Kt18 : V true G p l e { frames := 3, cells := 0, slots := 0, locals := 67 } s m args below meth c 4 (MQ below (QcA true G (some (aI r)) h') args s 0 0 (A_ G)) h 0 0 35 [some (aA 20 (some 0)), some (aI p1), none, none] [aI t18] := by
      refine v_istore2 C (pc' := 36) dX13_prepare_35 (by decide) rfl rfl ?_
      refine v_aload_n C (pc' := 37) dX13_prepare_36 rfl rfl rfl ?_
      refine v_getI C (pc' := 40) fl_X13_75 rfl (Or.inl rfl) lv0_20 dX13_prepare_37 rfl ?_
      refine v_aload_n C (pc' := 41) dX13_prepare_40 rfl rfl rfl ?_
      refine v_getI C (pc' := 44) fl_X13_78 rfl (Or.inl rfl) lv0_20 dX13_prepare_41 rfl ?_
      refine v_iconst C (pc' := 45) dX13_prepare_44 (v := (1 : Int32)) (by decide) rfl ?_
      refine v_iadd C (pc' := 46) dX13_prepare_45 rfl ?_
      obtain ⟨t21, At21, E⟩ := bind_some E
      have Kt21 : V true G p l e { frames := 3, cells := 0, slots := 0, locals := 67 } s m args below meth c 4 (MQ below (QcA true G (some (aI r)) h') args s 0 0 (A_ G)) h 0 0 68 [some (aA 20 (some 0)), some (aI p1), some (aI t18), none] [aI t21] := by
        refine v_istore3 C (pc' := 69) dX13_prepare_68 (by decide) rfl rfl ?_
        refine v_aload_n C (pc' := 70) dX13_prepare_69 rfl rfl rfl ?_
        refine v_iload_n C (pc' := 71) dX13_prepare_70 rfl rfl rfl ?_
        obtain ⟨t25, At25, E⟩ := bind_some E
        have Kt25 : V true G p l e { frames := 3, cells := 0, slots := 0, locals := 67 } s m args below meth c 4 (MQ below (QcA true G (some (aI r)) h') args s 0 0 (A_ G)) h 0 0 102 [some (aA 20 (some 0)), some (aI p1), some (aI t18), some (aI t21)] [aI t25, aA 20 (some 0)] := by
          obtain ⟨z30, E⟩ := guardZ_some E
          refine v_putZ C (pc' := 105) fp_X13_137 rfl rfl lv0_20 dX13_prepare_102 rfl z30 ?_
          refine v_iload_n C (pc' := 106) dX13_prepare_105 rfl rfl rfl ?_
          obtain ⟨t32, At32, E⟩ := bind_some E
          have Kt32 : V true G p l e { frames := 3, cells := 0, slots := 0, locals := 67 } s m args below meth c 4 (MQ below (QcA true G (some (aI r)) h') args s 0 0 (A_ G)) (sI h (20, 0) 18 t25) 0 0 130 [some (aA 20 (some 0)), some (aI p1), some (aI t18), some (aI t21)] [aI t32] := by
            cases E
            exact v_reti C hr hlk dX13_prepare_130
          refine v_if_eq C (tg := 127) (pc' := 109) dX13_prepare_106 (by decide) rfl (fun q31 => ?_) (fun q31 => ?_)
          · rw [if_pos q31] at At32
            refine v_sipush C (pc' := 130) dX13_prepare_127 (v := (504 : Int32)) (by decide) rfl ?_
            cases At32
            exact Kt32
          · rw [if_neg q31] at At32
            refine v_iload_n C (pc' := 110) dX13_prepare_109 rfl rfl rfl ?_
            refine v_bipush C (pc' := 112) dX13_prepare_110 (v := (65 : Int32)) (by decide) rfl ?_
            refine v_icmp_eq C (tg := 121) (pc' := 115) dX13_prepare_112 (by decide) rfl (fun q33 => ?_) (fun q33 => ?_)
            · rw [if_pos q33] at At32
              refine v_sipush C (pc' := 124) dX13_prepare_121 (v := (200 : Int32)) (by decide) rfl ?_
              refine v_goto C (pc' := 130) dX13_prepare_124 (by decide) ?_
              cases At32
              exact Kt32
            · rw [if_neg q33] at At32
              refine v_iload_n C (pc' := 116) dX13_prepare_115 rfl rfl rfl ?_
              refine v_bipush C (pc' := 118) dX13_prepare_116 (v := (73 : Int32)) (by decide) rfl ?_
              refine v_icmp_ne C (tg := 127) (pc' := 121) dX13_prepare_118 (by decide) rfl (fun q34 => ?_) (fun q34 => ?_)
              · rw [if_neg q34] at At32
                refine v_sipush C (pc' := 130) dX13_prepare_127 (v := (504 : Int32)) (by decide) rfl ?_
                cases At32
                exact Kt32
              · rw [if_pos q34] at At32
                refine v_sipush C (pc' := 124) dX13_prepare_121 (v := (200 : Int32)) (by decide) rfl ?_
                refine v_goto C (pc' := 130) dX13_prepare_124 (by decide) ?_
                cases At32
                exact Kt32
        have J80 : m_prepare_j80 t18 t21 h = some t25 → V true G p l e { frames := 3, cells := 0, slots := 0, locals := 67 } s m args below meth c 4 (MQ below (QcA true G (some (aI r)) h') args s 0 0 (A_ G)) h 0 0 80 [some (aA 20 (some 0)), some (aI p1), some (aI t18), some (aI t21)] [aA 20 (some 0)] := by
          intro  Ej80
          rw [m_prepare_j80] at Ej80
          refine v_aload_n C (pc' := 81) dX13_prepare_80 rfl rfl rfl ?_
          refine v_getI C (pc' := 84) fl_X13_137 rfl (Or.inr rfl) lv0_20 dX13_prepare_81 rfl ?_
          refine v_if_eq C (tg := 101) (pc' := 87) dX13_prepare_84 (by decide) rfl (fun q27 => ?_) (fun q27 => ?_)
          · rw [if_pos q27] at Ej80
            refine v_iconst C (pc' := 102) dX13_prepare_101 (v := (0 : Int32)) (by decide) rfl ?_
            cases Ej80
            exact Kt25
          · rw [if_neg q27] at Ej80
            refine v_iload_n C (pc' := 88) dX13_prepare_87 rfl rfl rfl ?_
            refine v_if_eq C (tg := 97) (pc' := 91) dX13_prepare_88 (by decide) rfl (fun q28 => ?_) (fun q28 => ?_)
            · rw [if_pos q28] at Ej80
              refine v_iconst C (pc' := 98) dX13_prepare_97 (v := (1 : Int32)) (by decide) rfl ?_
              refine v_goto C (pc' := 102) dX13_prepare_98 (by decide) ?_
              cases Ej80
              exact Kt25
            · rw [if_neg q28] at Ej80
              refine v_iload_n C (pc' := 92) dX13_prepare_91 rfl rfl rfl ?_
              refine v_bipush C (pc' := 94) dX13_prepare_92 (v := (65 : Int32)) (by decide) rfl ?_
              refine v_icmp_eq C (tg := 101) (pc' := 97) dX13_prepare_94 (by decide) rfl (fun q29 => ?_) (fun q29 => ?_)
              · rw [if_pos q29] at Ej80
                refine v_iconst C (pc' := 102) dX13_prepare_101 (v := (0 : Int32)) (by decide) rfl ?_
                cases Ej80
                exact Kt25
              · rw [if_neg q29] at Ej80
                refine v_iconst C (pc' := 98) dX13_prepare_97 (v := (1 : Int32)) (by decide) rfl ?_
                refine v_goto C (pc' := 102) dX13_prepare_98 (by decide) ?_
                cases Ej80
                exact Kt25
        refine v_if_eq C (tg := 80) (pc' := 74) dX13_prepare_71 (by decide) rfl (fun q24 => ?_) (fun q24 => ?_)
        · rw [if_pos q24] at At25
          exact J80  At25
        · rw [if_neg q24] at At25
          refine v_iload_n C (pc' := 75) dX13_prepare_74 rfl rfl rfl ?_
          refine v_bipush C (pc' := 77) dX13_prepare_75 (v := (73 : Int32)) (by decide) rfl ?_
          refine v_icmp_eq C (tg := 97) (pc' := 80) dX13_prepare_77 (by decide) rfl (fun q26 => ?_) (fun q26 => ?_)
          · rw [if_pos q26] at At25
            refine v_iconst C (pc' := 98) dX13_prepare_97 (v := (1 : Int32)) (by decide) rfl ?_
            refine v_goto C (pc' := 102) dX13_prepare_98 (by decide) ?_
            cases At25
            exact Kt25
          · rw [if_neg q26] at At25
            exact J80  At25
      refine v_icmp_ne C (tg := 67) (pc' := 49) dX13_prepare_46 (by decide) rfl (fun q20 => ?_) (fun q20 => ?_)
      · rw [if_neg q20] at At21
        refine v_iconst C (pc' := 68) dX13_prepare_67 (v := (0 : Int32)) (by decide) rfl ?_
        cases At21
        exact Kt21
      · rw [if_pos q20] at At21
        refine v_aload_n C (pc' := 50) dX13_prepare_49 rfl rfl rfl ?_
        refine v_getF C (pc' := 53) rfl fl_X13_35 rfl rfl (t2 := 29) rfl (j := 0) rfl u0_20 dX13_prepare_50 rfl ?_
        refine v_aload_n C (pc' := 54) dX13_prepare_53 rfl rfl rfl ?_
        refine v_getI C (pc' := 57) fl_X13_78 rfl (Or.inl rfl) lv0_20 dX13_prepare_54 rfl ?_
        obtain ⟨g22, At21⟩ := guardB_some At21
        refine v_cald C (pc' := 58) (t := 29) rfl lv0_29 g22 dX13_prepare_57 rfl ?_
        refine v_bipush C (pc' := 60) dX13_prepare_58 (v := (65 : Int32)) (by decide) rfl ?_
        refine v_icmp_lt C (tg := 67) (pc' := 63) dX13_prepare_60 (by decide) rfl (fun q23 => ?_) (fun q23 => ?_)
        · rw [if_pos q23] at At21
          refine v_iconst C (pc' := 68) dX13_prepare_67 (v := (0 : Int32)) (by decide) rfl ?_
          cases At21
          exact Kt21
        · rw [if_neg q23] at At21
          refine v_iconst C (pc' := 64) dX13_prepare_63 (v := (1 : Int32)) (by decide) rfl ?_
          refine v_goto C (pc' := 68) dX13_prepare_64 (by decide) ?_
          cases At21
          exact Kt21
    refine v_icmp_ne C (tg := 34) (pc' := 19) dX13_prepare_16 (by decide) rfl (fun q17 => ?_) (fun q17 => ?_)
    · rw [if_neg q17] at At18
      refine v_iconst C (pc' := 35) dX13_prepare_34 (v := (0 : Int32)) (by decide) rfl ?_
      cases At18
      exact Kt18
    · rw [if_pos q17] at At18
      refine v_aload_n C (pc' := 20) dX13_prepare_19 rfl rfl rfl ?_
      refine v_getF C (pc' := 23) rfl fl_X13_35 rfl rfl (t2 := 29) rfl (j := 0) rfl u0_20 dX13_prepare_20 rfl ?_
      refine v_aload_n C (pc' := 24) dX13_prepare_23 rfl rfl rfl ?_
      refine v_getI C (pc' := 27) fl_X13_78 rfl (Or.inl rfl) lv0_20 dX13_prepare_24 rfl ?_
      obtain ⟨g19, At18⟩ := guardB_some At18
      refine v_cald C (pc' := 28) (t := 29) rfl lv0_29 g19 dX13_prepare_27 rfl ?_
      refine v_bipush C (pc' := 30) dX13_prepare_28 (v := (95 : Int32)) (by decide) rfl ?_
      refine v_iand C (pc' := 31) dX13_prepare_30 rfl ?_
      refine v_goto C (pc' := 35) dX13_prepare_31 (by decide) ?_
      cases At18
      exact Kt18

def m_put (p1 : Int32) (h : Hp) : Option Hp :=
  guardB (gI h (20, 0) 30) 200 <|
  some (sI (sI h (31, 0) (gI h (20, 0) 30).toNatClampNeg p1) (20, 0) 30 ((gI (sI h (31, 0) (gI h (20, 0) 30).toNatClampNeg p1) (20, 0) 30) + (1 : Int32)))
set_option maxHeartbeats 2000000 in
set_option maxRecDepth 20000 in
theorem c_m_put (l : Launch) (p1 : Int32) (h : Hp) (h' : Hp)  (E : m_put p1 h = some h') : Ctr l yX13_put cX13_put 2 none 0 0 0 0 true [aA 20 (some 0), aI p1] h none h' := by
  rw [m_put] at E
  refine Ctr.of (ls0 := [some (aA 20 (some 0)), some (aI p1)]) (by decide +kernel) (Nat.le_of_ble_eq_true rfl) rfl ?_
  intro G p e s m args below meth c C hr hlk hnm
  refine v_aload_n C (pc' := 1) dX13_put_0 rfl rfl rfl ?_
  refine v_getF C (pc' := 4) rfl fl_X13_52 rfl rfl (t2 := 31) rfl (j := 0) rfl u0_20 dX13_put_1 rfl ?_
  refine v_aload_n C (pc' := 5) dX13_put_4 rfl rfl rfl ?_
  refine v_getI C (pc' := 8) fl_X13_246 rfl (Or.inl rfl) lv0_20 dX13_put_5 rfl ?_
  refine v_iload_n C (pc' := 9) dX13_put_8 rfl rfl rfl ?_
  obtain ⟨g1, E⟩ := guardB_some E
  refine v_iast C (pc' := 10) (t := 31) rfl lv0_31 g1 dX13_put_9 rfl ?_
  refine v_aload_n C (pc' := 11) dX13_put_10 rfl rfl rfl ?_
  refine v_aload_n C (pc' := 12) dX13_put_11 rfl rfl rfl ?_
  refine v_getI C (pc' := 15) fl_X13_246 rfl (Or.inl rfl) lv0_20 dX13_put_12 rfl ?_
  refine v_iconst C (pc' := 16) dX13_put_15 (v := (1 : Int32)) (by decide) rfl ?_
  refine v_iadd C (pc' := 17) dX13_put_16 rfl ?_
  refine v_putI C (pc' := 20) fp_X13_246 rfl rfl lv0_20 dX13_put_17 rfl ?_
  cases E
  exact v_retv C hr hlk dX13_put_20

def m_loadFile_l5 (v1 : Int32) : Int32 × Hp → Option ((Int32 × Hp) ⊕ (Int32 × Hp))
  | (a2, h) =>
    guardB v1 24 <|
    if (gI h (24, 0) v1.toNatClampNeg) ≤ a2 then
      some (.inl (a2, h))
    else
      (if (gI h (20, 0) 18) = 0 then
        guardB (((32 : Int32) * v1) + a2) 768 <|
        if (gI h (25, 0) (((32 : Int32) * v1) + a2).toNatClampNeg) = (10 : Int32) then
          (m_put (13 : Int32) h).bind fun y7 =>
          some y7
        else
          some h
      else
        some h).bind fun t4 =>
      guardB (((32 : Int32) * v1) + a2) 768 <|
      (m_put (gI t4 (25, 0) (((32 : Int32) * v1) + a2).toNatClampNeg) t4).bind fun y9 =>
      some (.inr ((a2 + (1 : Int32)), y9))
def m_loadFile (p1 : Int32) (h : Hp) : Option Hp :=
  (iter (m_loadFile_l5 p1) FU ((gI h (20, 0) 24), h)).bind fun t10 =>
  some t10.2
set_option maxHeartbeats 2000000 in
set_option maxRecDepth 20000 in
theorem c_m_loadFile (l : Launch) (p1 : Int32) (h : Hp) (h' : Hp)  (E : m_loadFile p1 h = some h') : Ctr l yX13_loadFile cX13_loadFile 3 none 1 21 0 0 true [aA 20 (some 0), aI p1] h none h' := by
  rw [m_loadFile] at E
  refine Ctr.of (ls0 := [some (aA 20 (some 0)), some (aI p1), none]) (by decide +kernel) (Nat.le_of_ble_eq_true rfl) rfl ?_
  intro G p e s m args below meth c C hr hlk hnm
  refine v_aload_n C (pc' := 1) dX13_loadFile_0 rfl rfl rfl ?_
  refine v_getI C (pc' := 4) fl_X13_184 rfl (Or.inl rfl) lv0_20 dX13_loadFile_1 rfl ?_
  refine v_istore2 C (pc' := 5) dX13_loadFile_4 (by decide) rfl rfl ?_
  obtain ⟨t1, It1, E⟩ := bind_some E
  have Kt1 : V true G p l e { frames := 1, cells := 0, slots := 0, locals := 21 } s m args below meth c 3 (MQ below (QcA true G none h') args s 0 0 (A_ G)) t1.2 0 0 65 [some (aA 20 (some 0)), some (aI p1), some (aI t1.1)] [] := by
    cases E
    exact v_retv C hr hlk dX13_loadFile_65
  refine iter_V (P := fun st1 : Int32 × Hp => V true G p l e { frames := 1, cells := 0, slots := 0, locals := 21 } s m args below meth c 3 (MQ below (QcA true G none h') args s 0 0 (A_ G)) st1.2 0 0 5 [some (aA 20 (some 0)), some (aI p1), some (aI st1.1)] []) ?_ _ _ It1
  rintro ⟨a2t1, ht1⟩ ot1 Lt1 kxt1 kst1
  rw [m_loadFile_l5] at Lt1
  show V true G p l e { frames := 1, cells := 0, slots := 0, locals := 21 } s m args below meth c 3 (MQ below (QcA true G none h') args s 0 0 (A_ G)) ht1 0 0 5 [some (aA 20 (some 0)), some (aI p1), some (aI a2t1)] []
  refine v_iload_n C (pc' := 6) dX13_loadFile_5 rfl rfl rfl ?_
  refine v_aload_n C (pc' := 7) dX13_loadFile_6 rfl rfl rfl ?_
  refine v_getF C (pc' := 10) rfl fl_X13_20 rfl rfl (t2 := 24) rfl (j := 0) rfl u0_20 dX13_loadFile_7 rfl ?_
  refine v_iload_n C (pc' := 11) dX13_loadFile_10 rfl rfl rfl ?_
  obtain ⟨g2, Lt1⟩ := guardB_some Lt1
  refine v_iald C (pc' := 12) (t := 24) rfl lv0_24 g2 dX13_loadFile_11 rfl ?_
  refine v_icmp_ge C (tg := 65) (pc' := 15) dX13_loadFile_12 (by decide) rfl (fun q3 => ?_) (fun q3 => ?_)
  · rw [if_pos q3] at Lt1
    cases Lt1
    have z := kxt1 _ rfl
    subst z
    exact Kt1
  · rw [if_neg q3] at Lt1
    refine v_aload_n C (pc' := 16) dX13_loadFile_15 rfl rfl rfl ?_
    refine v_getI C (pc' := 19) fl_X13_137 rfl (Or.inr rfl) lv0_20 dX13_loadFile_16 rfl ?_
    obtain ⟨t5, At5, Lt1⟩ := bind_some Lt1
    have Kt5 : V true G p l e { frames := 1, cells := 0, slots := 0, locals := 21 } s m args below meth c 3 (MQ below (QcA true G none h') args s 0 0 (A_ G)) t5 0 0 44 [some (aA 20 (some 0)), some (aI p1), some (aI a2t1)] [] := by
      refine v_aload_n C (pc' := 45) dX13_loadFile_44 rfl rfl rfl ?_
      refine v_aload_n C (pc' := 46) dX13_loadFile_45 rfl rfl rfl ?_
      refine v_getF C (pc' := 49) rfl fl_X13_23 rfl rfl (t2 := 25) rfl (j := 0) rfl u0_20 dX13_loadFile_46 rfl ?_
      refine v_bipush C (pc' := 51) dX13_loadFile_49 (v := (32 : Int32)) (by decide) rfl ?_
      refine v_iload_n C (pc' := 52) dX13_loadFile_51 rfl rfl rfl ?_
      refine v_imul C (pc' := 53) dX13_loadFile_52 rfl ?_
      refine v_iload_n C (pc' := 54) dX13_loadFile_53 rfl rfl rfl ?_
      refine v_iadd C (pc' := 55) dX13_loadFile_54 rfl ?_
      obtain ⟨g9, Lt1⟩ := guardB_some Lt1
      refine v_iald C (pc' := 56) (t := 25) rfl lv0_25 g9 dX13_loadFile_55 rfl ?_
      obtain ⟨y10, hy10, Lt1⟩ := bind_some Lt1
      refine v_callV C (pc' := 59) (rest := []) (c_m_put l (gI t5 (25, 0) (((32 : Int32) * p1) + a2t1).toNatClampNeg) t5 _ hy10) mv_X13_261 rfl rfl lv0_20 dX13_loadFile_56 rfl rfl rfl ⟨Nat.le_of_ble_eq_true rfl, Nat.le_of_ble_eq_true rfl⟩ (Nat.le_of_ble_eq_true rfl) ⟨Nat.le_of_ble_eq_true rfl, Nat.le_of_ble_eq_true rfl⟩ ?_
      refine V.st (st' := []) rfl ?_
      refine v_iinc2 C (pc' := 62) dX13_loadFile_59 (v := (a2t1 + (1 : Int32))) (by rw [show Int32.ofInt 1 = (1 : Int32) by decide]) (by decide) rfl rfl ?_
      refine v_goto C (pc' := 5) dX13_loadFile_62 (by decide) ?_
      cases Lt1
      exact kst1 _ rfl
    refine v_if_ne C (tg := 44) (pc' := 22) dX13_loadFile_19 (by decide) rfl (fun q4 => ?_) (fun q4 => ?_)
    · rw [if_neg q4] at At5
      cases At5
      exact Kt5
    · rw [if_pos q4] at At5
      refine v_aload_n C (pc' := 23) dX13_loadFile_22 rfl rfl rfl ?_
      refine v_getF C (pc' := 26) rfl fl_X13_23 rfl rfl (t2 := 25) rfl (j := 0) rfl u0_20 dX13_loadFile_23 rfl ?_
      refine v_bipush C (pc' := 28) dX13_loadFile_26 (v := (32 : Int32)) (by decide) rfl ?_
      refine v_iload_n C (pc' := 29) dX13_loadFile_28 rfl rfl rfl ?_
      refine v_imul C (pc' := 30) dX13_loadFile_29 rfl ?_
      refine v_iload_n C (pc' := 31) dX13_loadFile_30 rfl rfl rfl ?_
      refine v_iadd C (pc' := 32) dX13_loadFile_31 rfl ?_
      obtain ⟨g6, At5⟩ := guardB_some At5
      refine v_iald C (pc' := 33) (t := 25) rfl lv0_25 g6 dX13_loadFile_32 rfl ?_
      refine v_bipush C (pc' := 35) dX13_loadFile_33 (v := (10 : Int32)) (by decide) rfl ?_
      refine v_icmp_ne C (tg := 44) (pc' := 38) dX13_loadFile_35 (by decide) rfl (fun q7 => ?_) (fun q7 => ?_)
      · rw [if_neg q7] at At5
        cases At5
        exact Kt5
      · rw [if_pos q7] at At5
        refine v_aload_n C (pc' := 39) dX13_loadFile_38 rfl rfl rfl ?_
        refine v_bipush C (pc' := 41) dX13_loadFile_39 (v := (13 : Int32)) (by decide) rfl ?_
        obtain ⟨y8, hy8, At5⟩ := bind_some At5
        refine v_callV C (pc' := 44) (rest := []) (c_m_put l (13 : Int32) ht1 _ hy8) mv_X13_261 rfl rfl lv0_20 dX13_loadFile_41 rfl rfl rfl ⟨Nat.le_of_ble_eq_true rfl, Nat.le_of_ble_eq_true rfl⟩ (Nat.le_of_ble_eq_true rfl) ⟨Nat.le_of_ble_eq_true rfl, Nat.le_of_ble_eq_true rfl⟩ ?_
        refine V.st (st' := []) rfl ?_
        cases At5
        exact Kt5

def m_loadNames_l18 (v1 : Int32) (v2 : Int64) (h : Hp) : Int64 × Int32 → Option ((Int64 × Int32) ⊕ (Int64 × Int32))
  | (a5, a7) =>
    if (24 : Int32) ≤ a7 then
      some (.inl (a5, a7))
    else
      guardB a7 24 <|
      (if (gI h (21, 0) a7.toNatClampNeg) ≤ 0 then
        some (0 : Int32)
      else
        guardB a7 24 <|
        if (gI h (22, 0) a7.toNatClampNeg) = v1 then
          if a7 = v1 then
            some (0 : Int32)
          else
            guardB a7 24 <|
            if (gL h (23, 0) a7.toNatClampNeg) ≤ v2 then
              some (0 : Int32)
            else
              some (1 : Int32)
        else
          some (0 : Int32)).bind fun t5 =>
      (if t5 = 0 then
        some a5
      else
        guardB a7 24 <|
        if a5 ≤ (gL h (23, 0) a7.toNatClampNeg) then
          some a5
        else
          guardB a7 24 <|
          some (gL h (23, 0) a7.toNatClampNeg)).bind fun t12 =>
      some (.inr (t12, (a7 + (1 : Int32))))
def m_loadNames_l128 (v1 : Int32) (v4 : Int32) (v5 : Int64) : Int32 × Hp → Option ((Int32 × Hp) ⊕ (Int32 × Hp))
  | (a7, h) =>
    if a7 < 0 then
      some (.inl (a7, h))
    else
      if v4 = 0 then
        some (.inl (a7, h))
      else
        (if ((v5 >>> (((8 : Int32) * a7).toInt64 &&& 63)) &&& (255 : Int64)) = (0 : Int64) then
          some h
        else
          (m_put ((v5 >>> (((8 : Int32) * a7).toInt64 &&& 63)) &&& (255 : Int64)).toInt32 h).bind fun y23 =>
          some y23).bind fun t22 =>
        some (.inr ((a7 + (-1 : Int32)), t22))
def m_loadNames_l5 (v1 : Int32) : Int64 × Int32 × Hp → Option ((Int64 × Int32 × Hp) ⊕ (Int64 × Int32 × Hp))
  | (a2, a4, h) =>
    if a4 = 0 then
      some (.inl (a2, a4, h))
    else
      (iter (m_loadNames_l18 v1 a2 h) FU ((9223372036854775807 : Int64), (0 : Int32))).bind fun t16 =>
      (if (9223372036854775807 : Int64) ≤ t16.1 then
        some (0 : Int32)
      else
        some (1 : Int32)).bind fun t18 =>
      (iter (m_loadNames_l128 v1 t18 t16.1) FU ((5 : Int32), h)).bind fun t24 =>
      (if t18 = 0 then
        some t24.2
      else
        (m_put (13 : Int32) t24.2).bind fun y27 =>
        (m_put (10 : Int32) y27).bind fun y28 =>
        some y28).bind fun t26 =>
      some (.inr (t16.1, t18, t26))
def m_loadNames (p1 : Int32) (h : Hp) : Option Hp :=
  (iter (m_loadNames_l5 p1) FU ((0 : Int64), (1 : Int32), h)).bind fun t29 =>
  some t29.2.2
set_option maxHeartbeats 2000000 in
set_option maxRecDepth 20000 in
theorem c_m_loadNames (l : Launch) (p1 : Int32) (h : Hp) (h' : Hp)  (E : m_loadNames p1 h = some h') : Ctr l yX13_loadNames cX13_loadNames 9 none 1 21 0 0 true [aA 20 (some 0), aI p1] h none h' := by
  rw [m_loadNames] at E
  refine Ctr.of (ls0 := [some (aA 20 (some 0)), some (aI p1), none, none, none, none, none, none, none]) (by decide +kernel) (Nat.le_of_ble_eq_true rfl) rfl ?_
  intro G p e s m args below meth c C hr hlk hnm
  refine v_lconst C (pc' := 1) dX13_loadNames_0 (v := (0 : Int64)) (by decide) rfl ?_
  refine v_lstore2 C (pc' := 2) dX13_loadNames_1 (by decide) rfl rfl ?_
  refine v_iconst C (pc' := 3) dX13_loadNames_2 (v := (1 : Int32)) (by decide) rfl ?_
  refine v_istore4 C (pc' := 5) dX13_loadNames_3 (by decide) rfl rfl ?_
  obtain ⟨t1, It1, E⟩ := bind_some E
  have Kt1 : V true G p l e { frames := 1, cells := 0, slots := 0, locals := 21 } s m args below meth c 9 (MQ below (QcA true G none h') args s 0 0 (A_ G)) t1.2.2 0 0 201 [some (aA 20 (some 0)), some (aI p1), some (aL t1.1), none, some (aI t1.2.1), none, none, none, none] [] := by
    cases E
    exact v_retv C hr hlk dX13_loadNames_201
  refine iter_V (P := fun st1 : Int64 × Int32 × Hp => V true G p l e { frames := 1, cells := 0, slots := 0, locals := 21 } s m args below meth c 9 (MQ below (QcA true G none h') args s 0 0 (A_ G)) st1.2.2 0 0 5 [some (aA 20 (some 0)), some (aI p1), some (aL st1.1), none, some (aI st1.2.1), none, none, none, none] []) ?_ _ _ It1
  rintro ⟨a2t1, a4t1, ht1⟩ ot1 Lt1 kxt1 kst1
  rw [m_loadNames_l5] at Lt1
  show V true G p l e { frames := 1, cells := 0, slots := 0, locals := 21 } s m args below meth c 9 (MQ below (QcA true G none h') args s 0 0 (A_ G)) ht1 0 0 5 [some (aA 20 (some 0)), some (aI p1), some (aL a2t1), none, some (aI a4t1), none, none, none, none] []
  refine v_iload C (pc' := 7) dX13_loadNames_5 rfl rfl ?_
  refine v_if_eq C (tg := 201) (pc' := 10) dX13_loadNames_7 (by decide) rfl (fun q2 => ?_) (fun q2 => ?_)
  · rw [if_pos q2] at Lt1
    cases Lt1
    have z := kxt1 _ rfl
    subst z
    exact Kt1
  · rw [if_neg q2] at Lt1
    refine v_ldc2 C (pc' := 13) dX13_loadNames_10 (v := (9223372036854775807 : Int64)) (TT_of (i := 1198) (by decide +kernel) (by decide +kernel)) rfl ?_
    refine v_lstore5 C (pc' := 15) dX13_loadNames_13 (by decide) rfl rfl ?_
    refine v_iconst C (pc' := 16) dX13_loadNames_15 (v := (0 : Int32)) (by decide) rfl ?_
    refine v_istore7 C (pc' := 18) dX13_loadNames_16 (by decide) rfl rfl ?_
    obtain ⟨t3, It3, Lt1⟩ := bind_some Lt1
    have Kt3 : V true G p l e { frames := 1, cells := 0, slots := 0, locals := 21 } s m args below meth c 9 (MQ below (QcA true G none h') args s 0 0 (A_ G)) ht1 0 0 109 [some (aA 20 (some 0)), some (aI p1), some (aL a2t1), none, some (aI a4t1), some (aL t3.1), none, some (aI t3.2), none] [] := by
      refine v_lload C (pc' := 111) dX13_loadNames_109 rfl rfl ?_
      refine v_ldc2 C (pc' := 114) dX13_loadNames_111 (v := (9223372036854775807 : Int64)) (TT_of (i := 1198) (by decide +kernel) (by decide +kernel)) rfl ?_
      refine v_lcmp C (pc' := 115) dX13_loadNames_114 rfl ?_
      obtain ⟨t5, At5, Lt1⟩ := bind_some Lt1
      have Kt5 : V true G p l e { frames := 1, cells := 0, slots := 0, locals := 21 } s m args below meth c 9 (MQ below (QcA true G none h') args s 0 0 (A_ G)) ht1 0 0 123 [some (aA 20 (some 0)), some (aI p1), some (aL a2t1), none, some (aI a4t1), some (aL t3.1), none, some (aI t3.2), none] [aI t5] := by
        refine v_istore4 C (pc' := 125) dX13_loadNames_123 (by decide) rfl rfl ?_
        refine v_iconst C (pc' := 126) dX13_loadNames_125 (v := (5 : Int32)) (by decide) rfl ?_
        refine v_istore7 C (pc' := 128) dX13_loadNames_126 (by decide) rfl rfl ?_
        obtain ⟨t6, It6, Lt1⟩ := bind_some Lt1
        have Kt6 : V true G p l e { frames := 1, cells := 0, slots := 0, locals := 21 } s m args below meth c 9 (MQ below (QcA true G none h') args s 0 0 (A_ G)) t6.2 0 0 178 [some (aA 20 (some 0)), some (aI p1), some (aL a2t1), none, some (aI t5), some (aL t3.1), none, some (aI t6.1), none] [] := by
          refine v_iload C (pc' := 180) dX13_loadNames_178 rfl rfl ?_
          obtain ⟨t8, At8, Lt1⟩ := bind_some Lt1
          have Kt8 : V true G p l e { frames := 1, cells := 0, slots := 0, locals := 21 } s m args below meth c 9 (MQ below (QcA true G none h') args s 0 0 (A_ G)) t8 0 0 195 [some (aA 20 (some 0)), some (aI p1), some (aL a2t1), none, some (aI t5), some (aL t3.1), none, some (aI t6.1), none] [] := by
            refine v_lload C (pc' := 197) dX13_loadNames_195 rfl rfl ?_
            refine v_lstore2 C (pc' := 198) dX13_loadNames_197 (by decide) rfl rfl ?_
            refine v_goto C (pc' := 5) dX13_loadNames_198 (by decide) ?_
            cases Lt1
            exact V.ls (ms := [true, true, true, false, true, false, false, false, false]) rfl (kst1 _ rfl)
          refine v_if_eq C (tg := 195) (pc' := 183) dX13_loadNames_180 (by decide) rfl (fun q7 => ?_) (fun q7 => ?_)
          · rw [if_pos q7] at At8
            cases At8
            exact Kt8
          · rw [if_neg q7] at At8
            refine v_aload_n C (pc' := 184) dX13_loadNames_183 rfl rfl rfl ?_
            refine v_bipush C (pc' := 186) dX13_loadNames_184 (v := (13 : Int32)) (by decide) rfl ?_
            obtain ⟨y9, hy9, At8⟩ := bind_some At8
            refine v_callV C (pc' := 189) (rest := []) (c_m_put l (13 : Int32) t6.2 _ hy9) mv_X13_261 rfl rfl lv0_20 dX13_loadNames_186 rfl rfl rfl ⟨Nat.le_of_ble_eq_true rfl, Nat.le_of_ble_eq_true rfl⟩ (Nat.le_of_ble_eq_true rfl) ⟨Nat.le_of_ble_eq_true rfl, Nat.le_of_ble_eq_true rfl⟩ ?_
            refine V.st (st' := []) rfl ?_
            refine v_aload_n C (pc' := 190) dX13_loadNames_189 rfl rfl rfl ?_
            refine v_bipush C (pc' := 192) dX13_loadNames_190 (v := (10 : Int32)) (by decide) rfl ?_
            obtain ⟨y10, hy10, At8⟩ := bind_some At8
            refine v_callV C (pc' := 195) (rest := []) (c_m_put l (10 : Int32) y9 _ hy10) mv_X13_261 rfl rfl lv0_20 dX13_loadNames_192 rfl rfl rfl ⟨Nat.le_of_ble_eq_true rfl, Nat.le_of_ble_eq_true rfl⟩ (Nat.le_of_ble_eq_true rfl) ⟨Nat.le_of_ble_eq_true rfl, Nat.le_of_ble_eq_true rfl⟩ ?_
            refine V.st (st' := []) rfl ?_
            cases At8
            exact Kt8
        refine iter_V (P := fun st6 : Int32 × Hp => V true G p l e { frames := 1, cells := 0, slots := 0, locals := 21 } s m args below meth c 9 (MQ below (QcA true G none h') args s 0 0 (A_ G)) st6.2 0 0 128 [some (aA 20 (some 0)), some (aI p1), some (aL a2t1), none, some (aI t5), some (aL t3.1), none, some (aI st6.1), none] []) ?_ _ _ It6
        rintro ⟨a7t6, ht6⟩ ot6 Lt6 kxt6 kst6
        rw [m_loadNames_l128] at Lt6
        show V true G p l e { frames := 1, cells := 0, slots := 0, locals := 21 } s m args below meth c 9 (MQ below (QcA true G none h') args s 0 0 (A_ G)) ht6 0 0 128 [some (aA 20 (some 0)), some (aI p1), some (aL a2t1), none, some (aI t5), some (aL t3.1), none, some (aI a7t6), none] []
        refine v_iload C (pc' := 130) dX13_loadNames_128 rfl rfl ?_
        refine v_if_lt C (tg := 178) (pc' := 133) dX13_loadNames_130 (by decide) rfl (fun q11 => ?_) (fun q11 => ?_)
        · rw [if_pos q11] at Lt6
          cases Lt6
          have z := kxt6 _ rfl
          subst z
          exact Kt6
        · rw [if_neg q11] at Lt6
          refine v_iload C (pc' := 135) dX13_loadNames_133 rfl rfl ?_
          refine v_if_eq C (tg := 178) (pc' := 138) dX13_loadNames_135 (by decide) rfl (fun q12 => ?_) (fun q12 => ?_)
          · rw [if_pos q12] at Lt6
            cases Lt6
            have z := kxt6 _ rfl
            subst z
            exact Kt6
          · rw [if_neg q12] at Lt6
            refine v_lload C (pc' := 140) dX13_loadNames_138 rfl rfl ?_
            refine v_bipush C (pc' := 142) dX13_loadNames_140 (v := (8 : Int32)) (by decide) rfl ?_
            refine v_iload C (pc' := 144) dX13_loadNames_142 rfl rfl ?_
            refine v_imul C (pc' := 145) dX13_loadNames_144 rfl ?_
            refine v_lshr C (pc' := 146) dX13_loadNames_145 rfl ?_
            refine v_ldc2 C (pc' := 149) dX13_loadNames_146 (v := (255 : Int64)) (TT_of (i := 1028) (by decide +kernel) (by decide +kernel)) rfl ?_
            refine v_land C (pc' := 150) dX13_loadNames_149 rfl ?_
            refine v_lconst C (pc' := 151) dX13_loadNames_150 (v := (0 : Int64)) (by decide) rfl ?_
            refine v_lcmp C (pc' := 152) dX13_loadNames_151 rfl ?_
            obtain ⟨t14, At14, Lt6⟩ := bind_some Lt6
            have Kt14 : V true G p l e { frames := 1, cells := 0, slots := 0, locals := 21 } s m args below meth c 9 (MQ below (QcA true G none h') args s 0 0 (A_ G)) t14 0 0 172 [some (aA 20 (some 0)), some (aI p1), some (aL a2t1), none, some (aI t5), some (aL t3.1), none, some (aI a7t6), none] [] := by
              refine v_iinc7 C (pc' := 175) dX13_loadNames_172 (v := (a7t6 + (-1 : Int32))) (by rw [show Int32.ofInt (-1) = (-1 : Int32) by decide]) (by decide) rfl rfl ?_
              refine v_goto C (pc' := 128) dX13_loadNames_175 (by decide) ?_
              cases Lt6
              exact kst6 _ rfl
            refine v_if_eq C (tg := 172) (pc' := 155) dX13_loadNames_152 (by decide) rfl (fun q13 => ?_) (fun q13 => ?_)
            · rw [lgc_eq] at q13
              rw [if_pos q13] at At14
              cases At14
              exact Kt14
            · rw [lgc_eq] at q13
              rw [if_neg q13] at At14
              refine v_aload_n C (pc' := 156) dX13_loadNames_155 rfl rfl rfl ?_
              refine v_lload C (pc' := 158) dX13_loadNames_156 rfl rfl ?_
              refine v_bipush C (pc' := 160) dX13_loadNames_158 (v := (8 : Int32)) (by decide) rfl ?_
              refine v_iload C (pc' := 162) dX13_loadNames_160 rfl rfl ?_
              refine v_imul C (pc' := 163) dX13_loadNames_162 rfl ?_
              refine v_lshr C (pc' := 164) dX13_loadNames_163 rfl ?_
              refine v_ldc2 C (pc' := 167) dX13_loadNames_164 (v := (255 : Int64)) (TT_of (i := 1028) (by decide +kernel) (by decide +kernel)) rfl ?_
              refine v_land C (pc' := 168) dX13_loadNames_167 rfl ?_
              refine v_l2i C (pc' := 169) dX13_loadNames_168 rfl ?_
              obtain ⟨y15, hy15, At14⟩ := bind_some At14
              refine v_callV C (pc' := 172) (rest := []) (c_m_put l ((t3.1 >>> (((8 : Int32) * a7t6).toInt64 &&& 63)) &&& (255 : Int64)).toInt32 ht6 _ hy15) mv_X13_261 rfl rfl lv0_20 dX13_loadNames_169 rfl rfl rfl ⟨Nat.le_of_ble_eq_true rfl, Nat.le_of_ble_eq_true rfl⟩ (Nat.le_of_ble_eq_true rfl) ⟨Nat.le_of_ble_eq_true rfl, Nat.le_of_ble_eq_true rfl⟩ ?_
              refine V.st (st' := []) rfl ?_
              cases At14
              exact Kt14
      refine v_if_ge C (tg := 122) (pc' := 118) dX13_loadNames_115 (by decide) rfl (fun q4 => ?_) (fun q4 => ?_)
      · rw [lgc_ge] at q4
        rw [if_pos q4] at At5
        refine v_iconst C (pc' := 123) dX13_loadNames_122 (v := (0 : Int32)) (by decide) rfl ?_
        cases At5
        exact Kt5
      · rw [lgc_ge] at q4
        rw [if_neg q4] at At5
        refine v_iconst C (pc' := 119) dX13_loadNames_118 (v := (1 : Int32)) (by decide) rfl ?_
        refine v_goto C (pc' := 123) dX13_loadNames_119 (by decide) ?_
        cases At5
        exact Kt5
    refine iter_V (P := fun st3 : Int64 × Int32 => V true G p l e { frames := 1, cells := 0, slots := 0, locals := 21 } s m args below meth c 9 (MQ below (QcA true G none h') args s 0 0 (A_ G)) ht1 0 0 18 [some (aA 20 (some 0)), some (aI p1), some (aL a2t1), none, some (aI a4t1), some (aL st3.1), none, some (aI st3.2), none] []) ?_ _ _ It3
    rintro ⟨a5t3, a7t3⟩ ot3 Lt3 kxt3 kst3
    rw [m_loadNames_l18] at Lt3
    show V true G p l e { frames := 1, cells := 0, slots := 0, locals := 21 } s m args below meth c 9 (MQ below (QcA true G none h') args s 0 0 (A_ G)) ht1 0 0 18 [some (aA 20 (some 0)), some (aI p1), some (aL a2t1), none, some (aI a4t1), some (aL a5t3), none, some (aI a7t3), none] []
    refine v_iload C (pc' := 20) dX13_loadNames_18 rfl rfl ?_
    refine v_bipush C (pc' := 22) dX13_loadNames_20 (v := (24 : Int32)) (by decide) rfl ?_
    refine v_icmp_ge C (tg := 109) (pc' := 25) dX13_loadNames_22 (by decide) rfl (fun q16 => ?_) (fun q16 => ?_)
    · rw [if_pos q16] at Lt3
      cases Lt3
      have z := kxt3 _ rfl
      subst z
      exact Kt3
    · rw [if_neg q16] at Lt3
      refine v_aload_n C (pc' := 26) dX13_loadNames_25 rfl rfl rfl ?_
      refine v_getF C (pc' := 29) rfl fl_X13_7 rfl rfl (t2 := 21) rfl (j := 0) rfl u0_20 dX13_loadNames_26 rfl ?_
      refine v_iload C (pc' := 31) dX13_loadNames_29 rfl rfl ?_
      obtain ⟨g17, Lt3⟩ := guardB_some Lt3
      refine v_iald C (pc' := 32) (t := 21) rfl lv0_21 g17 dX13_loadNames_31 rfl ?_
      obtain ⟨t19, At19, Lt3⟩ := bind_some Lt3
      have Kt19 : V true G p l e { frames := 1, cells := 0, slots := 0, locals := 21 } s m args below meth c 9 (MQ below (QcA true G none h') args s 0 0 (A_ G)) ht1 0 0 69 [some (aA 20 (some 0)), some (aI p1), some (aL a2t1), none, some (aI a4t1), some (aL a5t3), none, some (aI a7t3), none] [aI t19] := by
        refine v_istore8 C (pc' := 71) dX13_loadNames_69 (by decide) rfl rfl ?_
        refine v_iload C (pc' := 73) dX13_loadNames_71 rfl rfl ?_
        obtain ⟨t26, At26, Lt3⟩ := bind_some Lt3
        have Kt26 : V true G p l e { frames := 1, cells := 0, slots := 0, locals := 21 } s m args below meth c 9 (MQ below (QcA true G none h') args s 0 0 (A_ G)) ht1 0 0 101 [some (aA 20 (some 0)), some (aI p1), some (aL a2t1), none, some (aI a4t1), some (aL a5t3), none, some (aI a7t3), some (aI t19)] [aL t26] := by
          refine v_lstore5 C (pc' := 103) dX13_loadNames_101 (by decide) rfl rfl ?_
          refine v_iinc7 C (pc' := 106) dX13_loadNames_103 (v := (a7t3 + (1 : Int32))) (by rw [show Int32.ofInt 1 = (1 : Int32) by decide]) (by decide) rfl rfl ?_
          refine v_goto C (pc' := 18) dX13_loadNames_106 (by decide) ?_
          cases Lt3
          exact V.ls (ms := [true, true, true, false, true, true, false, true, false]) rfl (kst3 _ rfl)
        refine v_if_eq C (tg := 99) (pc' := 76) dX13_loadNames_73 (by decide) rfl (fun q25 => ?_) (fun q25 => ?_)
        · rw [if_pos q25] at At26
          refine v_lload C (pc' := 101) dX13_loadNames_99 rfl rfl ?_
          cases At26
          exact Kt26
        · rw [if_neg q25] at At26
          refine v_aload_n C (pc' := 77) dX13_loadNames_76 rfl rfl rfl ?_
          refine v_getF C (pc' := 80) rfl fl_X13_16 rfl rfl (t2 := 23) rfl (j := 0) rfl u0_20 dX13_loadNames_77 rfl ?_
          refine v_iload C (pc' := 82) dX13_loadNames_80 rfl rfl ?_
          obtain ⟨g27, At26⟩ := guardB_some At26
          refine v_lald C (pc' := 83) (t := 23) rfl lv0_23 g27 dX13_loadNames_82 rfl ?_
          refine v_lload C (pc' := 85) dX13_loadNames_83 rfl rfl ?_
          refine v_lcmp C (pc' := 86) dX13_loadNames_85 rfl ?_
          refine v_if_ge C (tg := 99) (pc' := 89) dX13_loadNames_86 (by decide) rfl (fun q28 => ?_) (fun q28 => ?_)
          · rw [lgc_ge] at q28
            rw [if_pos q28] at At26
            refine v_lload C (pc' := 101) dX13_loadNames_99 rfl rfl ?_
            cases At26
            exact Kt26
          · rw [lgc_ge] at q28
            rw [if_neg q28] at At26
            refine v_aload_n C (pc' := 90) dX13_loadNames_89 rfl rfl rfl ?_
            refine v_getF C (pc' := 93) rfl fl_X13_16 rfl rfl (t2 := 23) rfl (j := 0) rfl u0_20 dX13_loadNames_90 rfl ?_
            refine v_iload C (pc' := 95) dX13_loadNames_93 rfl rfl ?_
            obtain ⟨g29, At26⟩ := guardB_some At26
            refine v_lald C (pc' := 96) (t := 23) rfl lv0_23 g29 dX13_loadNames_95 rfl ?_
            refine v_goto C (pc' := 101) dX13_loadNames_96 (by decide) ?_
            cases At26
            exact Kt26
      refine v_if_le C (tg := 68) (pc' := 35) dX13_loadNames_32 (by decide) rfl (fun q18 => ?_) (fun q18 => ?_)
      · rw [if_pos q18] at At19
        refine v_iconst C (pc' := 69) dX13_loadNames_68 (v := (0 : Int32)) (by decide) rfl ?_
        cases At19
        exact Kt19
      · rw [if_neg q18] at At19
        refine v_aload_n C (pc' := 36) dX13_loadNames_35 rfl rfl rfl ?_
        refine v_getF C (pc' := 39) rfl fl_X13_13 rfl rfl (t2 := 22) rfl (j := 0) rfl u0_20 dX13_loadNames_36 rfl ?_
        refine v_iload C (pc' := 41) dX13_loadNames_39 rfl rfl ?_
        obtain ⟨g20, At19⟩ := guardB_some At19
        refine v_iald C (pc' := 42) (t := 22) rfl lv0_22 g20 dX13_loadNames_41 rfl ?_
        refine v_iload_n C (pc' := 43) dX13_loadNames_42 rfl rfl rfl ?_
        refine v_icmp_ne C (tg := 68) (pc' := 46) dX13_loadNames_43 (by decide) rfl (fun q21 => ?_) (fun q21 => ?_)
        · rw [if_neg q21] at At19
          refine v_iconst C (pc' := 69) dX13_loadNames_68 (v := (0 : Int32)) (by decide) rfl ?_
          cases At19
          exact Kt19
        · rw [if_pos q21] at At19
          refine v_iload C (pc' := 48) dX13_loadNames_46 rfl rfl ?_
          refine v_iload_n C (pc' := 49) dX13_loadNames_48 rfl rfl rfl ?_
          refine v_icmp_eq C (tg := 68) (pc' := 52) dX13_loadNames_49 (by decide) rfl (fun q22 => ?_) (fun q22 => ?_)
          · rw [if_pos q22] at At19
            refine v_iconst C (pc' := 69) dX13_loadNames_68 (v := (0 : Int32)) (by decide) rfl ?_
            cases At19
            exact Kt19
          · rw [if_neg q22] at At19
            refine v_aload_n C (pc' := 53) dX13_loadNames_52 rfl rfl rfl ?_
            refine v_getF C (pc' := 56) rfl fl_X13_16 rfl rfl (t2 := 23) rfl (j := 0) rfl u0_20 dX13_loadNames_53 rfl ?_
            refine v_iload C (pc' := 58) dX13_loadNames_56 rfl rfl ?_
            obtain ⟨g23, At19⟩ := guardB_some At19
            refine v_lald C (pc' := 59) (t := 23) rfl lv0_23 g23 dX13_loadNames_58 rfl ?_
            refine v_lload_n C (pc' := 60) dX13_loadNames_59 rfl rfl rfl ?_
            refine v_lcmp C (pc' := 61) dX13_loadNames_60 rfl ?_
            refine v_if_le C (tg := 68) (pc' := 64) dX13_loadNames_61 (by decide) rfl (fun q24 => ?_) (fun q24 => ?_)
            · rw [lgc_le] at q24
              rw [if_pos q24] at At19
              refine v_iconst C (pc' := 69) dX13_loadNames_68 (v := (0 : Int32)) (by decide) rfl ?_
              cases At19
              exact Kt19
            · rw [lgc_le] at q24
              rw [if_neg q24] at At19
              refine v_iconst C (pc' := 65) dX13_loadNames_64 (v := (1 : Int32)) (by decide) rfl ?_
              refine v_goto C (pc' := 69) dX13_loadNames_65 (by decide) ?_
              cases At19
              exact Kt19

def m_transferBy_j173 (v1 : Int32) (v2 : Int32) (h : Hp) : Option (Int32 × Hp) :=
  (if v1 = (19 : Int32) then
    some (1 : Int32)
  else
    if v1 = (22 : Int32) then
      some (1 : Int32)
    else
      some (2 : Int32)).bind fun t28 =>
  (if v1 = (21 : Int32) then
    some (1 : Int32)
  else
    some (0 : Int32)).bind fun t31 =>
  guardZ t31 <|
  (if v1 = (19 : Int32) then
    (m_loadFile v2 (sI (sI (sI (sI (sI h (20, 0) 28 t28) (20, 0) 29 (0 : Int32)) (20, 0) 30 (0 : Int32)) (20, 0) 32 v2) (20, 0) 33 t31)).bind fun y37 =>
    some y37
  else
    if v1 = (22 : Int32) then
      (m_loadNames v2 (sI (sI (sI (sI (sI h (20, 0) 28 t28) (20, 0) 29 (0 : Int32)) (20, 0) 30 (0 : Int32)) (20, 0) 32 v2) (20, 0) 33 t31)).bind fun y36 =>
      some y36
    else
      some (sI (sI (sI (sI (sI h (20, 0) 28 t28) (20, 0) 29 (0 : Int32)) (20, 0) 30 (0 : Int32)) (20, 0) 32 v2) (20, 0) 33 t31)).bind fun t34 =>
  some ((150 : Int32), t34)
def m_transferBy_j137 (v1 : Int32) (v2 : Int32) (h : Hp) : Option (Int32 × Hp) :=
  if (gI h (20, 0) 25) = (2 : Int32) then
    m_transferBy_j173 v1 v2 h
  else
    if (gI h (20, 0) 25) = (3 : Int32) then
      if (gI h (20, 0) 26) = (gI h (20, 0) 27) then
        m_transferBy_j173 v1 v2 h
      else
        some ((425 : Int32), (sI h (20, 0) 25 (0 : Int32)))
    else
      some ((425 : Int32), (sI h (20, 0) 25 (0 : Int32)))
def m_transferBy_j120 (v1 : Int32) (v2 : Int32) (h : Hp) : Option (Int32 × Hp) :=
  if 0 ≤ v2 then
    m_transferBy_j137 v1 v2 h
  else
    (m_freeNode h).bind fun y22 =>
    if y22 = (24 : Int32) then
      some ((452 : Int32), h)
    else
      m_transferBy_j137 v1 v2 h
def m_transferBy_j92 (v1 : Int32) (v2 : Int32) (h : Hp) : Option (Int32 × Hp) :=
  if v2 < 0 then
    (m_findPlace h).bind fun y17 =>
    if y17.1 = 0 then
      some ((553 : Int32), y17.2)
    else
      m_transferBy_j120 v1 v2 y17.2
  else
    guardB v2 24 <|
    if (gI h (21, 0) v2.toNatClampNeg) = (1 : Int32) then
      some ((553 : Int32), h)
    else
      m_transferBy_j120 v1 v2 h
def m_transferBy_j80 (v1 : Int32) (v2 : Int32) (h : Hp) : Option (Int32 × Hp) :=
  if v1 = (20 : Int32) then
    m_transferBy_j92 v1 v2 h
  else
    if v1 = (21 : Int32) then
      m_transferBy_j92 v1 v2 h
    else
      m_transferBy_j120 v1 v2 h
def m_transferBy_j56 (v1 : Int32) (v2 : Int32) (h : Hp) : Option (Int32 × Hp) :=
  if v1 = (22 : Int32) then
    if v2 < 0 then
      some ((550 : Int32), h)
    else
      guardB v2 24 <|
      if (gI h (21, 0) v2.toNatClampNeg) = (1 : Int32) then
        m_transferBy_j80 v1 v2 h
      else
        some ((550 : Int32), h)
  else
    m_transferBy_j80 v1 v2 h
def m_transferBy (p1 : Int32) (h : Hp) : Option (Int32 × Hp) :=
  (if 0 ≤ (gI h (20, 0) 11) then
    (m_lead (gI h (20, 0) 9) h).bind fun y3 =>
    some y3
  else
    some (gI h (20, 0) 17)).bind fun t2 =>
  if p1 = (19 : Int32) then
    if t2 < 0 then
      some ((550 : Int32), h)
    else
      guardB t2 24 <|
      if (gI h (21, 0) t2.toNatClampNeg) = (2 : Int32) then
        guardB t2 24 <|
        if (gI h (24, 0) t2.toNatClampNeg) < (gI h (20, 0) 24) then
          some ((550 : Int32), h)
        else
          m_transferBy_j56 p1 t2 h
      else
        some ((550 : Int32), h)
  else
    m_transferBy_j56 p1 t2 h
set_option maxHeartbeats 2000000 in
set_option maxRecDepth 20000 in
theorem c_m_transferBy (l : Launch) (p1 : Int32) (h : Hp) (r : Int32) (h' : Hp)  (E : m_transferBy p1 h = some (r, h')) : Ctr l yX13_transferBy cX13_transferBy 3 (some .int) 5 119 0 0 true [aA 20 (some 0), aI p1] h (some (aI r)) h' := by
  rw [m_transferBy] at E
  refine Ctr.of (ls0 := [some (aA 20 (some 0)), some (aI p1), none]) (by decide +kernel) (Nat.le_of_ble_eq_true rfl) rfl ?_
  intro G p e s m args below meth c C hr hlk hnm
  refine v_aload_n C (pc' := 1) dX13_transferBy_0 rfl rfl rfl ?_
  refine v_getI C (pc' := 4) fl_X13_78 rfl (Or.inl rfl) lv0_20 dX13_transferBy_1 rfl ?_
  obtain ⟨t2, At2, E⟩ := bind_some E
  have Kt2 : V true G p l e { frames := 5, cells := 0, slots := 0, locals := 119 } s m args below meth c 3 (MQ below (QcA true G (some (aI r)) h') args s 0 0 (A_ G)) h 0 0 22 [some (aA 20 (some 0)), some (aI p1), none] [aI t2] := by
    refine v_istore2 C (pc' := 23) dX13_transferBy_22 (by decide) rfl rfl ?_
    refine v_iload_n C (pc' := 24) dX13_transferBy_23 rfl rfl rfl ?_
    refine v_bipush C (pc' := 26) dX13_transferBy_24 (v := (19 : Int32)) (by decide) rfl ?_
    have J56 : m_transferBy_j56 p1 t2 h = some (r, h') → V true G p l e { frames := 5, cells := 0, slots := 0, locals := 119 } s m args below meth c 3 (MQ below (QcA true G (some (aI r)) h') args s 0 0 (A_ G)) h 0 0 56 [some (aA 20 (some 0)), some (aI p1), some (aI t2)] [] := by
      intro  Ej56
      rw [m_transferBy_j56] at Ej56
      refine v_iload_n C (pc' := 57) dX13_transferBy_56 rfl rfl rfl ?_
      refine v_bipush C (pc' := 59) dX13_transferBy_57 (v := (22 : Int32)) (by decide) rfl ?_
      have J80 : m_transferBy_j80 p1 t2 h = some (r, h') → V true G p l e { frames := 5, cells := 0, slots := 0, locals := 119 } s m args below meth c 3 (MQ below (QcA true G (some (aI r)) h') args s 0 0 (A_ G)) h 0 0 80 [some (aA 20 (some 0)), some (aI p1), some (aI t2)] [] := by
        intro  Ej80
        rw [m_transferBy_j80] at Ej80
        refine v_iload_n C (pc' := 81) dX13_transferBy_80 rfl rfl rfl ?_
        refine v_bipush C (pc' := 83) dX13_transferBy_81 (v := (20 : Int32)) (by decide) rfl ?_
        have J120 : ∀ (hj120 : Hp), m_transferBy_j120 p1 t2 hj120 = some (r, h') → V true G p l e { frames := 5, cells := 0, slots := 0, locals := 119 } s m args below meth c 3 (MQ below (QcA true G (some (aI r)) h') args s 0 0 (A_ G)) hj120 0 0 120 [some (aA 20 (some 0)), some (aI p1), some (aI t2)] [] := by
          intro hj120 Ej120
          rw [m_transferBy_j120] at Ej120
          refine v_iload_n C (pc' := 121) dX13_transferBy_120 rfl rfl rfl ?_
          have J137 : m_transferBy_j137 p1 t2 hj120 = some (r, h') → V true G p l e { frames := 5, cells := 0, slots := 0, locals := 119 } s m args below meth c 3 (MQ below (QcA true G (some (aI r)) h') args s 0 0 (A_ G)) hj120 0 0 137 [some (aA 20 (some 0)), some (aI p1), some (aI t2)] [] := by
            intro  Ej137
            rw [m_transferBy_j137] at Ej137
            refine v_aload_n C (pc' := 138) dX13_transferBy_137 rfl rfl rfl ?_
            refine v_getI C (pc' := 141) fl_X13_146 rfl (Or.inl rfl) lv0_20 dX13_transferBy_138 rfl ?_
            refine v_iconst C (pc' := 142) dX13_transferBy_141 (v := (2 : Int32)) (by decide) rfl ?_
            have J173 : ∀ (hj173 : Hp), m_transferBy_j173 p1 t2 hj173 = some (r, h') → V true G p l e { frames := 5, cells := 0, slots := 0, locals := 119 } s m args below meth c 3 (MQ below (QcA true G (some (aI r)) h') args s 0 0 (A_ G)) hj173 0 0 173 [some (aA 20 (some 0)), some (aI p1), some (aI t2)] [] := by
              intro hj173 Ej173
              rw [m_transferBy_j173] at Ej173
              refine v_aload_n C (pc' := 174) dX13_transferBy_173 rfl rfl rfl ?_
              refine v_iload_n C (pc' := 175) dX13_transferBy_174 rfl rfl rfl ?_
              refine v_bipush C (pc' := 177) dX13_transferBy_175 (v := (19 : Int32)) (by decide) rfl ?_
              obtain ⟨t28, At28, Ej173⟩ := bind_some Ej173
              have Kt28 : V true G p l e { frames := 5, cells := 0, slots := 0, locals := 119 } s m args below meth c 3 (MQ below (QcA true G (some (aI r)) h') args s 0 0 (A_ G)) hj173 0 0 191 [some (aA 20 (some 0)), some (aI p1), some (aI t2)] [aI t28, aA 20 (some 0)] := by
                refine v_putI C (pc' := 194) fp_X13_199 rfl rfl lv0_20 dX13_transferBy_191 rfl ?_
                refine v_aload_n C (pc' := 195) dX13_transferBy_194 rfl rfl rfl ?_
                refine v_iconst C (pc' := 196) dX13_transferBy_195 (v := (0 : Int32)) (by decide) rfl ?_
                refine v_putI C (pc' := 199) fp_X13_243 rfl rfl lv0_20 dX13_transferBy_196 rfl ?_
                refine v_aload_n C (pc' := 200) dX13_transferBy_199 rfl rfl rfl ?_
                refine v_iconst C (pc' := 201) dX13_transferBy_200 (v := (0 : Int32)) (by decide) rfl ?_
                refine v_putI C (pc' := 204) fp_X13_246 rfl rfl lv0_20 dX13_transferBy_201 rfl ?_
                refine v_aload_n C (pc' := 205) dX13_transferBy_204 rfl rfl rfl ?_
                refine v_iload_n C (pc' := 206) dX13_transferBy_205 rfl rfl rfl ?_
                refine v_putI C (pc' := 209) fp_X13_249 rfl rfl lv0_20 dX13_transferBy_206 rfl ?_
                refine v_aload_n C (pc' := 210) dX13_transferBy_209 rfl rfl rfl ?_
                refine v_iload_n C (pc' := 211) dX13_transferBy_210 rfl rfl rfl ?_
                refine v_bipush C (pc' := 213) dX13_transferBy_211 (v := (21 : Int32)) (by decide) rfl ?_
                obtain ⟨t31, At31, Ej173⟩ := bind_some Ej173
                have Kt31 : V true G p l e { frames := 5, cells := 0, slots := 0, locals := 119 } s m args below meth c 3 (MQ below (QcA true G (some (aI r)) h') args s 0 0 (A_ G)) (sI (sI (sI (sI hj173 (20, 0) 28 t28) (20, 0) 29 (0 : Int32)) (20, 0) 30 (0 : Int32)) (20, 0) 32 t2) 0 0 221 [some (aA 20 (some 0)), some (aI p1), some (aI t2)] [aI t31, aA 20 (some 0)] := by
                  obtain ⟨z32, Ej173⟩ := guardZ_some Ej173
                  refine v_putZ C (pc' := 224) fp_X13_252 rfl rfl lv0_20 dX13_transferBy_221 rfl z32 ?_
                  refine v_iload_n C (pc' := 225) dX13_transferBy_224 rfl rfl rfl ?_
                  refine v_bipush C (pc' := 227) dX13_transferBy_225 (v := (19 : Int32)) (by decide) rfl ?_
                  obtain ⟨t34, At34, Ej173⟩ := bind_some Ej173
                  have Kt34 : V true G p l e { frames := 5, cells := 0, slots := 0, locals := 119 } s m args below meth c 3 (MQ below (QcA true G (some (aI r)) h') args s 0 0 (A_ G)) t34 0 0 249 [some (aA 20 (some 0)), some (aI p1), some (aI t2)] [] := by
                    refine v_sipush C (pc' := 252) dX13_transferBy_249 (v := (150 : Int32)) (by decide) rfl ?_
                    cases Ej173
                    exact v_reti C hr hlk dX13_transferBy_252
                  refine v_icmp_ne C (tg := 238) (pc' := 230) dX13_transferBy_227 (by decide) rfl (fun q33 => ?_) (fun q33 => ?_)
                  · rw [if_neg q33] at At34
                    refine v_iload_n C (pc' := 239) dX13_transferBy_238 rfl rfl rfl ?_
                    refine v_bipush C (pc' := 241) dX13_transferBy_239 (v := (22 : Int32)) (by decide) rfl ?_
                    refine v_icmp_ne C (tg := 249) (pc' := 244) dX13_transferBy_241 (by decide) rfl (fun q35 => ?_) (fun q35 => ?_)
                    · rw [if_neg q35] at At34
                      cases At34
                      exact Kt34
                    · rw [if_pos q35] at At34
                      refine v_aload_n C (pc' := 245) dX13_transferBy_244 rfl rfl rfl ?_
                      refine v_iload_n C (pc' := 246) dX13_transferBy_245 rfl rfl rfl ?_
                      obtain ⟨y36, hy36, At34⟩ := bind_some At34
                      refine v_callV C (pc' := 249) (rest := []) (c_m_loadNames l t2 (sI (sI (sI (sI (sI hj173 (20, 0) 28 t28) (20, 0) 29 (0 : Int32)) (20, 0) 30 (0 : Int32)) (20, 0) 32 t2) (20, 0) 33 t31) _ hy36) mv_X13_258 rfl rfl lv0_20 dX13_transferBy_246 rfl rfl rfl ⟨Nat.le_of_ble_eq_true rfl, Nat.le_of_ble_eq_true rfl⟩ (Nat.le_of_ble_eq_true rfl) ⟨Nat.le_of_ble_eq_true rfl, Nat.le_of_ble_eq_true rfl⟩ ?_
                      refine V.st (st' := []) rfl ?_
                      cases At34
                      exact Kt34
                  · rw [if_pos q33] at At34
                    refine v_aload_n C (pc' := 231) dX13_transferBy_230 rfl rfl rfl ?_
                    refine v_iload_n C (pc' := 232) dX13_transferBy_231 rfl rfl rfl ?_
                    obtain ⟨y37, hy37, At34⟩ := bind_some At34
                    refine v_callV C (pc' := 235) (rest := []) (c_m_loadFile l t2 (sI (sI (sI (sI (sI hj173 (20, 0) 28 t28) (20, 0) 29 (0 : Int32)) (20, 0) 30 (0 : Int32)) (20, 0) 32 t2) (20, 0) 33 t31) _ hy37) mv_X13_255 rfl rfl lv0_20 dX13_transferBy_232 rfl rfl rfl ⟨Nat.le_of_ble_eq_true rfl, Nat.le_of_ble_eq_true rfl⟩ (Nat.le_of_ble_eq_true rfl) ⟨Nat.le_of_ble_eq_true rfl, Nat.le_of_ble_eq_true rfl⟩ ?_
                    refine V.st (st' := []) rfl ?_
                    refine v_goto C (pc' := 249) dX13_transferBy_235 (by decide) ?_
                    cases At34
                    exact Kt34
                refine v_icmp_ne C (tg := 220) (pc' := 216) dX13_transferBy_213 (by decide) rfl (fun q30 => ?_) (fun q30 => ?_)
                · rw [if_neg q30] at At31
                  refine v_iconst C (pc' := 221) dX13_transferBy_220 (v := (0 : Int32)) (by decide) rfl ?_
                  cases At31
                  exact Kt31
                · rw [if_pos q30] at At31
                  refine v_iconst C (pc' := 217) dX13_transferBy_216 (v := (1 : Int32)) (by decide) rfl ?_
                  refine v_goto C (pc' := 221) dX13_transferBy_217 (by decide) ?_
                  cases At31
                  exact Kt31
              refine v_icmp_eq C (tg := 186) (pc' := 180) dX13_transferBy_177 (by decide) rfl (fun q27 => ?_) (fun q27 => ?_)
              · rw [if_pos q27] at At28
                refine v_iconst C (pc' := 187) dX13_transferBy_186 (v := (1 : Int32)) (by decide) rfl ?_
                refine v_goto C (pc' := 191) dX13_transferBy_187 (by decide) ?_
                cases At28
                exact Kt28
              · rw [if_neg q27] at At28
                refine v_iload_n C (pc' := 181) dX13_transferBy_180 rfl rfl rfl ?_
                refine v_bipush C (pc' := 183) dX13_transferBy_181 (v := (22 : Int32)) (by decide) rfl ?_
                refine v_icmp_ne C (tg := 190) (pc' := 186) dX13_transferBy_183 (by decide) rfl (fun q29 => ?_) (fun q29 => ?_)
                · rw [if_neg q29] at At28
                  refine v_iconst C (pc' := 191) dX13_transferBy_190 (v := (2 : Int32)) (by decide) rfl ?_
                  cases At28
                  exact Kt28
                · rw [if_pos q29] at At28
                  refine v_iconst C (pc' := 187) dX13_transferBy_186 (v := (1 : Int32)) (by decide) rfl ?_
                  refine v_goto C (pc' := 191) dX13_transferBy_187 (by decide) ?_
                  cases At28
                  exact Kt28
            refine v_icmp_eq C (tg := 173) (pc' := 145) dX13_transferBy_142 (by decide) rfl (fun q24 => ?_) (fun q24 => ?_)
            · rw [if_pos q24] at Ej137
              exact J173 _ Ej137
            · rw [if_neg q24] at Ej137
              refine v_aload_n C (pc' := 146) dX13_transferBy_145 rfl rfl rfl ?_
              refine v_getI C (pc' := 149) fl_X13_146 rfl (Or.inl rfl) lv0_20 dX13_transferBy_146 rfl ?_
              refine v_iconst C (pc' := 150) dX13_transferBy_149 (v := (3 : Int32)) (by decide) rfl ?_
              refine v_icmp_ne C (tg := 164) (pc' := 153) dX13_transferBy_150 (by decide) rfl (fun q25 => ?_) (fun q25 => ?_)
              · rw [if_neg q25] at Ej137
                refine v_aload_n C (pc' := 165) dX13_transferBy_164 rfl rfl rfl ?_
                refine v_iconst C (pc' := 166) dX13_transferBy_165 (v := (0 : Int32)) (by decide) rfl ?_
                refine v_putI C (pc' := 169) fp_X13_146 rfl rfl lv0_20 dX13_transferBy_166 rfl ?_
                refine v_sipush C (pc' := 172) dX13_transferBy_169 (v := (425 : Int32)) (by decide) rfl ?_
                cases Ej137
                exact v_reti C hr hlk dX13_transferBy_172
              · rw [if_pos q25] at Ej137
                refine v_aload_n C (pc' := 154) dX13_transferBy_153 rfl rfl rfl ?_
                refine v_getI C (pc' := 157) fl_X13_240 rfl (Or.inl rfl) lv0_20 dX13_transferBy_154 rfl ?_
                refine v_aload_n C (pc' := 158) dX13_transferBy_157 rfl rfl rfl ?_
                refine v_getI C (pc' := 161) fl_X13_49 rfl (Or.inl rfl) lv0_20 dX13_transferBy_158 rfl ?_
                refine v_icmp_eq C (tg := 173) (pc' := 164) dX13_transferBy_161 (by decide) rfl (fun q26 => ?_) (fun q26 => ?_)
                · rw [if_pos q26] at Ej137
                  exact J173 _ Ej137
                · rw [if_neg q26] at Ej137
                  refine v_aload_n C (pc' := 165) dX13_transferBy_164 rfl rfl rfl ?_
                  refine v_iconst C (pc' := 166) dX13_transferBy_165 (v := (0 : Int32)) (by decide) rfl ?_
                  refine v_putI C (pc' := 169) fp_X13_146 rfl rfl lv0_20 dX13_transferBy_166 rfl ?_
                  refine v_sipush C (pc' := 172) dX13_transferBy_169 (v := (425 : Int32)) (by decide) rfl ?_
                  cases Ej137
                  exact v_reti C hr hlk dX13_transferBy_172
          refine v_if_ge C (tg := 137) (pc' := 124) dX13_transferBy_121 (by decide) rfl (fun q21 => ?_) (fun q21 => ?_)
          · rw [if_pos q21] at Ej120
            exact J137  Ej120
          · rw [if_neg q21] at Ej120
            refine v_aload_n C (pc' := 125) dX13_transferBy_124 rfl rfl rfl ?_
            obtain ⟨y22, hy22, Ej120⟩ := bind_some Ej120
            refine v_callV C (pc' := 128) (rest := []) (c_m_freeNode l hj120 _ hy22) mv_X13_119 rfl rfl lv0_20 dX13_transferBy_125 rfl rfl rfl ⟨Nat.le_of_ble_eq_true rfl, Nat.le_of_ble_eq_true rfl⟩ (Nat.le_of_ble_eq_true rfl) ⟨Nat.le_of_ble_eq_true rfl, Nat.le_of_ble_eq_true rfl⟩ ?_
            refine V.st (st' := [aI y22]) rfl ?_
            refine v_bipush C (pc' := 130) dX13_transferBy_128 (v := (24 : Int32)) (by decide) rfl ?_
            refine v_icmp_ne C (tg := 137) (pc' := 133) dX13_transferBy_130 (by decide) rfl (fun q23 => ?_) (fun q23 => ?_)
            · rw [if_neg q23] at Ej120
              exact J137  Ej120
            · rw [if_pos q23] at Ej120
              refine v_sipush C (pc' := 136) dX13_transferBy_133 (v := (452 : Int32)) (by decide) rfl ?_
              cases Ej120
              exact v_reti C hr hlk dX13_transferBy_136
        have J92 : m_transferBy_j92 p1 t2 h = some (r, h') → V true G p l e { frames := 5, cells := 0, slots := 0, locals := 119 } s m args below meth c 3 (MQ below (QcA true G (some (aI r)) h') args s 0 0 (A_ G)) h 0 0 92 [some (aA 20 (some 0)), some (aI p1), some (aI t2)] [] := by
          intro  Ej92
          rw [m_transferBy_j92] at Ej92
          refine v_iload_n C (pc' := 93) dX13_transferBy_92 rfl rfl rfl ?_
          refine v_if_lt C (tg := 109) (pc' := 96) dX13_transferBy_93 (by decide) rfl (fun q16 => ?_) (fun q16 => ?_)
          · rw [if_pos q16] at Ej92
            refine v_aload_n C (pc' := 110) dX13_transferBy_109 rfl rfl rfl ?_
            obtain ⟨y17, hy17, Ej92⟩ := bind_some Ej92
            refine v_callV C (pc' := 113) (rest := []) (c_m_findPlace l h _ _ hy17) mv_X13_218 rfl rfl lv0_20 dX13_transferBy_110 rfl rfl rfl ⟨Nat.le_of_ble_eq_true rfl, Nat.le_of_ble_eq_true rfl⟩ (Nat.le_of_ble_eq_true rfl) ⟨Nat.le_of_ble_eq_true rfl, Nat.le_of_ble_eq_true rfl⟩ ?_
            refine V.st (st' := [aI y17.1]) rfl ?_
            refine v_if_ne C (tg := 120) (pc' := 116) dX13_transferBy_113 (by decide) rfl (fun q18 => ?_) (fun q18 => ?_)
            · rw [if_neg q18] at Ej92
              exact J120 _ Ej92
            · rw [if_pos q18] at Ej92
              refine v_sipush C (pc' := 119) dX13_transferBy_116 (v := (553 : Int32)) (by decide) rfl ?_
              cases Ej92
              exact v_reti C hr hlk dX13_transferBy_119
          · rw [if_neg q16] at Ej92
            refine v_aload_n C (pc' := 97) dX13_transferBy_96 rfl rfl rfl ?_
            refine v_getF C (pc' := 100) rfl fl_X13_7 rfl rfl (t2 := 21) rfl (j := 0) rfl u0_20 dX13_transferBy_97 rfl ?_
            refine v_iload_n C (pc' := 101) dX13_transferBy_100 rfl rfl rfl ?_
            obtain ⟨g19, Ej92⟩ := guardB_some Ej92
            refine v_iald C (pc' := 102) (t := 21) rfl lv0_21 g19 dX13_transferBy_101 rfl ?_
            refine v_iconst C (pc' := 103) dX13_transferBy_102 (v := (1 : Int32)) (by decide) rfl ?_
            refine v_icmp_ne C (tg := 120) (pc' := 106) dX13_transferBy_103 (by decide) rfl (fun q20 => ?_) (fun q20 => ?_)
            · rw [if_neg q20] at Ej92
              exact J120 _ Ej92
            · rw [if_pos q20] at Ej92
              refine v_goto C (pc' := 116) dX13_transferBy_106 (by decide) ?_
              refine v_sipush C (pc' := 119) dX13_transferBy_116 (v := (553 : Int32)) (by decide) rfl ?_
              cases Ej92
              exact v_reti C hr hlk dX13_transferBy_119
        refine v_icmp_eq C (tg := 92) (pc' := 86) dX13_transferBy_83 (by decide) rfl (fun q14 => ?_) (fun q14 => ?_)
        · rw [if_pos q14] at Ej80
          exact J92  Ej80
        · rw [if_neg q14] at Ej80
          refine v_iload_n C (pc' := 87) dX13_transferBy_86 rfl rfl rfl ?_
          refine v_bipush C (pc' := 89) dX13_transferBy_87 (v := (21 : Int32)) (by decide) rfl ?_
          refine v_icmp_ne C (tg := 120) (pc' := 92) dX13_transferBy_89 (by decide) rfl (fun q15 => ?_) (fun q15 => ?_)
          · rw [if_neg q15] at Ej80
            exact J120 _ Ej80
          · rw [if_pos q15] at Ej80
            exact J92  Ej80
      refine v_icmp_ne C (tg := 80) (pc' := 62) dX13_transferBy_59 (by decide) rfl (fun q10 => ?_) (fun q10 => ?_)
      · rw [if_neg q10] at Ej56
        exact J80  Ej56
      · rw [if_pos q10] at Ej56
        refine v_iload_n C (pc' := 63) dX13_transferBy_62 rfl rfl rfl ?_
        refine v_if_lt C (tg := 76) (pc' := 66) dX13_transferBy_63 (by decide) rfl (fun q11 => ?_) (fun q11 => ?_)
        · rw [if_pos q11] at Ej56
          refine v_sipush C (pc' := 79) dX13_transferBy_76 (v := (550 : Int32)) (by decide) rfl ?_
          cases Ej56
          exact v_reti C hr hlk dX13_transferBy_79
        · rw [if_neg q11] at Ej56
          refine v_aload_n C (pc' := 67) dX13_transferBy_66 rfl rfl rfl ?_
          refine v_getF C (pc' := 70) rfl fl_X13_7 rfl rfl (t2 := 21) rfl (j := 0) rfl u0_20 dX13_transferBy_67 rfl ?_
          refine v_iload_n C (pc' := 71) dX13_transferBy_70 rfl rfl rfl ?_
          obtain ⟨g12, Ej56⟩ := guardB_some Ej56
          refine v_iald C (pc' := 72) (t := 21) rfl lv0_21 g12 dX13_transferBy_71 rfl ?_
          refine v_iconst C (pc' := 73) dX13_transferBy_72 (v := (1 : Int32)) (by decide) rfl ?_
          refine v_icmp_eq C (tg := 80) (pc' := 76) dX13_transferBy_73 (by decide) rfl (fun q13 => ?_) (fun q13 => ?_)
          · rw [if_pos q13] at Ej56
            exact J80  Ej56
          · rw [if_neg q13] at Ej56
            refine v_sipush C (pc' := 79) dX13_transferBy_76 (v := (550 : Int32)) (by decide) rfl ?_
            cases Ej56
            exact v_reti C hr hlk dX13_transferBy_79
    refine v_icmp_ne C (tg := 56) (pc' := 29) dX13_transferBy_26 (by decide) rfl (fun q4 => ?_) (fun q4 => ?_)
    · rw [if_neg q4] at E
      exact J56  E
    · rw [if_pos q4] at E
      refine v_iload_n C (pc' := 30) dX13_transferBy_29 rfl rfl rfl ?_
      refine v_if_lt C (tg := 76) (pc' := 33) dX13_transferBy_30 (by decide) rfl (fun q5 => ?_) (fun q5 => ?_)
      · rw [if_pos q5] at E
        refine v_sipush C (pc' := 79) dX13_transferBy_76 (v := (550 : Int32)) (by decide) rfl ?_
        cases E
        exact v_reti C hr hlk dX13_transferBy_79
      · rw [if_neg q5] at E
        refine v_aload_n C (pc' := 34) dX13_transferBy_33 rfl rfl rfl ?_
        refine v_getF C (pc' := 37) rfl fl_X13_7 rfl rfl (t2 := 21) rfl (j := 0) rfl u0_20 dX13_transferBy_34 rfl ?_
        refine v_iload_n C (pc' := 38) dX13_transferBy_37 rfl rfl rfl ?_
        obtain ⟨g6, E⟩ := guardB_some E
        refine v_iald C (pc' := 39) (t := 21) rfl lv0_21 g6 dX13_transferBy_38 rfl ?_
        refine v_iconst C (pc' := 40) dX13_transferBy_39 (v := (2 : Int32)) (by decide) rfl ?_
        refine v_icmp_ne C (tg := 76) (pc' := 43) dX13_transferBy_40 (by decide) rfl (fun q7 => ?_) (fun q7 => ?_)
        · rw [if_neg q7] at E
          refine v_sipush C (pc' := 79) dX13_transferBy_76 (v := (550 : Int32)) (by decide) rfl ?_
          cases E
          exact v_reti C hr hlk dX13_transferBy_79
        · rw [if_pos q7] at E
          refine v_aload_n C (pc' := 44) dX13_transferBy_43 rfl rfl rfl ?_
          refine v_getI C (pc' := 47) fl_X13_184 rfl (Or.inl rfl) lv0_20 dX13_transferBy_44 rfl ?_
          refine v_aload_n C (pc' := 48) dX13_transferBy_47 rfl rfl rfl ?_
          refine v_getF C (pc' := 51) rfl fl_X13_20 rfl rfl (t2 := 24) rfl (j := 0) rfl u0_20 dX13_transferBy_48 rfl ?_
          refine v_iload_n C (pc' := 52) dX13_transferBy_51 rfl rfl rfl ?_
          obtain ⟨g8, E⟩ := guardB_some E
          refine v_iald C (pc' := 53) (t := 24) rfl lv0_24 g8 dX13_transferBy_52 rfl ?_
          refine v_icmp_gt C (tg := 76) (pc' := 56) dX13_transferBy_53 (by decide) rfl (fun q9 => ?_) (fun q9 => ?_)
          · rw [if_pos q9] at E
            refine v_sipush C (pc' := 79) dX13_transferBy_76 (v := (550 : Int32)) (by decide) rfl ?_
            cases E
            exact v_reti C hr hlk dX13_transferBy_79
          · rw [if_neg q9] at E
            exact J56  E
  refine v_if_ge C (tg := 14) (pc' := 7) dX13_transferBy_4 (by decide) rfl (fun q1 => ?_) (fun q1 => ?_)
  · rw [if_pos q1] at At2
    refine v_aload_n C (pc' := 15) dX13_transferBy_14 rfl rfl rfl ?_
    refine v_aload_n C (pc' := 16) dX13_transferBy_15 rfl rfl rfl ?_
    refine v_getI C (pc' := 19) fl_X13_75 rfl (Or.inl rfl) lv0_20 dX13_transferBy_16 rfl ?_
    obtain ⟨y3, hy3, At2⟩ := bind_some At2
    refine v_callV C (pc' := 22) (rest := []) (c_m_lead l (gI h (20, 0) 9) h _ hy3) mv_X13_104 rfl rfl lv0_20 dX13_transferBy_19 rfl rfl rfl ⟨Nat.le_of_ble_eq_true rfl, Nat.le_of_ble_eq_true rfl⟩ (Nat.le_of_ble_eq_true rfl) ⟨Nat.le_of_ble_eq_true rfl, Nat.le_of_ble_eq_true rfl⟩ ?_
    refine V.st (st' := [aI y3]) rfl ?_
    cases At2
    exact Kt2
  · rw [if_neg q1] at At2
    refine v_aload_n C (pc' := 8) dX13_transferBy_7 rfl rfl rfl ?_
    refine v_getI C (pc' := 11) fl_X13_93 rfl (Or.inl rfl) lv0_20 dX13_transferBy_8 rfl ?_
    refine v_goto C (pc' := 22) dX13_transferBy_11 (by decide) ?_
    cases At2
    exact Kt2

def m_run_j73 (v2 : Int32) (h : Hp) : Option (Int32 × Hp) :=
  (if (5 : Int32) ≤ v2 then
    if (14 : Int32) ≤ v2 then
      if (19 : Int32) ≤ v2 then
        (m_transferBy v2 h).bind fun y16 =>
        some (y16.1, y16.2)
      else
        (m_prepare v2 h).bind fun y17 =>
        some (y17.1, y17.2)
    else
      (m_change v2 h).bind fun y18 =>
      some (y18.1, y18.2)
  else
    (m_enterAs v2 h).bind fun y19 =>
    some (y19.1, y19.2)).bind fun t13 =>
  some (t13.1, t13.2)
def m_run_j46 (v2 : Int32) (h : Hp) : Option (Int32 × Hp) :=
  if (gI h (20, 0) 28) ≤ 0 then
    m_run_j73 v2 h
  else
    if v2 = (3 : Int32) then
      m_run_j73 v2 h
    else
      if v2 = (4 : Int32) then
        m_run_j73 v2 h
      else
        if v2 = (18 : Int32) then
          m_run_j73 v2 h
        else
          some ((503 : Int32), h)
def m_run  (h : Hp) : Option (Int32 × Hp) :=
  (m_readLetters h).bind fun y1 =>
  (m_commandOf y1.1 y1.2).bind fun y2 =>
  if y2 = 0 then
    some ((500 : Int32), y1.2)
  else
    (m_argumentFits y2 y1.2).bind fun y4 =>
    if y4 = 0 then
      some ((501 : Int32), y1.2)
    else
      if 0 ≤ (gI y1.2 (20, 0) 16) then
        m_run_j46 y2 y1.2
      else
        if y2 ≤ (4 : Int32) then
          m_run_j46 y2 y1.2
        else
          some ((530 : Int32), y1.2)
set_option maxHeartbeats 2000000 in
set_option maxRecDepth 20000 in
theorem c_m_run (l : Launch)  (h : Hp) (r : Int32) (h' : Hp)  (E : m_run  h = some (r, h')) : Ctr l yX13_run cX13_run 3 (some .int) 7 164 0 0 true [aA 20 (some 0)] h (some (aI r)) h' := by
  rw [m_run] at E
  refine Ctr.of (ls0 := [some (aA 20 (some 0)), none, none]) (by decide +kernel) (Nat.le_of_ble_eq_true rfl) rfl ?_
  intro G p e s m args below meth c C hr hlk hnm
  refine v_aload_n C (pc' := 1) dX13_run_0 rfl rfl rfl ?_
  obtain ⟨y1, hy1, E⟩ := bind_some E
  refine v_callV C (pc' := 4) (rest := []) (c_m_readLetters l h _ _ hy1) mv_X13_190 rfl rfl lv0_20 dX13_run_1 rfl rfl rfl ⟨Nat.le_of_ble_eq_true rfl, Nat.le_of_ble_eq_true rfl⟩ (Nat.le_of_ble_eq_true rfl) ⟨Nat.le_of_ble_eq_true rfl, Nat.le_of_ble_eq_true rfl⟩ ?_
  refine V.st (st' := [aI y1.1]) rfl ?_
  refine v_istore1 C (pc' := 5) dX13_run_4 (by decide) rfl rfl ?_
  refine v_iload_n C (pc' := 6) dX13_run_5 rfl rfl rfl ?_
  obtain ⟨y2, hy2, E⟩ := bind_some E
  refine v_callS C (pc' := 9) (rest := []) (c_m_commandOf l y1.1 y1.2 _ hy2) ms_X13_193 dX13_run_6 rfl rfl rfl ⟨Nat.le_of_ble_eq_true rfl, Nat.le_of_ble_eq_true rfl⟩ (Nat.le_of_ble_eq_true rfl) ⟨Nat.le_of_ble_eq_true rfl, Nat.le_of_ble_eq_true rfl⟩ ?_
  refine V.st (st' := [aI y2]) rfl ?_
  refine v_istore2 C (pc' := 10) dX13_run_9 (by decide) rfl rfl ?_
  refine v_iload_n C (pc' := 11) dX13_run_10 rfl rfl rfl ?_
  refine v_if_ne C (tg := 18) (pc' := 14) dX13_run_11 (by decide) rfl (fun q3 => ?_) (fun q3 => ?_)
  · rw [if_neg q3] at E
    refine v_aload_n C (pc' := 19) dX13_run_18 rfl rfl rfl ?_
    refine v_iload_n C (pc' := 20) dX13_run_19 rfl rfl rfl ?_
    obtain ⟨y4, hy4, E⟩ := bind_some E
    refine v_callV C (pc' := 23) (rest := []) (c_m_argumentFits l y2 y1.2 _ hy4) mv_X13_196 rfl rfl lv0_20 dX13_run_20 rfl rfl rfl ⟨Nat.le_of_ble_eq_true rfl, Nat.le_of_ble_eq_true rfl⟩ (Nat.le_of_ble_eq_true rfl) ⟨Nat.le_of_ble_eq_true rfl, Nat.le_of_ble_eq_true rfl⟩ ?_
    refine V.st (st' := [aI y4]) rfl ?_
    refine v_if_ne C (tg := 30) (pc' := 26) dX13_run_23 (by decide) rfl (fun q5 => ?_) (fun q5 => ?_)
    · rw [if_neg q5] at E
      refine v_aload_n C (pc' := 31) dX13_run_30 rfl rfl rfl ?_
      refine v_getI C (pc' := 34) fl_X13_42 rfl (Or.inl rfl) lv0_20 dX13_run_31 rfl ?_
      have J46 : m_run_j46 y2 y1.2 = some (r, h') → V true G p l e { frames := 7, cells := 0, slots := 0, locals := 164 } s m args below meth c 3 (MQ below (QcA true G (some (aI r)) h') args s 0 0 (A_ G)) y1.2 0 0 46 [some (aA 20 (some 0)), some (aI y1.1), some (aI y2)] [] := by
        intro  Ej46
        rw [m_run_j46] at Ej46
        refine v_aload_n C (pc' := 47) dX13_run_46 rfl rfl rfl ?_
        refine v_getI C (pc' := 50) fl_X13_199 rfl (Or.inl rfl) lv0_20 dX13_run_47 rfl ?_
        have J73 : m_run_j73 y2 y1.2 = some (r, h') → V true G p l e { frames := 7, cells := 0, slots := 0, locals := 164 } s m args below meth c 3 (MQ below (QcA true G (some (aI r)) h') args s 0 0 (A_ G)) y1.2 0 0 73 [some (aA 20 (some 0)), some (aI y1.1), some (aI y2)] [] := by
          intro  Ej73
          rw [m_run_j73] at Ej73
          refine v_iload_n C (pc' := 74) dX13_run_73 rfl rfl rfl ?_
          refine v_iconst C (pc' := 75) dX13_run_74 (v := (5 : Int32)) (by decide) rfl ?_
          obtain ⟨t13, At13, Ej73⟩ := bind_some Ej73
          have Kt13 : V true G p l e { frames := 7, cells := 0, slots := 0, locals := 164 } s m args below meth c 3 (MQ below (QcA true G (some (aI r)) h') args s 0 0 (A_ G)) t13.2 0 0 119 [some (aA 20 (some 0)), some (aI y1.1), some (aI y2)] [aI t13.1] := by
            cases Ej73
            exact v_reti C hr hlk dX13_run_119
          refine v_icmp_ge C (tg := 86) (pc' := 78) dX13_run_75 (by decide) rfl (fun q12 => ?_) (fun q12 => ?_)
          · rw [if_pos q12] at At13
            refine v_iload_n C (pc' := 87) dX13_run_86 rfl rfl rfl ?_
            refine v_bipush C (pc' := 89) dX13_run_87 (v := (14 : Int32)) (by decide) rfl ?_
            refine v_icmp_ge C (tg := 100) (pc' := 92) dX13_run_89 (by decide) rfl (fun q14 => ?_) (fun q14 => ?_)
            · rw [if_pos q14] at At13
              refine v_iload_n C (pc' := 101) dX13_run_100 rfl rfl rfl ?_
              refine v_bipush C (pc' := 103) dX13_run_101 (v := (19 : Int32)) (by decide) rfl ?_
              refine v_icmp_ge C (tg := 114) (pc' := 106) dX13_run_103 (by decide) rfl (fun q15 => ?_) (fun q15 => ?_)
              · rw [if_pos q15] at At13
                refine v_aload_n C (pc' := 115) dX13_run_114 rfl rfl rfl ?_
                refine v_iload_n C (pc' := 116) dX13_run_115 rfl rfl rfl ?_
                obtain ⟨y16, hy16, At13⟩ := bind_some At13
                refine v_callV C (pc' := 119) (rest := []) (c_m_transferBy l y2 y1.2 _ _ hy16) mv_X13_211 rfl rfl lv0_20 dX13_run_116 rfl rfl rfl ⟨Nat.le_of_ble_eq_true rfl, Nat.le_of_ble_eq_true rfl⟩ (Nat.le_of_ble_eq_true rfl) ⟨Nat.le_of_ble_eq_true rfl, Nat.le_of_ble_eq_true rfl⟩ ?_
                refine V.st (st' := [aI y16.1]) rfl ?_
                cases At13
                exact Kt13
              · rw [if_neg q15] at At13
                refine v_aload_n C (pc' := 107) dX13_run_106 rfl rfl rfl ?_
                refine v_iload_n C (pc' := 108) dX13_run_107 rfl rfl rfl ?_
                obtain ⟨y17, hy17, At13⟩ := bind_some At13
                refine v_callV C (pc' := 111) (rest := []) (c_m_prepare l y2 y1.2 _ _ hy17) mv_X13_208 rfl rfl lv0_20 dX13_run_108 rfl rfl rfl ⟨Nat.le_of_ble_eq_true rfl, Nat.le_of_ble_eq_true rfl⟩ (Nat.le_of_ble_eq_true rfl) ⟨Nat.le_of_ble_eq_true rfl, Nat.le_of_ble_eq_true rfl⟩ ?_
                refine V.st (st' := [aI y17.1]) rfl ?_
                refine v_goto C (pc' := 119) dX13_run_111 (by decide) ?_
                cases At13
                exact Kt13
            · rw [if_neg q14] at At13
              refine v_aload_n C (pc' := 93) dX13_run_92 rfl rfl rfl ?_
              refine v_iload_n C (pc' := 94) dX13_run_93 rfl rfl rfl ?_
              obtain ⟨y18, hy18, At13⟩ := bind_some At13
              refine v_callV C (pc' := 97) (rest := []) (c_m_change l y2 y1.2 _ _ hy18) mv_X13_205 rfl rfl lv0_20 dX13_run_94 rfl rfl rfl ⟨Nat.le_of_ble_eq_true rfl, Nat.le_of_ble_eq_true rfl⟩ (Nat.le_of_ble_eq_true rfl) ⟨Nat.le_of_ble_eq_true rfl, Nat.le_of_ble_eq_true rfl⟩ ?_
              refine V.st (st' := [aI y18.1]) rfl ?_
              refine v_goto C (pc' := 119) dX13_run_97 (by decide) ?_
              cases At13
              exact Kt13
          · rw [if_neg q12] at At13
            refine v_aload_n C (pc' := 79) dX13_run_78 rfl rfl rfl ?_
            refine v_iload_n C (pc' := 80) dX13_run_79 rfl rfl rfl ?_
            obtain ⟨y19, hy19, At13⟩ := bind_some At13
            refine v_callV C (pc' := 83) (rest := []) (c_m_enterAs l y2 y1.2 _ _ hy19) mv_X13_202 rfl rfl lv0_20 dX13_run_80 rfl rfl rfl ⟨Nat.le_of_ble_eq_true rfl, Nat.le_of_ble_eq_true rfl⟩ (Nat.le_of_ble_eq_true rfl) ⟨Nat.le_of_ble_eq_true rfl, Nat.le_of_ble_eq_true rfl⟩ ?_
            refine V.st (st' := [aI y19.1]) rfl ?_
            refine v_goto C (pc' := 119) dX13_run_83 (by decide) ?_
            cases At13
            exact Kt13
        refine v_if_le C (tg := 73) (pc' := 53) dX13_run_50 (by decide) rfl (fun q8 => ?_) (fun q8 => ?_)
        · rw [if_pos q8] at Ej46
          exact J73  Ej46
        · rw [if_neg q8] at Ej46
          refine v_iload_n C (pc' := 54) dX13_run_53 rfl rfl rfl ?_
          refine v_iconst C (pc' := 55) dX13_run_54 (v := (3 : Int32)) (by decide) rfl ?_
          refine v_icmp_eq C (tg := 73) (pc' := 58) dX13_run_55 (by decide) rfl (fun q9 => ?_) (fun q9 => ?_)
          · rw [if_pos q9] at Ej46
            exact J73  Ej46
          · rw [if_neg q9] at Ej46
            refine v_iload_n C (pc' := 59) dX13_run_58 rfl rfl rfl ?_
            refine v_iconst C (pc' := 60) dX13_run_59 (v := (4 : Int32)) (by decide) rfl ?_
            refine v_icmp_eq C (tg := 73) (pc' := 63) dX13_run_60 (by decide) rfl (fun q10 => ?_) (fun q10 => ?_)
            · rw [if_pos q10] at Ej46
              exact J73  Ej46
            · rw [if_neg q10] at Ej46
              refine v_iload_n C (pc' := 64) dX13_run_63 rfl rfl rfl ?_
              refine v_bipush C (pc' := 66) dX13_run_64 (v := (18 : Int32)) (by decide) rfl ?_
              refine v_icmp_eq C (tg := 73) (pc' := 69) dX13_run_66 (by decide) rfl (fun q11 => ?_) (fun q11 => ?_)
              · rw [if_pos q11] at Ej46
                exact J73  Ej46
              · rw [if_neg q11] at Ej46
                refine v_sipush C (pc' := 72) dX13_run_69 (v := (503 : Int32)) (by decide) rfl ?_
                cases Ej46
                exact v_reti C hr hlk dX13_run_72
      refine v_if_ge C (tg := 46) (pc' := 37) dX13_run_34 (by decide) rfl (fun q6 => ?_) (fun q6 => ?_)
      · rw [if_pos q6] at E
        exact J46  E
      · rw [if_neg q6] at E
        refine v_iload_n C (pc' := 38) dX13_run_37 rfl rfl rfl ?_
        refine v_iconst C (pc' := 39) dX13_run_38 (v := (4 : Int32)) (by decide) rfl ?_
        refine v_icmp_le C (tg := 46) (pc' := 42) dX13_run_39 (by decide) rfl (fun q7 => ?_) (fun q7 => ?_)
        · rw [if_pos q7] at E
          exact J46  E
        · rw [if_neg q7] at E
          refine v_sipush C (pc' := 45) dX13_run_42 (v := (530 : Int32)) (by decide) rfl ?_
          cases E
          exact v_reti C hr hlk dX13_run_45
    · rw [if_pos q5] at E
      refine v_sipush C (pc' := 29) dX13_run_26 (v := (501 : Int32)) (by decide) rfl ?_
      cases E
      exact v_reti C hr hlk dX13_run_29
  · rw [if_pos q3] at E
    refine v_sipush C (pc' := 17) dX13_run_14 (v := (500 : Int32)) (by decide) rfl ?_
    cases E
    exact v_reti C hr hlk dX13_run_17

def m_enter  (h : Hp) : Option (Int32 × Hp) :=
  if (gI h (20, 0) 12) = 0 then
    some ((-1 : Int32), (sI h (20, 0) 9 (0 : Int32)))
  else
    (m_run (sI (sI (sL (sI (sI (sL h (20, 0) 22 (gL h (20, 0) 19)) (20, 0) 23 (gI (sL h (20, 0) 22 (gL h (20, 0) 19)) (20, 0) 20)) (20, 0) 24 (gI (sI (sL h (20, 0) 22 (gL h (20, 0) 19)) (20, 0) 23 (gI (sL h (20, 0) 22 (gL h (20, 0) 19)) (20, 0) 20)) (20, 0) 21)) (20, 0) 19 (0 : Int64)) (20, 0) 20 (-1 : Int32)) (20, 0) 21 (0 : Int32))).bind fun y2 =>
    (m_say y2.1 (sI y2.2 (20, 0) 9 (0 : Int32))).bind fun y3 =>
    some (y3.1, y3.2)
set_option maxHeartbeats 2000000 in
set_option maxRecDepth 20000 in
theorem c_m_enter (l : Launch)  (h : Hp) (r : Int32) (h' : Hp)  (E : m_enter  h = some (r, h')) : Ctr l yX13_enter cX13_enter 2 (some .int) 8 186 0 0 true [aA 20 (some 0)] h (some (aI r)) h' := by
  rw [m_enter] at E
  refine Ctr.of (ls0 := [some (aA 20 (some 0)), none]) (by decide +kernel) (Nat.le_of_ble_eq_true rfl) rfl ?_
  intro G p e s m args below meth c C hr hlk hnm
  refine v_aload_n C (pc' := 1) dX13_enter_0 rfl rfl rfl ?_
  refine v_getI C (pc' := 4) fl_X13_123 rfl (Or.inr rfl) lv0_20 dX13_enter_1 rfl ?_
  refine v_if_ne C (tg := 14) (pc' := 7) dX13_enter_4 (by decide) rfl (fun q1 => ?_) (fun q1 => ?_)
  · rw [if_neg q1] at E
    refine v_aload_n C (pc' := 15) dX13_enter_14 rfl rfl rfl ?_
    refine v_aload_n C (pc' := 16) dX13_enter_15 rfl rfl rfl ?_
    refine v_getL C (pc' := 19) fl_X13_140 rfl rfl lv0_20 dX13_enter_16 rfl ?_
    refine v_putL C (pc' := 22) fp_X13_178 rfl rfl lv0_20 dX13_enter_19 rfl ?_
    refine v_aload_n C (pc' := 23) dX13_enter_22 rfl rfl rfl ?_
    refine v_aload_n C (pc' := 24) dX13_enter_23 rfl rfl rfl ?_
    refine v_getI C (pc' := 27) fl_X13_46 rfl (Or.inl rfl) lv0_20 dX13_enter_24 rfl ?_
    refine v_putI C (pc' := 30) fp_X13_181 rfl rfl lv0_20 dX13_enter_27 rfl ?_
    refine v_aload_n C (pc' := 31) dX13_enter_30 rfl rfl rfl ?_
    refine v_aload_n C (pc' := 32) dX13_enter_31 rfl rfl rfl ?_
    refine v_getI C (pc' := 35) fl_X13_143 rfl (Or.inl rfl) lv0_20 dX13_enter_32 rfl ?_
    refine v_putI C (pc' := 38) fp_X13_184 rfl rfl lv0_20 dX13_enter_35 rfl ?_
    refine v_aload_n C (pc' := 39) dX13_enter_38 rfl rfl rfl ?_
    refine v_lconst C (pc' := 40) dX13_enter_39 (v := (0 : Int64)) (by decide) rfl ?_
    refine v_putL C (pc' := 43) fp_X13_140 rfl rfl lv0_20 dX13_enter_40 rfl ?_
    refine v_aload_n C (pc' := 44) dX13_enter_43 rfl rfl rfl ?_
    refine v_iconst C (pc' := 45) dX13_enter_44 (v := (-1 : Int32)) (by decide) rfl ?_
    refine v_putI C (pc' := 48) fp_X13_46 rfl rfl lv0_20 dX13_enter_45 rfl ?_
    refine v_aload_n C (pc' := 49) dX13_enter_48 rfl rfl rfl ?_
    refine v_iconst C (pc' := 50) dX13_enter_49 (v := (0 : Int32)) (by decide) rfl ?_
    refine v_putI C (pc' := 53) fp_X13_143 rfl rfl lv0_20 dX13_enter_50 rfl ?_
    refine v_aload_n C (pc' := 54) dX13_enter_53 rfl rfl rfl ?_
    obtain ⟨y2, hy2, E⟩ := bind_some E
    refine v_callV C (pc' := 57) (rest := []) (c_m_run l (sI (sI (sL (sI (sI (sL h (20, 0) 22 (gL h (20, 0) 19)) (20, 0) 23 (gI (sL h (20, 0) 22 (gL h (20, 0) 19)) (20, 0) 20)) (20, 0) 24 (gI (sI (sL h (20, 0) 22 (gL h (20, 0) 19)) (20, 0) 23 (gI (sL h (20, 0) 22 (gL h (20, 0) 19)) (20, 0) 20)) (20, 0) 21)) (20, 0) 19 (0 : Int64)) (20, 0) 20 (-1 : Int32)) (20, 0) 21 (0 : Int32)) _ _ hy2) mv_X13_187 rfl rfl lv0_20 dX13_enter_54 rfl rfl rfl ⟨Nat.le_of_ble_eq_true rfl, Nat.le_of_ble_eq_true rfl⟩ (Nat.le_of_ble_eq_true rfl) ⟨Nat.le_of_ble_eq_true rfl, Nat.le_of_ble_eq_true rfl⟩ ?_
    refine V.st (st' := [aI y2.1]) rfl ?_
    refine v_istore1 C (pc' := 58) dX13_enter_57 (by decide) rfl rfl ?_
    refine v_aload_n C (pc' := 59) dX13_enter_58 rfl rfl rfl ?_
    refine v_iconst C (pc' := 60) dX13_enter_59 (v := (0 : Int32)) (by decide) rfl ?_
    refine v_putI C (pc' := 63) fp_X13_75 rfl rfl lv0_20 dX13_enter_60 rfl ?_
    refine v_aload_n C (pc' := 64) dX13_enter_63 rfl rfl rfl ?_
    refine v_iload_n C (pc' := 65) dX13_enter_64 rfl rfl rfl ?_
    obtain ⟨y3, hy3, E⟩ := bind_some E
    refine v_callV C (pc' := 68) (rest := []) (c_m_say l y2.1 (sI y2.2 (20, 0) 9 (0 : Int32)) _ _ hy3) mv_X13_149 rfl rfl lv0_20 dX13_enter_65 rfl rfl rfl ⟨Nat.le_of_ble_eq_true rfl, Nat.le_of_ble_eq_true rfl⟩ (Nat.le_of_ble_eq_true rfl) ⟨Nat.le_of_ble_eq_true rfl, Nat.le_of_ble_eq_true rfl⟩ ?_
    refine V.st (st' := [aI y3.1]) rfl ?_
    cases E
    exact v_reti C hr hlk dX13_enter_68
  · rw [if_pos q1] at E
    refine v_aload_n C (pc' := 8) dX13_enter_7 rfl rfl rfl ?_
    refine v_iconst C (pc' := 9) dX13_enter_8 (v := (0 : Int32)) (by decide) rfl ?_
    refine v_putI C (pc' := 12) fp_X13_75 rfl rfl lv0_20 dX13_enter_9 rfl ?_
    refine v_iconst C (pc' := 13) dX13_enter_12 (v := (-1 : Int32)) (by decide) rfl ?_
    cases E
    exact v_reti C hr hlk dX13_enter_13

def m_give (p1 : Int32) (h : Hp) : Option (Int32 × Hp) :=
  if (gI h (20, 0) 28) = (2 : Int32) then
    if (gI h (20, 0) 30) = (80 : Int32) then
      some ((0 : Int32), h)
    else
      (m_put (p1 &&& (255 : Int32)) h).bind fun y3 =>
      some ((1 : Int32), y3)
  else
    some ((0 : Int32), h)
set_option maxHeartbeats 2000000 in
set_option maxRecDepth 20000 in
theorem c_m_give (l : Launch) (p1 : Int32) (h : Hp) (r : Int32) (h' : Hp)  (E : m_give p1 h = some (r, h')) : Ctr l yX13_give cX13_give 2 (some .boolean) 1 21 0 0 true [aA 20 (some 0), aI p1] h (some (aI r)) h' := by
  rw [m_give] at E
  refine Ctr.of (ls0 := [some (aA 20 (some 0)), some (aI p1)]) (by decide +kernel) (Nat.le_of_ble_eq_true rfl) rfl ?_
  intro G p e s m args below meth c C hr hlk hnm
  refine v_aload_n C (pc' := 1) dX13_give_0 rfl rfl rfl ?_
  refine v_getI C (pc' := 4) fl_X13_199 rfl (Or.inl rfl) lv0_20 dX13_give_1 rfl ?_
  refine v_iconst C (pc' := 5) dX13_give_4 (v := (2 : Int32)) (by decide) rfl ?_
  refine v_icmp_ne C (tg := 17) (pc' := 8) dX13_give_5 (by decide) rfl (fun q1 => ?_) (fun q1 => ?_)
  · rw [if_neg q1] at E
    refine v_iconst C (pc' := 18) dX13_give_17 (v := (0 : Int32)) (by decide) rfl ?_
    cases E
    exact v_retz C hr hlk (Or.inl rfl) dX13_give_18
  · rw [if_pos q1] at E
    refine v_aload_n C (pc' := 9) dX13_give_8 rfl rfl rfl ?_
    refine v_getI C (pc' := 12) fl_X13_246 rfl (Or.inl rfl) lv0_20 dX13_give_9 rfl ?_
    refine v_bipush C (pc' := 14) dX13_give_12 (v := (80 : Int32)) (by decide) rfl ?_
    refine v_icmp_ne C (tg := 19) (pc' := 17) dX13_give_14 (by decide) rfl (fun q2 => ?_) (fun q2 => ?_)
    · rw [if_neg q2] at E
      refine v_aload_n C (pc' := 20) dX13_give_19 rfl rfl rfl ?_
      refine v_iload_n C (pc' := 21) dX13_give_20 rfl rfl rfl ?_
      refine v_sipush C (pc' := 24) dX13_give_21 (v := (255 : Int32)) (by decide) rfl ?_
      refine v_iand C (pc' := 25) dX13_give_24 rfl ?_
      obtain ⟨y3, hy3, E⟩ := bind_some E
      refine v_callV C (pc' := 28) (rest := []) (c_m_put l (p1 &&& (255 : Int32)) h _ hy3) mv_X13_261 rfl rfl lv0_20 dX13_give_25 rfl rfl rfl ⟨Nat.le_of_ble_eq_true rfl, Nat.le_of_ble_eq_true rfl⟩ (Nat.le_of_ble_eq_true rfl) ⟨Nat.le_of_ble_eq_true rfl, Nat.le_of_ble_eq_true rfl⟩ ?_
      refine V.st (st' := []) rfl ?_
      refine v_iconst C (pc' := 29) dX13_give_28 (v := (1 : Int32)) (by decide) rfl ?_
      cases E
      exact v_retz C hr hlk (Or.inr rfl) dX13_give_29
    · rw [if_pos q2] at E
      refine v_iconst C (pc' := 18) dX13_give_17 (v := (0 : Int32)) (by decide) rfl ?_
      cases E
      exact v_retz C hr hlk (Or.inl rfl) dX13_give_18

def m_join  (h : Hp) : Option (Int32 × Hp) :=
  (if (gI h (20, 0) 25) = (1 : Int32) then
    some (1 : Int32)
  else
    some (0 : Int32)).bind fun t2 =>
  (if t2 = 0 then
    some (gI h (20, 0) 25)
  else
    some (2 : Int32)).bind fun t4 =>
  guardZ t2 <|
  some (t2, (sI h (20, 0) 25 t4))
set_option maxHeartbeats 2000000 in
set_option maxRecDepth 20000 in
theorem c_m_join (l : Launch)  (h : Hp) (r : Int32) (h' : Hp)  (E : m_join  h = some (r, h')) : Ctr l yX13_join cX13_join 2 (some .boolean) 0 0 0 0 true [aA 20 (some 0)] h (some (aI r)) h' := by
  rw [m_join] at E
  refine Ctr.of (ls0 := [some (aA 20 (some 0)), none]) (by decide +kernel) (Nat.le_of_ble_eq_true rfl) rfl ?_
  intro G p e s m args below meth c C hr hlk hnm
  refine v_aload_n C (pc' := 1) dX13_join_0 rfl rfl rfl ?_
  refine v_getI C (pc' := 4) fl_X13_146 rfl (Or.inl rfl) lv0_20 dX13_join_1 rfl ?_
  refine v_iconst C (pc' := 5) dX13_join_4 (v := (1 : Int32)) (by decide) rfl ?_
  obtain ⟨t2, At2, E⟩ := bind_some E
  have Kt2 : V true G p l e { frames := 0, cells := 0, slots := 0, locals := 0 } s m args below meth c 2 (MQ below (QcA true G (some (aI r)) h') args s 0 0 (A_ G)) h 0 0 13 [some (aA 20 (some 0)), none] [aI t2] := by
    refine v_istore1 C (pc' := 14) dX13_join_13 (by decide) rfl rfl ?_
    refine v_aload_n C (pc' := 15) dX13_join_14 rfl rfl rfl ?_
    refine v_iload_n C (pc' := 16) dX13_join_15 rfl rfl rfl ?_
    obtain ⟨t4, At4, E⟩ := bind_some E
    have Kt4 : V true G p l e { frames := 0, cells := 0, slots := 0, locals := 0 } s m args below meth c 2 (MQ below (QcA true G (some (aI r)) h') args s 0 0 (A_ G)) h 0 0 27 [some (aA 20 (some 0)), some (aI t2)] [aI t4, aA 20 (some 0)] := by
      refine v_putI C (pc' := 30) fp_X13_146 rfl rfl lv0_20 dX13_join_27 rfl ?_
      refine v_iload_n C (pc' := 31) dX13_join_30 rfl rfl rfl ?_
      obtain ⟨z5, E⟩ := guardZ_some E
      cases E
      exact v_retz C hr hlk z5 dX13_join_31
    refine v_if_eq C (tg := 23) (pc' := 19) dX13_join_16 (by decide) rfl (fun q3 => ?_) (fun q3 => ?_)
    · rw [if_pos q3] at At4
      refine v_aload_n C (pc' := 24) dX13_join_23 rfl rfl rfl ?_
      refine v_getI C (pc' := 27) fl_X13_146 rfl (Or.inl rfl) lv0_20 dX13_join_24 rfl ?_
      cases At4
      exact Kt4
    · rw [if_neg q3] at At4
      refine v_iconst C (pc' := 20) dX13_join_19 (v := (2 : Int32)) (by decide) rfl ?_
      refine v_goto C (pc' := 27) dX13_join_20 (by decide) ?_
      cases At4
      exact Kt4
  refine v_icmp_ne C (tg := 12) (pc' := 8) dX13_join_5 (by decide) rfl (fun q1 => ?_) (fun q1 => ?_)
  · rw [if_neg q1] at At2
    refine v_iconst C (pc' := 13) dX13_join_12 (v := (0 : Int32)) (by decide) rfl ?_
    cases At2
    exact Kt2
  · rw [if_pos q1] at At2
    refine v_iconst C (pc' := 9) dX13_join_8 (v := (1 : Int32)) (by decide) rfl ?_
    refine v_goto C (pc' := 13) dX13_join_9 (by decide) ?_
    cases At2
    exact Kt2

def m_listen (p1 : Int32) (h : Hp) : Option (Int32 × Hp) :=
  if p1 < (-1 : Int32) then
    some ((0 : Int32), h)
  else
    if p1 ≤ (65535 : Int32) then
      some ((1 : Int32), (sI h (20, 0) 27 p1))
    else
      some ((0 : Int32), h)
set_option maxHeartbeats 2000000 in
set_option maxRecDepth 20000 in
theorem c_m_listen (l : Launch) (p1 : Int32) (h : Hp) (r : Int32) (h' : Hp)  (E : m_listen p1 h = some (r, h')) : Ctr l yX13_listen cX13_listen 2 (some .boolean) 0 0 0 0 true [aA 20 (some 0), aI p1] h (some (aI r)) h' := by
  rw [m_listen] at E
  refine Ctr.of (ls0 := [some (aA 20 (some 0)), some (aI p1)]) (by decide +kernel) (Nat.le_of_ble_eq_true rfl) rfl ?_
  intro G p e s m args below meth c C hr hlk hnm
  refine v_iload_n C (pc' := 1) dX13_listen_0 rfl rfl rfl ?_
  refine v_iconst C (pc' := 2) dX13_listen_1 (v := (-1 : Int32)) (by decide) rfl ?_
  refine v_icmp_lt C (tg := 11) (pc' := 5) dX13_listen_2 (by decide) rfl (fun q1 => ?_) (fun q1 => ?_)
  · rw [if_pos q1] at E
    refine v_iconst C (pc' := 12) dX13_listen_11 (v := (0 : Int32)) (by decide) rfl ?_
    cases E
    exact v_retz C hr hlk (Or.inl rfl) dX13_listen_12
  · rw [if_neg q1] at E
    refine v_iload_n C (pc' := 6) dX13_listen_5 rfl rfl rfl ?_
    refine v_ldc C (pc' := 8) dX13_listen_6 (v := (65535 : Int32)) (TT_of (i := 1117) (by decide +kernel) (by decide +kernel)) rfl ?_
    refine v_icmp_le C (tg := 13) (pc' := 11) dX13_listen_8 (by decide) rfl (fun q2 => ?_) (fun q2 => ?_)
    · rw [if_pos q2] at E
      refine v_aload_n C (pc' := 14) dX13_listen_13 rfl rfl rfl ?_
      refine v_iload_n C (pc' := 15) dX13_listen_14 rfl rfl rfl ?_
      refine v_putI C (pc' := 18) fp_X13_49 rfl rfl lv0_20 dX13_listen_15 rfl ?_
      refine v_iconst C (pc' := 19) dX13_listen_18 (v := (1 : Int32)) (by decide) rfl ?_
      cases E
      exact v_retz C hr hlk (Or.inr rfl) dX13_listen_19
    · rw [if_neg q2] at E
      refine v_iconst C (pc' := 12) dX13_listen_11 (v := (0 : Int32)) (by decide) rfl ?_
      cases E
      exact v_retz C hr hlk (Or.inl rfl) dX13_listen_12

def m_nodes_l4  (h : Hp) : Int32 × Int32 → Option ((Int32 × Int32) ⊕ (Int32 × Int32))
  | (a1, a2) =>
    if (24 : Int32) ≤ a2 then
      some (.inl (a1, a2))
    else
      guardB a2 24 <|
      (if (gI h (21, 0) a2.toNatClampNeg) ≤ 0 then
        some a1
      else
        some (a1 + (1 : Int32))).bind fun t4 =>
      some (.inr (t4, (a2 + (1 : Int32))))
def m_nodes  (h : Hp) : Option Int32 :=
  (iter (m_nodes_l4 h) FU ((0 : Int32), (0 : Int32))).bind fun t5 =>
  some t5.1
set_option maxHeartbeats 2000000 in
set_option maxRecDepth 20000 in
theorem c_m_nodes (l : Launch)  (h : Hp) (r : Int32)  (E : m_nodes  h = some r) : Ctr l yX13_nodes cX13_nodes 3 (some .int) 0 0 0 0 true [aA 20 (some 0)] h (some (aI r)) h := by
  rw [m_nodes] at E
  refine Ctr.of (ls0 := [some (aA 20 (some 0)), none, none]) (by decide +kernel) (Nat.le_of_ble_eq_true rfl) rfl ?_
  intro G p e s m args below meth c C hr hlk hnm
  refine v_iconst C (pc' := 1) dX13_nodes_0 (v := (0 : Int32)) (by decide) rfl ?_
  refine v_istore1 C (pc' := 2) dX13_nodes_1 (by decide) rfl rfl ?_
  refine v_iconst C (pc' := 3) dX13_nodes_2 (v := (0 : Int32)) (by decide) rfl ?_
  refine v_istore2 C (pc' := 4) dX13_nodes_3 (by decide) rfl rfl ?_
  obtain ⟨t1, It1, E⟩ := bind_some E
  have Kt1 : V true G p l e { frames := 0, cells := 0, slots := 0, locals := 0 } s m args below meth c 3 (MQ below (QcA true G (some (aI r)) h) args s 0 0 (A_ G)) h 0 0 33 [some (aA 20 (some 0)), some (aI t1.1), some (aI t1.2)] [] := by
    refine v_iload_n C (pc' := 34) dX13_nodes_33 rfl rfl rfl ?_
    cases E
    exact v_reti C hr hlk dX13_nodes_34
  refine iter_V (P := fun st1 : Int32 × Int32 => V true G p l e { frames := 0, cells := 0, slots := 0, locals := 0 } s m args below meth c 3 (MQ below (QcA true G (some (aI r)) h) args s 0 0 (A_ G)) h 0 0 4 [some (aA 20 (some 0)), some (aI st1.1), some (aI st1.2)] []) ?_ _ _ It1
  rintro ⟨a1t1, a2t1⟩ ot1 Lt1 kxt1 kst1
  rw [m_nodes_l4] at Lt1
  show V true G p l e { frames := 0, cells := 0, slots := 0, locals := 0 } s m args below meth c 3 (MQ below (QcA true G (some (aI r)) h) args s 0 0 (A_ G)) h 0 0 4 [some (aA 20 (some 0)), some (aI a1t1), some (aI a2t1)] []
  refine v_iload_n C (pc' := 5) dX13_nodes_4 rfl rfl rfl ?_
  refine v_bipush C (pc' := 7) dX13_nodes_5 (v := (24 : Int32)) (by decide) rfl ?_
  refine v_icmp_ge C (tg := 33) (pc' := 10) dX13_nodes_7 (by decide) rfl (fun q2 => ?_) (fun q2 => ?_)
  · rw [if_pos q2] at Lt1
    cases Lt1
    have z := kxt1 _ rfl
    subst z
    exact Kt1
  · rw [if_neg q2] at Lt1
    refine v_aload_n C (pc' := 11) dX13_nodes_10 rfl rfl rfl ?_
    refine v_getF C (pc' := 14) rfl fl_X13_7 rfl rfl (t2 := 21) rfl (j := 0) rfl u0_20 dX13_nodes_11 rfl ?_
    refine v_iload_n C (pc' := 15) dX13_nodes_14 rfl rfl rfl ?_
    obtain ⟨g3, Lt1⟩ := guardB_some Lt1
    refine v_iald C (pc' := 16) (t := 21) rfl lv0_21 g3 dX13_nodes_15 rfl ?_
    obtain ⟨t5, At5, Lt1⟩ := bind_some Lt1
    have Kt5 : V true G p l e { frames := 0, cells := 0, slots := 0, locals := 0 } s m args below meth c 3 (MQ below (QcA true G (some (aI r)) h) args s 0 0 (A_ G)) h 0 0 26 [some (aA 20 (some 0)), some (aI a1t1), some (aI a2t1)] [aI t5] := by
      refine v_istore1 C (pc' := 27) dX13_nodes_26 (by decide) rfl rfl ?_
      refine v_iinc2 C (pc' := 30) dX13_nodes_27 (v := (a2t1 + (1 : Int32))) (by rw [show Int32.ofInt 1 = (1 : Int32) by decide]) (by decide) rfl rfl ?_
      refine v_goto C (pc' := 4) dX13_nodes_30 (by decide) ?_
      cases Lt1
      exact kst1 _ rfl
    refine v_if_le C (tg := 25) (pc' := 19) dX13_nodes_16 (by decide) rfl (fun q4 => ?_) (fun q4 => ?_)
    · rw [if_pos q4] at At5
      refine v_iload_n C (pc' := 26) dX13_nodes_25 rfl rfl rfl ?_
      cases At5
      exact Kt5
    · rw [if_neg q4] at At5
      refine v_iload_n C (pc' := 20) dX13_nodes_19 rfl rfl rfl ?_
      refine v_iconst C (pc' := 21) dX13_nodes_20 (v := (1 : Int32)) (by decide) rfl ?_
      refine v_iadd C (pc' := 22) dX13_nodes_21 rfl ?_
      refine v_goto C (pc' := 26) dX13_nodes_22 (by decide) ?_
      cases At5
      exact Kt5

def m_open  (h : Hp) : Option (Int32 × Hp) :=
  if (gI h (20, 0) 12) = 0 then
    (m_say (220 : Int32) (sI (sI (sI (sL (sI (sI (sI h (20, 0) 12 (1 : Int32)) (20, 0) 16 (-1 : Int32)) (20, 0) 18 (0 : Int32)) (20, 0) 19 (0 : Int64)) (20, 0) 20 (-1 : Int32)) (20, 0) 21 (0 : Int32)) (20, 0) 25 (0 : Int32))).bind fun y2 =>
    some ((1 : Int32), y2.2)
  else
    some ((0 : Int32), h)
set_option maxHeartbeats 2000000 in
set_option maxRecDepth 20000 in
theorem c_m_open (l : Launch)  (h : Hp) (r : Int32) (h' : Hp)  (E : m_open  h = some (r, h')) : Ctr l yX13_open cX13_open 1 (some .boolean) 1 21 0 0 true [aA 20 (some 0)] h (some (aI r)) h' := by
  rw [m_open] at E
  refine Ctr.of (ls0 := [some (aA 20 (some 0))]) (by decide +kernel) (Nat.le_of_ble_eq_true rfl) rfl ?_
  intro G p e s m args below meth c C hr hlk hnm
  refine v_aload_n C (pc' := 1) dX13_open_0 rfl rfl rfl ?_
  refine v_getI C (pc' := 4) fl_X13_123 rfl (Or.inr rfl) lv0_20 dX13_open_1 rfl ?_
  refine v_if_eq C (tg := 9) (pc' := 7) dX13_open_4 (by decide) rfl (fun q1 => ?_) (fun q1 => ?_)
  · rw [if_pos q1] at E
    refine v_aload_n C (pc' := 10) dX13_open_9 rfl rfl rfl ?_
    refine v_iconst C (pc' := 11) dX13_open_10 (v := (1 : Int32)) (by decide) rfl ?_
    refine v_putZ C (pc' := 14) fp_X13_123 rfl rfl lv0_20 dX13_open_11 rfl (Or.inr rfl) ?_
    refine v_aload_n C (pc' := 15) dX13_open_14 rfl rfl rfl ?_
    refine v_iconst C (pc' := 16) dX13_open_15 (v := (-1 : Int32)) (by decide) rfl ?_
    refine v_putI C (pc' := 19) fp_X13_42 rfl rfl lv0_20 dX13_open_16 rfl ?_
    refine v_aload_n C (pc' := 20) dX13_open_19 rfl rfl rfl ?_
    refine v_iconst C (pc' := 21) dX13_open_20 (v := (0 : Int32)) (by decide) rfl ?_
    refine v_putZ C (pc' := 24) fp_X13_137 rfl rfl lv0_20 dX13_open_21 rfl (Or.inl rfl) ?_
    refine v_aload_n C (pc' := 25) dX13_open_24 rfl rfl rfl ?_
    refine v_lconst C (pc' := 26) dX13_open_25 (v := (0 : Int64)) (by decide) rfl ?_
    refine v_putL C (pc' := 29) fp_X13_140 rfl rfl lv0_20 dX13_open_26 rfl ?_
    refine v_aload_n C (pc' := 30) dX13_open_29 rfl rfl rfl ?_
    refine v_iconst C (pc' := 31) dX13_open_30 (v := (-1 : Int32)) (by decide) rfl ?_
    refine v_putI C (pc' := 34) fp_X13_46 rfl rfl lv0_20 dX13_open_31 rfl ?_
    refine v_aload_n C (pc' := 35) dX13_open_34 rfl rfl rfl ?_
    refine v_iconst C (pc' := 36) dX13_open_35 (v := (0 : Int32)) (by decide) rfl ?_
    refine v_putI C (pc' := 39) fp_X13_143 rfl rfl lv0_20 dX13_open_36 rfl ?_
    refine v_aload_n C (pc' := 40) dX13_open_39 rfl rfl rfl ?_
    refine v_iconst C (pc' := 41) dX13_open_40 (v := (0 : Int32)) (by decide) rfl ?_
    refine v_putI C (pc' := 44) fp_X13_146 rfl rfl lv0_20 dX13_open_41 rfl ?_
    refine v_aload_n C (pc' := 45) dX13_open_44 rfl rfl rfl ?_
    refine v_sipush C (pc' := 48) dX13_open_45 (v := (220 : Int32)) (by decide) rfl ?_
    obtain ⟨y2, hy2, E⟩ := bind_some E
    refine v_callV C (pc' := 51) (rest := []) (c_m_say l (220 : Int32) (sI (sI (sI (sL (sI (sI (sI h (20, 0) 12 (1 : Int32)) (20, 0) 16 (-1 : Int32)) (20, 0) 18 (0 : Int32)) (20, 0) 19 (0 : Int64)) (20, 0) 20 (-1 : Int32)) (20, 0) 21 (0 : Int32)) (20, 0) 25 (0 : Int32)) _ _ hy2) mv_X13_149 rfl rfl lv0_20 dX13_open_48 rfl rfl rfl ⟨Nat.le_of_ble_eq_true rfl, Nat.le_of_ble_eq_true rfl⟩ (Nat.le_of_ble_eq_true rfl) ⟨Nat.le_of_ble_eq_true rfl, Nat.le_of_ble_eq_true rfl⟩ ?_
    refine V.st (st' := [aI y2.1]) rfl ?_
    refine v_pop C (pc' := 52) dX13_open_51 rfl rfl ?_
    refine v_iconst C (pc' := 53) dX13_open_52 (v := (1 : Int32)) (by decide) rfl ?_
    cases E
    exact v_retz C hr hlk (Or.inr rfl) dX13_open_53
  · rw [if_neg q1] at E
    refine v_iconst C (pc' := 8) dX13_open_7 (v := (0 : Int32)) (by decide) rfl ?_
    cases E
    exact v_retz C hr hlk (Or.inl rfl) dX13_open_8

def m_reply  (h : Hp) : Option Int32 :=
  some (gI h (20, 0) 13)
set_option maxHeartbeats 2000000 in
set_option maxRecDepth 20000 in
theorem c_m_reply (l : Launch)  (h : Hp) (r : Int32)  (E : m_reply  h = some r) : Ctr l yX13_reply cX13_reply 1 (some .int) 0 0 0 0 true [aA 20 (some 0)] h (some (aI r)) h := by
  rw [m_reply] at E
  refine Ctr.of (ls0 := [some (aA 20 (some 0))]) (by decide +kernel) (Nat.le_of_ble_eq_true rfl) rfl ?_
  intro G p e s m args below meth c C hr hlk hnm
  refine v_aload_n C (pc' := 1) dX13_reply_0 rfl rfl rfl ?_
  refine v_getI C (pc' := 4) fl_X13_131 rfl (Or.inl rfl) lv0_20 dX13_reply_1 rfl ?_
  cases E
  exact v_reti C hr hlk dX13_reply_4

def m_take  (h : Hp) : Option (Int32 × Hp) :=
  if (gI h (20, 0) 28) = (1 : Int32) then
    if (gI h (20, 0) 30) ≤ (gI h (20, 0) 29) then
      (m_say (226 : Int32) (sI (sI h (20, 0) 28 (0 : Int32)) (20, 0) 25 (0 : Int32))).bind fun y3 =>
      some ((-1 : Int32), y3.2)
    else
      guardB ((gI (sI h (20, 0) 29 ((gI h (20, 0) 29) + (1 : Int32))) (20, 0) 29) - (1 : Int32)) 200 <|
      some ((gI (sI h (20, 0) 29 ((gI h (20, 0) 29) + (1 : Int32))) (31, 0) ((gI (sI h (20, 0) 29 ((gI h (20, 0) 29) + (1 : Int32))) (20, 0) 29) - (1 : Int32)).toNatClampNeg), (sI h (20, 0) 29 ((gI h (20, 0) 29) + (1 : Int32))))
  else
    some ((-1 : Int32), h)
set_option maxHeartbeats 2000000 in
set_option maxRecDepth 20000 in
theorem c_m_take (l : Launch)  (h : Hp) (r : Int32) (h' : Hp)  (E : m_take  h = some (r, h')) : Ctr l yX13_take cX13_take 1 (some .int) 1 21 0 0 true [aA 20 (some 0)] h (some (aI r)) h' := by
  rw [m_take] at E
  refine Ctr.of (ls0 := [some (aA 20 (some 0))]) (by decide +kernel) (Nat.le_of_ble_eq_true rfl) rfl ?_
  intro G p e s m args below meth c C hr hlk hnm
  refine v_aload_n C (pc' := 1) dX13_take_0 rfl rfl rfl ?_
  refine v_getI C (pc' := 4) fl_X13_199 rfl (Or.inl rfl) lv0_20 dX13_take_1 rfl ?_
  refine v_iconst C (pc' := 5) dX13_take_4 (v := (1 : Int32)) (by decide) rfl ?_
  refine v_icmp_eq C (tg := 10) (pc' := 8) dX13_take_5 (by decide) rfl (fun q1 => ?_) (fun q1 => ?_)
  · rw [if_pos q1] at E
    refine v_aload_n C (pc' := 11) dX13_take_10 rfl rfl rfl ?_
    refine v_getI C (pc' := 14) fl_X13_243 rfl (Or.inl rfl) lv0_20 dX13_take_11 rfl ?_
    refine v_aload_n C (pc' := 15) dX13_take_14 rfl rfl rfl ?_
    refine v_getI C (pc' := 18) fl_X13_246 rfl (Or.inl rfl) lv0_20 dX13_take_15 rfl ?_
    refine v_icmp_ge C (tg := 43) (pc' := 21) dX13_take_18 (by decide) rfl (fun q2 => ?_) (fun q2 => ?_)
    · rw [if_pos q2] at E
      refine v_aload_n C (pc' := 44) dX13_take_43 rfl rfl rfl ?_
      refine v_iconst C (pc' := 45) dX13_take_44 (v := (0 : Int32)) (by decide) rfl ?_
      refine v_putI C (pc' := 48) fp_X13_199 rfl rfl lv0_20 dX13_take_45 rfl ?_
      refine v_aload_n C (pc' := 49) dX13_take_48 rfl rfl rfl ?_
      refine v_iconst C (pc' := 50) dX13_take_49 (v := (0 : Int32)) (by decide) rfl ?_
      refine v_putI C (pc' := 53) fp_X13_146 rfl rfl lv0_20 dX13_take_50 rfl ?_
      refine v_aload_n C (pc' := 54) dX13_take_53 rfl rfl rfl ?_
      refine v_sipush C (pc' := 57) dX13_take_54 (v := (226 : Int32)) (by decide) rfl ?_
      obtain ⟨y3, hy3, E⟩ := bind_some E
      refine v_callV C (pc' := 60) (rest := []) (c_m_say l (226 : Int32) (sI (sI h (20, 0) 28 (0 : Int32)) (20, 0) 25 (0 : Int32)) _ _ hy3) mv_X13_149 rfl rfl lv0_20 dX13_take_57 rfl rfl rfl ⟨Nat.le_of_ble_eq_true rfl, Nat.le_of_ble_eq_true rfl⟩ (Nat.le_of_ble_eq_true rfl) ⟨Nat.le_of_ble_eq_true rfl, Nat.le_of_ble_eq_true rfl⟩ ?_
      refine V.st (st' := [aI y3.1]) rfl ?_
      refine v_pop C (pc' := 61) dX13_take_60 rfl rfl ?_
      refine v_iconst C (pc' := 62) dX13_take_61 (v := (-1 : Int32)) (by decide) rfl ?_
      cases E
      exact v_reti C hr hlk dX13_take_62
    · rw [if_neg q2] at E
      refine v_aload_n C (pc' := 22) dX13_take_21 rfl rfl rfl ?_
      refine v_aload_n C (pc' := 23) dX13_take_22 rfl rfl rfl ?_
      refine v_getI C (pc' := 26) fl_X13_243 rfl (Or.inl rfl) lv0_20 dX13_take_23 rfl ?_
      refine v_iconst C (pc' := 27) dX13_take_26 (v := (1 : Int32)) (by decide) rfl ?_
      refine v_iadd C (pc' := 28) dX13_take_27 rfl ?_
      refine v_putI C (pc' := 31) fp_X13_243 rfl rfl lv0_20 dX13_take_28 rfl ?_
      refine v_aload_n C (pc' := 32) dX13_take_31 rfl rfl rfl ?_
      refine v_getF C (pc' := 35) rfl fl_X13_52 rfl rfl (t2 := 31) rfl (j := 0) rfl u0_20 dX13_take_32 rfl ?_
      refine v_aload_n C (pc' := 36) dX13_take_35 rfl rfl rfl ?_
      refine v_getI C (pc' := 39) fl_X13_243 rfl (Or.inl rfl) lv0_20 dX13_take_36 rfl ?_
      refine v_iconst C (pc' := 40) dX13_take_39 (v := (1 : Int32)) (by decide) rfl ?_
      refine v_isub C (pc' := 41) dX13_take_40 rfl ?_
      obtain ⟨g4, E⟩ := guardB_some E
      refine v_iald C (pc' := 42) (t := 31) rfl lv0_31 g4 dX13_take_41 rfl ?_
      cases E
      exact v_reti C hr hlk dX13_take_42
  · rw [if_neg q1] at E
    refine v_iconst C (pc' := 9) dX13_take_8 (v := (-1 : Int32)) (by decide) rfl ?_
    cases E
    exact v_reti C hr hlk dX13_take_9

def m_text (p1 : Int32) (h : Hp) : Option Int32 :=
  (if p1 < 0 then
    some (0 : Int32)
  else
    if (gI h (20, 0) 14) ≤ p1 then
      some (0 : Int32)
    else
      guardB p1 200 <|
      some (gI h (30, 0) p1.toNatClampNeg)).bind fun t2 =>
  guardC t2 <|
  some t2
set_option maxHeartbeats 2000000 in
set_option maxRecDepth 20000 in
theorem c_m_text (l : Launch) (p1 : Int32) (h : Hp) (r : Int32)  (E : m_text p1 h = some r) : Ctr l yX13_text cX13_text 2 (some .char) 0 0 0 0 true [aA 20 (some 0), aI p1] h (some (aI r)) h := by
  rw [m_text] at E
  refine Ctr.of (ls0 := [some (aA 20 (some 0)), some (aI p1)]) (by decide +kernel) (Nat.le_of_ble_eq_true rfl) rfl ?_
  intro G p e s m args below meth c C hr hlk hnm
  refine v_iload_n C (pc' := 1) dX13_text_0 rfl rfl rfl ?_
  obtain ⟨t2, At2, E⟩ := bind_some E
  have Kt2 : V true G p l e { frames := 0, cells := 0, slots := 0, locals := 0 } s m args below meth c 2 (MQ below (QcA true G (some (aI r)) h) args s 0 0 (A_ G)) h 0 0 22 [some (aA 20 (some 0)), some (aI p1)] [aI t2] := by
    obtain ⟨z5, E⟩ := guardC_some E
    cases E
    exact v_retc C hr hlk z5 dX13_text_22
  refine v_if_lt C (tg := 21) (pc' := 4) dX13_text_1 (by decide) rfl (fun q1 => ?_) (fun q1 => ?_)
  · rw [if_pos q1] at At2
    refine v_iconst C (pc' := 22) dX13_text_21 (v := (0 : Int32)) (by decide) rfl ?_
    cases At2
    exact Kt2
  · rw [if_neg q1] at At2
    refine v_iload_n C (pc' := 5) dX13_text_4 rfl rfl rfl ?_
    refine v_aload_n C (pc' := 6) dX13_text_5 rfl rfl rfl ?_
    refine v_getI C (pc' := 9) fl_X13_134 rfl (Or.inl rfl) lv0_20 dX13_text_6 rfl ?_
    refine v_icmp_ge C (tg := 21) (pc' := 12) dX13_text_9 (by decide) rfl (fun q3 => ?_) (fun q3 => ?_)
    · rw [if_pos q3] at At2
      refine v_iconst C (pc' := 22) dX13_text_21 (v := (0 : Int32)) (by decide) rfl ?_
      cases At2
      exact Kt2
    · rw [if_neg q3] at At2
      refine v_aload_n C (pc' := 13) dX13_text_12 rfl rfl rfl ?_
      refine v_getF C (pc' := 16) rfl fl_X13_39 rfl rfl (t2 := 30) rfl (j := 0) rfl u0_20 dX13_text_13 rfl ?_
      refine v_iload_n C (pc' := 17) dX13_text_16 rfl rfl rfl ?_
      obtain ⟨g4, At2⟩ := guardB_some At2
      refine v_cald C (pc' := 18) (t := 30) rfl lv0_30 g4 dX13_text_17 rfl ?_
      refine v_goto C (pc' := 22) dX13_text_18 (by decide) ?_
      cases At2
      exact Kt2

def m_transfer  (h : Hp) : Option Int32 :=
  some (gI h (20, 0) 28)
set_option maxHeartbeats 2000000 in
set_option maxRecDepth 20000 in
theorem c_m_transfer (l : Launch)  (h : Hp) (r : Int32)  (E : m_transfer  h = some r) : Ctr l yX13_transfer cX13_transfer 1 (some .int) 0 0 0 0 true [aA 20 (some 0)] h (some (aI r)) h := by
  rw [m_transfer] at E
  refine Ctr.of (ls0 := [some (aA 20 (some 0))]) (by decide +kernel) (Nat.le_of_ble_eq_true rfl) rfl ?_
  intro G p e s m args below meth c C hr hlk hnm
  refine v_aload_n C (pc' := 1) dX13_transfer_0 rfl rfl rfl ?_
  refine v_getI C (pc' := 4) fl_X13_199 rfl (Or.inl rfl) lv0_20 dX13_transfer_1 rfl ?_
  cases E
  exact v_reti C hr hlk dX13_transfer_4

def m_type (p1 : Int32) (h : Hp) : Option (Int32 × Hp) :=
  if p1 < (32 : Int32) then
    some ((0 : Int32), h)
  else
    if (126 : Int32) < p1 then
      some ((0 : Int32), h)
    else
      if (gI h (20, 0) 9) = (32 : Int32) then
        some ((0 : Int32), h)
      else
        guardB (gI h (20, 0) 9) 32 <|
        some ((1 : Int32), (sI (sI h (29, 0) (gI h (20, 0) 9).toNatClampNeg (vp_nar .char p1)) (20, 0) 9 ((gI (sI h (29, 0) (gI h (20, 0) 9).toNatClampNeg (vp_nar .char p1)) (20, 0) 9) + (1 : Int32))))
set_option maxHeartbeats 2000000 in
set_option maxRecDepth 20000 in
theorem c_m_type (l : Launch) (p1 : Int32) (h : Hp) (r : Int32) (h' : Hp)  (E : m_type p1 h = some (r, h')) : Ctr l yX13_type cX13_type 2 (some .boolean) 0 0 0 0 true [aA 20 (some 0), aI p1] h (some (aI r)) h' := by
  rw [m_type] at E
  refine Ctr.of (ls0 := [some (aA 20 (some 0)), some (aI p1)]) (by decide +kernel) (Nat.le_of_ble_eq_true rfl) rfl ?_
  intro G p e s m args below meth c C hr hlk hnm
  refine v_iload_n C (pc' := 1) dX13_type_0 rfl rfl rfl ?_
  refine v_bipush C (pc' := 3) dX13_type_1 (v := (32 : Int32)) (by decide) rfl ?_
  refine v_icmp_lt C (tg := 21) (pc' := 6) dX13_type_3 (by decide) rfl (fun q1 => ?_) (fun q1 => ?_)
  · rw [if_pos q1] at E
    refine v_iconst C (pc' := 22) dX13_type_21 (v := (0 : Int32)) (by decide) rfl ?_
    cases E
    exact v_retz C hr hlk (Or.inl rfl) dX13_type_22
  · rw [if_neg q1] at E
    refine v_iload_n C (pc' := 7) dX13_type_6 rfl rfl rfl ?_
    refine v_bipush C (pc' := 9) dX13_type_7 (v := (126 : Int32)) (by decide) rfl ?_
    refine v_icmp_gt C (tg := 21) (pc' := 12) dX13_type_9 (by decide) rfl (fun q2 => ?_) (fun q2 => ?_)
    · rw [if_pos q2] at E
      refine v_iconst C (pc' := 22) dX13_type_21 (v := (0 : Int32)) (by decide) rfl ?_
      cases E
      exact v_retz C hr hlk (Or.inl rfl) dX13_type_22
    · rw [if_neg q2] at E
      refine v_aload_n C (pc' := 13) dX13_type_12 rfl rfl rfl ?_
      refine v_getI C (pc' := 16) fl_X13_75 rfl (Or.inl rfl) lv0_20 dX13_type_13 rfl ?_
      refine v_bipush C (pc' := 18) dX13_type_16 (v := (32 : Int32)) (by decide) rfl ?_
      refine v_icmp_ne C (tg := 23) (pc' := 21) dX13_type_18 (by decide) rfl (fun q3 => ?_) (fun q3 => ?_)
      · rw [if_neg q3] at E
        refine v_aload_n C (pc' := 24) dX13_type_23 rfl rfl rfl ?_
        refine v_getF C (pc' := 27) rfl fl_X13_35 rfl rfl (t2 := 29) rfl (j := 0) rfl u0_20 dX13_type_24 rfl ?_
        refine v_aload_n C (pc' := 28) dX13_type_27 rfl rfl rfl ?_
        refine v_getI C (pc' := 31) fl_X13_75 rfl (Or.inl rfl) lv0_20 dX13_type_28 rfl ?_
        refine v_iload_n C (pc' := 32) dX13_type_31 rfl rfl rfl ?_
        obtain ⟨g4, E⟩ := guardB_some E
        refine v_cast C (pc' := 33) (t := 29) rfl lv0_29 g4 dX13_type_32 rfl ?_
        refine v_aload_n C (pc' := 34) dX13_type_33 rfl rfl rfl ?_
        refine v_aload_n C (pc' := 35) dX13_type_34 rfl rfl rfl ?_
        refine v_getI C (pc' := 38) fl_X13_75 rfl (Or.inl rfl) lv0_20 dX13_type_35 rfl ?_
        refine v_iconst C (pc' := 39) dX13_type_38 (v := (1 : Int32)) (by decide) rfl ?_
        refine v_iadd C (pc' := 40) dX13_type_39 rfl ?_
        refine v_putI C (pc' := 43) fp_X13_75 rfl rfl lv0_20 dX13_type_40 rfl ?_
        refine v_iconst C (pc' := 44) dX13_type_43 (v := (1 : Int32)) (by decide) rfl ?_
        cases E
        exact v_retz C hr hlk (Or.inr rfl) dX13_type_44
      · rw [if_pos q3] at E
        refine v_iconst C (pc' := 22) dX13_type_21 (v := (0 : Int32)) (by decide) rfl ?_
        cases E
        exact v_retz C hr hlk (Or.inl rfl) dX13_type_22

def m_word_l2 (v1 : Int64) : Int32 × Hp → Option ((Int32 × Hp) ⊕ (Int32 × Hp))
  | (a3, h) =>
    if (8 : Int32) ≤ a3 then
      some (.inl (a3, h))
    else
      if ((v1 >>> (((8 : Int32) * a3).toInt64 &&& 63)) &&& (255 : Int64)) = (0 : Int64) then
        some (.inl (a3, h))
      else
        (m_type (((v1 >>> (((8 : Int32) * a3).toInt64 &&& 63)) &&& (255 : Int64)).toInt32.toUInt32 % 65536).toInt32 h).bind fun y3 =>
        if y3.1 = 0 then
          some (.inl (a3, y3.2))
        else
          some (.inr ((a3 + (1 : Int32)), y3.2))
def m_word (p1 : Int64) (h : Hp) : Option (Int32 × Hp) :=
  (iter (m_word_l2 p1) FU ((0 : Int32), h)).bind fun t5 =>
  some (t5.1, t5.2)
set_option maxHeartbeats 2000000 in
set_option maxRecDepth 20000 in
theorem c_m_word (l : Launch) (p1 : Int64) (h : Hp) (r : Int32) (h' : Hp)  (E : m_word p1 h = some (r, h')) : Ctr l yX13_word cX13_word 4 (some .int) 1 21 0 0 true [aA 20 (some 0), aL p1] h (some (aI r)) h' := by
  rw [m_word] at E
  refine Ctr.of (ls0 := [some (aA 20 (some 0)), some (aL p1), none, none]) (by decide +kernel) (Nat.le_of_ble_eq_true rfl) rfl ?_
  intro G p e s m args below meth c C hr hlk hnm
  refine v_iconst C (pc' := 1) dX13_word_0 (v := (0 : Int32)) (by decide) rfl ?_
  refine v_istore3 C (pc' := 2) dX13_word_1 (by decide) rfl rfl ?_
  obtain ⟨t1, It1, E⟩ := bind_some E
  have Kt1 : V true G p l e { frames := 1, cells := 0, slots := 0, locals := 21 } s m args below meth c 4 (MQ below (QcA true G (some (aI r)) h') args s 0 0 (A_ G)) t1.2 0 0 49 [some (aA 20 (some 0)), some (aL p1), none, some (aI t1.1)] [] := by
    refine v_iload_n C (pc' := 50) dX13_word_49 rfl rfl rfl ?_
    cases E
    exact v_reti C hr hlk dX13_word_50
  refine iter_V (P := fun st1 : Int32 × Hp => V true G p l e { frames := 1, cells := 0, slots := 0, locals := 21 } s m args below meth c 4 (MQ below (QcA true G (some (aI r)) h') args s 0 0 (A_ G)) st1.2 0 0 2 [some (aA 20 (some 0)), some (aL p1), none, some (aI st1.1)] []) ?_ _ _ It1
  rintro ⟨a3t1, ht1⟩ ot1 Lt1 kxt1 kst1
  rw [m_word_l2] at Lt1
  show V true G p l e { frames := 1, cells := 0, slots := 0, locals := 21 } s m args below meth c 4 (MQ below (QcA true G (some (aI r)) h') args s 0 0 (A_ G)) ht1 0 0 2 [some (aA 20 (some 0)), some (aL p1), none, some (aI a3t1)] []
  refine v_iload_n C (pc' := 3) dX13_word_2 rfl rfl rfl ?_
  refine v_bipush C (pc' := 5) dX13_word_3 (v := (8 : Int32)) (by decide) rfl ?_
  refine v_icmp_ge C (tg := 49) (pc' := 8) dX13_word_5 (by decide) rfl (fun q2 => ?_) (fun q2 => ?_)
  · rw [if_pos q2] at Lt1
    cases Lt1
    have z := kxt1 _ rfl
    subst z
    exact Kt1
  · rw [if_neg q2] at Lt1
    refine v_lload_n C (pc' := 9) dX13_word_8 rfl rfl rfl ?_
    refine v_bipush C (pc' := 11) dX13_word_9 (v := (8 : Int32)) (by decide) rfl ?_
    refine v_iload_n C (pc' := 12) dX13_word_11 rfl rfl rfl ?_
    refine v_imul C (pc' := 13) dX13_word_12 rfl ?_
    refine v_lshr C (pc' := 14) dX13_word_13 rfl ?_
    refine v_ldc2 C (pc' := 17) dX13_word_14 (v := (255 : Int64)) (TT_of (i := 1028) (by decide +kernel) (by decide +kernel)) rfl ?_
    refine v_land C (pc' := 18) dX13_word_17 rfl ?_
    refine v_lconst C (pc' := 19) dX13_word_18 (v := (0 : Int64)) (by decide) rfl ?_
    refine v_lcmp C (pc' := 20) dX13_word_19 rfl ?_
    refine v_if_eq C (tg := 49) (pc' := 23) dX13_word_20 (by decide) rfl (fun q3 => ?_) (fun q3 => ?_)
    · rw [lgc_eq] at q3
      rw [if_pos q3] at Lt1
      cases Lt1
      have z := kxt1 _ rfl
      subst z
      exact Kt1
    · rw [lgc_eq] at q3
      rw [if_neg q3] at Lt1
      refine v_aload_n C (pc' := 24) dX13_word_23 rfl rfl rfl ?_
      refine v_lload_n C (pc' := 25) dX13_word_24 rfl rfl rfl ?_
      refine v_bipush C (pc' := 27) dX13_word_25 (v := (8 : Int32)) (by decide) rfl ?_
      refine v_iload_n C (pc' := 28) dX13_word_27 rfl rfl rfl ?_
      refine v_imul C (pc' := 29) dX13_word_28 rfl ?_
      refine v_lshr C (pc' := 30) dX13_word_29 rfl ?_
      refine v_ldc2 C (pc' := 33) dX13_word_30 (v := (255 : Int64)) (TT_of (i := 1028) (by decide +kernel) (by decide +kernel)) rfl ?_
      refine v_land C (pc' := 34) dX13_word_33 rfl ?_
      refine v_l2i C (pc' := 35) dX13_word_34 rfl ?_
      refine v_i2c C (pc' := 36) dX13_word_35 rfl ?_
      obtain ⟨y4, hy4, Lt1⟩ := bind_some Lt1
      refine v_callV C (pc' := 39) (rest := []) (c_m_type l (((p1 >>> (((8 : Int32) * a3t1).toInt64 &&& 63)) &&& (255 : Int64)).toInt32.toUInt32 % 65536).toInt32 ht1 _ _ hy4) mv_X13_152 rfl rfl lv0_20 dX13_word_36 rfl rfl rfl ⟨Nat.le_of_ble_eq_true rfl, Nat.le_of_ble_eq_true rfl⟩ (Nat.le_of_ble_eq_true rfl) ⟨Nat.le_of_ble_eq_true rfl, Nat.le_of_ble_eq_true rfl⟩ ?_
      refine V.st (st' := [aI y4.1]) rfl ?_
      refine v_if_eq C (tg := 49) (pc' := 42) dX13_word_39 (by decide) rfl (fun q5 => ?_) (fun q5 => ?_)
      · rw [if_pos q5] at Lt1
        cases Lt1
        have z := kxt1 _ rfl
        subst z
        exact Kt1
      · rw [if_neg q5] at Lt1
        refine v_iload_n C (pc' := 43) dX13_word_42 rfl rfl rfl ?_
        refine v_iconst C (pc' := 44) dX13_word_43 (v := (1 : Int32)) (by decide) rfl ?_
        refine v_iadd C (pc' := 45) dX13_word_44 rfl ?_
        refine v_istore3 C (pc' := 46) dX13_word_45 (by decide) rfl rfl ?_
        refine v_goto C (pc' := 2) dX13_word_46 (by decide) ?_
        cases Lt1
        exact kst1 _ rfl
