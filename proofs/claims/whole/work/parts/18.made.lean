def al_grow1_j20 (v1 : Int32) (v2 : Int32) (h : Hp) : Option (Option Nat × Hp) :=
  none
def al_grow1 (p1 : Int32) (h : Hp) : Option (Option Nat × Hp) :=
  (lenE (gR h (7, 0) 1) h).bind fun x1 =>
  if 0 < x1 then
    al_grow1_j20 p1 x1 h
  else
    if (gR h (7, 0) 1) = (some 0) then
      guardN 16 1 h <|
      guard10 (if (10 : Int32) < p1 then p1 else (10 : Int32)) <|
      some ((some 1), (sR (sN h) (7, 0) 1 (some 1)))
    else
      al_grow1_j20 p1 x1 h
set_option maxHeartbeats 2000000 in
set_option maxRecDepth 20000 in
theorem c_al_grow1 (l : Launch) (p1 : Int32) (h : Hp) (r : Option Nat) (h' : Hp)  (E : al_grow1 p1 h = some (r, h')) : Ctr l yJx4a65c_grow_92f84 cJx4a65c_grow_92f84 4 (some (.array (.object "java/lang/Object"))) 4 104 1 10 true [aA 7 (some 0), aI p1] h (some (aA 16 r)) h' := by
  rw [al_grow1] at E
  refine Ctr.of (ls0 := [some (aA 7 (some 0)), some (aI p1), none, none]) (by decide +kernel) (Nat.le_of_ble_eq_true rfl) rfl ?_
  intro G p e s m args below meth c C hr hlk hnm
  refine v_aload_n C (pc' := 1) dJx4a65c_grow_92f84_0 rfl rfl rfl ?_
  refine v_getR C (pc' := 4) fl_Jx4a65c_9 rfl rfl (t2 := 16) rfl lv0_7 dJx4a65c_grow_92f84_1 rfl ?_
  obtain ⟨x1, hlx1, E⟩ := bind_some E
  replace hlx1 := lenE_some hlx1
  refine v_alenX C (pc' := 5) hlx1 dJx4a65c_grow_92f84_4 rfl ?_
  refine v_istore2 C (pc' := 6) dJx4a65c_grow_92f84_5 (by decide) rfl rfl ?_
  refine v_iload_n C (pc' := 7) dJx4a65c_grow_92f84_6 rfl rfl rfl ?_
  have J20 : ∀ (hj20 : Hp), al_grow1_j20 p1 x1 hj20 = some (r, h') → V true G p l e { frames := 4, cells := 1, slots := 10, locals := 104 } s m args below meth c 4 (MQ below (QcA true G (some (aA 16 r)) h') args s 1 10 (A_ G)) hj20 0 0 20 [some (aA 7 (some 0)), some (aI p1), some (aI x1), none] [] := by
    intro hj20 Ej20
    rw [al_grow1_j20] at Ej20
    refine v_iload_n C (pc' := 21) dJx4a65c_grow_92f84_20 rfl rfl rfl ?_
    refine v_iload_n C (pc' := 22) dJx4a65c_grow_92f84_21 rfl rfl rfl ?_
    refine v_iload_n C (pc' := 23) dJx4a65c_grow_92f84_22 rfl rfl rfl ?_
    refine v_isub C (pc' := 24) dJx4a65c_grow_92f84_23 rfl ?_
    refine v_iload_n C (pc' := 25) dJx4a65c_grow_92f84_24 rfl rfl rfl ?_
    refine v_iconst C (pc' := 26) dJx4a65c_grow_92f84_25 (v := (1 : Int32)) (by decide) rfl ?_
    refine v_ishr C (pc' := 27) dJx4a65c_grow_92f84_26 rfl ?_
    cases Ej20
  refine v_if_gt C (tg := 20) (pc' := 10) dJx4a65c_grow_92f84_7 (by decide) rfl (fun q2 => ?_) (fun q2 => ?_)
  · rw [if_pos q2] at E
    exact J20 _ E
  · rw [if_neg q2] at E
    refine v_aload_n C (pc' := 11) dJx4a65c_grow_92f84_10 rfl rfl rfl ?_
    refine v_getR C (pc' := 14) fl_Jx4a65c_9 rfl rfl (t2 := 16) rfl lv0_7 dJx4a65c_grow_92f84_11 rfl ?_
    refine v_gsE C (pc' := 17) (TT_of (i := 183) (by decide +kernel) (by decide +kernel)) dJx4a65c_grow_92f84_14 rfl ?_
    refine v_ecmp_eq C (tg := 45) (pc' := 20) (by rcases hlx1 with ⟨q_, _⟩ | ⟨q_, _, _⟩; exact Or.inl q_; exact Or.inr q_) dJx4a65c_grow_92f84_17 (by decide) rfl (fun q3 => ?_) (fun q3 => ?_)
    · rw [if_pos q3] at E
      refine v_aload_n C (pc' := 46) dJx4a65c_grow_92f84_45 rfl rfl rfl ?_
      refine v_bipush C (pc' := 48) dJx4a65c_grow_92f84_46 (v := (10 : Int32)) (by decide) rfl ?_
      refine v_iload_n C (pc' := 49) dJx4a65c_grow_92f84_48 rfl rfl rfl ?_
      refine v_mmax C (pc' := 52) (TT_of (i := 472) (by decide +kernel) (by decide +kernel)) (Nat.le_of_ble_eq_true rfl) (Nat.le_of_ble_eq_true rfl) ⟨Nat.le_of_ble_eq_true rfl, Nat.le_of_ble_eq_true rfl⟩ dJx4a65c_grow_92f84_49 rfl ?_
      obtain ⟨hu4, E⟩ := guardN_some E
      obtain ⟨g5, E⟩ := guard10_some E
      refine v_anewO C (pc' := 55) hu4 rfl (TT_of (i := 473) (by decide +kernel) (by decide +kernel)) (by rw [g5]; decide) (by rw [g5]; decide) (by decide) ⟨Nat.le_of_ble_eq_true rfl, Nat.le_of_ble_eq_true rfl⟩ dJx4a65c_grow_92f84_52 rfl ?_
      refine v_dup_x1 C (pc' := 56) dJx4a65c_grow_92f84_55 rfl rfl rfl ?_
      refine v_putR C (pc' := 59) fp_Jx4a65c_9 rfl rfl lv0_7 dJx4a65c_grow_92f84_56 rfl (t2 := 16) rfl (fun _ => ⟨rfl, by decide⟩) ?_
      cases E
      exact v_reta C hr (Or.inr ⟨_, rfl⟩) hlk dJx4a65c_grow_92f84_59
    · rw [if_neg q3] at E
      exact J20 _ E

def al_grow0  (h : Hp) : Option (Option Nat × Hp) :=
  (al_grow1 ((gI h (7, 0) 2) + (1 : Int32)) h).bind fun y1 =>
  some (y1.1, y1.2)
set_option maxHeartbeats 2000000 in
set_option maxRecDepth 20000 in
theorem c_al_grow0 (l : Launch)  (h : Hp) (r : Option Nat) (h' : Hp)  (E : al_grow0  h = some (r, h')) : Ctr l yJx4a65c_grow_d5877 cJx4a65c_grow_d5877 1 (some (.array (.object "java/lang/Object"))) 5 127 1 10 true [aA 7 (some 0)] h (some (aA 16 r)) h' := by
  rw [al_grow0] at E
  refine Ctr.of (ls0 := [some (aA 7 (some 0))]) (by decide +kernel) (Nat.le_of_ble_eq_true rfl) rfl ?_
  intro G p e s m args below meth c C hr hlk hnm
  refine v_aload_n C (pc' := 1) dJx4a65c_grow_d5877_0 rfl rfl rfl ?_
  refine v_aload_n C (pc' := 2) dJx4a65c_grow_d5877_1 rfl rfl rfl ?_
  refine v_getI C (pc' := 5) fl_Jx4a65c_48 rfl (Or.inl rfl) lv0_7 dJx4a65c_grow_d5877_2 rfl ?_
  refine v_iconst C (pc' := 6) dJx4a65c_grow_d5877_5 (v := (1 : Int32)) (by decide) rfl ?_
  refine v_iadd C (pc' := 7) dJx4a65c_grow_d5877_6 rfl ?_
  obtain ⟨y1, hy1, E⟩ := bind_some E
  refine v_callV C (pc' := 10) (rest := []) (c_al_grow1 l ((gI h (7, 0) 2) + (1 : Int32)) h _ _ hy1) mv_Jx4a65c_69 rfl rfl lv0_7 dJx4a65c_grow_d5877_7 rfl rfl rfl ⟨Nat.le_of_ble_eq_true rfl, Nat.le_of_ble_eq_true rfl⟩ (Nat.le_of_ble_eq_true rfl) ⟨Nat.le_of_ble_eq_true rfl, Nat.le_of_ble_eq_true rfl⟩ ?_
  refine V.st (st' := [aA 16 y1.1]) rfl ?_
  cases E
  exact v_reta C hr (Or.inr ⟨_, rfl⟩) hlk dJx4a65c_grow_d5877_10

def al_add3 (p1 : Option Nat) (p2 : Option Nat) (p3 : Int32) (h : Hp) : Option Hp :=
  (lenE p2 h).bind fun x1 =>
  (if p3 = x1 then
    (al_grow0 h).bind fun y4 =>
    some (y4.1, y4.2)
  else
    some (p2, h)).bind fun t3 =>
  (nda t3.2 p1).bind fun x6 =>
  guardE t3.1 t3.2 <|
  guardB p3 10 <|
  some (sI (sR t3.2 (16, 1) p3.toNatClampNeg (some x6)) (7, 0) 2 (p3 + (1 : Int32)))
set_option maxHeartbeats 2000000 in
set_option maxRecDepth 20000 in
theorem c_al_add3 (l : Launch) (p1 : Option Nat) (p2 : Option Nat) (p3 : Int32) (h : Hp) (h' : Hp)  (E : al_add3 p1 p2 p3 h = some h') : Ctr l yJx4a65c_add_72be8 cJx4a65c_add_72be8 4 none 6 147 1 10 true [aA 7 (some 0), aA 15 p1, aA 16 p2, aI p3] h none h' := by
  rw [al_add3] at E
  refine Ctr.of (ls0 := [some (aA 7 (some 0)), some (aA 15 p1), some (aA 16 p2), some (aI p3)]) (by decide +kernel) (Nat.le_of_ble_eq_true rfl) rfl ?_
  intro G p e s m args below meth c C hr hlk hnm
  refine v_iload_n C (pc' := 1) dJx4a65c_add_72be8_0 rfl rfl rfl ?_
  refine v_aload_n C (pc' := 2) dJx4a65c_add_72be8_1 rfl rfl rfl ?_
  obtain ⟨x1, hlx1, E⟩ := bind_some E
  replace hlx1 := lenE_some hlx1
  refine v_alenX C (pc' := 3) hlx1 dJx4a65c_add_72be8_2 rfl ?_
  obtain ⟨t3, At3, E⟩ := bind_some E
  have Kt3 : V true G p l e { frames := 6, cells := 1, slots := 10, locals := 147 } s m args below meth c 4 (MQ below (QcA true G none h') args s 1 10 (A_ G)) t3.2 1 10 11 [some (aA 7 (some 0)), some (aA 15 p1), some (aA 16 t3.1), some (aI p3)] [] := by
    refine v_aload_n C (pc' := 12) dJx4a65c_add_72be8_11 rfl rfl rfl ?_
    refine v_iload_n C (pc' := 13) dJx4a65c_add_72be8_12 rfl rfl rfl ?_
    refine v_aload_n C (pc' := 14) dJx4a65c_add_72be8_13 rfl rfl rfl ?_
    obtain ⟨x6, hx6, E⟩ := bind_some E
    obtain ⟨hx6, lvx6⟩ := nda_some hx6
    refine V.st (st' := [aA 15 (some x6), aI p3, aA 16 t3.1]) (by rw [hx6]) ?_
    obtain ⟨hx7, lv8, E⟩ := guardE_some E
    refine V.st (st' := [aA 15 (some x6), aI p3, aA 16 (some 1)]) (by rw [hx7]) ?_
    obtain ⟨g5, E⟩ := guardB_some E
    refine v_aastO C (pc' := 15) (t := 16) rfl lv8 lvx6 g5 (fun _ => ⟨by unfold FR; rfl, by decide⟩) dJx4a65c_add_72be8_14 rfl ?_
    refine v_aload_n C (pc' := 16) dJx4a65c_add_72be8_15 rfl rfl rfl ?_
    refine v_iload_n C (pc' := 17) dJx4a65c_add_72be8_16 rfl rfl rfl ?_
    refine v_iconst C (pc' := 18) dJx4a65c_add_72be8_17 (v := (1 : Int32)) (by decide) rfl ?_
    refine v_iadd C (pc' := 19) dJx4a65c_add_72be8_18 rfl ?_
    refine v_putI C (pc' := 22) fp_Jx4a65c_48 rfl rfl lv0_7 dJx4a65c_add_72be8_19 rfl ?_
    cases E
    exact v_retv C hr hlk dJx4a65c_add_72be8_22
  refine v_icmp_ne C (tg := 11) (pc' := 6) dJx4a65c_add_72be8_3 (by decide) rfl (fun q2 => ?_) (fun q2 => ?_)
  · rw [if_neg q2] at At3
    cases At3
    refine V.widen (ce := 1) (sl := 10) (Nat.le_of_ble_eq_true rfl) (Nat.le_of_ble_eq_true rfl) ?_
    exact Kt3
  · rw [if_pos q2] at At3
    refine v_aload_n C (pc' := 7) dJx4a65c_add_72be8_6 rfl rfl rfl ?_
    obtain ⟨y4, hy4, At3⟩ := bind_some At3
    refine v_callV C (pc' := 10) (rest := []) (c_al_grow0 l h _ _ hy4) mv_Jx4a65c_129 rfl rfl lv0_7 dJx4a65c_add_72be8_7 rfl rfl rfl ⟨Nat.le_of_ble_eq_true rfl, Nat.le_of_ble_eq_true rfl⟩ (Nat.le_of_ble_eq_true rfl) ⟨Nat.le_of_ble_eq_true rfl, Nat.le_of_ble_eq_true rfl⟩ ?_
    refine V.st (st' := [aA 16 y4.1]) rfl ?_
    refine v_astore2 C (pc' := 11) dJx4a65c_add_72be8_10 (by decide) rfl rfl ?_
    cases At3
    refine V.widen (ce := 1) (sl := 10) (Nat.le_of_ble_eq_true rfl) (Nat.le_of_ble_eq_true rfl) ?_
    exact Kt3

def al_add (p1 : Option Nat) (h : Hp) : Option (Int32 × Hp) :=
  (al_add3 p1 (gR (sI h (7, 0) 0 ((gI h (7, 0) 0) + (1 : Int32))) (7, 0) 1) (gI (sI h (7, 0) 0 ((gI h (7, 0) 0) + (1 : Int32))) (7, 0) 2) (sI h (7, 0) 0 ((gI h (7, 0) 0) + (1 : Int32)))).bind fun y1 =>
  some ((1 : Int32), y1)
set_option maxHeartbeats 2000000 in
set_option maxRecDepth 20000 in
theorem c_al_add (l : Launch) (p1 : Option Nat) (h : Hp) (r : Int32) (h' : Hp)  (E : al_add p1 h = some (r, h')) : Ctr l yJx4a65c_add_9ea2d cJx4a65c_add_9ea2d 2 (some .boolean) 7 170 1 10 true [aA 7 (some 0), aA 15 p1] h (some (aI r)) h' := by
  rw [al_add] at E
  refine Ctr.of (ls0 := [some (aA 7 (some 0)), some (aA 15 p1)]) (by decide +kernel) (Nat.le_of_ble_eq_true rfl) rfl ?_
  intro G p e s m args below meth c C hr hlk hnm
  refine v_aload_n C (pc' := 1) dJx4a65c_add_9ea2d_0 rfl rfl rfl ?_
  refine v_dup C (pc' := 2) dJx4a65c_add_9ea2d_1 rfl rfl ?_
  refine v_getI C (pc' := 5) fl_Jx4a65c_63 rfl (Or.inl rfl) lv0_7 dJx4a65c_add_9ea2d_2 rfl ?_
  refine v_iconst C (pc' := 6) dJx4a65c_add_9ea2d_5 (v := (1 : Int32)) (by decide) rfl ?_
  refine v_iadd C (pc' := 7) dJx4a65c_add_9ea2d_6 rfl ?_
  refine v_putI C (pc' := 10) fp_Jx4a65c_63 rfl rfl lv0_7 dJx4a65c_add_9ea2d_7 rfl ?_
  refine v_aload_n C (pc' := 11) dJx4a65c_add_9ea2d_10 rfl rfl rfl ?_
  refine v_aload_n C (pc' := 12) dJx4a65c_add_9ea2d_11 rfl rfl rfl ?_
  refine v_aload_n C (pc' := 13) dJx4a65c_add_9ea2d_12 rfl rfl rfl ?_
  refine v_getR C (pc' := 16) fl_Jx4a65c_9 rfl rfl (t2 := 16) rfl lv0_7 dJx4a65c_add_9ea2d_13 rfl ?_
  refine v_aload_n C (pc' := 17) dJx4a65c_add_9ea2d_16 rfl rfl rfl ?_
  refine v_getI C (pc' := 20) fl_Jx4a65c_48 rfl (Or.inl rfl) lv0_7 dJx4a65c_add_9ea2d_17 rfl ?_
  obtain ⟨y1, hy1, E⟩ := bind_some E
  refine v_callV C (pc' := 23) (rest := []) (c_al_add3 l p1 (gR (sI h (7, 0) 0 ((gI h (7, 0) 0) + (1 : Int32))) (7, 0) 1) (gI (sI h (7, 0) 0 ((gI h (7, 0) 0) + (1 : Int32))) (7, 0) 2) (sI h (7, 0) 0 ((gI h (7, 0) 0) + (1 : Int32))) _ hy1) mv_Jx4a65c_131 rfl rfl lv0_7 dJx4a65c_add_9ea2d_20 rfl rfl rfl ⟨Nat.le_of_ble_eq_true rfl, Nat.le_of_ble_eq_true rfl⟩ (Nat.le_of_ble_eq_true rfl) ⟨Nat.le_of_ble_eq_true rfl, Nat.le_of_ble_eq_true rfl⟩ ?_
  refine V.st (st' := []) rfl ?_
  refine v_iconst C (pc' := 24) dJx4a65c_add_9ea2d_23 (v := (1 : Int32)) (by decide) rfl ?_
  cases E
  exact v_retz C hr hlk (Or.inr rfl) dJx4a65c_add_9ea2d_24

def abc_init  (h : Hp) : Option Unit :=
  some ()
set_option maxHeartbeats 2000000 in
set_option maxRecDepth 20000 in
theorem c_abc_init (l : Launch)  (h : Hp)   (E : abc_init  h = some ()) : Ctr l yJxa1e45_init_da8c8 cJxa1e45_init_da8c8 1 none 1 20 0 0 false [aA 7 (some 0)] h none h := by
  rw [abc_init] at E
  refine Ctr.of (ls0 := [some (aA 7 (some 0))]) (by decide +kernel) (Nat.le_of_ble_eq_true rfl) rfl ?_
  intro G p e s m args below meth c C hr hlk hnm
  refine v_aload_n C (pc' := 1) dJxa1e45_init_da8c8_0 rfl rfl rfl ?_
  refine v_oinit C (pc' := 4) (TT_of (i := 182) (by decide +kernel) (by decide +kernel)) dJxa1e45_init_da8c8_1 rfl (Nat.le_of_ble_eq_true rfl) (Nat.le_of_ble_eq_true rfl) ?_
  cases E
  exact v_retv C hr hlk dJxa1e45_init_da8c8_4

def abl_init  (h : Hp) : Option Hp :=
  (abc_init h).bind fun y1 =>
  guardL 7 0 h <|
  some (sI h (7, 0) 0 (0 : Int32))
set_option maxHeartbeats 2000000 in
set_option maxRecDepth 20000 in
theorem c_abl_init (l : Launch)  (h : Hp) (h' : Hp)  (E : abl_init  h = some h') : Ctr l yJxc12de_init_da8c8 cJxc12de_init_da8c8 1 none 2 40 0 0 false [aA 7 (some 0)] h none h' := by
  rw [abl_init] at E
  refine Ctr.of (ls0 := [some (aA 7 (some 0))]) (by decide +kernel) (Nat.le_of_ble_eq_true rfl) rfl ?_
  intro G p e s m args below meth c C hr hlk hnm
  refine v_aload_n C (pc' := 1) dJxc12de_init_da8c8_0 rfl rfl rfl ?_
  obtain ⟨y1, hy1, E⟩ := bind_some E
  refine v_callI C (pc' := 4) (rest := []) (c_abc_init l h hy1) mi_Jxc12de_1 dJxc12de_init_da8c8_1 rfl rfl rfl ⟨Nat.le_of_ble_eq_true rfl, Nat.le_of_ble_eq_true rfl⟩ (Nat.le_of_ble_eq_true rfl) ⟨Nat.le_of_ble_eq_true rfl, Nat.le_of_ble_eq_true rfl⟩ ?_
  refine V.st (st' := []) rfl ?_
  refine v_aload_n C (pc' := 5) dJxc12de_init_da8c8_4 rfl rfl rfl ?_
  refine v_iconst C (pc' := 6) dJxc12de_init_da8c8_5 (v := (0 : Int32)) (by decide) rfl ?_
  obtain ⟨lv2, E⟩ := guardL_some E
  refine v_putI C (pc' := 9) fp_Jxc12de_7 rfl rfl lv2 dJxc12de_init_da8c8_6 rfl ?_
  cases E
  exact v_retv C hr hlk dJxc12de_init_da8c8_9

def al_init  (h : Hp) : Option Hp :=
  (abl_init h).bind fun y1 =>
  guardL 7 0 y1 <|
  some (sR y1 (7, 0) 1 (some 0))
set_option maxHeartbeats 2000000 in
set_option maxRecDepth 20000 in
theorem c_al_init (l : Launch)  (h : Hp) (h' : Hp)  (E : al_init  h = some h') : Ctr l yJx4a65c_init_da8c8 cJx4a65c_init_da8c8 1 none 3 60 0 0 false [aA 7 (some 0)] h none h' := by
  rw [al_init] at E
  refine Ctr.of (ls0 := [some (aA 7 (some 0))]) (by decide +kernel) (Nat.le_of_ble_eq_true rfl) rfl ?_
  intro G p e s m args below meth c C hr hlk hnm
  refine v_aload_n C (pc' := 1) dJx4a65c_init_da8c8_0 rfl rfl rfl ?_
  obtain ⟨y1, hy1, E⟩ := bind_some E
  refine v_callI C (pc' := 4) (rest := []) (c_abl_init l h _ hy1) mi_Jx4a65c_1 dJx4a65c_init_da8c8_1 rfl rfl rfl ⟨Nat.le_of_ble_eq_true rfl, Nat.le_of_ble_eq_true rfl⟩ (Nat.le_of_ble_eq_true rfl) ⟨Nat.le_of_ble_eq_true rfl, Nat.le_of_ble_eq_true rfl⟩ ?_
  refine V.st (st' := []) rfl ?_
  refine v_aload_n C (pc' := 5) dJx4a65c_init_da8c8_4 rfl rfl rfl ?_
  refine v_gsE C (pc' := 8) (TT_of (i := 183) (by decide +kernel) (by decide +kernel)) dJx4a65c_init_da8c8_5 rfl ?_
  obtain ⟨lv2, E⟩ := guardL_some E
  refine v_putR C (pc' := 11) fp_Jx4a65c_9 rfl rfl lv2 dJx4a65c_init_da8c8_8 rfl (t2 := 16) rfl (fun z => by cases z) ?_
  cases E
  exact v_retv C hr hlk dJx4a65c_init_da8c8_11

def node_init (th : Nat) (h : Hp) : Option Hp :=
  guardN 6 th h <|
  guardL 5 th (sN h) <|
  guardL 5 th (sR (sN h) (5, th) 0 (some th)) <|
  guardL 5 th (sI (sR (sN h) (5, th) 0 (some th)) (5, th) 1 (0 : Int32)) <|
  guardL 5 th (sI (sI (sR (sN h) (5, th) 0 (some th)) (5, th) 1 (0 : Int32)) (5, th) 2 (0 : Int32)) <|
  guardL 5 th (sI (sI (sI (sR (sN h) (5, th) 0 (some th)) (5, th) 1 (0 : Int32)) (5, th) 2 (0 : Int32)) (5, th) 3 (0 : Int32)) <|
  guardL 5 th (sL (sI (sI (sI (sR (sN h) (5, th) 0 (some th)) (5, th) 1 (0 : Int32)) (5, th) 2 (0 : Int32)) (5, th) 3 (0 : Int32)) (5, th) 4 (0 : Int64)) <|
  some (sR (sL (sI (sI (sI (sR (sN h) (5, th) 0 (some th)) (5, th) 1 (0 : Int32)) (5, th) 2 (0 : Int32)) (5, th) 3 (0 : Int32)) (5, th) 4 (0 : Int64)) (5, th) 5 none)
set_option maxHeartbeats 2000000 in
set_option maxRecDepth 20000 in
theorem c_node_init (l : Launch) (th : Nat) (h : Hp) (h' : Hp)  (E : node_init th h = some h') : Ctr l yX8_init cX8_init 1 none 1 20 1 32 false [aA 5 (some th)] h none h' := by
  rw [node_init] at E
  refine Ctr.of (ls0 := [some (aA 5 (some th))]) (by decide +kernel) (Nat.le_of_ble_eq_true rfl) rfl ?_
  intro G p e s m args below meth c C hr hlk hnm
  refine v_aload_n C (pc' := 1) dX8_init_0 rfl rfl rfl ?_
  refine v_oinit C (pc' := 4) (TT_of (i := 131) (by decide +kernel) (by decide +kernel)) dX8_init_1 rfl (Nat.le_of_ble_eq_true rfl) (Nat.le_of_ble_eq_true rfl) ?_
  refine v_aload_n C (pc' := 5) dX8_init_4 rfl rfl rfl ?_
  refine v_bipush C (pc' := 7) dX8_init_5 (v := (32 : Int32)) (by decide) rfl ?_
  obtain ⟨hu1, E⟩ := guardN_some E
  refine v_newaI C (pc' := 9) hu1 rfl (TT_of (i := 166) (by decide +kernel) (by decide +kernel)) (by decide) (by decide) (by decide) ⟨Nat.le_of_ble_eq_true rfl, Nat.le_of_ble_eq_true rfl⟩ dX8_init_7 rfl ?_
  obtain ⟨lv2, E⟩ := guardL_some E
  refine v_putFR C (pc' := 12) fp_X8_9 rfl rfl lv2 dX8_init_9 rfl (t2 := 6) rfl (fun z => by cases z) hnm ?_
  refine v_aload_n C (pc' := 13) dX8_init_12 rfl rfl rfl ?_
  refine v_iconst C (pc' := 14) dX8_init_13 (v := (0 : Int32)) (by decide) rfl ?_
  obtain ⟨lv3, E⟩ := guardL_some E
  refine v_putI C (pc' := 17) fp_X8_13 rfl rfl lv3 dX8_init_14 rfl ?_
  refine v_aload_n C (pc' := 18) dX8_init_17 rfl rfl rfl ?_
  refine v_iconst C (pc' := 19) dX8_init_18 (v := (0 : Int32)) (by decide) rfl ?_
  obtain ⟨lv4, E⟩ := guardL_some E
  refine v_putZ C (pc' := 22) fp_X8_17 rfl rfl lv4 dX8_init_19 rfl (Or.inl rfl) ?_
  refine v_aload_n C (pc' := 23) dX8_init_22 rfl rfl rfl ?_
  refine v_iconst C (pc' := 24) dX8_init_23 (v := (0 : Int32)) (by decide) rfl ?_
  obtain ⟨lv5, E⟩ := guardL_some E
  refine v_putZ C (pc' := 27) fp_X8_21 rfl rfl lv5 dX8_init_24 rfl (Or.inl rfl) ?_
  refine v_aload_n C (pc' := 28) dX8_init_27 rfl rfl rfl ?_
  refine v_lconst C (pc' := 29) dX8_init_28 (v := (0 : Int64)) (by decide) rfl ?_
  obtain ⟨lv6, E⟩ := guardL_some E
  refine v_putL C (pc' := 32) fp_X8_26 rfl rfl lv6 dX8_init_29 rfl ?_
  refine v_aload_n C (pc' := 33) dX8_init_32 rfl rfl rfl ?_
  refine v_null C (pc' := 34) (t := 5) dX8_init_33 rfl ?_
  obtain ⟨lv7, E⟩ := guardL_some E
  refine v_putR C (pc' := 37) fp_X8_30 rfl rfl lv7 dX8_init_34 rfl (t2 := 5) rfl (fun z => by cases z) ?_
  cases E
  exact v_retv C hr hlk dX8_init_37

def tree_init  (h : Hp) : Option Hp :=
  guardN 4 0 h <|
  guardL 3 0 (sN h) <|
  guardL 3 0 (sR (sN h) (3, 0) 0 (some 0)) <|
  guardS (gR (sR (sN h) (3, 0) 0 (some 0)) (3, 0) 0) 0 <|
  guardL 4 0 (sR (sN h) (3, 0) 0 (some 0)) <|
  guardL 3 0 (sR (sN h) (3, 0) 0 (some 0)) <|
  guardS (gR (sR (sN h) (3, 0) 0 (some 0)) (3, 0) 0) 0 <|
  guardN 5 0 (sR (sN h) (3, 0) 0 (some 0)) <|
  (node_init 0 (sN (sR (sN h) (3, 0) 0 (some 0)))).bind fun y10 =>
  guardL 5 0 y10 <|
  guardL 4 0 y10 <|
  guardB (0 : Int32) 24 <|
  guardL 3 0 (sR y10 (4, 0) (0 : Int32).toNatClampNeg (some 0)) <|
  guardS (gR (sR y10 (4, 0) (0 : Int32).toNatClampNeg (some 0)) (3, 0) 0) 0 <|
  guardL 4 0 (sR y10 (4, 0) (0 : Int32).toNatClampNeg (some 0)) <|
  guardL 3 0 (sR y10 (4, 0) (0 : Int32).toNatClampNeg (some 0)) <|
  guardS (gR (sR y10 (4, 0) (0 : Int32).toNatClampNeg (some 0)) (3, 0) 0) 0 <|
  guardN 5 1 (sR y10 (4, 0) (0 : Int32).toNatClampNeg (some 0)) <|
  (node_init 1 (sN (sR y10 (4, 0) (0 : Int32).toNatClampNeg (some 0)))).bind fun y21 =>
  guardL 5 1 y21 <|
  guardL 4 0 y21 <|
  guardB (1 : Int32) 24 <|
  guardL 3 0 (sR y21 (4, 0) (1 : Int32).toNatClampNeg (some 1)) <|
  guardS (gR (sR y21 (4, 0) (1 : Int32).toNatClampNeg (some 1)) (3, 0) 0) 0 <|
  guardL 4 0 (sR y21 (4, 0) (1 : Int32).toNatClampNeg (some 1)) <|
  guardL 3 0 (sR y21 (4, 0) (1 : Int32).toNatClampNeg (some 1)) <|
  guardS (gR (sR y21 (4, 0) (1 : Int32).toNatClampNeg (some 1)) (3, 0) 0) 0 <|
  guardN 5 2 (sR y21 (4, 0) (1 : Int32).toNatClampNeg (some 1)) <|
  (node_init 2 (sN (sR y21 (4, 0) (1 : Int32).toNatClampNeg (some 1)))).bind fun y32 =>
  guardL 5 2 y32 <|
  guardL 4 0 y32 <|
  guardB (2 : Int32) 24 <|
  guardL 3 0 (sR y32 (4, 0) (2 : Int32).toNatClampNeg (some 2)) <|
  guardS (gR (sR y32 (4, 0) (2 : Int32).toNatClampNeg (some 2)) (3, 0) 0) 0 <|
  guardL 4 0 (sR y32 (4, 0) (2 : Int32).toNatClampNeg (some 2)) <|
  guardL 3 0 (sR y32 (4, 0) (2 : Int32).toNatClampNeg (some 2)) <|
  guardS (gR (sR y32 (4, 0) (2 : Int32).toNatClampNeg (some 2)) (3, 0) 0) 0 <|
  guardN 5 3 (sR y32 (4, 0) (2 : Int32).toNatClampNeg (some 2)) <|
  (node_init 3 (sN (sR y32 (4, 0) (2 : Int32).toNatClampNeg (some 2)))).bind fun y43 =>
  guardL 5 3 y43 <|
  guardL 4 0 y43 <|
  guardB (3 : Int32) 24 <|
  guardL 3 0 (sR y43 (4, 0) (3 : Int32).toNatClampNeg (some 3)) <|
  guardS (gR (sR y43 (4, 0) (3 : Int32).toNatClampNeg (some 3)) (3, 0) 0) 0 <|
  guardL 4 0 (sR y43 (4, 0) (3 : Int32).toNatClampNeg (some 3)) <|
  guardL 3 0 (sR y43 (4, 0) (3 : Int32).toNatClampNeg (some 3)) <|
  guardS (gR (sR y43 (4, 0) (3 : Int32).toNatClampNeg (some 3)) (3, 0) 0) 0 <|
  guardN 5 4 (sR y43 (4, 0) (3 : Int32).toNatClampNeg (some 3)) <|
  (node_init 4 (sN (sR y43 (4, 0) (3 : Int32).toNatClampNeg (some 3)))).bind fun y54 =>
  guardL 5 4 y54 <|
  guardL 4 0 y54 <|
  guardB (4 : Int32) 24 <|
  guardL 3 0 (sR y54 (4, 0) (4 : Int32).toNatClampNeg (some 4)) <|
  guardS (gR (sR y54 (4, 0) (4 : Int32).toNatClampNeg (some 4)) (3, 0) 0) 0 <|
  guardL 4 0 (sR y54 (4, 0) (4 : Int32).toNatClampNeg (some 4)) <|
  guardL 3 0 (sR y54 (4, 0) (4 : Int32).toNatClampNeg (some 4)) <|
  guardS (gR (sR y54 (4, 0) (4 : Int32).toNatClampNeg (some 4)) (3, 0) 0) 0 <|
  guardN 5 5 (sR y54 (4, 0) (4 : Int32).toNatClampNeg (some 4)) <|
  (node_init 5 (sN (sR y54 (4, 0) (4 : Int32).toNatClampNeg (some 4)))).bind fun y65 =>
  guardL 5 5 y65 <|
  guardL 4 0 y65 <|
  guardB (5 : Int32) 24 <|
  guardL 3 0 (sR y65 (4, 0) (5 : Int32).toNatClampNeg (some 5)) <|
  guardS (gR (sR y65 (4, 0) (5 : Int32).toNatClampNeg (some 5)) (3, 0) 0) 0 <|
  guardL 4 0 (sR y65 (4, 0) (5 : Int32).toNatClampNeg (some 5)) <|
  guardL 3 0 (sR y65 (4, 0) (5 : Int32).toNatClampNeg (some 5)) <|
  guardS (gR (sR y65 (4, 0) (5 : Int32).toNatClampNeg (some 5)) (3, 0) 0) 0 <|
  guardN 5 6 (sR y65 (4, 0) (5 : Int32).toNatClampNeg (some 5)) <|
  (node_init 6 (sN (sR y65 (4, 0) (5 : Int32).toNatClampNeg (some 5)))).bind fun y76 =>
  guardL 5 6 y76 <|
  guardL 4 0 y76 <|
  guardB (6 : Int32) 24 <|
  guardL 3 0 (sR y76 (4, 0) (6 : Int32).toNatClampNeg (some 6)) <|
  guardS (gR (sR y76 (4, 0) (6 : Int32).toNatClampNeg (some 6)) (3, 0) 0) 0 <|
  guardL 4 0 (sR y76 (4, 0) (6 : Int32).toNatClampNeg (some 6)) <|
  guardL 3 0 (sR y76 (4, 0) (6 : Int32).toNatClampNeg (some 6)) <|
  guardS (gR (sR y76 (4, 0) (6 : Int32).toNatClampNeg (some 6)) (3, 0) 0) 0 <|
  guardN 5 7 (sR y76 (4, 0) (6 : Int32).toNatClampNeg (some 6)) <|
  (node_init 7 (sN (sR y76 (4, 0) (6 : Int32).toNatClampNeg (some 6)))).bind fun y87 =>
  guardL 5 7 y87 <|
  guardL 4 0 y87 <|
  guardB (7 : Int32) 24 <|
  guardL 3 0 (sR y87 (4, 0) (7 : Int32).toNatClampNeg (some 7)) <|
  guardS (gR (sR y87 (4, 0) (7 : Int32).toNatClampNeg (some 7)) (3, 0) 0) 0 <|
  guardL 4 0 (sR y87 (4, 0) (7 : Int32).toNatClampNeg (some 7)) <|
  guardL 3 0 (sR y87 (4, 0) (7 : Int32).toNatClampNeg (some 7)) <|
  guardS (gR (sR y87 (4, 0) (7 : Int32).toNatClampNeg (some 7)) (3, 0) 0) 0 <|
  guardN 5 8 (sR y87 (4, 0) (7 : Int32).toNatClampNeg (some 7)) <|
  (node_init 8 (sN (sR y87 (4, 0) (7 : Int32).toNatClampNeg (some 7)))).bind fun y98 =>
  guardL 5 8 y98 <|
  guardL 4 0 y98 <|
  guardB (8 : Int32) 24 <|
  guardL 3 0 (sR y98 (4, 0) (8 : Int32).toNatClampNeg (some 8)) <|
  guardS (gR (sR y98 (4, 0) (8 : Int32).toNatClampNeg (some 8)) (3, 0) 0) 0 <|
  guardL 4 0 (sR y98 (4, 0) (8 : Int32).toNatClampNeg (some 8)) <|
  guardL 3 0 (sR y98 (4, 0) (8 : Int32).toNatClampNeg (some 8)) <|
  guardS (gR (sR y98 (4, 0) (8 : Int32).toNatClampNeg (some 8)) (3, 0) 0) 0 <|
  guardN 5 9 (sR y98 (4, 0) (8 : Int32).toNatClampNeg (some 8)) <|
  (node_init 9 (sN (sR y98 (4, 0) (8 : Int32).toNatClampNeg (some 8)))).bind fun y109 =>
  guardL 5 9 y109 <|
  guardL 4 0 y109 <|
  guardB (9 : Int32) 24 <|
  guardL 3 0 (sR y109 (4, 0) (9 : Int32).toNatClampNeg (some 9)) <|
  guardS (gR (sR y109 (4, 0) (9 : Int32).toNatClampNeg (some 9)) (3, 0) 0) 0 <|
  guardL 4 0 (sR y109 (4, 0) (9 : Int32).toNatClampNeg (some 9)) <|
  guardL 3 0 (sR y109 (4, 0) (9 : Int32).toNatClampNeg (some 9)) <|
  guardS (gR (sR y109 (4, 0) (9 : Int32).toNatClampNeg (some 9)) (3, 0) 0) 0 <|
  guardN 5 10 (sR y109 (4, 0) (9 : Int32).toNatClampNeg (some 9)) <|
  (node_init 10 (sN (sR y109 (4, 0) (9 : Int32).toNatClampNeg (some 9)))).bind fun y120 =>
  guardL 5 10 y120 <|
  guardL 4 0 y120 <|
  guardB (10 : Int32) 24 <|
  guardL 3 0 (sR y120 (4, 0) (10 : Int32).toNatClampNeg (some 10)) <|
  guardS (gR (sR y120 (4, 0) (10 : Int32).toNatClampNeg (some 10)) (3, 0) 0) 0 <|
  guardL 4 0 (sR y120 (4, 0) (10 : Int32).toNatClampNeg (some 10)) <|
  guardL 3 0 (sR y120 (4, 0) (10 : Int32).toNatClampNeg (some 10)) <|
  guardS (gR (sR y120 (4, 0) (10 : Int32).toNatClampNeg (some 10)) (3, 0) 0) 0 <|
  guardN 5 11 (sR y120 (4, 0) (10 : Int32).toNatClampNeg (some 10)) <|
  (node_init 11 (sN (sR y120 (4, 0) (10 : Int32).toNatClampNeg (some 10)))).bind fun y131 =>
  guardL 5 11 y131 <|
  guardL 4 0 y131 <|
  guardB (11 : Int32) 24 <|
  guardL 3 0 (sR y131 (4, 0) (11 : Int32).toNatClampNeg (some 11)) <|
  guardS (gR (sR y131 (4, 0) (11 : Int32).toNatClampNeg (some 11)) (3, 0) 0) 0 <|
  guardL 4 0 (sR y131 (4, 0) (11 : Int32).toNatClampNeg (some 11)) <|
  guardL 3 0 (sR y131 (4, 0) (11 : Int32).toNatClampNeg (some 11)) <|
  guardS (gR (sR y131 (4, 0) (11 : Int32).toNatClampNeg (some 11)) (3, 0) 0) 0 <|
  guardN 5 12 (sR y131 (4, 0) (11 : Int32).toNatClampNeg (some 11)) <|
  (node_init 12 (sN (sR y131 (4, 0) (11 : Int32).toNatClampNeg (some 11)))).bind fun y142 =>
  guardL 5 12 y142 <|
  guardL 4 0 y142 <|
  guardB (12 : Int32) 24 <|
  guardL 3 0 (sR y142 (4, 0) (12 : Int32).toNatClampNeg (some 12)) <|
  guardS (gR (sR y142 (4, 0) (12 : Int32).toNatClampNeg (some 12)) (3, 0) 0) 0 <|
  guardL 4 0 (sR y142 (4, 0) (12 : Int32).toNatClampNeg (some 12)) <|
  guardL 3 0 (sR y142 (4, 0) (12 : Int32).toNatClampNeg (some 12)) <|
  guardS (gR (sR y142 (4, 0) (12 : Int32).toNatClampNeg (some 12)) (3, 0) 0) 0 <|
  guardN 5 13 (sR y142 (4, 0) (12 : Int32).toNatClampNeg (some 12)) <|
  (node_init 13 (sN (sR y142 (4, 0) (12 : Int32).toNatClampNeg (some 12)))).bind fun y153 =>
  guardL 5 13 y153 <|
  guardL 4 0 y153 <|
  guardB (13 : Int32) 24 <|
  guardL 3 0 (sR y153 (4, 0) (13 : Int32).toNatClampNeg (some 13)) <|
  guardS (gR (sR y153 (4, 0) (13 : Int32).toNatClampNeg (some 13)) (3, 0) 0) 0 <|
  guardL 4 0 (sR y153 (4, 0) (13 : Int32).toNatClampNeg (some 13)) <|
  guardL 3 0 (sR y153 (4, 0) (13 : Int32).toNatClampNeg (some 13)) <|
  guardS (gR (sR y153 (4, 0) (13 : Int32).toNatClampNeg (some 13)) (3, 0) 0) 0 <|
  guardN 5 14 (sR y153 (4, 0) (13 : Int32).toNatClampNeg (some 13)) <|
  (node_init 14 (sN (sR y153 (4, 0) (13 : Int32).toNatClampNeg (some 13)))).bind fun y164 =>
  guardL 5 14 y164 <|
  guardL 4 0 y164 <|
  guardB (14 : Int32) 24 <|
  guardL 3 0 (sR y164 (4, 0) (14 : Int32).toNatClampNeg (some 14)) <|
  guardS (gR (sR y164 (4, 0) (14 : Int32).toNatClampNeg (some 14)) (3, 0) 0) 0 <|
  guardL 4 0 (sR y164 (4, 0) (14 : Int32).toNatClampNeg (some 14)) <|
  guardL 3 0 (sR y164 (4, 0) (14 : Int32).toNatClampNeg (some 14)) <|
  guardS (gR (sR y164 (4, 0) (14 : Int32).toNatClampNeg (some 14)) (3, 0) 0) 0 <|
  guardN 5 15 (sR y164 (4, 0) (14 : Int32).toNatClampNeg (some 14)) <|
  (node_init 15 (sN (sR y164 (4, 0) (14 : Int32).toNatClampNeg (some 14)))).bind fun y175 =>
  guardL 5 15 y175 <|
  guardL 4 0 y175 <|
  guardB (15 : Int32) 24 <|
  guardL 3 0 (sR y175 (4, 0) (15 : Int32).toNatClampNeg (some 15)) <|
  guardS (gR (sR y175 (4, 0) (15 : Int32).toNatClampNeg (some 15)) (3, 0) 0) 0 <|
  guardL 4 0 (sR y175 (4, 0) (15 : Int32).toNatClampNeg (some 15)) <|
  guardL 3 0 (sR y175 (4, 0) (15 : Int32).toNatClampNeg (some 15)) <|
  guardS (gR (sR y175 (4, 0) (15 : Int32).toNatClampNeg (some 15)) (3, 0) 0) 0 <|
  guardN 5 16 (sR y175 (4, 0) (15 : Int32).toNatClampNeg (some 15)) <|
  (node_init 16 (sN (sR y175 (4, 0) (15 : Int32).toNatClampNeg (some 15)))).bind fun y186 =>
  guardL 5 16 y186 <|
  guardL 4 0 y186 <|
  guardB (16 : Int32) 24 <|
  guardL 3 0 (sR y186 (4, 0) (16 : Int32).toNatClampNeg (some 16)) <|
  guardS (gR (sR y186 (4, 0) (16 : Int32).toNatClampNeg (some 16)) (3, 0) 0) 0 <|
  guardL 4 0 (sR y186 (4, 0) (16 : Int32).toNatClampNeg (some 16)) <|
  guardL 3 0 (sR y186 (4, 0) (16 : Int32).toNatClampNeg (some 16)) <|
  guardS (gR (sR y186 (4, 0) (16 : Int32).toNatClampNeg (some 16)) (3, 0) 0) 0 <|
  guardN 5 17 (sR y186 (4, 0) (16 : Int32).toNatClampNeg (some 16)) <|
  (node_init 17 (sN (sR y186 (4, 0) (16 : Int32).toNatClampNeg (some 16)))).bind fun y197 =>
  guardL 5 17 y197 <|
  guardL 4 0 y197 <|
  guardB (17 : Int32) 24 <|
  guardL 3 0 (sR y197 (4, 0) (17 : Int32).toNatClampNeg (some 17)) <|
  guardS (gR (sR y197 (4, 0) (17 : Int32).toNatClampNeg (some 17)) (3, 0) 0) 0 <|
  guardL 4 0 (sR y197 (4, 0) (17 : Int32).toNatClampNeg (some 17)) <|
  guardL 3 0 (sR y197 (4, 0) (17 : Int32).toNatClampNeg (some 17)) <|
  guardS (gR (sR y197 (4, 0) (17 : Int32).toNatClampNeg (some 17)) (3, 0) 0) 0 <|
  guardN 5 18 (sR y197 (4, 0) (17 : Int32).toNatClampNeg (some 17)) <|
  (node_init 18 (sN (sR y197 (4, 0) (17 : Int32).toNatClampNeg (some 17)))).bind fun y208 =>
  guardL 5 18 y208 <|
  guardL 4 0 y208 <|
  guardB (18 : Int32) 24 <|
  guardL 3 0 (sR y208 (4, 0) (18 : Int32).toNatClampNeg (some 18)) <|
  guardS (gR (sR y208 (4, 0) (18 : Int32).toNatClampNeg (some 18)) (3, 0) 0) 0 <|
  guardL 4 0 (sR y208 (4, 0) (18 : Int32).toNatClampNeg (some 18)) <|
  guardL 3 0 (sR y208 (4, 0) (18 : Int32).toNatClampNeg (some 18)) <|
  guardS (gR (sR y208 (4, 0) (18 : Int32).toNatClampNeg (some 18)) (3, 0) 0) 0 <|
  guardN 5 19 (sR y208 (4, 0) (18 : Int32).toNatClampNeg (some 18)) <|
  (node_init 19 (sN (sR y208 (4, 0) (18 : Int32).toNatClampNeg (some 18)))).bind fun y219 =>
  guardL 5 19 y219 <|
  guardL 4 0 y219 <|
  guardB (19 : Int32) 24 <|
  guardL 3 0 (sR y219 (4, 0) (19 : Int32).toNatClampNeg (some 19)) <|
  guardS (gR (sR y219 (4, 0) (19 : Int32).toNatClampNeg (some 19)) (3, 0) 0) 0 <|
  guardL 4 0 (sR y219 (4, 0) (19 : Int32).toNatClampNeg (some 19)) <|
  guardL 3 0 (sR y219 (4, 0) (19 : Int32).toNatClampNeg (some 19)) <|
  guardS (gR (sR y219 (4, 0) (19 : Int32).toNatClampNeg (some 19)) (3, 0) 0) 0 <|
  guardN 5 20 (sR y219 (4, 0) (19 : Int32).toNatClampNeg (some 19)) <|
  (node_init 20 (sN (sR y219 (4, 0) (19 : Int32).toNatClampNeg (some 19)))).bind fun y230 =>
  guardL 5 20 y230 <|
  guardL 4 0 y230 <|
  guardB (20 : Int32) 24 <|
  guardL 3 0 (sR y230 (4, 0) (20 : Int32).toNatClampNeg (some 20)) <|
  guardS (gR (sR y230 (4, 0) (20 : Int32).toNatClampNeg (some 20)) (3, 0) 0) 0 <|
  guardL 4 0 (sR y230 (4, 0) (20 : Int32).toNatClampNeg (some 20)) <|
  guardL 3 0 (sR y230 (4, 0) (20 : Int32).toNatClampNeg (some 20)) <|
  guardS (gR (sR y230 (4, 0) (20 : Int32).toNatClampNeg (some 20)) (3, 0) 0) 0 <|
  guardN 5 21 (sR y230 (4, 0) (20 : Int32).toNatClampNeg (some 20)) <|
  (node_init 21 (sN (sR y230 (4, 0) (20 : Int32).toNatClampNeg (some 20)))).bind fun y241 =>
  guardL 5 21 y241 <|
  guardL 4 0 y241 <|
  guardB (21 : Int32) 24 <|
  guardL 3 0 (sR y241 (4, 0) (21 : Int32).toNatClampNeg (some 21)) <|
  guardS (gR (sR y241 (4, 0) (21 : Int32).toNatClampNeg (some 21)) (3, 0) 0) 0 <|
  guardL 4 0 (sR y241 (4, 0) (21 : Int32).toNatClampNeg (some 21)) <|
  guardL 3 0 (sR y241 (4, 0) (21 : Int32).toNatClampNeg (some 21)) <|
  guardS (gR (sR y241 (4, 0) (21 : Int32).toNatClampNeg (some 21)) (3, 0) 0) 0 <|
  guardN 5 22 (sR y241 (4, 0) (21 : Int32).toNatClampNeg (some 21)) <|
  (node_init 22 (sN (sR y241 (4, 0) (21 : Int32).toNatClampNeg (some 21)))).bind fun y252 =>
  guardL 5 22 y252 <|
  guardL 4 0 y252 <|
  guardB (22 : Int32) 24 <|
  guardL 3 0 (sR y252 (4, 0) (22 : Int32).toNatClampNeg (some 22)) <|
  guardS (gR (sR y252 (4, 0) (22 : Int32).toNatClampNeg (some 22)) (3, 0) 0) 0 <|
  guardL 4 0 (sR y252 (4, 0) (22 : Int32).toNatClampNeg (some 22)) <|
  guardL 3 0 (sR y252 (4, 0) (22 : Int32).toNatClampNeg (some 22)) <|
  guardS (gR (sR y252 (4, 0) (22 : Int32).toNatClampNeg (some 22)) (3, 0) 0) 0 <|
  guardN 5 23 (sR y252 (4, 0) (22 : Int32).toNatClampNeg (some 22)) <|
  (node_init 23 (sN (sR y252 (4, 0) (22 : Int32).toNatClampNeg (some 22)))).bind fun y263 =>
  guardL 5 23 y263 <|
  guardL 4 0 y263 <|
  guardB (23 : Int32) 24 <|
  guardL 3 0 (sR y263 (4, 0) (23 : Int32).toNatClampNeg (some 23)) <|
  guardS (gR (sR y263 (4, 0) (23 : Int32).toNatClampNeg (some 23)) (3, 0) 0) 0 <|
  guardL 4 0 (sR y263 (4, 0) (23 : Int32).toNatClampNeg (some 23)) <|
  some (sR y263 (4, 0) (23 : Int32).toNatClampNeg (some 23))
set_option maxHeartbeats 2000000 in
set_option maxRecDepth 20000 in
theorem c_tree_init (l : Launch)  (h : Hp) (h' : Hp)  (E : tree_init  h = some h') : Ctr l yX10_init cX10_init 2 none 2 40 49 936 false [aA 3 (some 0)] h none h' := by
  rw [tree_init] at E
  refine Ctr.of (ls0 := [some (aA 3 (some 0)), none]) (by decide +kernel) (Nat.le_of_ble_eq_true rfl) rfl ?_
  intro G p e s m args below meth c C hr hlk hnm
  refine v_aload_n C (pc' := 1) dX10_init_0 rfl rfl rfl ?_
  refine v_oinit C (pc' := 4) (TT_of (i := 124) (by decide +kernel) (by decide +kernel)) dX10_init_1 rfl (Nat.le_of_ble_eq_true rfl) (Nat.le_of_ble_eq_true rfl) ?_
  refine v_aload_n C (pc' := 5) dX10_init_4 rfl rfl rfl ?_
  refine v_bipush C (pc' := 7) dX10_init_5 (v := (24 : Int32)) (by decide) rfl ?_
  obtain ⟨hu1, E⟩ := guardN_some E
  refine v_anewN C (pc' := 10) hu1 rfl (TT_of (i := 125) (by decide +kernel) (by decide +kernel)) (by decide) (by decide) (by decide) ⟨Nat.le_of_ble_eq_true rfl, Nat.le_of_ble_eq_true rfl⟩ dX10_init_7 rfl ?_
  obtain ⟨lv2, E⟩ := guardL_some E
  refine v_putFR C (pc' := 13) fp_X10_11 rfl rfl lv2 dX10_init_10 rfl (t2 := 4) rfl (fun z => by cases z) hnm ?_
  refine v_iconst C (pc' := 14) dX10_init_13 (v := (0 : Int32)) (by decide) rfl ?_
  refine v_istore1 C (pc' := 15) dX10_init_14 (by decide) rfl rfl ?_
  refine v_iload_n C (pc' := 16) dX10_init_15 rfl rfl rfl ?_
  refine v_aload_n C (pc' := 17) dX10_init_16 rfl rfl rfl ?_
  obtain ⟨lv3, E⟩ := guardL_some E
  refine v_getR C (pc' := 20) fl_X10_11 rfl rfl (t2 := 4) rfl lv3 dX10_init_17 rfl ?_
  obtain ⟨hs4, E⟩ := guardS_some E
  refine V.st (st' := [aA 4 (some 0), aI (0 : Int32)]) (by rw [hs4]) ?_
  obtain ⟨lv5, E⟩ := guardL_some E
  refine v_alen C (pc' := 21) (t := 4) rfl (by decide) lv5 (v := (24 : Int32)) (by decide) dX10_init_20 rfl ?_
  refine v_icmp_ge C (tg := 43) (pc' := 24) dX10_init_21 (by decide) rfl (fun q6 => ?_) (fun q6 => ?_)
  · exact absurd q6 (by decide)
  · refine v_aload_n C (pc' := 25) dX10_init_24 rfl rfl rfl ?_
    obtain ⟨lv7, E⟩ := guardL_some E
    refine v_getR C (pc' := 28) fl_X10_11 rfl rfl (t2 := 4) rfl lv7 dX10_init_25 rfl ?_
    obtain ⟨hs8, E⟩ := guardS_some E
    refine V.st (st' := [aA 4 (some 0)]) (by rw [hs8]) ?_
    refine v_iload_n C (pc' := 29) dX10_init_28 rfl rfl rfl ?_
    obtain ⟨hu9, E⟩ := guardN_some E
    refine v_new C (pc' := 32) hu9 rfl nw_X10_9 ⟨Nat.le_of_ble_eq_true rfl, Nat.le_of_ble_eq_true rfl⟩ dX10_init_29 rfl ?_
    refine v_dup C (pc' := 33) dX10_init_32 rfl rfl ?_
    obtain ⟨y10, hy10, E⟩ := bind_some E
    refine v_callIN C (pc' := 36) (rest := [aA 5 (some 0), aI (0 : Int32), aA 4 (some 0)]) (c_node_init l 0 (sN (sR (sN h) (3, 0) 0 (some 0))) _ hy10) C.2.2.2.2.2.1.2.2.2.2.2.2.2.2.1 mn_X8_init dX10_init_33 rfl rfl rfl ⟨Nat.le_of_ble_eq_true rfl, Nat.le_of_ble_eq_true rfl⟩ (Nat.le_of_ble_eq_true rfl) ⟨Nat.le_of_ble_eq_true rfl, Nat.le_of_ble_eq_true rfl⟩ ?_
    refine V.st (st' := [aA 5 (some 0), aI (0 : Int32), aA 4 (some 0)]) rfl ?_
    obtain ⟨lv12, E⟩ := guardL_some E
    obtain ⟨lv13, E⟩ := guardL_some E
    obtain ⟨g11, E⟩ := guardB_some E
    refine v_aastN C (pc' := 37) (t := 4) rfl lv13 lv12 g11 (fun z => by cases z) dX10_init_36 rfl ?_
    refine v_iinc1 C (pc' := 40) dX10_init_37 (v := (1 : Int32)) (by decide) (by decide) rfl rfl ?_
    refine v_goto C (pc' := 15) dX10_init_40 (by decide) ?_
    refine v_iload_n C (pc' := 16) dX10_init_15 rfl rfl rfl ?_
    refine v_aload_n C (pc' := 17) dX10_init_16 rfl rfl rfl ?_
    obtain ⟨lv14, E⟩ := guardL_some E
    refine v_getR C (pc' := 20) fl_X10_11 rfl rfl (t2 := 4) rfl lv14 dX10_init_17 rfl ?_
    obtain ⟨hs15, E⟩ := guardS_some E
    refine V.st (st' := [aA 4 (some 0), aI (1 : Int32)]) (by rw [hs15]) ?_
    obtain ⟨lv16, E⟩ := guardL_some E
    refine v_alen C (pc' := 21) (t := 4) rfl (by decide) lv16 (v := (24 : Int32)) (by decide) dX10_init_20 rfl ?_
    refine v_icmp_ge C (tg := 43) (pc' := 24) dX10_init_21 (by decide) rfl (fun q17 => ?_) (fun q17 => ?_)
    · exact absurd q17 (by decide)
    · refine v_aload_n C (pc' := 25) dX10_init_24 rfl rfl rfl ?_
      obtain ⟨lv18, E⟩ := guardL_some E
      refine v_getR C (pc' := 28) fl_X10_11 rfl rfl (t2 := 4) rfl lv18 dX10_init_25 rfl ?_
      obtain ⟨hs19, E⟩ := guardS_some E
      refine V.st (st' := [aA 4 (some 0)]) (by rw [hs19]) ?_
      refine v_iload_n C (pc' := 29) dX10_init_28 rfl rfl rfl ?_
      obtain ⟨hu20, E⟩ := guardN_some E
      refine v_new C (pc' := 32) hu20 rfl nw_X10_9 ⟨Nat.le_of_ble_eq_true rfl, Nat.le_of_ble_eq_true rfl⟩ dX10_init_29 rfl ?_
      refine v_dup C (pc' := 33) dX10_init_32 rfl rfl ?_
      obtain ⟨y21, hy21, E⟩ := bind_some E
      refine v_callIN C (pc' := 36) (rest := [aA 5 (some 1), aI (1 : Int32), aA 4 (some 0)]) (c_node_init l 1 (sN (sR y10 (4, 0) (0 : Int32).toNatClampNeg (some 0))) _ hy21) C.2.2.2.2.2.1.2.2.2.2.2.2.2.2.1 mn_X8_init dX10_init_33 rfl rfl rfl ⟨Nat.le_of_ble_eq_true rfl, Nat.le_of_ble_eq_true rfl⟩ (Nat.le_of_ble_eq_true rfl) ⟨Nat.le_of_ble_eq_true rfl, Nat.le_of_ble_eq_true rfl⟩ ?_
      refine V.st (st' := [aA 5 (some 1), aI (1 : Int32), aA 4 (some 0)]) rfl ?_
      obtain ⟨lv23, E⟩ := guardL_some E
      obtain ⟨lv24, E⟩ := guardL_some E
      obtain ⟨g22, E⟩ := guardB_some E
      refine v_aastN C (pc' := 37) (t := 4) rfl lv24 lv23 g22 (fun z => by cases z) dX10_init_36 rfl ?_
      refine v_iinc1 C (pc' := 40) dX10_init_37 (v := (2 : Int32)) (by decide) (by decide) rfl rfl ?_
      refine v_goto C (pc' := 15) dX10_init_40 (by decide) ?_
      refine v_iload_n C (pc' := 16) dX10_init_15 rfl rfl rfl ?_
      refine v_aload_n C (pc' := 17) dX10_init_16 rfl rfl rfl ?_
      obtain ⟨lv25, E⟩ := guardL_some E
      refine v_getR C (pc' := 20) fl_X10_11 rfl rfl (t2 := 4) rfl lv25 dX10_init_17 rfl ?_
      obtain ⟨hs26, E⟩ := guardS_some E
      refine V.st (st' := [aA 4 (some 0), aI (2 : Int32)]) (by rw [hs26]) ?_
      obtain ⟨lv27, E⟩ := guardL_some E
      refine v_alen C (pc' := 21) (t := 4) rfl (by decide) lv27 (v := (24 : Int32)) (by decide) dX10_init_20 rfl ?_
      refine v_icmp_ge C (tg := 43) (pc' := 24) dX10_init_21 (by decide) rfl (fun q28 => ?_) (fun q28 => ?_)
      · exact absurd q28 (by decide)
      · refine v_aload_n C (pc' := 25) dX10_init_24 rfl rfl rfl ?_
        obtain ⟨lv29, E⟩ := guardL_some E
        refine v_getR C (pc' := 28) fl_X10_11 rfl rfl (t2 := 4) rfl lv29 dX10_init_25 rfl ?_
        obtain ⟨hs30, E⟩ := guardS_some E
        refine V.st (st' := [aA 4 (some 0)]) (by rw [hs30]) ?_
        refine v_iload_n C (pc' := 29) dX10_init_28 rfl rfl rfl ?_
        obtain ⟨hu31, E⟩ := guardN_some E
        refine v_new C (pc' := 32) hu31 rfl nw_X10_9 ⟨Nat.le_of_ble_eq_true rfl, Nat.le_of_ble_eq_true rfl⟩ dX10_init_29 rfl ?_
        refine v_dup C (pc' := 33) dX10_init_32 rfl rfl ?_
        obtain ⟨y32, hy32, E⟩ := bind_some E
        refine v_callIN C (pc' := 36) (rest := [aA 5 (some 2), aI (2 : Int32), aA 4 (some 0)]) (c_node_init l 2 (sN (sR y21 (4, 0) (1 : Int32).toNatClampNeg (some 1))) _ hy32) C.2.2.2.2.2.1.2.2.2.2.2.2.2.2.1 mn_X8_init dX10_init_33 rfl rfl rfl ⟨Nat.le_of_ble_eq_true rfl, Nat.le_of_ble_eq_true rfl⟩ (Nat.le_of_ble_eq_true rfl) ⟨Nat.le_of_ble_eq_true rfl, Nat.le_of_ble_eq_true rfl⟩ ?_
        refine V.st (st' := [aA 5 (some 2), aI (2 : Int32), aA 4 (some 0)]) rfl ?_
        obtain ⟨lv34, E⟩ := guardL_some E
        obtain ⟨lv35, E⟩ := guardL_some E
        obtain ⟨g33, E⟩ := guardB_some E
        refine v_aastN C (pc' := 37) (t := 4) rfl lv35 lv34 g33 (fun z => by cases z) dX10_init_36 rfl ?_
        refine v_iinc1 C (pc' := 40) dX10_init_37 (v := (3 : Int32)) (by decide) (by decide) rfl rfl ?_
        refine v_goto C (pc' := 15) dX10_init_40 (by decide) ?_
        refine v_iload_n C (pc' := 16) dX10_init_15 rfl rfl rfl ?_
        refine v_aload_n C (pc' := 17) dX10_init_16 rfl rfl rfl ?_
        obtain ⟨lv36, E⟩ := guardL_some E
        refine v_getR C (pc' := 20) fl_X10_11 rfl rfl (t2 := 4) rfl lv36 dX10_init_17 rfl ?_
        obtain ⟨hs37, E⟩ := guardS_some E
        refine V.st (st' := [aA 4 (some 0), aI (3 : Int32)]) (by rw [hs37]) ?_
        obtain ⟨lv38, E⟩ := guardL_some E
        refine v_alen C (pc' := 21) (t := 4) rfl (by decide) lv38 (v := (24 : Int32)) (by decide) dX10_init_20 rfl ?_
        refine v_icmp_ge C (tg := 43) (pc' := 24) dX10_init_21 (by decide) rfl (fun q39 => ?_) (fun q39 => ?_)
        · exact absurd q39 (by decide)
        · refine v_aload_n C (pc' := 25) dX10_init_24 rfl rfl rfl ?_
          obtain ⟨lv40, E⟩ := guardL_some E
          refine v_getR C (pc' := 28) fl_X10_11 rfl rfl (t2 := 4) rfl lv40 dX10_init_25 rfl ?_
          obtain ⟨hs41, E⟩ := guardS_some E
          refine V.st (st' := [aA 4 (some 0)]) (by rw [hs41]) ?_
          refine v_iload_n C (pc' := 29) dX10_init_28 rfl rfl rfl ?_
          obtain ⟨hu42, E⟩ := guardN_some E
          refine v_new C (pc' := 32) hu42 rfl nw_X10_9 ⟨Nat.le_of_ble_eq_true rfl, Nat.le_of_ble_eq_true rfl⟩ dX10_init_29 rfl ?_
          refine v_dup C (pc' := 33) dX10_init_32 rfl rfl ?_
          obtain ⟨y43, hy43, E⟩ := bind_some E
          refine v_callIN C (pc' := 36) (rest := [aA 5 (some 3), aI (3 : Int32), aA 4 (some 0)]) (c_node_init l 3 (sN (sR y32 (4, 0) (2 : Int32).toNatClampNeg (some 2))) _ hy43) C.2.2.2.2.2.1.2.2.2.2.2.2.2.2.1 mn_X8_init dX10_init_33 rfl rfl rfl ⟨Nat.le_of_ble_eq_true rfl, Nat.le_of_ble_eq_true rfl⟩ (Nat.le_of_ble_eq_true rfl) ⟨Nat.le_of_ble_eq_true rfl, Nat.le_of_ble_eq_true rfl⟩ ?_
          refine V.st (st' := [aA 5 (some 3), aI (3 : Int32), aA 4 (some 0)]) rfl ?_
          obtain ⟨lv45, E⟩ := guardL_some E
          obtain ⟨lv46, E⟩ := guardL_some E
          obtain ⟨g44, E⟩ := guardB_some E
          refine v_aastN C (pc' := 37) (t := 4) rfl lv46 lv45 g44 (fun z => by cases z) dX10_init_36 rfl ?_
          refine v_iinc1 C (pc' := 40) dX10_init_37 (v := (4 : Int32)) (by decide) (by decide) rfl rfl ?_
          refine v_goto C (pc' := 15) dX10_init_40 (by decide) ?_
          refine v_iload_n C (pc' := 16) dX10_init_15 rfl rfl rfl ?_
          refine v_aload_n C (pc' := 17) dX10_init_16 rfl rfl rfl ?_
          obtain ⟨lv47, E⟩ := guardL_some E
          refine v_getR C (pc' := 20) fl_X10_11 rfl rfl (t2 := 4) rfl lv47 dX10_init_17 rfl ?_
          obtain ⟨hs48, E⟩ := guardS_some E
          refine V.st (st' := [aA 4 (some 0), aI (4 : Int32)]) (by rw [hs48]) ?_
          obtain ⟨lv49, E⟩ := guardL_some E
          refine v_alen C (pc' := 21) (t := 4) rfl (by decide) lv49 (v := (24 : Int32)) (by decide) dX10_init_20 rfl ?_
          refine v_icmp_ge C (tg := 43) (pc' := 24) dX10_init_21 (by decide) rfl (fun q50 => ?_) (fun q50 => ?_)
          · exact absurd q50 (by decide)
          · refine v_aload_n C (pc' := 25) dX10_init_24 rfl rfl rfl ?_
            obtain ⟨lv51, E⟩ := guardL_some E
            refine v_getR C (pc' := 28) fl_X10_11 rfl rfl (t2 := 4) rfl lv51 dX10_init_25 rfl ?_
            obtain ⟨hs52, E⟩ := guardS_some E
            refine V.st (st' := [aA 4 (some 0)]) (by rw [hs52]) ?_
            refine v_iload_n C (pc' := 29) dX10_init_28 rfl rfl rfl ?_
            obtain ⟨hu53, E⟩ := guardN_some E
            refine v_new C (pc' := 32) hu53 rfl nw_X10_9 ⟨Nat.le_of_ble_eq_true rfl, Nat.le_of_ble_eq_true rfl⟩ dX10_init_29 rfl ?_
            refine v_dup C (pc' := 33) dX10_init_32 rfl rfl ?_
            obtain ⟨y54, hy54, E⟩ := bind_some E
            refine v_callIN C (pc' := 36) (rest := [aA 5 (some 4), aI (4 : Int32), aA 4 (some 0)]) (c_node_init l 4 (sN (sR y43 (4, 0) (3 : Int32).toNatClampNeg (some 3))) _ hy54) C.2.2.2.2.2.1.2.2.2.2.2.2.2.2.1 mn_X8_init dX10_init_33 rfl rfl rfl ⟨Nat.le_of_ble_eq_true rfl, Nat.le_of_ble_eq_true rfl⟩ (Nat.le_of_ble_eq_true rfl) ⟨Nat.le_of_ble_eq_true rfl, Nat.le_of_ble_eq_true rfl⟩ ?_
            refine V.st (st' := [aA 5 (some 4), aI (4 : Int32), aA 4 (some 0)]) rfl ?_
            obtain ⟨lv56, E⟩ := guardL_some E
            obtain ⟨lv57, E⟩ := guardL_some E
            obtain ⟨g55, E⟩ := guardB_some E
            refine v_aastN C (pc' := 37) (t := 4) rfl lv57 lv56 g55 (fun z => by cases z) dX10_init_36 rfl ?_
            refine v_iinc1 C (pc' := 40) dX10_init_37 (v := (5 : Int32)) (by decide) (by decide) rfl rfl ?_
            refine v_goto C (pc' := 15) dX10_init_40 (by decide) ?_
            refine v_iload_n C (pc' := 16) dX10_init_15 rfl rfl rfl ?_
            refine v_aload_n C (pc' := 17) dX10_init_16 rfl rfl rfl ?_
            obtain ⟨lv58, E⟩ := guardL_some E
            refine v_getR C (pc' := 20) fl_X10_11 rfl rfl (t2 := 4) rfl lv58 dX10_init_17 rfl ?_
            obtain ⟨hs59, E⟩ := guardS_some E
            refine V.st (st' := [aA 4 (some 0), aI (5 : Int32)]) (by rw [hs59]) ?_
            obtain ⟨lv60, E⟩ := guardL_some E
            refine v_alen C (pc' := 21) (t := 4) rfl (by decide) lv60 (v := (24 : Int32)) (by decide) dX10_init_20 rfl ?_
            refine v_icmp_ge C (tg := 43) (pc' := 24) dX10_init_21 (by decide) rfl (fun q61 => ?_) (fun q61 => ?_)
            · exact absurd q61 (by decide)
            · refine v_aload_n C (pc' := 25) dX10_init_24 rfl rfl rfl ?_
              obtain ⟨lv62, E⟩ := guardL_some E
              refine v_getR C (pc' := 28) fl_X10_11 rfl rfl (t2 := 4) rfl lv62 dX10_init_25 rfl ?_
              obtain ⟨hs63, E⟩ := guardS_some E
              refine V.st (st' := [aA 4 (some 0)]) (by rw [hs63]) ?_
              refine v_iload_n C (pc' := 29) dX10_init_28 rfl rfl rfl ?_
              obtain ⟨hu64, E⟩ := guardN_some E
              refine v_new C (pc' := 32) hu64 rfl nw_X10_9 ⟨Nat.le_of_ble_eq_true rfl, Nat.le_of_ble_eq_true rfl⟩ dX10_init_29 rfl ?_
              refine v_dup C (pc' := 33) dX10_init_32 rfl rfl ?_
              obtain ⟨y65, hy65, E⟩ := bind_some E
              refine v_callIN C (pc' := 36) (rest := [aA 5 (some 5), aI (5 : Int32), aA 4 (some 0)]) (c_node_init l 5 (sN (sR y54 (4, 0) (4 : Int32).toNatClampNeg (some 4))) _ hy65) C.2.2.2.2.2.1.2.2.2.2.2.2.2.2.1 mn_X8_init dX10_init_33 rfl rfl rfl ⟨Nat.le_of_ble_eq_true rfl, Nat.le_of_ble_eq_true rfl⟩ (Nat.le_of_ble_eq_true rfl) ⟨Nat.le_of_ble_eq_true rfl, Nat.le_of_ble_eq_true rfl⟩ ?_
              refine V.st (st' := [aA 5 (some 5), aI (5 : Int32), aA 4 (some 0)]) rfl ?_
              obtain ⟨lv67, E⟩ := guardL_some E
              obtain ⟨lv68, E⟩ := guardL_some E
              obtain ⟨g66, E⟩ := guardB_some E
              refine v_aastN C (pc' := 37) (t := 4) rfl lv68 lv67 g66 (fun z => by cases z) dX10_init_36 rfl ?_
              refine v_iinc1 C (pc' := 40) dX10_init_37 (v := (6 : Int32)) (by decide) (by decide) rfl rfl ?_
              refine v_goto C (pc' := 15) dX10_init_40 (by decide) ?_
              refine v_iload_n C (pc' := 16) dX10_init_15 rfl rfl rfl ?_
              refine v_aload_n C (pc' := 17) dX10_init_16 rfl rfl rfl ?_
              obtain ⟨lv69, E⟩ := guardL_some E
              refine v_getR C (pc' := 20) fl_X10_11 rfl rfl (t2 := 4) rfl lv69 dX10_init_17 rfl ?_
              obtain ⟨hs70, E⟩ := guardS_some E
              refine V.st (st' := [aA 4 (some 0), aI (6 : Int32)]) (by rw [hs70]) ?_
              obtain ⟨lv71, E⟩ := guardL_some E
              refine v_alen C (pc' := 21) (t := 4) rfl (by decide) lv71 (v := (24 : Int32)) (by decide) dX10_init_20 rfl ?_
              refine v_icmp_ge C (tg := 43) (pc' := 24) dX10_init_21 (by decide) rfl (fun q72 => ?_) (fun q72 => ?_)
              · exact absurd q72 (by decide)
              · refine v_aload_n C (pc' := 25) dX10_init_24 rfl rfl rfl ?_
                obtain ⟨lv73, E⟩ := guardL_some E
                refine v_getR C (pc' := 28) fl_X10_11 rfl rfl (t2 := 4) rfl lv73 dX10_init_25 rfl ?_
                obtain ⟨hs74, E⟩ := guardS_some E
                refine V.st (st' := [aA 4 (some 0)]) (by rw [hs74]) ?_
                refine v_iload_n C (pc' := 29) dX10_init_28 rfl rfl rfl ?_
                obtain ⟨hu75, E⟩ := guardN_some E
                refine v_new C (pc' := 32) hu75 rfl nw_X10_9 ⟨Nat.le_of_ble_eq_true rfl, Nat.le_of_ble_eq_true rfl⟩ dX10_init_29 rfl ?_
                refine v_dup C (pc' := 33) dX10_init_32 rfl rfl ?_
                obtain ⟨y76, hy76, E⟩ := bind_some E
                refine v_callIN C (pc' := 36) (rest := [aA 5 (some 6), aI (6 : Int32), aA 4 (some 0)]) (c_node_init l 6 (sN (sR y65 (4, 0) (5 : Int32).toNatClampNeg (some 5))) _ hy76) C.2.2.2.2.2.1.2.2.2.2.2.2.2.2.1 mn_X8_init dX10_init_33 rfl rfl rfl ⟨Nat.le_of_ble_eq_true rfl, Nat.le_of_ble_eq_true rfl⟩ (Nat.le_of_ble_eq_true rfl) ⟨Nat.le_of_ble_eq_true rfl, Nat.le_of_ble_eq_true rfl⟩ ?_
                refine V.st (st' := [aA 5 (some 6), aI (6 : Int32), aA 4 (some 0)]) rfl ?_
                obtain ⟨lv78, E⟩ := guardL_some E
                obtain ⟨lv79, E⟩ := guardL_some E
                obtain ⟨g77, E⟩ := guardB_some E
                refine v_aastN C (pc' := 37) (t := 4) rfl lv79 lv78 g77 (fun z => by cases z) dX10_init_36 rfl ?_
                refine v_iinc1 C (pc' := 40) dX10_init_37 (v := (7 : Int32)) (by decide) (by decide) rfl rfl ?_
                refine v_goto C (pc' := 15) dX10_init_40 (by decide) ?_
                refine v_iload_n C (pc' := 16) dX10_init_15 rfl rfl rfl ?_
                refine v_aload_n C (pc' := 17) dX10_init_16 rfl rfl rfl ?_
                obtain ⟨lv80, E⟩ := guardL_some E
                refine v_getR C (pc' := 20) fl_X10_11 rfl rfl (t2 := 4) rfl lv80 dX10_init_17 rfl ?_
                obtain ⟨hs81, E⟩ := guardS_some E
                refine V.st (st' := [aA 4 (some 0), aI (7 : Int32)]) (by rw [hs81]) ?_
                obtain ⟨lv82, E⟩ := guardL_some E
                refine v_alen C (pc' := 21) (t := 4) rfl (by decide) lv82 (v := (24 : Int32)) (by decide) dX10_init_20 rfl ?_
                refine v_icmp_ge C (tg := 43) (pc' := 24) dX10_init_21 (by decide) rfl (fun q83 => ?_) (fun q83 => ?_)
                · exact absurd q83 (by decide)
                · refine v_aload_n C (pc' := 25) dX10_init_24 rfl rfl rfl ?_
                  obtain ⟨lv84, E⟩ := guardL_some E
                  refine v_getR C (pc' := 28) fl_X10_11 rfl rfl (t2 := 4) rfl lv84 dX10_init_25 rfl ?_
                  obtain ⟨hs85, E⟩ := guardS_some E
                  refine V.st (st' := [aA 4 (some 0)]) (by rw [hs85]) ?_
                  refine v_iload_n C (pc' := 29) dX10_init_28 rfl rfl rfl ?_
                  obtain ⟨hu86, E⟩ := guardN_some E
                  refine v_new C (pc' := 32) hu86 rfl nw_X10_9 ⟨Nat.le_of_ble_eq_true rfl, Nat.le_of_ble_eq_true rfl⟩ dX10_init_29 rfl ?_
                  refine v_dup C (pc' := 33) dX10_init_32 rfl rfl ?_
                  obtain ⟨y87, hy87, E⟩ := bind_some E
                  refine v_callIN C (pc' := 36) (rest := [aA 5 (some 7), aI (7 : Int32), aA 4 (some 0)]) (c_node_init l 7 (sN (sR y76 (4, 0) (6 : Int32).toNatClampNeg (some 6))) _ hy87) C.2.2.2.2.2.1.2.2.2.2.2.2.2.2.1 mn_X8_init dX10_init_33 rfl rfl rfl ⟨Nat.le_of_ble_eq_true rfl, Nat.le_of_ble_eq_true rfl⟩ (Nat.le_of_ble_eq_true rfl) ⟨Nat.le_of_ble_eq_true rfl, Nat.le_of_ble_eq_true rfl⟩ ?_
                  refine V.st (st' := [aA 5 (some 7), aI (7 : Int32), aA 4 (some 0)]) rfl ?_
                  obtain ⟨lv89, E⟩ := guardL_some E
                  obtain ⟨lv90, E⟩ := guardL_some E
                  obtain ⟨g88, E⟩ := guardB_some E
                  refine v_aastN C (pc' := 37) (t := 4) rfl lv90 lv89 g88 (fun z => by cases z) dX10_init_36 rfl ?_
                  refine v_iinc1 C (pc' := 40) dX10_init_37 (v := (8 : Int32)) (by decide) (by decide) rfl rfl ?_
                  refine v_goto C (pc' := 15) dX10_init_40 (by decide) ?_
                  refine v_iload_n C (pc' := 16) dX10_init_15 rfl rfl rfl ?_
                  refine v_aload_n C (pc' := 17) dX10_init_16 rfl rfl rfl ?_
                  obtain ⟨lv91, E⟩ := guardL_some E
                  refine v_getR C (pc' := 20) fl_X10_11 rfl rfl (t2 := 4) rfl lv91 dX10_init_17 rfl ?_
                  obtain ⟨hs92, E⟩ := guardS_some E
                  refine V.st (st' := [aA 4 (some 0), aI (8 : Int32)]) (by rw [hs92]) ?_
                  obtain ⟨lv93, E⟩ := guardL_some E
                  refine v_alen C (pc' := 21) (t := 4) rfl (by decide) lv93 (v := (24 : Int32)) (by decide) dX10_init_20 rfl ?_
                  refine v_icmp_ge C (tg := 43) (pc' := 24) dX10_init_21 (by decide) rfl (fun q94 => ?_) (fun q94 => ?_)
                  · exact absurd q94 (by decide)
                  · refine v_aload_n C (pc' := 25) dX10_init_24 rfl rfl rfl ?_
                    obtain ⟨lv95, E⟩ := guardL_some E
                    refine v_getR C (pc' := 28) fl_X10_11 rfl rfl (t2 := 4) rfl lv95 dX10_init_25 rfl ?_
                    obtain ⟨hs96, E⟩ := guardS_some E
                    refine V.st (st' := [aA 4 (some 0)]) (by rw [hs96]) ?_
                    refine v_iload_n C (pc' := 29) dX10_init_28 rfl rfl rfl ?_
                    obtain ⟨hu97, E⟩ := guardN_some E
                    refine v_new C (pc' := 32) hu97 rfl nw_X10_9 ⟨Nat.le_of_ble_eq_true rfl, Nat.le_of_ble_eq_true rfl⟩ dX10_init_29 rfl ?_
                    refine v_dup C (pc' := 33) dX10_init_32 rfl rfl ?_
                    obtain ⟨y98, hy98, E⟩ := bind_some E
                    refine v_callIN C (pc' := 36) (rest := [aA 5 (some 8), aI (8 : Int32), aA 4 (some 0)]) (c_node_init l 8 (sN (sR y87 (4, 0) (7 : Int32).toNatClampNeg (some 7))) _ hy98) C.2.2.2.2.2.1.2.2.2.2.2.2.2.2.1 mn_X8_init dX10_init_33 rfl rfl rfl ⟨Nat.le_of_ble_eq_true rfl, Nat.le_of_ble_eq_true rfl⟩ (Nat.le_of_ble_eq_true rfl) ⟨Nat.le_of_ble_eq_true rfl, Nat.le_of_ble_eq_true rfl⟩ ?_
                    refine V.st (st' := [aA 5 (some 8), aI (8 : Int32), aA 4 (some 0)]) rfl ?_
                    obtain ⟨lv100, E⟩ := guardL_some E
                    obtain ⟨lv101, E⟩ := guardL_some E
                    obtain ⟨g99, E⟩ := guardB_some E
                    refine v_aastN C (pc' := 37) (t := 4) rfl lv101 lv100 g99 (fun z => by cases z) dX10_init_36 rfl ?_
                    refine v_iinc1 C (pc' := 40) dX10_init_37 (v := (9 : Int32)) (by decide) (by decide) rfl rfl ?_
                    refine v_goto C (pc' := 15) dX10_init_40 (by decide) ?_
                    refine v_iload_n C (pc' := 16) dX10_init_15 rfl rfl rfl ?_
                    refine v_aload_n C (pc' := 17) dX10_init_16 rfl rfl rfl ?_
                    obtain ⟨lv102, E⟩ := guardL_some E
                    refine v_getR C (pc' := 20) fl_X10_11 rfl rfl (t2 := 4) rfl lv102 dX10_init_17 rfl ?_
                    obtain ⟨hs103, E⟩ := guardS_some E
                    refine V.st (st' := [aA 4 (some 0), aI (9 : Int32)]) (by rw [hs103]) ?_
                    obtain ⟨lv104, E⟩ := guardL_some E
                    refine v_alen C (pc' := 21) (t := 4) rfl (by decide) lv104 (v := (24 : Int32)) (by decide) dX10_init_20 rfl ?_
                    refine v_icmp_ge C (tg := 43) (pc' := 24) dX10_init_21 (by decide) rfl (fun q105 => ?_) (fun q105 => ?_)
                    · exact absurd q105 (by decide)
                    · refine v_aload_n C (pc' := 25) dX10_init_24 rfl rfl rfl ?_
                      obtain ⟨lv106, E⟩ := guardL_some E
                      refine v_getR C (pc' := 28) fl_X10_11 rfl rfl (t2 := 4) rfl lv106 dX10_init_25 rfl ?_
                      obtain ⟨hs107, E⟩ := guardS_some E
                      refine V.st (st' := [aA 4 (some 0)]) (by rw [hs107]) ?_
                      refine v_iload_n C (pc' := 29) dX10_init_28 rfl rfl rfl ?_
                      obtain ⟨hu108, E⟩ := guardN_some E
                      refine v_new C (pc' := 32) hu108 rfl nw_X10_9 ⟨Nat.le_of_ble_eq_true rfl, Nat.le_of_ble_eq_true rfl⟩ dX10_init_29 rfl ?_
                      refine v_dup C (pc' := 33) dX10_init_32 rfl rfl ?_
                      obtain ⟨y109, hy109, E⟩ := bind_some E
                      refine v_callIN C (pc' := 36) (rest := [aA 5 (some 9), aI (9 : Int32), aA 4 (some 0)]) (c_node_init l 9 (sN (sR y98 (4, 0) (8 : Int32).toNatClampNeg (some 8))) _ hy109) C.2.2.2.2.2.1.2.2.2.2.2.2.2.2.1 mn_X8_init dX10_init_33 rfl rfl rfl ⟨Nat.le_of_ble_eq_true rfl, Nat.le_of_ble_eq_true rfl⟩ (Nat.le_of_ble_eq_true rfl) ⟨Nat.le_of_ble_eq_true rfl, Nat.le_of_ble_eq_true rfl⟩ ?_
                      refine V.st (st' := [aA 5 (some 9), aI (9 : Int32), aA 4 (some 0)]) rfl ?_
                      obtain ⟨lv111, E⟩ := guardL_some E
                      obtain ⟨lv112, E⟩ := guardL_some E
                      obtain ⟨g110, E⟩ := guardB_some E
                      refine v_aastN C (pc' := 37) (t := 4) rfl lv112 lv111 g110 (fun z => by cases z) dX10_init_36 rfl ?_
                      refine v_iinc1 C (pc' := 40) dX10_init_37 (v := (10 : Int32)) (by decide) (by decide) rfl rfl ?_
                      refine v_goto C (pc' := 15) dX10_init_40 (by decide) ?_
                      refine v_iload_n C (pc' := 16) dX10_init_15 rfl rfl rfl ?_
                      refine v_aload_n C (pc' := 17) dX10_init_16 rfl rfl rfl ?_
                      obtain ⟨lv113, E⟩ := guardL_some E
                      refine v_getR C (pc' := 20) fl_X10_11 rfl rfl (t2 := 4) rfl lv113 dX10_init_17 rfl ?_
                      obtain ⟨hs114, E⟩ := guardS_some E
                      refine V.st (st' := [aA 4 (some 0), aI (10 : Int32)]) (by rw [hs114]) ?_
                      obtain ⟨lv115, E⟩ := guardL_some E
                      refine v_alen C (pc' := 21) (t := 4) rfl (by decide) lv115 (v := (24 : Int32)) (by decide) dX10_init_20 rfl ?_
                      refine v_icmp_ge C (tg := 43) (pc' := 24) dX10_init_21 (by decide) rfl (fun q116 => ?_) (fun q116 => ?_)
                      · exact absurd q116 (by decide)
                      · refine v_aload_n C (pc' := 25) dX10_init_24 rfl rfl rfl ?_
                        obtain ⟨lv117, E⟩ := guardL_some E
                        refine v_getR C (pc' := 28) fl_X10_11 rfl rfl (t2 := 4) rfl lv117 dX10_init_25 rfl ?_
                        obtain ⟨hs118, E⟩ := guardS_some E
                        refine V.st (st' := [aA 4 (some 0)]) (by rw [hs118]) ?_
                        refine v_iload_n C (pc' := 29) dX10_init_28 rfl rfl rfl ?_
                        obtain ⟨hu119, E⟩ := guardN_some E
                        refine v_new C (pc' := 32) hu119 rfl nw_X10_9 ⟨Nat.le_of_ble_eq_true rfl, Nat.le_of_ble_eq_true rfl⟩ dX10_init_29 rfl ?_
                        refine v_dup C (pc' := 33) dX10_init_32 rfl rfl ?_
                        obtain ⟨y120, hy120, E⟩ := bind_some E
                        refine v_callIN C (pc' := 36) (rest := [aA 5 (some 10), aI (10 : Int32), aA 4 (some 0)]) (c_node_init l 10 (sN (sR y109 (4, 0) (9 : Int32).toNatClampNeg (some 9))) _ hy120) C.2.2.2.2.2.1.2.2.2.2.2.2.2.2.1 mn_X8_init dX10_init_33 rfl rfl rfl ⟨Nat.le_of_ble_eq_true rfl, Nat.le_of_ble_eq_true rfl⟩ (Nat.le_of_ble_eq_true rfl) ⟨Nat.le_of_ble_eq_true rfl, Nat.le_of_ble_eq_true rfl⟩ ?_
                        refine V.st (st' := [aA 5 (some 10), aI (10 : Int32), aA 4 (some 0)]) rfl ?_
                        obtain ⟨lv122, E⟩ := guardL_some E
                        obtain ⟨lv123, E⟩ := guardL_some E
                        obtain ⟨g121, E⟩ := guardB_some E
                        refine v_aastN C (pc' := 37) (t := 4) rfl lv123 lv122 g121 (fun z => by cases z) dX10_init_36 rfl ?_
                        refine v_iinc1 C (pc' := 40) dX10_init_37 (v := (11 : Int32)) (by decide) (by decide) rfl rfl ?_
                        refine v_goto C (pc' := 15) dX10_init_40 (by decide) ?_
                        refine v_iload_n C (pc' := 16) dX10_init_15 rfl rfl rfl ?_
                        refine v_aload_n C (pc' := 17) dX10_init_16 rfl rfl rfl ?_
                        obtain ⟨lv124, E⟩ := guardL_some E
                        refine v_getR C (pc' := 20) fl_X10_11 rfl rfl (t2 := 4) rfl lv124 dX10_init_17 rfl ?_
                        obtain ⟨hs125, E⟩ := guardS_some E
                        refine V.st (st' := [aA 4 (some 0), aI (11 : Int32)]) (by rw [hs125]) ?_
                        obtain ⟨lv126, E⟩ := guardL_some E
                        refine v_alen C (pc' := 21) (t := 4) rfl (by decide) lv126 (v := (24 : Int32)) (by decide) dX10_init_20 rfl ?_
                        refine v_icmp_ge C (tg := 43) (pc' := 24) dX10_init_21 (by decide) rfl (fun q127 => ?_) (fun q127 => ?_)
                        · exact absurd q127 (by decide)
                        · refine v_aload_n C (pc' := 25) dX10_init_24 rfl rfl rfl ?_
                          obtain ⟨lv128, E⟩ := guardL_some E
                          refine v_getR C (pc' := 28) fl_X10_11 rfl rfl (t2 := 4) rfl lv128 dX10_init_25 rfl ?_
                          obtain ⟨hs129, E⟩ := guardS_some E
                          refine V.st (st' := [aA 4 (some 0)]) (by rw [hs129]) ?_
                          refine v_iload_n C (pc' := 29) dX10_init_28 rfl rfl rfl ?_
                          obtain ⟨hu130, E⟩ := guardN_some E
                          refine v_new C (pc' := 32) hu130 rfl nw_X10_9 ⟨Nat.le_of_ble_eq_true rfl, Nat.le_of_ble_eq_true rfl⟩ dX10_init_29 rfl ?_
                          refine v_dup C (pc' := 33) dX10_init_32 rfl rfl ?_
                          obtain ⟨y131, hy131, E⟩ := bind_some E
                          refine v_callIN C (pc' := 36) (rest := [aA 5 (some 11), aI (11 : Int32), aA 4 (some 0)]) (c_node_init l 11 (sN (sR y120 (4, 0) (10 : Int32).toNatClampNeg (some 10))) _ hy131) C.2.2.2.2.2.1.2.2.2.2.2.2.2.2.1 mn_X8_init dX10_init_33 rfl rfl rfl ⟨Nat.le_of_ble_eq_true rfl, Nat.le_of_ble_eq_true rfl⟩ (Nat.le_of_ble_eq_true rfl) ⟨Nat.le_of_ble_eq_true rfl, Nat.le_of_ble_eq_true rfl⟩ ?_
                          refine V.st (st' := [aA 5 (some 11), aI (11 : Int32), aA 4 (some 0)]) rfl ?_
                          obtain ⟨lv133, E⟩ := guardL_some E
                          obtain ⟨lv134, E⟩ := guardL_some E
                          obtain ⟨g132, E⟩ := guardB_some E
                          refine v_aastN C (pc' := 37) (t := 4) rfl lv134 lv133 g132 (fun z => by cases z) dX10_init_36 rfl ?_
                          refine v_iinc1 C (pc' := 40) dX10_init_37 (v := (12 : Int32)) (by decide) (by decide) rfl rfl ?_
                          refine v_goto C (pc' := 15) dX10_init_40 (by decide) ?_
                          refine v_iload_n C (pc' := 16) dX10_init_15 rfl rfl rfl ?_
                          refine v_aload_n C (pc' := 17) dX10_init_16 rfl rfl rfl ?_
                          obtain ⟨lv135, E⟩ := guardL_some E
                          refine v_getR C (pc' := 20) fl_X10_11 rfl rfl (t2 := 4) rfl lv135 dX10_init_17 rfl ?_
                          obtain ⟨hs136, E⟩ := guardS_some E
                          refine V.st (st' := [aA 4 (some 0), aI (12 : Int32)]) (by rw [hs136]) ?_
                          obtain ⟨lv137, E⟩ := guardL_some E
                          refine v_alen C (pc' := 21) (t := 4) rfl (by decide) lv137 (v := (24 : Int32)) (by decide) dX10_init_20 rfl ?_
                          refine v_icmp_ge C (tg := 43) (pc' := 24) dX10_init_21 (by decide) rfl (fun q138 => ?_) (fun q138 => ?_)
                          · exact absurd q138 (by decide)
                          · refine v_aload_n C (pc' := 25) dX10_init_24 rfl rfl rfl ?_
                            obtain ⟨lv139, E⟩ := guardL_some E
                            refine v_getR C (pc' := 28) fl_X10_11 rfl rfl (t2 := 4) rfl lv139 dX10_init_25 rfl ?_
                            obtain ⟨hs140, E⟩ := guardS_some E
                            refine V.st (st' := [aA 4 (some 0)]) (by rw [hs140]) ?_
                            refine v_iload_n C (pc' := 29) dX10_init_28 rfl rfl rfl ?_
                            obtain ⟨hu141, E⟩ := guardN_some E
                            refine v_new C (pc' := 32) hu141 rfl nw_X10_9 ⟨Nat.le_of_ble_eq_true rfl, Nat.le_of_ble_eq_true rfl⟩ dX10_init_29 rfl ?_
                            refine v_dup C (pc' := 33) dX10_init_32 rfl rfl ?_
                            obtain ⟨y142, hy142, E⟩ := bind_some E
                            refine v_callIN C (pc' := 36) (rest := [aA 5 (some 12), aI (12 : Int32), aA 4 (some 0)]) (c_node_init l 12 (sN (sR y131 (4, 0) (11 : Int32).toNatClampNeg (some 11))) _ hy142) C.2.2.2.2.2.1.2.2.2.2.2.2.2.2.1 mn_X8_init dX10_init_33 rfl rfl rfl ⟨Nat.le_of_ble_eq_true rfl, Nat.le_of_ble_eq_true rfl⟩ (Nat.le_of_ble_eq_true rfl) ⟨Nat.le_of_ble_eq_true rfl, Nat.le_of_ble_eq_true rfl⟩ ?_
                            refine V.st (st' := [aA 5 (some 12), aI (12 : Int32), aA 4 (some 0)]) rfl ?_
                            obtain ⟨lv144, E⟩ := guardL_some E
                            obtain ⟨lv145, E⟩ := guardL_some E
                            obtain ⟨g143, E⟩ := guardB_some E
                            refine v_aastN C (pc' := 37) (t := 4) rfl lv145 lv144 g143 (fun z => by cases z) dX10_init_36 rfl ?_
                            refine v_iinc1 C (pc' := 40) dX10_init_37 (v := (13 : Int32)) (by decide) (by decide) rfl rfl ?_
                            refine v_goto C (pc' := 15) dX10_init_40 (by decide) ?_
                            refine v_iload_n C (pc' := 16) dX10_init_15 rfl rfl rfl ?_
                            refine v_aload_n C (pc' := 17) dX10_init_16 rfl rfl rfl ?_
                            obtain ⟨lv146, E⟩ := guardL_some E
                            refine v_getR C (pc' := 20) fl_X10_11 rfl rfl (t2 := 4) rfl lv146 dX10_init_17 rfl ?_
                            obtain ⟨hs147, E⟩ := guardS_some E
                            refine V.st (st' := [aA 4 (some 0), aI (13 : Int32)]) (by rw [hs147]) ?_
                            obtain ⟨lv148, E⟩ := guardL_some E
                            refine v_alen C (pc' := 21) (t := 4) rfl (by decide) lv148 (v := (24 : Int32)) (by decide) dX10_init_20 rfl ?_
                            refine v_icmp_ge C (tg := 43) (pc' := 24) dX10_init_21 (by decide) rfl (fun q149 => ?_) (fun q149 => ?_)
                            · exact absurd q149 (by decide)
                            · refine v_aload_n C (pc' := 25) dX10_init_24 rfl rfl rfl ?_
                              obtain ⟨lv150, E⟩ := guardL_some E
                              refine v_getR C (pc' := 28) fl_X10_11 rfl rfl (t2 := 4) rfl lv150 dX10_init_25 rfl ?_
                              obtain ⟨hs151, E⟩ := guardS_some E
                              refine V.st (st' := [aA 4 (some 0)]) (by rw [hs151]) ?_
                              refine v_iload_n C (pc' := 29) dX10_init_28 rfl rfl rfl ?_
                              obtain ⟨hu152, E⟩ := guardN_some E
                              refine v_new C (pc' := 32) hu152 rfl nw_X10_9 ⟨Nat.le_of_ble_eq_true rfl, Nat.le_of_ble_eq_true rfl⟩ dX10_init_29 rfl ?_
                              refine v_dup C (pc' := 33) dX10_init_32 rfl rfl ?_
                              obtain ⟨y153, hy153, E⟩ := bind_some E
                              refine v_callIN C (pc' := 36) (rest := [aA 5 (some 13), aI (13 : Int32), aA 4 (some 0)]) (c_node_init l 13 (sN (sR y142 (4, 0) (12 : Int32).toNatClampNeg (some 12))) _ hy153) C.2.2.2.2.2.1.2.2.2.2.2.2.2.2.1 mn_X8_init dX10_init_33 rfl rfl rfl ⟨Nat.le_of_ble_eq_true rfl, Nat.le_of_ble_eq_true rfl⟩ (Nat.le_of_ble_eq_true rfl) ⟨Nat.le_of_ble_eq_true rfl, Nat.le_of_ble_eq_true rfl⟩ ?_
                              refine V.st (st' := [aA 5 (some 13), aI (13 : Int32), aA 4 (some 0)]) rfl ?_
                              obtain ⟨lv155, E⟩ := guardL_some E
                              obtain ⟨lv156, E⟩ := guardL_some E
                              obtain ⟨g154, E⟩ := guardB_some E
                              refine v_aastN C (pc' := 37) (t := 4) rfl lv156 lv155 g154 (fun z => by cases z) dX10_init_36 rfl ?_
                              refine v_iinc1 C (pc' := 40) dX10_init_37 (v := (14 : Int32)) (by decide) (by decide) rfl rfl ?_
                              refine v_goto C (pc' := 15) dX10_init_40 (by decide) ?_
                              refine v_iload_n C (pc' := 16) dX10_init_15 rfl rfl rfl ?_
                              refine v_aload_n C (pc' := 17) dX10_init_16 rfl rfl rfl ?_
                              obtain ⟨lv157, E⟩ := guardL_some E
                              refine v_getR C (pc' := 20) fl_X10_11 rfl rfl (t2 := 4) rfl lv157 dX10_init_17 rfl ?_
                              obtain ⟨hs158, E⟩ := guardS_some E
                              refine V.st (st' := [aA 4 (some 0), aI (14 : Int32)]) (by rw [hs158]) ?_
                              obtain ⟨lv159, E⟩ := guardL_some E
                              refine v_alen C (pc' := 21) (t := 4) rfl (by decide) lv159 (v := (24 : Int32)) (by decide) dX10_init_20 rfl ?_
                              refine v_icmp_ge C (tg := 43) (pc' := 24) dX10_init_21 (by decide) rfl (fun q160 => ?_) (fun q160 => ?_)
                              · exact absurd q160 (by decide)
                              · refine v_aload_n C (pc' := 25) dX10_init_24 rfl rfl rfl ?_
                                obtain ⟨lv161, E⟩ := guardL_some E
                                refine v_getR C (pc' := 28) fl_X10_11 rfl rfl (t2 := 4) rfl lv161 dX10_init_25 rfl ?_
                                obtain ⟨hs162, E⟩ := guardS_some E
                                refine V.st (st' := [aA 4 (some 0)]) (by rw [hs162]) ?_
                                refine v_iload_n C (pc' := 29) dX10_init_28 rfl rfl rfl ?_
                                obtain ⟨hu163, E⟩ := guardN_some E
                                refine v_new C (pc' := 32) hu163 rfl nw_X10_9 ⟨Nat.le_of_ble_eq_true rfl, Nat.le_of_ble_eq_true rfl⟩ dX10_init_29 rfl ?_
                                refine v_dup C (pc' := 33) dX10_init_32 rfl rfl ?_
                                obtain ⟨y164, hy164, E⟩ := bind_some E
                                refine v_callIN C (pc' := 36) (rest := [aA 5 (some 14), aI (14 : Int32), aA 4 (some 0)]) (c_node_init l 14 (sN (sR y153 (4, 0) (13 : Int32).toNatClampNeg (some 13))) _ hy164) C.2.2.2.2.2.1.2.2.2.2.2.2.2.2.1 mn_X8_init dX10_init_33 rfl rfl rfl ⟨Nat.le_of_ble_eq_true rfl, Nat.le_of_ble_eq_true rfl⟩ (Nat.le_of_ble_eq_true rfl) ⟨Nat.le_of_ble_eq_true rfl, Nat.le_of_ble_eq_true rfl⟩ ?_
                                refine V.st (st' := [aA 5 (some 14), aI (14 : Int32), aA 4 (some 0)]) rfl ?_
                                obtain ⟨lv166, E⟩ := guardL_some E
                                obtain ⟨lv167, E⟩ := guardL_some E
                                obtain ⟨g165, E⟩ := guardB_some E
                                refine v_aastN C (pc' := 37) (t := 4) rfl lv167 lv166 g165 (fun z => by cases z) dX10_init_36 rfl ?_
                                refine v_iinc1 C (pc' := 40) dX10_init_37 (v := (15 : Int32)) (by decide) (by decide) rfl rfl ?_
                                refine v_goto C (pc' := 15) dX10_init_40 (by decide) ?_
                                refine v_iload_n C (pc' := 16) dX10_init_15 rfl rfl rfl ?_
                                refine v_aload_n C (pc' := 17) dX10_init_16 rfl rfl rfl ?_
                                obtain ⟨lv168, E⟩ := guardL_some E
                                refine v_getR C (pc' := 20) fl_X10_11 rfl rfl (t2 := 4) rfl lv168 dX10_init_17 rfl ?_
                                obtain ⟨hs169, E⟩ := guardS_some E
                                refine V.st (st' := [aA 4 (some 0), aI (15 : Int32)]) (by rw [hs169]) ?_
                                obtain ⟨lv170, E⟩ := guardL_some E
                                refine v_alen C (pc' := 21) (t := 4) rfl (by decide) lv170 (v := (24 : Int32)) (by decide) dX10_init_20 rfl ?_
                                refine v_icmp_ge C (tg := 43) (pc' := 24) dX10_init_21 (by decide) rfl (fun q171 => ?_) (fun q171 => ?_)
                                · exact absurd q171 (by decide)
                                · refine v_aload_n C (pc' := 25) dX10_init_24 rfl rfl rfl ?_
                                  obtain ⟨lv172, E⟩ := guardL_some E
                                  refine v_getR C (pc' := 28) fl_X10_11 rfl rfl (t2 := 4) rfl lv172 dX10_init_25 rfl ?_
                                  obtain ⟨hs173, E⟩ := guardS_some E
                                  refine V.st (st' := [aA 4 (some 0)]) (by rw [hs173]) ?_
                                  refine v_iload_n C (pc' := 29) dX10_init_28 rfl rfl rfl ?_
                                  obtain ⟨hu174, E⟩ := guardN_some E
                                  refine v_new C (pc' := 32) hu174 rfl nw_X10_9 ⟨Nat.le_of_ble_eq_true rfl, Nat.le_of_ble_eq_true rfl⟩ dX10_init_29 rfl ?_
                                  refine v_dup C (pc' := 33) dX10_init_32 rfl rfl ?_
                                  obtain ⟨y175, hy175, E⟩ := bind_some E
                                  refine v_callIN C (pc' := 36) (rest := [aA 5 (some 15), aI (15 : Int32), aA 4 (some 0)]) (c_node_init l 15 (sN (sR y164 (4, 0) (14 : Int32).toNatClampNeg (some 14))) _ hy175) C.2.2.2.2.2.1.2.2.2.2.2.2.2.2.1 mn_X8_init dX10_init_33 rfl rfl rfl ⟨Nat.le_of_ble_eq_true rfl, Nat.le_of_ble_eq_true rfl⟩ (Nat.le_of_ble_eq_true rfl) ⟨Nat.le_of_ble_eq_true rfl, Nat.le_of_ble_eq_true rfl⟩ ?_
                                  refine V.st (st' := [aA 5 (some 15), aI (15 : Int32), aA 4 (some 0)]) rfl ?_
                                  obtain ⟨lv177, E⟩ := guardL_some E
                                  obtain ⟨lv178, E⟩ := guardL_some E
                                  obtain ⟨g176, E⟩ := guardB_some E
                                  refine v_aastN C (pc' := 37) (t := 4) rfl lv178 lv177 g176 (fun z => by cases z) dX10_init_36 rfl ?_
                                  refine v_iinc1 C (pc' := 40) dX10_init_37 (v := (16 : Int32)) (by decide) (by decide) rfl rfl ?_
                                  refine v_goto C (pc' := 15) dX10_init_40 (by decide) ?_
                                  refine v_iload_n C (pc' := 16) dX10_init_15 rfl rfl rfl ?_
                                  refine v_aload_n C (pc' := 17) dX10_init_16 rfl rfl rfl ?_
                                  obtain ⟨lv179, E⟩ := guardL_some E
                                  refine v_getR C (pc' := 20) fl_X10_11 rfl rfl (t2 := 4) rfl lv179 dX10_init_17 rfl ?_
                                  obtain ⟨hs180, E⟩ := guardS_some E
                                  refine V.st (st' := [aA 4 (some 0), aI (16 : Int32)]) (by rw [hs180]) ?_
                                  obtain ⟨lv181, E⟩ := guardL_some E
                                  refine v_alen C (pc' := 21) (t := 4) rfl (by decide) lv181 (v := (24 : Int32)) (by decide) dX10_init_20 rfl ?_
                                  refine v_icmp_ge C (tg := 43) (pc' := 24) dX10_init_21 (by decide) rfl (fun q182 => ?_) (fun q182 => ?_)
                                  · exact absurd q182 (by decide)
                                  · refine v_aload_n C (pc' := 25) dX10_init_24 rfl rfl rfl ?_
                                    obtain ⟨lv183, E⟩ := guardL_some E
                                    refine v_getR C (pc' := 28) fl_X10_11 rfl rfl (t2 := 4) rfl lv183 dX10_init_25 rfl ?_
                                    obtain ⟨hs184, E⟩ := guardS_some E
                                    refine V.st (st' := [aA 4 (some 0)]) (by rw [hs184]) ?_
                                    refine v_iload_n C (pc' := 29) dX10_init_28 rfl rfl rfl ?_
                                    obtain ⟨hu185, E⟩ := guardN_some E
                                    refine v_new C (pc' := 32) hu185 rfl nw_X10_9 ⟨Nat.le_of_ble_eq_true rfl, Nat.le_of_ble_eq_true rfl⟩ dX10_init_29 rfl ?_
                                    refine v_dup C (pc' := 33) dX10_init_32 rfl rfl ?_
                                    obtain ⟨y186, hy186, E⟩ := bind_some E
                                    refine v_callIN C (pc' := 36) (rest := [aA 5 (some 16), aI (16 : Int32), aA 4 (some 0)]) (c_node_init l 16 (sN (sR y175 (4, 0) (15 : Int32).toNatClampNeg (some 15))) _ hy186) C.2.2.2.2.2.1.2.2.2.2.2.2.2.2.1 mn_X8_init dX10_init_33 rfl rfl rfl ⟨Nat.le_of_ble_eq_true rfl, Nat.le_of_ble_eq_true rfl⟩ (Nat.le_of_ble_eq_true rfl) ⟨Nat.le_of_ble_eq_true rfl, Nat.le_of_ble_eq_true rfl⟩ ?_
                                    refine V.st (st' := [aA 5 (some 16), aI (16 : Int32), aA 4 (some 0)]) rfl ?_
                                    obtain ⟨lv188, E⟩ := guardL_some E
                                    obtain ⟨lv189, E⟩ := guardL_some E
                                    obtain ⟨g187, E⟩ := guardB_some E
                                    refine v_aastN C (pc' := 37) (t := 4) rfl lv189 lv188 g187 (fun z => by cases z) dX10_init_36 rfl ?_
                                    refine v_iinc1 C (pc' := 40) dX10_init_37 (v := (17 : Int32)) (by decide) (by decide) rfl rfl ?_
                                    refine v_goto C (pc' := 15) dX10_init_40 (by decide) ?_
                                    refine v_iload_n C (pc' := 16) dX10_init_15 rfl rfl rfl ?_
                                    refine v_aload_n C (pc' := 17) dX10_init_16 rfl rfl rfl ?_
                                    obtain ⟨lv190, E⟩ := guardL_some E
                                    refine v_getR C (pc' := 20) fl_X10_11 rfl rfl (t2 := 4) rfl lv190 dX10_init_17 rfl ?_
                                    obtain ⟨hs191, E⟩ := guardS_some E
                                    refine V.st (st' := [aA 4 (some 0), aI (17 : Int32)]) (by rw [hs191]) ?_
                                    obtain ⟨lv192, E⟩ := guardL_some E
                                    refine v_alen C (pc' := 21) (t := 4) rfl (by decide) lv192 (v := (24 : Int32)) (by decide) dX10_init_20 rfl ?_
                                    refine v_icmp_ge C (tg := 43) (pc' := 24) dX10_init_21 (by decide) rfl (fun q193 => ?_) (fun q193 => ?_)
                                    · exact absurd q193 (by decide)
                                    · refine v_aload_n C (pc' := 25) dX10_init_24 rfl rfl rfl ?_
                                      obtain ⟨lv194, E⟩ := guardL_some E
                                      refine v_getR C (pc' := 28) fl_X10_11 rfl rfl (t2 := 4) rfl lv194 dX10_init_25 rfl ?_
                                      obtain ⟨hs195, E⟩ := guardS_some E
                                      refine V.st (st' := [aA 4 (some 0)]) (by rw [hs195]) ?_
                                      refine v_iload_n C (pc' := 29) dX10_init_28 rfl rfl rfl ?_
                                      obtain ⟨hu196, E⟩ := guardN_some E
                                      refine v_new C (pc' := 32) hu196 rfl nw_X10_9 ⟨Nat.le_of_ble_eq_true rfl, Nat.le_of_ble_eq_true rfl⟩ dX10_init_29 rfl ?_
                                      refine v_dup C (pc' := 33) dX10_init_32 rfl rfl ?_
                                      obtain ⟨y197, hy197, E⟩ := bind_some E
                                      refine v_callIN C (pc' := 36) (rest := [aA 5 (some 17), aI (17 : Int32), aA 4 (some 0)]) (c_node_init l 17 (sN (sR y186 (4, 0) (16 : Int32).toNatClampNeg (some 16))) _ hy197) C.2.2.2.2.2.1.2.2.2.2.2.2.2.2.1 mn_X8_init dX10_init_33 rfl rfl rfl ⟨Nat.le_of_ble_eq_true rfl, Nat.le_of_ble_eq_true rfl⟩ (Nat.le_of_ble_eq_true rfl) ⟨Nat.le_of_ble_eq_true rfl, Nat.le_of_ble_eq_true rfl⟩ ?_
                                      refine V.st (st' := [aA 5 (some 17), aI (17 : Int32), aA 4 (some 0)]) rfl ?_
                                      obtain ⟨lv199, E⟩ := guardL_some E
                                      obtain ⟨lv200, E⟩ := guardL_some E
                                      obtain ⟨g198, E⟩ := guardB_some E
                                      refine v_aastN C (pc' := 37) (t := 4) rfl lv200 lv199 g198 (fun z => by cases z) dX10_init_36 rfl ?_
                                      refine v_iinc1 C (pc' := 40) dX10_init_37 (v := (18 : Int32)) (by decide) (by decide) rfl rfl ?_
                                      refine v_goto C (pc' := 15) dX10_init_40 (by decide) ?_
                                      refine v_iload_n C (pc' := 16) dX10_init_15 rfl rfl rfl ?_
                                      refine v_aload_n C (pc' := 17) dX10_init_16 rfl rfl rfl ?_
                                      obtain ⟨lv201, E⟩ := guardL_some E
                                      refine v_getR C (pc' := 20) fl_X10_11 rfl rfl (t2 := 4) rfl lv201 dX10_init_17 rfl ?_
                                      obtain ⟨hs202, E⟩ := guardS_some E
                                      refine V.st (st' := [aA 4 (some 0), aI (18 : Int32)]) (by rw [hs202]) ?_
                                      obtain ⟨lv203, E⟩ := guardL_some E
                                      refine v_alen C (pc' := 21) (t := 4) rfl (by decide) lv203 (v := (24 : Int32)) (by decide) dX10_init_20 rfl ?_
                                      refine v_icmp_ge C (tg := 43) (pc' := 24) dX10_init_21 (by decide) rfl (fun q204 => ?_) (fun q204 => ?_)
                                      · exact absurd q204 (by decide)
                                      · refine v_aload_n C (pc' := 25) dX10_init_24 rfl rfl rfl ?_
                                        obtain ⟨lv205, E⟩ := guardL_some E
                                        refine v_getR C (pc' := 28) fl_X10_11 rfl rfl (t2 := 4) rfl lv205 dX10_init_25 rfl ?_
                                        obtain ⟨hs206, E⟩ := guardS_some E
                                        refine V.st (st' := [aA 4 (some 0)]) (by rw [hs206]) ?_
                                        refine v_iload_n C (pc' := 29) dX10_init_28 rfl rfl rfl ?_
                                        obtain ⟨hu207, E⟩ := guardN_some E
                                        refine v_new C (pc' := 32) hu207 rfl nw_X10_9 ⟨Nat.le_of_ble_eq_true rfl, Nat.le_of_ble_eq_true rfl⟩ dX10_init_29 rfl ?_
                                        refine v_dup C (pc' := 33) dX10_init_32 rfl rfl ?_
                                        obtain ⟨y208, hy208, E⟩ := bind_some E
                                        refine v_callIN C (pc' := 36) (rest := [aA 5 (some 18), aI (18 : Int32), aA 4 (some 0)]) (c_node_init l 18 (sN (sR y197 (4, 0) (17 : Int32).toNatClampNeg (some 17))) _ hy208) C.2.2.2.2.2.1.2.2.2.2.2.2.2.2.1 mn_X8_init dX10_init_33 rfl rfl rfl ⟨Nat.le_of_ble_eq_true rfl, Nat.le_of_ble_eq_true rfl⟩ (Nat.le_of_ble_eq_true rfl) ⟨Nat.le_of_ble_eq_true rfl, Nat.le_of_ble_eq_true rfl⟩ ?_
                                        refine V.st (st' := [aA 5 (some 18), aI (18 : Int32), aA 4 (some 0)]) rfl ?_
                                        obtain ⟨lv210, E⟩ := guardL_some E
                                        obtain ⟨lv211, E⟩ := guardL_some E
                                        obtain ⟨g209, E⟩ := guardB_some E
                                        refine v_aastN C (pc' := 37) (t := 4) rfl lv211 lv210 g209 (fun z => by cases z) dX10_init_36 rfl ?_
                                        refine v_iinc1 C (pc' := 40) dX10_init_37 (v := (19 : Int32)) (by decide) (by decide) rfl rfl ?_
                                        refine v_goto C (pc' := 15) dX10_init_40 (by decide) ?_
                                        refine v_iload_n C (pc' := 16) dX10_init_15 rfl rfl rfl ?_
                                        refine v_aload_n C (pc' := 17) dX10_init_16 rfl rfl rfl ?_
                                        obtain ⟨lv212, E⟩ := guardL_some E
                                        refine v_getR C (pc' := 20) fl_X10_11 rfl rfl (t2 := 4) rfl lv212 dX10_init_17 rfl ?_
                                        obtain ⟨hs213, E⟩ := guardS_some E
                                        refine V.st (st' := [aA 4 (some 0), aI (19 : Int32)]) (by rw [hs213]) ?_
                                        obtain ⟨lv214, E⟩ := guardL_some E
                                        refine v_alen C (pc' := 21) (t := 4) rfl (by decide) lv214 (v := (24 : Int32)) (by decide) dX10_init_20 rfl ?_
                                        refine v_icmp_ge C (tg := 43) (pc' := 24) dX10_init_21 (by decide) rfl (fun q215 => ?_) (fun q215 => ?_)
                                        · exact absurd q215 (by decide)
                                        · refine v_aload_n C (pc' := 25) dX10_init_24 rfl rfl rfl ?_
                                          obtain ⟨lv216, E⟩ := guardL_some E
                                          refine v_getR C (pc' := 28) fl_X10_11 rfl rfl (t2 := 4) rfl lv216 dX10_init_25 rfl ?_
                                          obtain ⟨hs217, E⟩ := guardS_some E
                                          refine V.st (st' := [aA 4 (some 0)]) (by rw [hs217]) ?_
                                          refine v_iload_n C (pc' := 29) dX10_init_28 rfl rfl rfl ?_
                                          obtain ⟨hu218, E⟩ := guardN_some E
                                          refine v_new C (pc' := 32) hu218 rfl nw_X10_9 ⟨Nat.le_of_ble_eq_true rfl, Nat.le_of_ble_eq_true rfl⟩ dX10_init_29 rfl ?_
                                          refine v_dup C (pc' := 33) dX10_init_32 rfl rfl ?_
                                          obtain ⟨y219, hy219, E⟩ := bind_some E
                                          refine v_callIN C (pc' := 36) (rest := [aA 5 (some 19), aI (19 : Int32), aA 4 (some 0)]) (c_node_init l 19 (sN (sR y208 (4, 0) (18 : Int32).toNatClampNeg (some 18))) _ hy219) C.2.2.2.2.2.1.2.2.2.2.2.2.2.2.1 mn_X8_init dX10_init_33 rfl rfl rfl ⟨Nat.le_of_ble_eq_true rfl, Nat.le_of_ble_eq_true rfl⟩ (Nat.le_of_ble_eq_true rfl) ⟨Nat.le_of_ble_eq_true rfl, Nat.le_of_ble_eq_true rfl⟩ ?_
                                          refine V.st (st' := [aA 5 (some 19), aI (19 : Int32), aA 4 (some 0)]) rfl ?_
                                          obtain ⟨lv221, E⟩ := guardL_some E
                                          obtain ⟨lv222, E⟩ := guardL_some E
                                          obtain ⟨g220, E⟩ := guardB_some E
                                          refine v_aastN C (pc' := 37) (t := 4) rfl lv222 lv221 g220 (fun z => by cases z) dX10_init_36 rfl ?_
                                          refine v_iinc1 C (pc' := 40) dX10_init_37 (v := (20 : Int32)) (by decide) (by decide) rfl rfl ?_
                                          refine v_goto C (pc' := 15) dX10_init_40 (by decide) ?_
                                          refine v_iload_n C (pc' := 16) dX10_init_15 rfl rfl rfl ?_
                                          refine v_aload_n C (pc' := 17) dX10_init_16 rfl rfl rfl ?_
                                          obtain ⟨lv223, E⟩ := guardL_some E
                                          refine v_getR C (pc' := 20) fl_X10_11 rfl rfl (t2 := 4) rfl lv223 dX10_init_17 rfl ?_
                                          obtain ⟨hs224, E⟩ := guardS_some E
                                          refine V.st (st' := [aA 4 (some 0), aI (20 : Int32)]) (by rw [hs224]) ?_
                                          obtain ⟨lv225, E⟩ := guardL_some E
                                          refine v_alen C (pc' := 21) (t := 4) rfl (by decide) lv225 (v := (24 : Int32)) (by decide) dX10_init_20 rfl ?_
                                          refine v_icmp_ge C (tg := 43) (pc' := 24) dX10_init_21 (by decide) rfl (fun q226 => ?_) (fun q226 => ?_)
                                          · exact absurd q226 (by decide)
                                          · refine v_aload_n C (pc' := 25) dX10_init_24 rfl rfl rfl ?_
                                            obtain ⟨lv227, E⟩ := guardL_some E
                                            refine v_getR C (pc' := 28) fl_X10_11 rfl rfl (t2 := 4) rfl lv227 dX10_init_25 rfl ?_
                                            obtain ⟨hs228, E⟩ := guardS_some E
                                            refine V.st (st' := [aA 4 (some 0)]) (by rw [hs228]) ?_
                                            refine v_iload_n C (pc' := 29) dX10_init_28 rfl rfl rfl ?_
                                            obtain ⟨hu229, E⟩ := guardN_some E
                                            refine v_new C (pc' := 32) hu229 rfl nw_X10_9 ⟨Nat.le_of_ble_eq_true rfl, Nat.le_of_ble_eq_true rfl⟩ dX10_init_29 rfl ?_
                                            refine v_dup C (pc' := 33) dX10_init_32 rfl rfl ?_
                                            obtain ⟨y230, hy230, E⟩ := bind_some E
                                            refine v_callIN C (pc' := 36) (rest := [aA 5 (some 20), aI (20 : Int32), aA 4 (some 0)]) (c_node_init l 20 (sN (sR y219 (4, 0) (19 : Int32).toNatClampNeg (some 19))) _ hy230) C.2.2.2.2.2.1.2.2.2.2.2.2.2.2.1 mn_X8_init dX10_init_33 rfl rfl rfl ⟨Nat.le_of_ble_eq_true rfl, Nat.le_of_ble_eq_true rfl⟩ (Nat.le_of_ble_eq_true rfl) ⟨Nat.le_of_ble_eq_true rfl, Nat.le_of_ble_eq_true rfl⟩ ?_
                                            refine V.st (st' := [aA 5 (some 20), aI (20 : Int32), aA 4 (some 0)]) rfl ?_
                                            obtain ⟨lv232, E⟩ := guardL_some E
                                            obtain ⟨lv233, E⟩ := guardL_some E
                                            obtain ⟨g231, E⟩ := guardB_some E
                                            refine v_aastN C (pc' := 37) (t := 4) rfl lv233 lv232 g231 (fun z => by cases z) dX10_init_36 rfl ?_
                                            refine v_iinc1 C (pc' := 40) dX10_init_37 (v := (21 : Int32)) (by decide) (by decide) rfl rfl ?_
                                            refine v_goto C (pc' := 15) dX10_init_40 (by decide) ?_
                                            refine v_iload_n C (pc' := 16) dX10_init_15 rfl rfl rfl ?_
                                            refine v_aload_n C (pc' := 17) dX10_init_16 rfl rfl rfl ?_
                                            obtain ⟨lv234, E⟩ := guardL_some E
                                            refine v_getR C (pc' := 20) fl_X10_11 rfl rfl (t2 := 4) rfl lv234 dX10_init_17 rfl ?_
                                            obtain ⟨hs235, E⟩ := guardS_some E
                                            refine V.st (st' := [aA 4 (some 0), aI (21 : Int32)]) (by rw [hs235]) ?_
                                            obtain ⟨lv236, E⟩ := guardL_some E
                                            refine v_alen C (pc' := 21) (t := 4) rfl (by decide) lv236 (v := (24 : Int32)) (by decide) dX10_init_20 rfl ?_
                                            refine v_icmp_ge C (tg := 43) (pc' := 24) dX10_init_21 (by decide) rfl (fun q237 => ?_) (fun q237 => ?_)
                                            · exact absurd q237 (by decide)
                                            · refine v_aload_n C (pc' := 25) dX10_init_24 rfl rfl rfl ?_
                                              obtain ⟨lv238, E⟩ := guardL_some E
                                              refine v_getR C (pc' := 28) fl_X10_11 rfl rfl (t2 := 4) rfl lv238 dX10_init_25 rfl ?_
                                              obtain ⟨hs239, E⟩ := guardS_some E
                                              refine V.st (st' := [aA 4 (some 0)]) (by rw [hs239]) ?_
                                              refine v_iload_n C (pc' := 29) dX10_init_28 rfl rfl rfl ?_
                                              obtain ⟨hu240, E⟩ := guardN_some E
                                              refine v_new C (pc' := 32) hu240 rfl nw_X10_9 ⟨Nat.le_of_ble_eq_true rfl, Nat.le_of_ble_eq_true rfl⟩ dX10_init_29 rfl ?_
                                              refine v_dup C (pc' := 33) dX10_init_32 rfl rfl ?_
                                              obtain ⟨y241, hy241, E⟩ := bind_some E
                                              refine v_callIN C (pc' := 36) (rest := [aA 5 (some 21), aI (21 : Int32), aA 4 (some 0)]) (c_node_init l 21 (sN (sR y230 (4, 0) (20 : Int32).toNatClampNeg (some 20))) _ hy241) C.2.2.2.2.2.1.2.2.2.2.2.2.2.2.1 mn_X8_init dX10_init_33 rfl rfl rfl ⟨Nat.le_of_ble_eq_true rfl, Nat.le_of_ble_eq_true rfl⟩ (Nat.le_of_ble_eq_true rfl) ⟨Nat.le_of_ble_eq_true rfl, Nat.le_of_ble_eq_true rfl⟩ ?_
                                              refine V.st (st' := [aA 5 (some 21), aI (21 : Int32), aA 4 (some 0)]) rfl ?_
                                              obtain ⟨lv243, E⟩ := guardL_some E
                                              obtain ⟨lv244, E⟩ := guardL_some E
                                              obtain ⟨g242, E⟩ := guardB_some E
                                              refine v_aastN C (pc' := 37) (t := 4) rfl lv244 lv243 g242 (fun z => by cases z) dX10_init_36 rfl ?_
                                              refine v_iinc1 C (pc' := 40) dX10_init_37 (v := (22 : Int32)) (by decide) (by decide) rfl rfl ?_
                                              refine v_goto C (pc' := 15) dX10_init_40 (by decide) ?_
                                              refine v_iload_n C (pc' := 16) dX10_init_15 rfl rfl rfl ?_
                                              refine v_aload_n C (pc' := 17) dX10_init_16 rfl rfl rfl ?_
                                              obtain ⟨lv245, E⟩ := guardL_some E
                                              refine v_getR C (pc' := 20) fl_X10_11 rfl rfl (t2 := 4) rfl lv245 dX10_init_17 rfl ?_
                                              obtain ⟨hs246, E⟩ := guardS_some E
                                              refine V.st (st' := [aA 4 (some 0), aI (22 : Int32)]) (by rw [hs246]) ?_
                                              obtain ⟨lv247, E⟩ := guardL_some E
                                              refine v_alen C (pc' := 21) (t := 4) rfl (by decide) lv247 (v := (24 : Int32)) (by decide) dX10_init_20 rfl ?_
                                              refine v_icmp_ge C (tg := 43) (pc' := 24) dX10_init_21 (by decide) rfl (fun q248 => ?_) (fun q248 => ?_)
                                              · exact absurd q248 (by decide)
                                              · refine v_aload_n C (pc' := 25) dX10_init_24 rfl rfl rfl ?_
                                                obtain ⟨lv249, E⟩ := guardL_some E
                                                refine v_getR C (pc' := 28) fl_X10_11 rfl rfl (t2 := 4) rfl lv249 dX10_init_25 rfl ?_
                                                obtain ⟨hs250, E⟩ := guardS_some E
                                                refine V.st (st' := [aA 4 (some 0)]) (by rw [hs250]) ?_
                                                refine v_iload_n C (pc' := 29) dX10_init_28 rfl rfl rfl ?_
                                                obtain ⟨hu251, E⟩ := guardN_some E
                                                refine v_new C (pc' := 32) hu251 rfl nw_X10_9 ⟨Nat.le_of_ble_eq_true rfl, Nat.le_of_ble_eq_true rfl⟩ dX10_init_29 rfl ?_
                                                refine v_dup C (pc' := 33) dX10_init_32 rfl rfl ?_
                                                obtain ⟨y252, hy252, E⟩ := bind_some E
                                                refine v_callIN C (pc' := 36) (rest := [aA 5 (some 22), aI (22 : Int32), aA 4 (some 0)]) (c_node_init l 22 (sN (sR y241 (4, 0) (21 : Int32).toNatClampNeg (some 21))) _ hy252) C.2.2.2.2.2.1.2.2.2.2.2.2.2.2.1 mn_X8_init dX10_init_33 rfl rfl rfl ⟨Nat.le_of_ble_eq_true rfl, Nat.le_of_ble_eq_true rfl⟩ (Nat.le_of_ble_eq_true rfl) ⟨Nat.le_of_ble_eq_true rfl, Nat.le_of_ble_eq_true rfl⟩ ?_
                                                refine V.st (st' := [aA 5 (some 22), aI (22 : Int32), aA 4 (some 0)]) rfl ?_
                                                obtain ⟨lv254, E⟩ := guardL_some E
                                                obtain ⟨lv255, E⟩ := guardL_some E
                                                obtain ⟨g253, E⟩ := guardB_some E
                                                refine v_aastN C (pc' := 37) (t := 4) rfl lv255 lv254 g253 (fun z => by cases z) dX10_init_36 rfl ?_
                                                refine v_iinc1 C (pc' := 40) dX10_init_37 (v := (23 : Int32)) (by decide) (by decide) rfl rfl ?_
                                                refine v_goto C (pc' := 15) dX10_init_40 (by decide) ?_
                                                refine v_iload_n C (pc' := 16) dX10_init_15 rfl rfl rfl ?_
                                                refine v_aload_n C (pc' := 17) dX10_init_16 rfl rfl rfl ?_
                                                obtain ⟨lv256, E⟩ := guardL_some E
                                                refine v_getR C (pc' := 20) fl_X10_11 rfl rfl (t2 := 4) rfl lv256 dX10_init_17 rfl ?_
                                                obtain ⟨hs257, E⟩ := guardS_some E
                                                refine V.st (st' := [aA 4 (some 0), aI (23 : Int32)]) (by rw [hs257]) ?_
                                                obtain ⟨lv258, E⟩ := guardL_some E
                                                refine v_alen C (pc' := 21) (t := 4) rfl (by decide) lv258 (v := (24 : Int32)) (by decide) dX10_init_20 rfl ?_
                                                refine v_icmp_ge C (tg := 43) (pc' := 24) dX10_init_21 (by decide) rfl (fun q259 => ?_) (fun q259 => ?_)
                                                · exact absurd q259 (by decide)
                                                · refine v_aload_n C (pc' := 25) dX10_init_24 rfl rfl rfl ?_
                                                  obtain ⟨lv260, E⟩ := guardL_some E
                                                  refine v_getR C (pc' := 28) fl_X10_11 rfl rfl (t2 := 4) rfl lv260 dX10_init_25 rfl ?_
                                                  obtain ⟨hs261, E⟩ := guardS_some E
                                                  refine V.st (st' := [aA 4 (some 0)]) (by rw [hs261]) ?_
                                                  refine v_iload_n C (pc' := 29) dX10_init_28 rfl rfl rfl ?_
                                                  obtain ⟨hu262, E⟩ := guardN_some E
                                                  refine v_new C (pc' := 32) hu262 rfl nw_X10_9 ⟨Nat.le_of_ble_eq_true rfl, Nat.le_of_ble_eq_true rfl⟩ dX10_init_29 rfl ?_
                                                  refine v_dup C (pc' := 33) dX10_init_32 rfl rfl ?_
                                                  obtain ⟨y263, hy263, E⟩ := bind_some E
                                                  refine v_callIN C (pc' := 36) (rest := [aA 5 (some 23), aI (23 : Int32), aA 4 (some 0)]) (c_node_init l 23 (sN (sR y252 (4, 0) (22 : Int32).toNatClampNeg (some 22))) _ hy263) C.2.2.2.2.2.1.2.2.2.2.2.2.2.2.1 mn_X8_init dX10_init_33 rfl rfl rfl ⟨Nat.le_of_ble_eq_true rfl, Nat.le_of_ble_eq_true rfl⟩ (Nat.le_of_ble_eq_true rfl) ⟨Nat.le_of_ble_eq_true rfl, Nat.le_of_ble_eq_true rfl⟩ ?_
                                                  refine V.st (st' := [aA 5 (some 23), aI (23 : Int32), aA 4 (some 0)]) rfl ?_
                                                  obtain ⟨lv265, E⟩ := guardL_some E
                                                  obtain ⟨lv266, E⟩ := guardL_some E
                                                  obtain ⟨g264, E⟩ := guardB_some E
                                                  refine v_aastN C (pc' := 37) (t := 4) rfl lv266 lv265 g264 (fun z => by cases z) dX10_init_36 rfl ?_
                                                  refine v_iinc1 C (pc' := 40) dX10_init_37 (v := (24 : Int32)) (by decide) (by decide) rfl rfl ?_
                                                  refine v_goto C (pc' := 15) dX10_init_40 (by decide) ?_
                                                  refine v_iload_n C (pc' := 16) dX10_init_15 rfl rfl rfl ?_
                                                  refine v_aload_n C (pc' := 17) dX10_init_16 rfl rfl rfl ?_
                                                  obtain ⟨lv267, E⟩ := guardL_some E
                                                  refine v_getR C (pc' := 20) fl_X10_11 rfl rfl (t2 := 4) rfl lv267 dX10_init_17 rfl ?_
                                                  obtain ⟨hs268, E⟩ := guardS_some E
                                                  refine V.st (st' := [aA 4 (some 0), aI (24 : Int32)]) (by rw [hs268]) ?_
                                                  obtain ⟨lv269, E⟩ := guardL_some E
                                                  refine v_alen C (pc' := 21) (t := 4) rfl (by decide) lv269 (v := (24 : Int32)) (by decide) dX10_init_20 rfl ?_
                                                  refine v_icmp_ge C (tg := 43) (pc' := 24) dX10_init_21 (by decide) rfl (fun q270 => ?_) (fun q270 => ?_)
                                                  · cases E
                                                    exact v_retv C hr hlk dX10_init_43
                                                  · exact absurd q270 (by decide)

def acc_init (th : Nat) (p1 : Int64) (p3 : Int64) (p5 : Option Nat) (h : Hp) : Option Hp :=
  some (sR (sL (sL h (15, th) 0 p1) (15, th) 1 p3) (15, th) 2 p5)
set_option maxHeartbeats 2000000 in
set_option maxRecDepth 20000 in
theorem c_acc_init (l : Launch) (th : Nat) (p1 : Int64) (p3 : Int64) (p5 : Option Nat) (h : Hp) (h' : Hp) (hth : lvq true h (15, th)) (E : acc_init th p1 p3 p5 h = some h') : Ctr l yX1_init cX1_init 6 none 1 20 0 0 true [aA 15 (some th), aL p1, aL p3, aA 5 p5] h none h' := by
  rw [acc_init] at E
  refine Ctr.of (ls0 := [some (aA 15 (some th)), some (aL p1), none, some (aL p3), none, some (aA 5 p5)]) (by decide +kernel) (Nat.le_of_ble_eq_true rfl) rfl ?_
  intro G p e s m args below meth c C hr hlk hnm
  refine v_aload_n C (pc' := 1) dX1_init_0 rfl rfl rfl ?_
  refine v_oinit C (pc' := 4) (TT_of (i := 400) (by decide +kernel) (by decide +kernel)) dX1_init_1 rfl (Nat.le_of_ble_eq_true rfl) (Nat.le_of_ble_eq_true rfl) ?_
  refine v_aload_n C (pc' := 5) dX1_init_4 rfl rfl rfl ?_
  refine v_lload_n C (pc' := 6) dX1_init_5 rfl rfl rfl ?_
  refine v_putFL C (pc' := 9) fp_X1_7 rfl rfl hth dX1_init_6 rfl hnm ?_
  refine v_aload_n C (pc' := 10) dX1_init_9 rfl rfl rfl ?_
  refine v_lload_n C (pc' := 11) dX1_init_10 rfl rfl rfl ?_
  refine v_putFL C (pc' := 14) fp_X1_13 rfl rfl hth dX1_init_11 rfl hnm ?_
  refine v_aload_n C (pc' := 15) dX1_init_14 rfl rfl rfl ?_
  refine v_aload C (pc' := 17) dX1_init_15 rfl rfl ?_
  refine v_putFR C (pc' := 20) fp_X1_16 rfl rfl hth dX1_init_17 rfl (t2 := 5) rfl (fun _ => ⟨rfl, by decide⟩) hnm ?_
  cases E
  exact v_retv C hr hlk dX1_init_20

def r_account (p1 : Int64) (p3 : Int64) (h : Hp) : Option (Int32 × Hp) :=
  (name_partOfWord p1 h).bind fun y1 =>
  (name_withoutDots y1 h).bind fun y2 =>
  (name_partOfWord p3 h).bind fun y3 =>
  (name_withoutDots y3 h).bind fun y4 =>
  if (gI h (0, 0) 8) = 0 then
    (al_size h).bind fun y6 =>
    if y6 < (4 : Int32) then
      if y2 = (0 : Int64) then
        some ((0 : Int32), h)
      else
        if y4 = (0 : Int64) then
          some ((0 : Int32), h)
        else
          (r_accountOf y2 h).bind fun y10 =>
          if y10 = none then
            (tree_add none (0 : Int64) (1 : Int32) h).bind fun y12 =>
            if y12.1 = none then
              some ((0 : Int32), y12.2)
            else
              (newx 15 y12.2).bind fun x14 =>
              (acc_init x14 y2 y4 y12.1 (sN y12.2)).bind fun y15 =>
              (al_add (some x14) y15).bind fun y16 =>
              some ((1 : Int32), y16.2)
          else
            some ((0 : Int32), h)
    else
      some ((0 : Int32), h)
  else
    some ((0 : Int32), h)
set_option maxHeartbeats 2000000 in
set_option maxRecDepth 20000 in
theorem c_r_account (l : Launch) (p1 : Int64) (p3 : Int64) (h : Hp) (r : Int32) (h' : Hp)  (E : r_account p1 p3 h = some (r, h')) : Ctr l yX12_account cX12_account 10 (some .boolean) 8 191 2 13 true [aA 0 (some 0), aL p1, aL p3] h (some (aI r)) h' := by
  rw [r_account] at E
  refine Ctr.of (ls0 := [some (aA 0 (some 0)), some (aL p1), none, some (aL p3), none, none, none, none, none, none]) (by decide +kernel) (Nat.le_of_ble_eq_true rfl) rfl ?_
  intro G p e s m args below meth c C hr hlk hnm
  refine v_lload_n C (pc' := 1) dX12_account_0 rfl rfl rfl ?_
  obtain ⟨y1, hy1, E⟩ := bind_some E
  refine v_callS C (pc' := 4) (rest := []) (c_name_partOfWord l p1 h _ hy1) ms_X12_94 dX12_account_1 rfl rfl rfl ⟨Nat.le_of_ble_eq_true rfl, Nat.le_of_ble_eq_true rfl⟩ (Nat.le_of_ble_eq_true rfl) ⟨Nat.le_of_ble_eq_true rfl, Nat.le_of_ble_eq_true rfl⟩ ?_
  refine V.st (st' := [aL y1]) rfl ?_
  obtain ⟨y2, hy2, E⟩ := bind_some E
  refine v_callS C (pc' := 7) (rest := []) (c_name_withoutDots l y1 h _ hy2) ms_X12_100 dX12_account_4 rfl rfl rfl ⟨Nat.le_of_ble_eq_true rfl, Nat.le_of_ble_eq_true rfl⟩ (Nat.le_of_ble_eq_true rfl) ⟨Nat.le_of_ble_eq_true rfl, Nat.le_of_ble_eq_true rfl⟩ ?_
  refine V.st (st' := [aL y2]) rfl ?_
  refine v_lstore5 C (pc' := 9) dX12_account_7 (by decide) rfl rfl ?_
  refine v_lload_n C (pc' := 10) dX12_account_9 rfl rfl rfl ?_
  obtain ⟨y3, hy3, E⟩ := bind_some E
  refine v_callS C (pc' := 13) (rest := []) (c_name_partOfWord l p3 h _ hy3) ms_X12_94 dX12_account_10 rfl rfl rfl ⟨Nat.le_of_ble_eq_true rfl, Nat.le_of_ble_eq_true rfl⟩ (Nat.le_of_ble_eq_true rfl) ⟨Nat.le_of_ble_eq_true rfl, Nat.le_of_ble_eq_true rfl⟩ ?_
  refine V.st (st' := [aL y3]) rfl ?_
  obtain ⟨y4, hy4, E⟩ := bind_some E
  refine v_callS C (pc' := 16) (rest := []) (c_name_withoutDots l y3 h _ hy4) ms_X12_100 dX12_account_13 rfl rfl rfl ⟨Nat.le_of_ble_eq_true rfl, Nat.le_of_ble_eq_true rfl⟩ (Nat.le_of_ble_eq_true rfl) ⟨Nat.le_of_ble_eq_true rfl, Nat.le_of_ble_eq_true rfl⟩ ?_
  refine V.st (st' := [aL y4]) rfl ?_
  refine v_lstore7 C (pc' := 18) dX12_account_16 (by decide) rfl rfl ?_
  refine v_aload_n C (pc' := 19) dX12_account_18 rfl rfl rfl ?_
  refine v_getI C (pc' := 22) fl_X12_61 rfl (Or.inr rfl) lv0_0 dX12_account_19 rfl ?_
  refine v_if_ne C (tg := 36) (pc' := 25) dX12_account_22 (by decide) rfl (fun q5 => ?_) (fun q5 => ?_)
  · rw [if_neg q5] at E
    refine v_iconst C (pc' := 37) dX12_account_36 (v := (0 : Int32)) (by decide) rfl ?_
    cases E
    refine V.widen (ce := 2) (sl := 13) (Nat.le_of_ble_eq_true rfl) (Nat.le_of_ble_eq_true rfl) ?_
    exact v_retz C hr hlk (Or.inl rfl) dX12_account_37
  · rw [if_pos q5] at E
    refine v_aload_n C (pc' := 26) dX12_account_25 rfl rfl rfl ?_
    refine v_getF C (pc' := 29) rfl fl_X12_26 rfl rfl (t2 := 7) rfl (j := 0) rfl u0_0 dX12_account_26 rfl ?_
    obtain ⟨y6, hy6, E⟩ := bind_some E
    refine v_callV C (pc' := 32) (rest := []) (c_al_size l h _ hy6) mv_X12_103 rfl rfl lv0_7 dX12_account_29 rfl rfl rfl ⟨Nat.le_of_ble_eq_true rfl, Nat.le_of_ble_eq_true rfl⟩ (Nat.le_of_ble_eq_true rfl) ⟨Nat.le_of_ble_eq_true rfl, Nat.le_of_ble_eq_true rfl⟩ ?_
    refine V.st (st' := [aI y6]) rfl ?_
    refine v_iconst C (pc' := 33) dX12_account_32 (v := (4 : Int32)) (by decide) rfl ?_
    refine v_icmp_lt C (tg := 38) (pc' := 36) dX12_account_33 (by decide) rfl (fun q7 => ?_) (fun q7 => ?_)
    · rw [if_pos q7] at E
      refine v_lload C (pc' := 40) dX12_account_38 rfl rfl ?_
      refine v_lconst C (pc' := 41) dX12_account_40 (v := (0 : Int64)) (by decide) rfl ?_
      refine v_lcmp C (pc' := 42) dX12_account_41 rfl ?_
      refine v_if_eq C (tg := 61) (pc' := 45) dX12_account_42 (by decide) rfl (fun q8 => ?_) (fun q8 => ?_)
      · rw [lgc_eq] at q8
        rw [if_pos q8] at E
        refine v_iconst C (pc' := 62) dX12_account_61 (v := (0 : Int32)) (by decide) rfl ?_
        cases E
        refine V.widen (ce := 2) (sl := 13) (Nat.le_of_ble_eq_true rfl) (Nat.le_of_ble_eq_true rfl) ?_
        exact v_retz C hr hlk (Or.inl rfl) dX12_account_62
      · rw [lgc_eq] at q8
        rw [if_neg q8] at E
        refine v_lload C (pc' := 47) dX12_account_45 rfl rfl ?_
        refine v_lconst C (pc' := 48) dX12_account_47 (v := (0 : Int64)) (by decide) rfl ?_
        refine v_lcmp C (pc' := 49) dX12_account_48 rfl ?_
        refine v_if_eq C (tg := 61) (pc' := 52) dX12_account_49 (by decide) rfl (fun q9 => ?_) (fun q9 => ?_)
        · rw [lgc_eq] at q9
          rw [if_pos q9] at E
          refine v_iconst C (pc' := 62) dX12_account_61 (v := (0 : Int32)) (by decide) rfl ?_
          cases E
          refine V.widen (ce := 2) (sl := 13) (Nat.le_of_ble_eq_true rfl) (Nat.le_of_ble_eq_true rfl) ?_
          exact v_retz C hr hlk (Or.inl rfl) dX12_account_62
        · rw [lgc_eq] at q9
          rw [if_neg q9] at E
          refine v_aload_n C (pc' := 53) dX12_account_52 rfl rfl rfl ?_
          refine v_lload C (pc' := 55) dX12_account_53 rfl rfl ?_
          obtain ⟨y10, hy10, E⟩ := bind_some E
          refine v_callV C (pc' := 58) (rest := []) (c_r_accountOf l y2 h _ hy10) mv_X12_107 rfl rfl lv0_0 dX12_account_55 rfl rfl rfl ⟨Nat.le_of_ble_eq_true rfl, Nat.le_of_ble_eq_true rfl⟩ (Nat.le_of_ble_eq_true rfl) ⟨Nat.le_of_ble_eq_true rfl, Nat.le_of_ble_eq_true rfl⟩ ?_
          refine V.st (st' := [aA 15 y10]) rfl ?_
          refine v_ifnull C (tg := 63) (pc' := 61) dX12_account_58 (by decide) rfl (fun q11 => ?_) (fun q11 => ?_)
          · rw [if_pos q11] at E
            refine v_aload_n C (pc' := 64) dX12_account_63 rfl rfl rfl ?_
            refine v_getF C (pc' := 67) rfl fl_X12_19 rfl rfl (t2 := 3) rfl (j := 0) rfl u0_0 dX12_account_64 rfl ?_
            refine v_null C (pc' := 68) (t := 5) dX12_account_67 rfl ?_
            refine v_lconst C (pc' := 69) dX12_account_68 (v := (0 : Int64)) (by decide) rfl ?_
            refine v_iconst C (pc' := 70) dX12_account_69 (v := (1 : Int32)) (by decide) rfl ?_
            obtain ⟨y12, hy12, E⟩ := bind_some E
            refine v_callV C (pc' := 73) (rest := []) (c_tree_add l none (0 : Int64) (1 : Int32) h _ _ hy12) mv_X12_111 rfl rfl lv0_3 dX12_account_70 rfl rfl rfl ⟨Nat.le_of_ble_eq_true rfl, Nat.le_of_ble_eq_true rfl⟩ (Nat.le_of_ble_eq_true rfl) ⟨Nat.le_of_ble_eq_true rfl, Nat.le_of_ble_eq_true rfl⟩ ?_
            refine V.st (st' := [aA 5 y12.1]) rfl ?_
            refine v_astore9 C (pc' := 75) dX12_account_73 (by decide) rfl rfl ?_
            refine v_aload C (pc' := 77) dX12_account_75 rfl rfl ?_
            refine v_ifnonnull C (tg := 82) (pc' := 80) dX12_account_77 (by decide) rfl (fun q13 => ?_) (fun q13 => ?_)
            · rw [if_neg q13] at E
              refine v_aload_n C (pc' := 83) dX12_account_82 rfl rfl rfl ?_
              refine v_getF C (pc' := 86) rfl fl_X12_26 rfl rfl (t2 := 7) rfl (j := 0) rfl u0_0 dX12_account_83 rfl ?_
              obtain ⟨x14, hux14, E⟩ := bind_some E
              replace hux14 := newx_some hux14
              refine v_new C (pc' := 89) hux14 rfl nw_X12_115 ⟨Nat.le_of_ble_eq_true rfl, Nat.le_of_ble_eq_true rfl⟩ dX12_account_86 rfl ?_
              refine v_dup C (pc' := 90) dX12_account_89 rfl rfl ?_
              refine v_lload C (pc' := 92) dX12_account_90 rfl rfl ?_
              refine v_lload C (pc' := 94) dX12_account_92 rfl rfl ?_
              refine v_aload C (pc' := 96) dX12_account_94 rfl rfl ?_
              obtain ⟨y15, hy15, E⟩ := bind_some E
              refine v_callI C (pc' := 99) (rest := [aA 15 (some x14), aA 7 (some 0)]) (c_acc_init l x14 y2 y4 y12.1 (sN y12.2) _ (newx_lv hux14) hy15) mi_X12_117 dX12_account_96 rfl rfl rfl ⟨Nat.le_of_ble_eq_true rfl, Nat.le_of_ble_eq_true rfl⟩ (Nat.le_of_ble_eq_true rfl) ⟨Nat.le_of_ble_eq_true rfl, Nat.le_of_ble_eq_true rfl⟩ ?_
              refine V.st (st' := [aA 15 (some x14), aA 7 (some 0)]) rfl ?_
              obtain ⟨y16, hy16, E⟩ := bind_some E
              refine v_callV C (pc' := 102) (rest := []) (c_al_add l (some x14) y15 _ _ hy16) mv_X12_120 rfl rfl lv0_7 dX12_account_99 rfl rfl rfl ⟨Nat.le_of_ble_eq_true rfl, Nat.le_of_ble_eq_true rfl⟩ (Nat.le_of_ble_eq_true rfl) ⟨Nat.le_of_ble_eq_true rfl, Nat.le_of_ble_eq_true rfl⟩ ?_
              refine V.st (st' := [aI y16.1]) rfl ?_
              refine v_pop C (pc' := 103) dX12_account_102 rfl rfl ?_
              refine v_iconst C (pc' := 104) dX12_account_103 (v := (1 : Int32)) (by decide) rfl ?_
              cases E
              exact v_retz C hr hlk (Or.inr rfl) dX12_account_104
            · rw [if_pos q13] at E
              refine v_iconst C (pc' := 81) dX12_account_80 (v := (0 : Int32)) (by decide) rfl ?_
              cases E
              refine V.widen (ce := 2) (sl := 13) (Nat.le_of_ble_eq_true rfl) (Nat.le_of_ble_eq_true rfl) ?_
              exact v_retz C hr hlk (Or.inl rfl) dX12_account_81
          · rw [if_neg q11] at E
            refine v_iconst C (pc' := 62) dX12_account_61 (v := (0 : Int32)) (by decide) rfl ?_
            cases E
            refine V.widen (ce := 2) (sl := 13) (Nat.le_of_ble_eq_true rfl) (Nat.le_of_ble_eq_true rfl) ?_
            exact v_retz C hr hlk (Or.inl rfl) dX12_account_62
    · rw [if_neg q7] at E
      refine v_iconst C (pc' := 37) dX12_account_36 (v := (0 : Int32)) (by decide) rfl ?_
      cases E
      refine V.widen (ce := 2) (sl := 13) (Nat.le_of_ble_eq_true rfl) (Nat.le_of_ble_eq_true rfl) ?_
      exact v_retz C hr hlk (Or.inl rfl) dX12_account_37

def line_init  (h : Hp) : Option Hp :=
  guardN 2 0 h <|
  guardL 1 0 (sN h) <|
  guardL 1 0 (sR (sN h) (1, 0) 0 (some 0)) <|
  some (sI (sR (sN h) (1, 0) 0 (some 0)) (1, 0) 1 (0 : Int32))
set_option maxHeartbeats 2000000 in
set_option maxRecDepth 20000 in
theorem c_line_init (l : Launch)  (h : Hp) (h' : Hp)  (E : line_init  h = some h') : Ctr l yX4_init cX4_init 1 none 1 20 1 32 false [aA 1 (some 0)] h none h' := by
  rw [line_init] at E
  refine Ctr.of (ls0 := [some (aA 1 (some 0))]) (by decide +kernel) (Nat.le_of_ble_eq_true rfl) rfl ?_
  intro G p e s m args below meth c C hr hlk hnm
  refine v_aload_n C (pc' := 1) dX4_init_0 rfl rfl rfl ?_
  refine v_oinit C (pc' := 4) (TT_of (i := 110) (by decide +kernel) (by decide +kernel)) dX4_init_1 rfl (Nat.le_of_ble_eq_true rfl) (Nat.le_of_ble_eq_true rfl) ?_
  refine v_aload_n C (pc' := 5) dX4_init_4 rfl rfl rfl ?_
  refine v_bipush C (pc' := 7) dX4_init_5 (v := (32 : Int32)) (by decide) rfl ?_
  obtain ⟨hu1, E⟩ := guardN_some E
  refine v_newaC C (pc' := 9) hu1 rfl (TT_of (i := 118) (by decide +kernel) (by decide +kernel)) (by decide) (by decide) (by decide) ⟨Nat.le_of_ble_eq_true rfl, Nat.le_of_ble_eq_true rfl⟩ dX4_init_7 rfl ?_
  obtain ⟨lv2, E⟩ := guardL_some E
  refine v_putFR C (pc' := 12) fp_X4_9 rfl rfl lv2 dX4_init_9 rfl (t2 := 2) rfl (fun z => by cases z) hnm ?_
  refine v_aload_n C (pc' := 13) dX4_init_12 rfl rfl rfl ?_
  refine v_iconst C (pc' := 14) dX4_init_13 (v := (0 : Int32)) (by decide) rfl ?_
  obtain ⟨lv3, E⟩ := guardL_some E
  refine v_putI C (pc' := 17) fp_X4_15 rfl rfl lv3 dX4_init_14 rfl ?_
  cases E
  exact v_retv C hr hlk dX4_init_17

def path_init  (h : Hp) : Option Hp :=
  guardN 9 0 h <|
  guardL 8 0 (sN h) <|
  guardL 8 0 (sR (sN h) (8, 0) 0 (some 0)) <|
  guardL 8 0 (sI (sR (sN h) (8, 0) 0 (some 0)) (8, 0) 1 (0 : Int32)) <|
  guardL 8 0 (sI (sI (sR (sN h) (8, 0) 0 (some 0)) (8, 0) 1 (0 : Int32)) (8, 0) 2 (0 : Int32)) <|
  guardL 8 0 (sI (sI (sI (sR (sN h) (8, 0) 0 (some 0)) (8, 0) 1 (0 : Int32)) (8, 0) 2 (0 : Int32)) (8, 0) 3 (0 : Int32)) <|
  guardL 8 0 (sR (sI (sI (sI (sR (sN h) (8, 0) 0 (some 0)) (8, 0) 1 (0 : Int32)) (8, 0) 2 (0 : Int32)) (8, 0) 3 (0 : Int32)) (8, 0) 4 none) <|
  guardL 8 0 (sR (sR (sI (sI (sI (sR (sN h) (8, 0) 0 (some 0)) (8, 0) 1 (0 : Int32)) (8, 0) 2 (0 : Int32)) (8, 0) 3 (0 : Int32)) (8, 0) 4 none) (8, 0) 5 none) <|
  some (sL (sR (sR (sI (sI (sI (sR (sN h) (8, 0) 0 (some 0)) (8, 0) 1 (0 : Int32)) (8, 0) 2 (0 : Int32)) (8, 0) 3 (0 : Int32)) (8, 0) 4 none) (8, 0) 5 none) (8, 0) 6 (0 : Int64))
set_option maxHeartbeats 2000000 in
set_option maxRecDepth 20000 in
theorem c_path_init (l : Launch)  (h : Hp) (h' : Hp)  (E : path_init  h = some h') : Ctr l yX9_init cX9_init 1 none 1 20 1 16 false [aA 8 (some 0)] h none h' := by
  rw [path_init] at E
  refine Ctr.of (ls0 := [some (aA 8 (some 0))]) (by decide +kernel) (Nat.le_of_ble_eq_true rfl) rfl ?_
  intro G p e s m args below meth c C hr hlk hnm
  refine v_aload_n C (pc' := 1) dX9_init_0 rfl rfl rfl ?_
  refine v_oinit C (pc' := 4) (TT_of (i := 202) (by decide +kernel) (by decide +kernel)) dX9_init_1 rfl (Nat.le_of_ble_eq_true rfl) (Nat.le_of_ble_eq_true rfl) ?_
  refine v_aload_n C (pc' := 5) dX9_init_4 rfl rfl rfl ?_
  refine v_bipush C (pc' := 7) dX9_init_5 (v := (16 : Int32)) (by decide) rfl ?_
  obtain ⟨hu1, E⟩ := guardN_some E
  refine v_newaJ C (pc' := 9) hu1 rfl (TT_of (i := 228) (by decide +kernel) (by decide +kernel)) (by decide) (by decide) (by decide) ⟨Nat.le_of_ble_eq_true rfl, Nat.le_of_ble_eq_true rfl⟩ dX9_init_7 rfl ?_
  obtain ⟨lv2, E⟩ := guardL_some E
  refine v_putFR C (pc' := 12) fp_X9_7 rfl rfl lv2 dX9_init_9 rfl (t2 := 9) rfl (fun z => by cases z) hnm ?_
  refine v_aload_n C (pc' := 13) dX9_init_12 rfl rfl rfl ?_
  refine v_iconst C (pc' := 14) dX9_init_13 (v := (0 : Int32)) (by decide) rfl ?_
  obtain ⟨lv3, E⟩ := guardL_some E
  refine v_putI C (pc' := 17) fp_X9_13 rfl rfl lv3 dX9_init_14 rfl ?_
  refine v_aload_n C (pc' := 18) dX9_init_17 rfl rfl rfl ?_
  refine v_iconst C (pc' := 19) dX9_init_18 (v := (0 : Int32)) (by decide) rfl ?_
  obtain ⟨lv4, E⟩ := guardL_some E
  refine v_putZ C (pc' := 22) fp_X9_17 rfl rfl lv4 dX9_init_19 rfl (Or.inl rfl) ?_
  refine v_aload_n C (pc' := 23) dX9_init_22 rfl rfl rfl ?_
  refine v_iconst C (pc' := 24) dX9_init_23 (v := (0 : Int32)) (by decide) rfl ?_
  obtain ⟨lv5, E⟩ := guardL_some E
  refine v_putZ C (pc' := 27) fp_X9_21 rfl rfl lv5 dX9_init_24 rfl (Or.inl rfl) ?_
  refine v_aload_n C (pc' := 28) dX9_init_27 rfl rfl rfl ?_
  refine v_null C (pc' := 29) (t := 5) dX9_init_28 rfl ?_
  obtain ⟨lv6, E⟩ := guardL_some E
  refine v_putR C (pc' := 32) fp_X9_24 rfl rfl lv6 dX9_init_29 rfl (t2 := 5) rfl (fun z => by cases z) ?_
  refine v_aload_n C (pc' := 33) dX9_init_32 rfl rfl rfl ?_
  refine v_null C (pc' := 34) (t := 5) dX9_init_33 rfl ?_
  obtain ⟨lv7, E⟩ := guardL_some E
  refine v_putR C (pc' := 37) fp_X9_28 rfl rfl lv7 dX9_init_34 rfl (t2 := 5) rfl (fun z => by cases z) ?_
  refine v_aload_n C (pc' := 38) dX9_init_37 rfl rfl rfl ?_
  refine v_lconst C (pc' := 39) dX9_init_38 (v := (0 : Int64)) (by decide) rfl ?_
  obtain ⟨lv8, E⟩ := guardL_some E
  refine v_putL C (pc' := 42) fp_X9_33 rfl rfl lv8 dX9_init_39 rfl ?_
  cases E
  exact v_retv C hr hlk dX9_init_42

def msg_init  (h : Hp) : Option Hp :=
  guardN 11 0 h <|
  guardL 10 0 (sN h) <|
  guardL 10 0 (sR (sN h) (10, 0) 0 (some 0)) <|
  guardS (gR (sR (sN h) (10, 0) 0 (some 0)) (10, 0) 0) 0 <|
  guardL 11 0 (sR (sN h) (10, 0) 0 (some 0)) <|
  guardL 10 0 (sR (sN h) (10, 0) 0 (some 0)) <|
  some (sI (sR (sN h) (10, 0) 0 (some 0)) (10, 0) 1 (168 : Int32))
set_option maxHeartbeats 2000000 in
set_option maxRecDepth 20000 in
theorem c_msg_init (l : Launch)  (h : Hp) (h' : Hp)  (E : msg_init  h = some h') : Ctr l yX6_init cX6_init 1 none 1 20 1 168 false [aA 10 (some 0)] h none h' := by
  rw [msg_init] at E
  refine Ctr.of (ls0 := [some (aA 10 (some 0))]) (by decide +kernel) (Nat.le_of_ble_eq_true rfl) rfl ?_
  intro G p e s m args below meth c C hr hlk hnm
  refine v_aload_n C (pc' := 1) dX6_init_0 rfl rfl rfl ?_
  refine v_oinit C (pc' := 4) (TT_of (i := 234) (by decide +kernel) (by decide +kernel)) dX6_init_1 rfl (Nat.le_of_ble_eq_true rfl) (Nat.le_of_ble_eq_true rfl) ?_
  refine v_aload_n C (pc' := 5) dX6_init_4 rfl rfl rfl ?_
  refine v_sipush C (pc' := 8) dX6_init_5 (v := (168 : Int32)) (by decide) rfl ?_
  obtain ⟨hu1, E⟩ := guardN_some E
  refine v_newaC C (pc' := 10) hu1 rfl (TT_of (i := 118) (by decide +kernel) (by decide +kernel)) (by decide) (by decide) (by decide) ⟨Nat.le_of_ble_eq_true rfl, Nat.le_of_ble_eq_true rfl⟩ dX6_init_8 rfl ?_
  obtain ⟨lv2, E⟩ := guardL_some E
  refine v_putFR C (pc' := 13) fp_X6_11 rfl rfl lv2 dX6_init_10 rfl (t2 := 11) rfl (fun z => by cases z) hnm ?_
  refine v_aload_n C (pc' := 14) dX6_init_13 rfl rfl rfl ?_
  refine v_aload_n C (pc' := 15) dX6_init_14 rfl rfl rfl ?_
  obtain ⟨lv3, E⟩ := guardL_some E
  refine v_getR C (pc' := 18) fl_X6_11 rfl rfl (t2 := 11) rfl lv3 dX6_init_15 rfl ?_
  obtain ⟨hs4, E⟩ := guardS_some E
  refine V.st (st' := [aA 11 (some 0), aA 10 (some 0)]) (by rw [hs4]) ?_
  obtain ⟨lv5, E⟩ := guardL_some E
  refine v_alen C (pc' := 19) (t := 11) rfl (by decide) lv5 (v := (168 : Int32)) (by decide) dX6_init_18 rfl ?_
  obtain ⟨lv6, E⟩ := guardL_some E
  refine v_putI C (pc' := 22) fp_X6_17 rfl rfl lv6 dX6_init_19 rfl ?_
  cases E
  exact v_retv C hr hlk dX6_init_22

def cargo_init  (h : Hp) : Option Hp :=
  guardN 13 0 h <|
  guardL 12 0 (sN h) <|
  guardL 12 0 (sR (sN h) (12, 0) 0 (some 0)) <|
  guardL 12 0 (sI (sR (sN h) (12, 0) 0 (some 0)) (12, 0) 1 (0 : Int32)) <|
  guardL 12 0 (sI (sI (sR (sN h) (12, 0) 0 (some 0)) (12, 0) 1 (0 : Int32)) (12, 0) 2 (0 : Int32)) <|
  guardL 12 0 (sI (sI (sI (sR (sN h) (12, 0) 0 (some 0)) (12, 0) 1 (0 : Int32)) (12, 0) 2 (0 : Int32)) (12, 0) 3 (0 : Int32)) <|
  guardL 12 0 (sR (sI (sI (sI (sR (sN h) (12, 0) 0 (some 0)) (12, 0) 1 (0 : Int32)) (12, 0) 2 (0 : Int32)) (12, 0) 3 (0 : Int32)) (12, 0) 4 none) <|
  guardL 12 0 (sR (sR (sI (sI (sI (sR (sN h) (12, 0) 0 (some 0)) (12, 0) 1 (0 : Int32)) (12, 0) 2 (0 : Int32)) (12, 0) 3 (0 : Int32)) (12, 0) 4 none) (12, 0) 5 none) <|
  guardL 12 0 (sL (sR (sR (sI (sI (sI (sR (sN h) (12, 0) 0 (some 0)) (12, 0) 1 (0 : Int32)) (12, 0) 2 (0 : Int32)) (12, 0) 3 (0 : Int32)) (12, 0) 4 none) (12, 0) 5 none) (12, 0) 6 (0 : Int64)) <|
  some (sI (sL (sR (sR (sI (sI (sI (sR (sN h) (12, 0) 0 (some 0)) (12, 0) 1 (0 : Int32)) (12, 0) 2 (0 : Int32)) (12, 0) 3 (0 : Int32)) (12, 0) 4 none) (12, 0) 5 none) (12, 0) 6 (0 : Int64)) (12, 0) 7 (0 : Int32))
set_option maxHeartbeats 2000000 in
set_option maxRecDepth 20000 in
theorem c_cargo_init (l : Launch)  (h : Hp) (h' : Hp)  (E : cargo_init  h = some h') : Ctr l yX2_init cX2_init 1 none 1 20 1 192 false [aA 12 (some 0)] h none h' := by
  rw [cargo_init] at E
  refine Ctr.of (ls0 := [some (aA 12 (some 0))]) (by decide +kernel) (Nat.le_of_ble_eq_true rfl) rfl ?_
  intro G p e s m args below meth c C hr hlk hnm
  refine v_aload_n C (pc' := 1) dX2_init_0 rfl rfl rfl ?_
  refine v_oinit C (pc' := 4) (TT_of (i := 247) (by decide +kernel) (by decide +kernel)) dX2_init_1 rfl (Nat.le_of_ble_eq_true rfl) (Nat.le_of_ble_eq_true rfl) ?_
  refine v_aload_n C (pc' := 5) dX2_init_4 rfl rfl rfl ?_
  refine v_sipush C (pc' := 8) dX2_init_5 (v := (192 : Int32)) (by decide) rfl ?_
  obtain ⟨hu1, E⟩ := guardN_some E
  refine v_newaI C (pc' := 10) hu1 rfl (TT_of (i := 166) (by decide +kernel) (by decide +kernel)) (by decide) (by decide) (by decide) ⟨Nat.le_of_ble_eq_true rfl, Nat.le_of_ble_eq_true rfl⟩ dX2_init_8 rfl ?_
  obtain ⟨lv2, E⟩ := guardL_some E
  refine v_putFR C (pc' := 13) fp_X2_13 rfl rfl lv2 dX2_init_10 rfl (t2 := 13) rfl (fun z => by cases z) hnm ?_
  refine v_aload_n C (pc' := 14) dX2_init_13 rfl rfl rfl ?_
  refine v_iconst C (pc' := 15) dX2_init_14 (v := (0 : Int32)) (by decide) rfl ?_
  obtain ⟨lv3, E⟩ := guardL_some E
  refine v_putI C (pc' := 18) fp_X2_19 rfl rfl lv3 dX2_init_15 rfl ?_
  refine v_aload_n C (pc' := 19) dX2_init_18 rfl rfl rfl ?_
  refine v_iconst C (pc' := 20) dX2_init_19 (v := (0 : Int32)) (by decide) rfl ?_
  obtain ⟨lv4, E⟩ := guardL_some E
  refine v_putI C (pc' := 23) fp_X2_23 rfl rfl lv4 dX2_init_20 rfl ?_
  refine v_aload_n C (pc' := 24) dX2_init_23 rfl rfl rfl ?_
  refine v_iconst C (pc' := 25) dX2_init_24 (v := (0 : Int32)) (by decide) rfl ?_
  obtain ⟨lv5, E⟩ := guardL_some E
  refine v_putI C (pc' := 28) fp_X2_26 rfl rfl lv5 dX2_init_25 rfl ?_
  refine v_aload_n C (pc' := 29) dX2_init_28 rfl rfl rfl ?_
  refine v_null C (pc' := 30) (t := 5) dX2_init_29 rfl ?_
  obtain ⟨lv6, E⟩ := guardL_some E
  refine v_putR C (pc' := 33) fp_X2_29 rfl rfl lv6 dX2_init_30 rfl (t2 := 5) rfl (fun z => by cases z) ?_
  refine v_aload_n C (pc' := 34) dX2_init_33 rfl rfl rfl ?_
  refine v_null C (pc' := 35) (t := 5) dX2_init_34 rfl ?_
  obtain ⟨lv7, E⟩ := guardL_some E
  refine v_putR C (pc' := 38) fp_X2_33 rfl rfl lv7 dX2_init_35 rfl (t2 := 5) rfl (fun z => by cases z) ?_
  refine v_aload_n C (pc' := 39) dX2_init_38 rfl rfl rfl ?_
  refine v_lconst C (pc' := 40) dX2_init_39 (v := (0 : Int64)) (by decide) rfl ?_
  obtain ⟨lv8, E⟩ := guardL_some E
  refine v_putL C (pc' := 43) fp_X2_36 rfl rfl lv8 dX2_init_40 rfl ?_
  refine v_aload_n C (pc' := 44) dX2_init_43 rfl rfl rfl ?_
  refine v_iconst C (pc' := 45) dX2_init_44 (v := (0 : Int32)) (by decide) rfl ?_
  obtain ⟨lv9, E⟩ := guardL_some E
  refine v_putZ C (pc' := 48) fp_X2_40 rfl rfl lv9 dX2_init_45 rfl (Or.inl rfl) ?_
  cases E
  exact v_retv C hr hlk dX2_init_48

def mem_init (th : Nat) (h : Hp) : Option Hp :=
  guardL 14 th h <|
  guardL 14 th (sI h (14, th) 0 (0 : Int32)) <|
  guardL 14 th (sL (sI h (14, th) 0 (0 : Int32)) (14, th) 1 (0 : Int64)) <|
  some (sR (sL (sI h (14, th) 0 (0 : Int32)) (14, th) 1 (0 : Int64)) (14, th) 2 none)
set_option maxHeartbeats 2000000 in
set_option maxRecDepth 20000 in
theorem c_mem_init (l : Launch) (th : Nat) (h : Hp) (h' : Hp)  (E : mem_init th h = some h') : Ctr l yX5_init cX5_init 1 none 1 20 0 0 false [aA 14 (some th)] h none h' := by
  rw [mem_init] at E
  refine Ctr.of (ls0 := [some (aA 14 (some th))]) (by decide +kernel) (Nat.le_of_ble_eq_true rfl) rfl ?_
  intro G p e s m args below meth c C hr hlk hnm
  refine v_aload_n C (pc' := 1) dX5_init_0 rfl rfl rfl ?_
  refine v_oinit C (pc' := 4) (TT_of (i := 285) (by decide +kernel) (by decide +kernel)) dX5_init_1 rfl (Nat.le_of_ble_eq_true rfl) (Nat.le_of_ble_eq_true rfl) ?_
  refine v_aload_n C (pc' := 5) dX5_init_4 rfl rfl rfl ?_
  refine v_iconst C (pc' := 6) dX5_init_5 (v := (0 : Int32)) (by decide) rfl ?_
  obtain ⟨lv1, E⟩ := guardL_some E
  refine v_putI C (pc' := 9) fp_X5_7 rfl rfl lv1 dX5_init_6 rfl ?_
  refine v_aload_n C (pc' := 10) dX5_init_9 rfl rfl rfl ?_
  refine v_lconst C (pc' := 11) dX5_init_10 (v := (0 : Int64)) (by decide) rfl ?_
  obtain ⟨lv2, E⟩ := guardL_some E
  refine v_putL C (pc' := 14) fp_X5_15 rfl rfl lv2 dX5_init_11 rfl ?_
  refine v_aload_n C (pc' := 15) dX5_init_14 rfl rfl rfl ?_
  refine v_null C (pc' := 16) (t := 5) dX5_init_15 rfl ?_
  obtain ⟨lv3, E⟩ := guardL_some E
  refine v_putR C (pc' := 19) fp_X5_19 rfl rfl lv3 dX5_init_16 rfl (t2 := 5) rfl (fun z => by cases z) ?_
  cases E
  exact v_retv C hr hlk dX5_init_19

def r_init  (h : Hp) : Option Hp :=
  guardN 1 0 h <|
  (line_init (sN h)).bind fun y2 =>
  guardL 0 0 y2 <|
  guardN 3 0 (sR y2 (0, 0) 0 (some 0)) <|
  (tree_init (sN (sR y2 (0, 0) 0 (some 0)))).bind fun y5 =>
  guardL 0 0 y5 <|
  guardN 7 0 (sR y5 (0, 0) 1 (some 0)) <|
  (al_init (sN (sR y5 (0, 0) 1 (some 0)))).bind fun y8 =>
  guardL 0 0 y8 <|
  guardN 8 0 (sR y8 (0, 0) 2 (some 0)) <|
  (path_init (sN (sR y8 (0, 0) 2 (some 0)))).bind fun y11 =>
  guardL 0 0 y11 <|
  guardN 10 0 (sR y11 (0, 0) 3 (some 0)) <|
  (msg_init (sN (sR y11 (0, 0) 3 (some 0)))).bind fun y14 =>
  guardL 0 0 y14 <|
  guardN 12 0 (sR y14 (0, 0) 4 (some 0)) <|
  (cargo_init (sN (sR y14 (0, 0) 4 (some 0)))).bind fun y17 =>
  guardL 0 0 y17 <|
  guardN 14 0 (sR y17 (0, 0) 5 (some 0)) <|
  (mem_init 0 (sN (sR y17 (0, 0) 5 (some 0)))).bind fun y20 =>
  guardL 0 0 y20 <|
  guardN 14 1 (sR y20 (0, 0) 6 (some 0)) <|
  (mem_init 1 (sN (sR y20 (0, 0) 6 (some 0)))).bind fun y23 =>
  guardL 0 0 y23 <|
  guardL 0 0 (sR y23 (0, 0) 7 (some 1)) <|
  guardL 0 0 (sI (sR y23 (0, 0) 7 (some 1)) (0, 0) 8 (0 : Int32)) <|
  guardL 0 0 (sI (sI (sR y23 (0, 0) 7 (some 1)) (0, 0) 8 (0 : Int32)) (0, 0) 9 (0 : Int32)) <|
  guardL 0 0 (sR (sI (sI (sR y23 (0, 0) 7 (some 1)) (0, 0) 8 (0 : Int32)) (0, 0) 9 (0 : Int32)) (0, 0) 10 none) <|
  guardL 0 0 (sR (sR (sI (sI (sR y23 (0, 0) 7 (some 1)) (0, 0) 8 (0 : Int32)) (0, 0) 9 (0 : Int32)) (0, 0) 10 none) (0, 0) 11 none) <|
  guardL 0 0 (sI (sR (sR (sI (sI (sR y23 (0, 0) 7 (some 1)) (0, 0) 8 (0 : Int32)) (0, 0) 9 (0 : Int32)) (0, 0) 10 none) (0, 0) 11 none) (0, 0) 12 (0 : Int32)) <|
  guardL 0 0 (sR (sI (sR (sR (sI (sI (sR y23 (0, 0) 7 (some 1)) (0, 0) 8 (0 : Int32)) (0, 0) 9 (0 : Int32)) (0, 0) 10 none) (0, 0) 11 none) (0, 0) 12 (0 : Int32)) (0, 0) 13 (some 0)) <|
  guardL 0 0 (sI (sR (sI (sR (sR (sI (sI (sR y23 (0, 0) 7 (some 1)) (0, 0) 8 (0 : Int32)) (0, 0) 9 (0 : Int32)) (0, 0) 10 none) (0, 0) 11 none) (0, 0) 12 (0 : Int32)) (0, 0) 13 (some 0)) (0, 0) 14 (-1 : Int32)) <|
  some (sI (sI (sR (sI (sR (sR (sI (sI (sR y23 (0, 0) 7 (some 1)) (0, 0) 8 (0 : Int32)) (0, 0) 9 (0 : Int32)) (0, 0) 10 none) (0, 0) 11 none) (0, 0) 12 (0 : Int32)) (0, 0) 13 (some 0)) (0, 0) 14 (-1 : Int32)) (0, 0) 15 (-1 : Int32))
set_option maxHeartbeats 2000000 in
set_option maxRecDepth 20000 in
theorem c_r_init (l : Launch)  (h : Hp) (h' : Hp)  (E : r_init  h = some h') : Ctr l yX12_init cX12_init 1 none 4 80 61 1373 false [aA 0 (some 0)] h none h' := by
  rw [r_init] at E
  refine Ctr.of (ls0 := [some (aA 0 (some 0))]) (by decide +kernel) (Nat.le_of_ble_eq_true rfl) rfl ?_
  intro G p e s m args below meth c C hr hlk hnm
  refine v_aload_n C (pc' := 1) dX12_init_0 rfl rfl rfl ?_
  refine v_oinit C (pc' := 4) (TT_of (i := 102) (by decide +kernel) (by decide +kernel)) dX12_init_1 rfl (Nat.le_of_ble_eq_true rfl) (Nat.le_of_ble_eq_true rfl) ?_
  refine v_aload_n C (pc' := 5) dX12_init_4 rfl rfl rfl ?_
  obtain ⟨hu1, E⟩ := guardN_some E
  refine v_new C (pc' := 8) hu1 rfl nw_X12_7 ⟨Nat.le_of_ble_eq_true rfl, Nat.le_of_ble_eq_true rfl⟩ dX12_init_5 rfl ?_
  refine v_dup C (pc' := 9) dX12_init_8 rfl rfl ?_
  obtain ⟨y2, hy2, E⟩ := bind_some E
  refine v_callIN C (pc' := 12) (rest := [aA 1 (some 0), aA 0 (some 0)]) (c_line_init l (sN h) _ hy2) C.2.2.2.2.2.1.2.2.2.2.2.2.2.1 mn_X4_init dX12_init_9 rfl rfl rfl ⟨Nat.le_of_ble_eq_true rfl, Nat.le_of_ble_eq_true rfl⟩ (Nat.le_of_ble_eq_true rfl) ⟨Nat.le_of_ble_eq_true rfl, Nat.le_of_ble_eq_true rfl⟩ ?_
  refine V.st (st' := [aA 1 (some 0), aA 0 (some 0)]) rfl ?_
  obtain ⟨lv3, E⟩ := guardL_some E
  refine v_putFR C (pc' := 15) fp_X12_10 rfl rfl lv3 dX12_init_12 rfl (t2 := 1) rfl (fun z => by cases z) hnm ?_
  refine v_aload_n C (pc' := 16) dX12_init_15 rfl rfl rfl ?_
  obtain ⟨hu4, E⟩ := guardN_some E
  refine v_new C (pc' := 19) hu4 rfl nw_X12_16 ⟨Nat.le_of_ble_eq_true rfl, Nat.le_of_ble_eq_true rfl⟩ dX12_init_16 rfl ?_
  refine v_dup C (pc' := 20) dX12_init_19 rfl rfl ?_
  obtain ⟨y5, hy5, E⟩ := bind_some E
  refine v_callI C (pc' := 23) (rest := [aA 3 (some 0), aA 0 (some 0)]) (c_tree_init l (sN (sR y2 (0, 0) 0 (some 0))) _ hy5) mi_X12_18 dX12_init_20 rfl rfl rfl ⟨Nat.le_of_ble_eq_true rfl, Nat.le_of_ble_eq_true rfl⟩ (Nat.le_of_ble_eq_true rfl) ⟨Nat.le_of_ble_eq_true rfl, Nat.le_of_ble_eq_true rfl⟩ ?_
  refine V.st (st' := [aA 3 (some 0), aA 0 (some 0)]) rfl ?_
  obtain ⟨lv6, E⟩ := guardL_some E
  refine v_putFR C (pc' := 26) fp_X12_19 rfl rfl lv6 dX12_init_23 rfl (t2 := 3) rfl (fun z => by cases z) hnm ?_
  refine v_aload_n C (pc' := 27) dX12_init_26 rfl rfl rfl ?_
  obtain ⟨hu7, E⟩ := guardN_some E
  refine v_new C (pc' := 30) hu7 rfl nw_X12_23 ⟨Nat.le_of_ble_eq_true rfl, Nat.le_of_ble_eq_true rfl⟩ dX12_init_27 rfl ?_
  refine v_dup C (pc' := 31) dX12_init_30 rfl rfl ?_
  obtain ⟨y8, hy8, E⟩ := bind_some E
  refine v_callI C (pc' := 34) (rest := [aA 7 (some 0), aA 0 (some 0)]) (c_al_init l (sN (sR y5 (0, 0) 1 (some 0))) _ hy8) mi_X12_25 dX12_init_31 rfl rfl rfl ⟨Nat.le_of_ble_eq_true rfl, Nat.le_of_ble_eq_true rfl⟩ (Nat.le_of_ble_eq_true rfl) ⟨Nat.le_of_ble_eq_true rfl, Nat.le_of_ble_eq_true rfl⟩ ?_
  refine V.st (st' := [aA 7 (some 0), aA 0 (some 0)]) rfl ?_
  obtain ⟨lv9, E⟩ := guardL_some E
  refine v_putFR C (pc' := 37) fp_X12_26 rfl rfl lv9 dX12_init_34 rfl (t2 := 7) rfl (fun z => by cases z) hnm ?_
  refine v_aload_n C (pc' := 38) dX12_init_37 rfl rfl rfl ?_
  obtain ⟨hu10, E⟩ := guardN_some E
  refine v_new C (pc' := 41) hu10 rfl nw_X12_30 ⟨Nat.le_of_ble_eq_true rfl, Nat.le_of_ble_eq_true rfl⟩ dX12_init_38 rfl ?_
  refine v_dup C (pc' := 42) dX12_init_41 rfl rfl ?_
  obtain ⟨y11, hy11, E⟩ := bind_some E
  refine v_callIN C (pc' := 45) (rest := [aA 8 (some 0), aA 0 (some 0)]) (c_path_init l (sN (sR y8 (0, 0) 2 (some 0))) _ hy11) C.2.2.2.2.2.1.2.2.2.2.2.2.2.2.2.1 mn_X9_init dX12_init_42 rfl rfl rfl ⟨Nat.le_of_ble_eq_true rfl, Nat.le_of_ble_eq_true rfl⟩ (Nat.le_of_ble_eq_true rfl) ⟨Nat.le_of_ble_eq_true rfl, Nat.le_of_ble_eq_true rfl⟩ ?_
  refine V.st (st' := [aA 8 (some 0), aA 0 (some 0)]) rfl ?_
  obtain ⟨lv12, E⟩ := guardL_some E
  refine v_putFR C (pc' := 48) fp_X12_33 rfl rfl lv12 dX12_init_45 rfl (t2 := 8) rfl (fun z => by cases z) hnm ?_
  refine v_aload_n C (pc' := 49) dX12_init_48 rfl rfl rfl ?_
  obtain ⟨hu13, E⟩ := guardN_some E
  refine v_new C (pc' := 52) hu13 rfl nw_X12_37 ⟨Nat.le_of_ble_eq_true rfl, Nat.le_of_ble_eq_true rfl⟩ dX12_init_49 rfl ?_
  refine v_dup C (pc' := 53) dX12_init_52 rfl rfl ?_
  obtain ⟨y14, hy14, E⟩ := bind_some E
  refine v_callIN C (pc' := 56) (rest := [aA 10 (some 0), aA 0 (some 0)]) (c_msg_init l (sN (sR y11 (0, 0) 3 (some 0))) _ hy14) C.2.2.2.2.2.1.2.2.2.2.2.2.2.2.2.2.1 mn_X6_init dX12_init_53 rfl rfl rfl ⟨Nat.le_of_ble_eq_true rfl, Nat.le_of_ble_eq_true rfl⟩ (Nat.le_of_ble_eq_true rfl) ⟨Nat.le_of_ble_eq_true rfl, Nat.le_of_ble_eq_true rfl⟩ ?_
  refine V.st (st' := [aA 10 (some 0), aA 0 (some 0)]) rfl ?_
  obtain ⟨lv15, E⟩ := guardL_some E
  refine v_putFR C (pc' := 59) fp_X12_40 rfl rfl lv15 dX12_init_56 rfl (t2 := 10) rfl (fun z => by cases z) hnm ?_
  refine v_aload_n C (pc' := 60) dX12_init_59 rfl rfl rfl ?_
  obtain ⟨hu16, E⟩ := guardN_some E
  refine v_new C (pc' := 63) hu16 rfl nw_X12_44 ⟨Nat.le_of_ble_eq_true rfl, Nat.le_of_ble_eq_true rfl⟩ dX12_init_60 rfl ?_
  refine v_dup C (pc' := 64) dX12_init_63 rfl rfl ?_
  obtain ⟨y17, hy17, E⟩ := bind_some E
  refine v_callIN C (pc' := 67) (rest := [aA 12 (some 0), aA 0 (some 0)]) (c_cargo_init l (sN (sR y14 (0, 0) 4 (some 0))) _ hy17) C.2.2.2.2.2.1.2.2.2.2.2.2.2.2.2.2.2.1 mn_X2_init dX12_init_64 rfl rfl rfl ⟨Nat.le_of_ble_eq_true rfl, Nat.le_of_ble_eq_true rfl⟩ (Nat.le_of_ble_eq_true rfl) ⟨Nat.le_of_ble_eq_true rfl, Nat.le_of_ble_eq_true rfl⟩ ?_
  refine V.st (st' := [aA 12 (some 0), aA 0 (some 0)]) rfl ?_
  obtain ⟨lv18, E⟩ := guardL_some E
  refine v_putFR C (pc' := 70) fp_X12_47 rfl rfl lv18 dX12_init_67 rfl (t2 := 12) rfl (fun z => by cases z) hnm ?_
  refine v_aload_n C (pc' := 71) dX12_init_70 rfl rfl rfl ?_
  obtain ⟨hu19, E⟩ := guardN_some E
  refine v_new C (pc' := 74) hu19 rfl nw_X12_51 ⟨Nat.le_of_ble_eq_true rfl, Nat.le_of_ble_eq_true rfl⟩ dX12_init_71 rfl ?_
  refine v_dup C (pc' := 75) dX12_init_74 rfl rfl ?_
  obtain ⟨y20, hy20, E⟩ := bind_some E
  refine v_callIN C (pc' := 78) (rest := [aA 14 (some 0), aA 0 (some 0)]) (c_mem_init l 0 (sN (sR y17 (0, 0) 5 (some 0))) _ hy20) C.2.2.2.2.2.1.2.2.2.2.2.2.2.2.2.2.2.2 mn_X5_init dX12_init_75 rfl rfl rfl ⟨Nat.le_of_ble_eq_true rfl, Nat.le_of_ble_eq_true rfl⟩ (Nat.le_of_ble_eq_true rfl) ⟨Nat.le_of_ble_eq_true rfl, Nat.le_of_ble_eq_true rfl⟩ ?_
  refine V.st (st' := [aA 14 (some 0), aA 0 (some 0)]) rfl ?_
  obtain ⟨lv21, E⟩ := guardL_some E
  refine v_putFR C (pc' := 81) fp_X12_54 rfl rfl lv21 dX12_init_78 rfl (t2 := 14) rfl (fun z => by cases z) hnm ?_
  refine v_aload_n C (pc' := 82) dX12_init_81 rfl rfl rfl ?_
  obtain ⟨hu22, E⟩ := guardN_some E
  refine v_new C (pc' := 85) hu22 rfl nw_X12_51 ⟨Nat.le_of_ble_eq_true rfl, Nat.le_of_ble_eq_true rfl⟩ dX12_init_82 rfl ?_
  refine v_dup C (pc' := 86) dX12_init_85 rfl rfl ?_
  obtain ⟨y23, hy23, E⟩ := bind_some E
  refine v_callIN C (pc' := 89) (rest := [aA 14 (some 1), aA 0 (some 0)]) (c_mem_init l 1 (sN (sR y20 (0, 0) 6 (some 0))) _ hy23) C.2.2.2.2.2.1.2.2.2.2.2.2.2.2.2.2.2.2 mn_X5_init dX12_init_86 rfl rfl rfl ⟨Nat.le_of_ble_eq_true rfl, Nat.le_of_ble_eq_true rfl⟩ (Nat.le_of_ble_eq_true rfl) ⟨Nat.le_of_ble_eq_true rfl, Nat.le_of_ble_eq_true rfl⟩ ?_
  refine V.st (st' := [aA 14 (some 1), aA 0 (some 0)]) rfl ?_
  obtain ⟨lv24, E⟩ := guardL_some E
  refine v_putFR C (pc' := 92) fp_X12_58 rfl rfl lv24 dX12_init_89 rfl (t2 := 14) rfl (fun z => by cases z) hnm ?_
  refine v_aload_n C (pc' := 93) dX12_init_92 rfl rfl rfl ?_
  refine v_iconst C (pc' := 94) dX12_init_93 (v := (0 : Int32)) (by decide) rfl ?_
  obtain ⟨lv25, E⟩ := guardL_some E
  refine v_putZ C (pc' := 97) fp_X12_61 rfl rfl lv25 dX12_init_94 rfl (Or.inl rfl) ?_
  refine v_aload_n C (pc' := 98) dX12_init_97 rfl rfl rfl ?_
  refine v_iconst C (pc' := 99) dX12_init_98 (v := (0 : Int32)) (by decide) rfl ?_
  obtain ⟨lv26, E⟩ := guardL_some E
  refine v_putI C (pc' := 102) fp_X12_65 rfl rfl lv26 dX12_init_99 rfl ?_
  refine v_aload_n C (pc' := 103) dX12_init_102 rfl rfl rfl ?_
  refine v_null C (pc' := 104) (t := 5) dX12_init_103 rfl ?_
  obtain ⟨lv27, E⟩ := guardL_some E
  refine v_putR C (pc' := 107) fp_X12_69 rfl rfl lv27 dX12_init_104 rfl (t2 := 5) rfl (fun z => by cases z) ?_
  refine v_aload_n C (pc' := 108) dX12_init_107 rfl rfl rfl ?_
  refine v_null C (pc' := 109) (t := 5) dX12_init_108 rfl ?_
  obtain ⟨lv28, E⟩ := guardL_some E
  refine v_putR C (pc' := 112) fp_X12_73 rfl rfl lv28 dX12_init_109 rfl (t2 := 5) rfl (fun z => by cases z) ?_
  refine v_aload_n C (pc' := 113) dX12_init_112 rfl rfl rfl ?_
  refine v_iconst C (pc' := 114) dX12_init_113 (v := (0 : Int32)) (by decide) rfl ?_
  obtain ⟨lv29, E⟩ := guardL_some E
  refine v_putZ C (pc' := 117) fp_X12_76 rfl rfl lv29 dX12_init_114 rfl (Or.inl rfl) ?_
  refine v_aload_n C (pc' := 118) dX12_init_117 rfl rfl rfl ?_
  refine v_gsW C (pc' := 121) (k := 0) (by decide) (TT_of (i := 299) (by decide +kernel) (by decide +kernel)) dX12_init_118 rfl ?_
  obtain ⟨lv30, E⟩ := guardL_some E
  refine v_putR C (pc' := 124) fp_X12_85 rfl rfl lv30 dX12_init_121 rfl (t2 := 102) rfl (fun z => by cases z) ?_
  refine v_aload_n C (pc' := 125) dX12_init_124 rfl rfl rfl ?_
  refine v_iconst C (pc' := 126) dX12_init_125 (v := (-1 : Int32)) (by decide) rfl ?_
  obtain ⟨lv31, E⟩ := guardL_some E
  refine v_putI C (pc' := 129) fp_X12_88 rfl rfl lv31 dX12_init_126 rfl ?_
  refine v_aload_n C (pc' := 130) dX12_init_129 rfl rfl rfl ?_
  refine v_iconst C (pc' := 131) dX12_init_130 (v := (-1 : Int32)) (by decide) rfl ?_
  obtain ⟨lv32, E⟩ := guardL_some E
  refine v_putI C (pc' := 134) fp_X12_91 rfl rfl lv32 dX12_init_131 rfl ?_
  cases E
  exact v_retv C hr hlk dX12_init_134

def m_init  (h : Hp) : Option Hp :=
  guardN 21 0 h <|
  guardL 20 0 (sN h) <|
  guardN 22 0 (sR (sN h) (20, 0) 0 (some 0)) <|
  guardL 20 0 (sN (sR (sN h) (20, 0) 0 (some 0))) <|
  guardN 23 0 (sR (sN (sR (sN h) (20, 0) 0 (some 0))) (20, 0) 1 (some 0)) <|
  guardL 20 0 (sN (sR (sN (sR (sN h) (20, 0) 0 (some 0))) (20, 0) 1 (some 0))) <|
  guardN 24 0 (sR (sN (sR (sN (sR (sN h) (20, 0) 0 (some 0))) (20, 0) 1 (some 0))) (20, 0) 2 (some 0)) <|
  guardL 20 0 (sN (sR (sN (sR (sN (sR (sN h) (20, 0) 0 (some 0))) (20, 0) 1 (some 0))) (20, 0) 2 (some 0))) <|
  guardN 25 0 (sR (sN (sR (sN (sR (sN (sR (sN h) (20, 0) 0 (some 0))) (20, 0) 1 (some 0))) (20, 0) 2 (some 0))) (20, 0) 3 (some 0)) <|
  guardL 20 0 (sN (sR (sN (sR (sN (sR (sN (sR (sN h) (20, 0) 0 (some 0))) (20, 0) 1 (some 0))) (20, 0) 2 (some 0))) (20, 0) 3 (some 0))) <|
  guardN 26 0 (sR (sN (sR (sN (sR (sN (sR (sN (sR (sN h) (20, 0) 0 (some 0))) (20, 0) 1 (some 0))) (20, 0) 2 (some 0))) (20, 0) 3 (some 0))) (20, 0) 4 (some 0)) <|
  guardL 20 0 (sN (sR (sN (sR (sN (sR (sN (sR (sN (sR (sN h) (20, 0) 0 (some 0))) (20, 0) 1 (some 0))) (20, 0) 2 (some 0))) (20, 0) 3 (some 0))) (20, 0) 4 (some 0))) <|
  guardN 27 0 (sR (sN (sR (sN (sR (sN (sR (sN (sR (sN (sR (sN h) (20, 0) 0 (some 0))) (20, 0) 1 (some 0))) (20, 0) 2 (some 0))) (20, 0) 3 (some 0))) (20, 0) 4 (some 0))) (20, 0) 6 (some 0)) <|
  guardL 20 0 (sN (sR (sN (sR (sN (sR (sN (sR (sN (sR (sN (sR (sN h) (20, 0) 0 (some 0))) (20, 0) 1 (some 0))) (20, 0) 2 (some 0))) (20, 0) 3 (some 0))) (20, 0) 4 (some 0))) (20, 0) 6 (some 0))) <|
  guardN 28 0 (sR (sN (sR (sN (sR (sN (sR (sN (sR (sN (sR (sN (sR (sN h) (20, 0) 0 (some 0))) (20, 0) 1 (some 0))) (20, 0) 2 (some 0))) (20, 0) 3 (some 0))) (20, 0) 4 (some 0))) (20, 0) 6 (some 0))) (20, 0) 7 (some 0)) <|
  guardL 20 0 (sN (sR (sN (sR (sN (sR (sN (sR (sN (sR (sN (sR (sN (sR (sN h) (20, 0) 0 (some 0))) (20, 0) 1 (some 0))) (20, 0) 2 (some 0))) (20, 0) 3 (some 0))) (20, 0) 4 (some 0))) (20, 0) 6 (some 0))) (20, 0) 7 (some 0))) <|
  guardN 29 0 (sR (sN (sR (sN (sR (sN (sR (sN (sR (sN (sR (sN (sR (sN (sR (sN h) (20, 0) 0 (some 0))) (20, 0) 1 (some 0))) (20, 0) 2 (some 0))) (20, 0) 3 (some 0))) (20, 0) 4 (some 0))) (20, 0) 6 (some 0))) (20, 0) 7 (some 0))) (20, 0) 8 (some 0)) <|
  guardL 20 0 (sN (sR (sN (sR (sN (sR (sN (sR (sN (sR (sN (sR (sN (sR (sN (sR (sN h) (20, 0) 0 (some 0))) (20, 0) 1 (some 0))) (20, 0) 2 (some 0))) (20, 0) 3 (some 0))) (20, 0) 4 (some 0))) (20, 0) 6 (some 0))) (20, 0) 7 (some 0))) (20, 0) 8 (some 0))) <|
  guardN 30 0 (sR (sN (sR (sN (sR (sN (sR (sN (sR (sN (sR (sN (sR (sN (sR (sN (sR (sN h) (20, 0) 0 (some 0))) (20, 0) 1 (some 0))) (20, 0) 2 (some 0))) (20, 0) 3 (some 0))) (20, 0) 4 (some 0))) (20, 0) 6 (some 0))) (20, 0) 7 (some 0))) (20, 0) 8 (some 0))) (20, 0) 10 (some 0)) <|
  guardL 20 0 (sN (sR (sN (sR (sN (sR (sN (sR (sN (sR (sN (sR (sN (sR (sN (sR (sN (sR (sN h) (20, 0) 0 (some 0))) (20, 0) 1 (some 0))) (20, 0) 2 (some 0))) (20, 0) 3 (some 0))) (20, 0) 4 (some 0))) (20, 0) 6 (some 0))) (20, 0) 7 (some 0))) (20, 0) 8 (some 0))) (20, 0) 10 (some 0))) <|
  guardL 20 0 (sR (sN (sR (sN (sR (sN (sR (sN (sR (sN (sR (sN (sR (sN (sR (sN (sR (sN (sR (sN h) (20, 0) 0 (some 0))) (20, 0) 1 (some 0))) (20, 0) 2 (some 0))) (20, 0) 3 (some 0))) (20, 0) 4 (some 0))) (20, 0) 6 (some 0))) (20, 0) 7 (some 0))) (20, 0) 8 (some 0))) (20, 0) 10 (some 0))) (20, 0) 15 (some 0)) <|
  guardL 20 0 (sI (sR (sN (sR (sN (sR (sN (sR (sN (sR (sN (sR (sN (sR (sN (sR (sN (sR (sN (sR (sN h) (20, 0) 0 (some 0))) (20, 0) 1 (some 0))) (20, 0) 2 (some 0))) (20, 0) 3 (some 0))) (20, 0) 4 (some 0))) (20, 0) 6 (some 0))) (20, 0) 7 (some 0))) (20, 0) 8 (some 0))) (20, 0) 10 (some 0))) (20, 0) 15 (some 0)) (20, 0) 16 (-1 : Int32)) <|
  guardL 20 0 (sI (sI (sR (sN (sR (sN (sR (sN (sR (sN (sR (sN (sR (sN (sR (sN (sR (sN (sR (sN (sR (sN h) (20, 0) 0 (some 0))) (20, 0) 1 (some 0))) (20, 0) 2 (some 0))) (20, 0) 3 (some 0))) (20, 0) 4 (some 0))) (20, 0) 6 (some 0))) (20, 0) 7 (some 0))) (20, 0) 8 (some 0))) (20, 0) 10 (some 0))) (20, 0) 15 (some 0)) (20, 0) 16 (-1 : Int32)) (20, 0) 20 (-1 : Int32)) <|
  guardN 31 0 (sI (sI (sI (sR (sN (sR (sN (sR (sN (sR (sN (sR (sN (sR (sN (sR (sN (sR (sN (sR (sN (sR (sN h) (20, 0) 0 (some 0))) (20, 0) 1 (some 0))) (20, 0) 2 (some 0))) (20, 0) 3 (some 0))) (20, 0) 4 (some 0))) (20, 0) 6 (some 0))) (20, 0) 7 (some 0))) (20, 0) 8 (some 0))) (20, 0) 10 (some 0))) (20, 0) 15 (some 0)) (20, 0) 16 (-1 : Int32)) (20, 0) 20 (-1 : Int32)) (20, 0) 27 (-1 : Int32)) <|
  guardL 20 0 (sN (sI (sI (sI (sR (sN (sR (sN (sR (sN (sR (sN (sR (sN (sR (sN (sR (sN (sR (sN (sR (sN (sR (sN h) (20, 0) 0 (some 0))) (20, 0) 1 (some 0))) (20, 0) 2 (some 0))) (20, 0) 3 (some 0))) (20, 0) 4 (some 0))) (20, 0) 6 (some 0))) (20, 0) 7 (some 0))) (20, 0) 8 (some 0))) (20, 0) 10 (some 0))) (20, 0) 15 (some 0)) (20, 0) 16 (-1 : Int32)) (20, 0) 20 (-1 : Int32)) (20, 0) 27 (-1 : Int32))) <|
  some (sR (sN (sI (sI (sI (sR (sN (sR (sN (sR (sN (sR (sN (sR (sN (sR (sN (sR (sN (sR (sN (sR (sN (sR (sN h) (20, 0) 0 (some 0))) (20, 0) 1 (some 0))) (20, 0) 2 (some 0))) (20, 0) 3 (some 0))) (20, 0) 4 (some 0))) (20, 0) 6 (some 0))) (20, 0) 7 (some 0))) (20, 0) 8 (some 0))) (20, 0) 10 (some 0))) (20, 0) 15 (some 0)) (20, 0) 16 (-1 : Int32)) (20, 0) 20 (-1 : Int32)) (20, 0) 27 (-1 : Int32))) (20, 0) 31 (some 0))
set_option maxHeartbeats 2000000 in
set_option maxRecDepth 20000 in
theorem c_m_init (l : Launch)  (h : Hp) (h' : Hp)  (E : m_init  h = some h') : Ctr l yX13_init cX13_init 1 none 1 20 11 1360 false [aA 20 (some 0)] h none h' := by
  rw [m_init] at E
  refine Ctr.of (ls0 := [some (aA 20 (some 0))]) (by decide +kernel) (Nat.le_of_ble_eq_true rfl) rfl ?_
  intro G p e s m args below meth c C hr hlk hnm
  refine v_aload_n C (pc' := 1) dX13_init_0 rfl rfl rfl ?_
  refine v_oinit C (pc' := 4) (TT_of (i := 903) (by decide +kernel) (by decide +kernel)) dX13_init_1 rfl (Nat.le_of_ble_eq_true rfl) (Nat.le_of_ble_eq_true rfl) ?_
  refine v_aload_n C (pc' := 5) dX13_init_4 rfl rfl rfl ?_
  refine v_bipush C (pc' := 7) dX13_init_5 (v := (24 : Int32)) (by decide) rfl ?_
  obtain ⟨hu1, E⟩ := guardN_some E
  refine v_newaI C (pc' := 9) hu1 rfl (TT_of (i := 166) (by decide +kernel) (by decide +kernel)) (by decide) (by decide) (by decide) ⟨Nat.le_of_ble_eq_true rfl, Nat.le_of_ble_eq_true rfl⟩ dX13_init_7 rfl ?_
  obtain ⟨lv2, E⟩ := guardL_some E
  refine v_putFR C (pc' := 12) fp_X13_7 rfl rfl lv2 dX13_init_9 rfl (t2 := 21) rfl (fun z => by cases z) hnm ?_
  refine v_aload_n C (pc' := 13) dX13_init_12 rfl rfl rfl ?_
  refine v_bipush C (pc' := 15) dX13_init_13 (v := (24 : Int32)) (by decide) rfl ?_
  obtain ⟨hu3, E⟩ := guardN_some E
  refine v_newaI C (pc' := 17) hu3 rfl (TT_of (i := 166) (by decide +kernel) (by decide +kernel)) (by decide) (by decide) (by decide) ⟨Nat.le_of_ble_eq_true rfl, Nat.le_of_ble_eq_true rfl⟩ dX13_init_15 rfl ?_
  obtain ⟨lv4, E⟩ := guardL_some E
  refine v_putFR C (pc' := 20) fp_X13_13 rfl rfl lv4 dX13_init_17 rfl (t2 := 22) rfl (fun z => by cases z) hnm ?_
  refine v_aload_n C (pc' := 21) dX13_init_20 rfl rfl rfl ?_
  refine v_bipush C (pc' := 23) dX13_init_21 (v := (24 : Int32)) (by decide) rfl ?_
  obtain ⟨hu5, E⟩ := guardN_some E
  refine v_newaJ C (pc' := 25) hu5 rfl (TT_of (i := 228) (by decide +kernel) (by decide +kernel)) (by decide) (by decide) (by decide) ⟨Nat.le_of_ble_eq_true rfl, Nat.le_of_ble_eq_true rfl⟩ dX13_init_23 rfl ?_
  obtain ⟨lv6, E⟩ := guardL_some E
  refine v_putFR C (pc' := 28) fp_X13_16 rfl rfl lv6 dX13_init_25 rfl (t2 := 23) rfl (fun z => by cases z) hnm ?_
  refine v_aload_n C (pc' := 29) dX13_init_28 rfl rfl rfl ?_
  refine v_bipush C (pc' := 31) dX13_init_29 (v := (24 : Int32)) (by decide) rfl ?_
  obtain ⟨hu7, E⟩ := guardN_some E
  refine v_newaI C (pc' := 33) hu7 rfl (TT_of (i := 166) (by decide +kernel) (by decide +kernel)) (by decide) (by decide) (by decide) ⟨Nat.le_of_ble_eq_true rfl, Nat.le_of_ble_eq_true rfl⟩ dX13_init_31 rfl ?_
  obtain ⟨lv8, E⟩ := guardL_some E
  refine v_putFR C (pc' := 36) fp_X13_20 rfl rfl lv8 dX13_init_33 rfl (t2 := 24) rfl (fun z => by cases z) hnm ?_
  refine v_aload_n C (pc' := 37) dX13_init_36 rfl rfl rfl ?_
  refine v_sipush C (pc' := 40) dX13_init_37 (v := (768 : Int32)) (by decide) rfl ?_
  obtain ⟨hu9, E⟩ := guardN_some E
  refine v_newaI C (pc' := 42) hu9 rfl (TT_of (i := 166) (by decide +kernel) (by decide +kernel)) (by decide) (by decide) (by decide) ⟨Nat.le_of_ble_eq_true rfl, Nat.le_of_ble_eq_true rfl⟩ dX13_init_40 rfl ?_
  obtain ⟨lv10, E⟩ := guardL_some E
  refine v_putFR C (pc' := 45) fp_X13_23 rfl rfl lv10 dX13_init_42 rfl (t2 := 25) rfl (fun z => by cases z) hnm ?_
  refine v_aload_n C (pc' := 46) dX13_init_45 rfl rfl rfl ?_
  refine v_iconst C (pc' := 47) dX13_init_46 (v := (4 : Int32)) (by decide) rfl ?_
  obtain ⟨hu11, E⟩ := guardN_some E
  refine v_newaJ C (pc' := 49) hu11 rfl (TT_of (i := 228) (by decide +kernel) (by decide +kernel)) (by decide) (by decide) (by decide) ⟨Nat.le_of_ble_eq_true rfl, Nat.le_of_ble_eq_true rfl⟩ dX13_init_47 rfl ?_
  obtain ⟨lv12, E⟩ := guardL_some E
  refine v_putFR C (pc' := 52) fp_X13_26 rfl rfl lv12 dX13_init_49 rfl (t2 := 26) rfl (fun z => by cases z) hnm ?_
  refine v_aload_n C (pc' := 53) dX13_init_52 rfl rfl rfl ?_
  refine v_iconst C (pc' := 54) dX13_init_53 (v := (4 : Int32)) (by decide) rfl ?_
  obtain ⟨hu13, E⟩ := guardN_some E
  refine v_newaJ C (pc' := 56) hu13 rfl (TT_of (i := 228) (by decide +kernel) (by decide +kernel)) (by decide) (by decide) (by decide) ⟨Nat.le_of_ble_eq_true rfl, Nat.le_of_ble_eq_true rfl⟩ dX13_init_54 rfl ?_
  obtain ⟨lv14, E⟩ := guardL_some E
  refine v_putFR C (pc' := 59) fp_X13_29 rfl rfl lv14 dX13_init_56 rfl (t2 := 27) rfl (fun z => by cases z) hnm ?_
  refine v_aload_n C (pc' := 60) dX13_init_59 rfl rfl rfl ?_
  refine v_iconst C (pc' := 61) dX13_init_60 (v := (4 : Int32)) (by decide) rfl ?_
  obtain ⟨hu15, E⟩ := guardN_some E
  refine v_newaI C (pc' := 63) hu15 rfl (TT_of (i := 166) (by decide +kernel) (by decide +kernel)) (by decide) (by decide) (by decide) ⟨Nat.le_of_ble_eq_true rfl, Nat.le_of_ble_eq_true rfl⟩ dX13_init_61 rfl ?_
  obtain ⟨lv16, E⟩ := guardL_some E
  refine v_putFR C (pc' := 66) fp_X13_32 rfl rfl lv16 dX13_init_63 rfl (t2 := 28) rfl (fun z => by cases z) hnm ?_
  refine v_aload_n C (pc' := 67) dX13_init_66 rfl rfl rfl ?_
  refine v_bipush C (pc' := 69) dX13_init_67 (v := (32 : Int32)) (by decide) rfl ?_
  obtain ⟨hu17, E⟩ := guardN_some E
  refine v_newaC C (pc' := 71) hu17 rfl (TT_of (i := 118) (by decide +kernel) (by decide +kernel)) (by decide) (by decide) (by decide) ⟨Nat.le_of_ble_eq_true rfl, Nat.le_of_ble_eq_true rfl⟩ dX13_init_69 rfl ?_
  obtain ⟨lv18, E⟩ := guardL_some E
  refine v_putFR C (pc' := 74) fp_X13_35 rfl rfl lv18 dX13_init_71 rfl (t2 := 29) rfl (fun z => by cases z) hnm ?_
  refine v_aload_n C (pc' := 75) dX13_init_74 rfl rfl rfl ?_
  refine v_sipush C (pc' := 78) dX13_init_75 (v := (200 : Int32)) (by decide) rfl ?_
  obtain ⟨hu19, E⟩ := guardN_some E
  refine v_newaC C (pc' := 80) hu19 rfl (TT_of (i := 118) (by decide +kernel) (by decide +kernel)) (by decide) (by decide) (by decide) ⟨Nat.le_of_ble_eq_true rfl, Nat.le_of_ble_eq_true rfl⟩ dX13_init_78 rfl ?_
  obtain ⟨lv20, E⟩ := guardL_some E
  refine v_putFR C (pc' := 83) fp_X13_39 rfl rfl lv20 dX13_init_80 rfl (t2 := 30) rfl (fun z => by cases z) hnm ?_
  refine v_aload_n C (pc' := 84) dX13_init_83 rfl rfl rfl ?_
  refine v_iconst C (pc' := 85) dX13_init_84 (v := (-1 : Int32)) (by decide) rfl ?_
  obtain ⟨lv21, E⟩ := guardL_some E
  refine v_putI C (pc' := 88) fp_X13_42 rfl rfl lv21 dX13_init_85 rfl ?_
  refine v_aload_n C (pc' := 89) dX13_init_88 rfl rfl rfl ?_
  refine v_iconst C (pc' := 90) dX13_init_89 (v := (-1 : Int32)) (by decide) rfl ?_
  obtain ⟨lv22, E⟩ := guardL_some E
  refine v_putI C (pc' := 93) fp_X13_46 rfl rfl lv22 dX13_init_90 rfl ?_
  refine v_aload_n C (pc' := 94) dX13_init_93 rfl rfl rfl ?_
  refine v_iconst C (pc' := 95) dX13_init_94 (v := (-1 : Int32)) (by decide) rfl ?_
  obtain ⟨lv23, E⟩ := guardL_some E
  refine v_putI C (pc' := 98) fp_X13_49 rfl rfl lv23 dX13_init_95 rfl ?_
  refine v_aload_n C (pc' := 99) dX13_init_98 rfl rfl rfl ?_
  refine v_sipush C (pc' := 102) dX13_init_99 (v := (200 : Int32)) (by decide) rfl ?_
  obtain ⟨hu24, E⟩ := guardN_some E
  refine v_newaI C (pc' := 104) hu24 rfl (TT_of (i := 166) (by decide +kernel) (by decide +kernel)) (by decide) (by decide) (by decide) ⟨Nat.le_of_ble_eq_true rfl, Nat.le_of_ble_eq_true rfl⟩ dX13_init_102 rfl ?_
  obtain ⟨lv25, E⟩ := guardL_some E
  refine v_putFR C (pc' := 107) fp_X13_52 rfl rfl lv25 dX13_init_104 rfl (t2 := 31) rfl (fun z => by cases z) hnm ?_
  cases E
  refine V.widen (ce := 11) (sl := 1360) (Nat.le_of_ble_eq_true rfl) (Nat.le_of_ble_eq_true rfl) ?_
  exact v_retv C hr hlk dX13_init_107
