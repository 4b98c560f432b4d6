/-! the commands by their numbers, on both sides -/
theorem eta (o : Option (Int32 × Hp)) : (o.bind fun y => some (y.1, y.2)) = o := by cases o <;> rfl
theorem Res_hi {x z : Option (Int32 × Hp)} {c y m : Hp} (h : Res x z y m) (e : hiP y = hiP c) : Res x z c m := by
  obtain ⟨r, c', m', h1, h2, h3, h4, h5, h6⟩ := h
  exact ⟨r, c', m', h1, h2, h3, h4, by rw [h5, e], h6⟩
theorem j74_0 (y : Hp) : r_answerLine_j74 (some 0) y = r_nameUser y := by
  rw [r_answerLine_j74, nd22 (by decide), Option.bind_some, if_neg (by decide), if_neg (by decide), eta, r_run, nd22 (by decide), Option.bind_some, gB (by decide) (by decide), clI (by decide), if_pos (by decide), eta]
theorem j73_0 (m : Hp) : m_run_j73 (nI 1) m = m_enterAs (1 : Int32) m := by
  rw [show nI 1 = (1 : Int32) from rfl, m_run_j73, if_neg (by decide), eta, eta]
theorem j74_1 (y : Hp) : r_answerLine_j74 (some 1) y = r_logIn y := by
  rw [r_answerLine_j74, nd22 (by decide), Option.bind_some, if_neg (by decide), if_neg (by decide), eta, r_run, nd22 (by decide), Option.bind_some, gB (by decide) (by decide), clI (by decide), if_neg (by decide), if_pos (by decide), eta]
theorem j73_1 (m : Hp) : m_run_j73 (nI 2) m = m_enterAs (2 : Int32) m := by
  rw [show nI 2 = (2 : Int32) from rfl, m_run_j73, if_neg (by decide), eta, eta]
theorem j74_2 (y : Hp) : r_answerLine_j74 (some 2) y = r_quit y := by
  rw [r_answerLine_j74, nd22 (by decide), Option.bind_some, if_neg (by decide), if_neg (by decide), eta, r_run, nd22 (by decide), Option.bind_some, gB (by decide) (by decide), clI (by decide), if_neg (by decide), if_neg (by decide), if_pos (by decide), eta]
theorem j73_2 (m : Hp) : m_run_j73 (nI 3) m = m_enterAs (3 : Int32) m := by
  rw [show nI 3 = (3 : Int32) from rfl, m_run_j73, if_neg (by decide), eta, eta]
theorem j74_3 (y : Hp) : r_answerLine_j74 (some 3) y = some ((200 : Int32), y) := by
  rw [r_answerLine_j74, nd22 (by decide), Option.bind_some, if_neg (by decide), if_neg (by decide), eta, r_run, nd22 (by decide), Option.bind_some, gB (by decide) (by decide), clI (by decide), if_neg (by decide), if_neg (by decide), if_neg (by decide), if_neg (by decide), if_neg (by decide), if_neg (by decide), if_neg (by decide), if_neg (by decide), if_neg (by decide), if_neg (by decide)]
theorem j73_3 (m : Hp) : m_run_j73 (nI 4) m = m_enterAs (4 : Int32) m := by
  rw [show nI 4 = (4 : Int32) from rfl, m_run_j73, if_neg (by decide), eta, eta]
theorem j74_4 (y : Hp) : r_answerLine_j74 (some 4) y = (msg_spellPath (gR y (0, 0) 11) y).bind fun y10 => some ((257 : Int32), y10) := by
  rw [r_answerLine_j74, nd22 (by decide), Option.bind_some, if_neg (by decide), if_neg (by decide), eta, r_run, nd22 (by decide), Option.bind_some, gB (by decide) (by decide), clI (by decide), if_neg (by decide), if_neg (by decide), if_neg (by decide), if_pos (by decide)]
theorem j73_4 (m : Hp) : m_run_j73 (nI 5) m = m_change (5 : Int32) m := by
  rw [show nI 5 = (5 : Int32) from rfl, m_run_j73, if_pos (by decide), if_neg (by decide), eta, eta]
theorem rop_5 (y : Hp) : r_runOnPath (some 5) y = r_changeTo (gR y (8, 0) 4) (250 : Int32) y := by
  rw [r_runOnPath, nd22 (by decide), Option.bind_some, gB (by decide) (by decide), clI (by decide), if_pos (by decide), eta]
theorem j74_5 (y : Hp) : r_answerLine_j74 (some 5) y = (path_walk (gR y (0, 0) 10) (gR y (0, 0) 11) y).bind fun y17 => r_runOnPath (some 5) y17 := by
  rw [r_answerLine_j74, nd22 (by decide), Option.bind_some, if_pos (by decide), r_answerLine_j90]
  cases path_walk (gR y (0, 0) 10) (gR y (0, 0) 11) y with
  | none => rfl
  | some z => rw [Option.bind_some, Option.bind_some, eta]
theorem j73_5 (m : Hp) : m_run_j73 (nI 6) m = m_change (6 : Int32) m := by
  rw [show nI 6 = (6 : Int32) from rfl, m_run_j73, if_pos (by decide), if_neg (by decide), eta, eta]
theorem j74_6 (y : Hp) : r_answerLine_j74 (some 6) y = (tree_step (gR y (0, 0) 11) (50775103373312 : Int64) y).bind fun y12 => (r_changeTo y12 (200 : Int32) y).bind fun y13 => some (y13.1, y13.2) := by
  rw [r_answerLine_j74, nd22 (by decide), Option.bind_some, if_neg (by decide), if_neg (by decide), eta, r_run, nd22 (by decide), Option.bind_some, gB (by decide) (by decide), clI (by decide), if_neg (by decide), if_neg (by decide), if_neg (by decide), if_neg (by decide), if_pos (by decide)]
theorem j73_6 (m : Hp) : m_run_j73 (nI 7) m = m_change (7 : Int32) m := by
  rw [show nI 7 = (7 : Int32) from rfl, m_run_j73, if_pos (by decide), if_neg (by decide), eta, eta]
theorem rop_7 (y : Hp) : r_runOnPath (some 7) y = r_makeDirectory y := by
  rw [r_runOnPath, nd22 (by decide), Option.bind_some, gB (by decide) (by decide), clI (by decide), if_neg (by decide), if_pos (by decide), eta]
theorem j74_7 (y : Hp) : r_answerLine_j74 (some 7) y = (path_walk (gR y (0, 0) 10) (gR y (0, 0) 11) y).bind fun y17 => r_runOnPath (some 7) y17 := by
  rw [r_answerLine_j74, nd22 (by decide), Option.bind_some, if_pos (by decide), r_answerLine_j90]
  cases path_walk (gR y (0, 0) 10) (gR y (0, 0) 11) y with
  | none => rfl
  | some z => rw [Option.bind_some, Option.bind_some, eta]
theorem j73_7 (m : Hp) : m_run_j73 (nI 8) m = m_change (8 : Int32) m := by
  rw [show nI 8 = (8 : Int32) from rfl, m_run_j73, if_pos (by decide), if_neg (by decide), eta, eta]
theorem rop_8 (y : Hp) : r_runOnPath (some 8) y = r_removeDirectory y := by
  rw [r_runOnPath, nd22 (by decide), Option.bind_some, gB (by decide) (by decide), clI (by decide), if_neg (by decide), if_neg (by decide), if_pos (by decide), eta]
theorem j74_8 (y : Hp) : r_answerLine_j74 (some 8) y = (path_walk (gR y (0, 0) 10) (gR y (0, 0) 11) y).bind fun y17 => r_runOnPath (some 8) y17 := by
  rw [r_answerLine_j74, nd22 (by decide), Option.bind_some, if_pos (by decide), r_answerLine_j90]
  cases path_walk (gR y (0, 0) 10) (gR y (0, 0) 11) y with
  | none => rfl
  | some z => rw [Option.bind_some, Option.bind_some, eta]
theorem j73_8 (m : Hp) : m_run_j73 (nI 9) m = m_change (9 : Int32) m := by
  rw [show nI 9 = (9 : Int32) from rfl, m_run_j73, if_pos (by decide), if_neg (by decide), eta, eta]
theorem rop_9 (y : Hp) : r_runOnPath (some 9) y = r_deleteFile y := by
  rw [r_runOnPath, nd22 (by decide), Option.bind_some, gB (by decide) (by decide), clI (by decide), if_neg (by decide), if_neg (by decide), if_neg (by decide), if_pos (by decide), eta]
theorem j74_9 (y : Hp) : r_answerLine_j74 (some 9) y = (path_walk (gR y (0, 0) 10) (gR y (0, 0) 11) y).bind fun y17 => r_runOnPath (some 9) y17 := by
  rw [r_answerLine_j74, nd22 (by decide), Option.bind_some, if_pos (by decide), r_answerLine_j90]
  cases path_walk (gR y (0, 0) 10) (gR y (0, 0) 11) y with
  | none => rfl
  | some z => rw [Option.bind_some, Option.bind_some, eta]
theorem j73_9 (m : Hp) : m_run_j73 (nI 10) m = m_change (10 : Int32) m := by
  rw [show nI 10 = (10 : Int32) from rfl, m_run_j73, if_pos (by decide), if_neg (by decide), eta, eta]
theorem rop_10 (y : Hp) : r_runOnPath (some 10) y = r_tellSize y := by
  rw [r_runOnPath, nd22 (by decide), Option.bind_some, gB (by decide) (by decide), clI (by decide), if_neg (by decide), if_neg (by decide), if_neg (by decide), if_neg (by decide), if_pos (by decide), eta]
theorem j74_10 (y : Hp) : r_answerLine_j74 (some 10) y = (path_walk (gR y (0, 0) 10) (gR y (0, 0) 11) y).bind fun y17 => r_runOnPath (some 10) y17 := by
  rw [r_answerLine_j74, nd22 (by decide), Option.bind_some, if_pos (by decide), r_answerLine_j90]
  cases path_walk (gR y (0, 0) 10) (gR y (0, 0) 11) y with
  | none => rfl
  | some z => rw [Option.bind_some, Option.bind_some, eta]
theorem j73_10 (m : Hp) : m_run_j73 (nI 11) m = m_change (11 : Int32) m := by
  rw [show nI 11 = (11 : Int32) from rfl, m_run_j73, if_pos (by decide), if_neg (by decide), eta, eta]
theorem rop_11 (y : Hp) : r_runOnPath (some 11) y = r_renameFrom y := by
  rw [r_runOnPath, nd22 (by decide), Option.bind_some, gB (by decide) (by decide), clI (by decide), if_neg (by decide), if_neg (by decide), if_neg (by decide), if_neg (by decide), if_neg (by decide), if_pos (by decide), eta]
theorem j74_11 (y : Hp) : r_answerLine_j74 (some 11) y = (path_walk (gR y (0, 0) 10) (gR y (0, 0) 11) y).bind fun y17 => r_runOnPath (some 11) y17 := by
  rw [r_answerLine_j74, nd22 (by decide), Option.bind_some, if_pos (by decide), r_answerLine_j90]
  cases path_walk (gR y (0, 0) 10) (gR y (0, 0) 11) y with
  | none => rfl
  | some z => rw [Option.bind_some, Option.bind_some, eta]
theorem j73_11 (m : Hp) : m_run_j73 (nI 12) m = m_change (12 : Int32) m := by
  rw [show nI 12 = (12 : Int32) from rfl, m_run_j73, if_pos (by decide), if_neg (by decide), eta, eta]
theorem rop_12 (y : Hp) : r_runOnPath (some 12) y = r_renameTo y := by
  rw [r_runOnPath, nd22 (by decide), Option.bind_some, gB (by decide) (by decide), clI (by decide), if_neg (by decide), if_neg (by decide), if_neg (by decide), if_neg (by decide), if_neg (by decide), if_neg (by decide), if_pos (by decide), eta]
theorem j74_12 (y : Hp) : r_answerLine_j74 (some 12) y = (path_walk (gR y (0, 0) 10) (gR y (0, 0) 11) y).bind fun y17 => r_runOnPath (some 12) y17 := by
  rw [r_answerLine_j74, nd22 (by decide), Option.bind_some, if_pos (by decide), r_answerLine_j90]
  cases path_walk (gR y (0, 0) 10) (gR y (0, 0) 11) y with
  | none => rfl
  | some z => rw [Option.bind_some, Option.bind_some, eta]
theorem j73_12 (m : Hp) : m_run_j73 (nI 13) m = m_change (13 : Int32) m := by
  rw [show nI 13 = (13 : Int32) from rfl, m_run_j73, if_pos (by decide), if_neg (by decide), eta, eta]
theorem j74_13 (y : Hp) : r_answerLine_j74 (some 13) y = r_chooseType y := by
  rw [r_answerLine_j74, nd22 (by decide), Option.bind_some, if_neg (by decide), if_neg (by decide), eta, r_run, nd22 (by decide), Option.bind_some, gB (by decide) (by decide), clI (by decide), if_neg (by decide), if_neg (by decide), if_neg (by decide), if_neg (by decide), if_neg (by decide), if_pos (by decide), eta]
theorem j73_13 (m : Hp) : m_run_j73 (nI 14) m = m_prepare (14 : Int32) m := by
  rw [show nI 14 = (14 : Int32) from rfl, m_run_j73, if_pos (by decide), if_pos (by decide), if_neg (by decide), eta, eta]
theorem j74_14 (y : Hp) : r_answerLine_j74 (some 14) y = r_restart y := by
  rw [r_answerLine_j74, nd22 (by decide), Option.bind_some, if_neg (by decide), if_neg (by decide), eta, r_run, nd22 (by decide), Option.bind_some, gB (by decide) (by decide), clI (by decide), if_neg (by decide), if_neg (by decide), if_neg (by decide), if_neg (by decide), if_neg (by decide), if_neg (by decide), if_pos (by decide), eta]
theorem j73_14 (m : Hp) : m_run_j73 (nI 15) m = m_prepare (15 : Int32) m := by
  rw [show nI 15 = (15 : Int32) from rfl, m_run_j73, if_pos (by decide), if_pos (by decide), if_neg (by decide), eta, eta]
theorem j74_15 (y : Hp) : r_answerLine_j74 (some 15) y = some ((227 : Int32), sR y (0, 0) 13 (some 1)) := by
  rw [r_answerLine_j74, nd22 (by decide), Option.bind_some, if_neg (by decide), if_neg (by decide), eta, r_run, nd22 (by decide), Option.bind_some, gB (by decide) (by decide), clI (by decide), if_neg (by decide), if_neg (by decide), if_neg (by decide), if_neg (by decide), if_neg (by decide), if_neg (by decide), if_neg (by decide), if_pos (by decide)]
theorem j73_15 (m : Hp) : m_run_j73 (nI 16) m = m_prepare (16 : Int32) m := by
  rw [show nI 16 = (16 : Int32) from rfl, m_run_j73, if_pos (by decide), if_pos (by decide), if_neg (by decide), eta, eta]
theorem j74_16 (y : Hp) : r_answerLine_j74 (some 16) y = (line_argumentPort (sR y (0, 0) 13 (some 3))).bind fun y20 => some ((200 : Int32), sI (sR y (0, 0) 13 (some 3)) (0, 0) 14 y20) := by
  rw [r_answerLine_j74, nd22 (by decide), Option.bind_some, if_neg (by decide), if_neg (by decide), eta, r_run, nd22 (by decide), Option.bind_some, gB (by decide) (by decide), clI (by decide), if_neg (by decide), if_neg (by decide), if_neg (by decide), if_neg (by decide), if_neg (by decide), if_neg (by decide), if_neg (by decide), if_neg (by decide), if_pos (by decide)]
theorem j73_16 (m : Hp) : m_run_j73 (nI 17) m = m_prepare (17 : Int32) m := by
  rw [show nI 17 = (17 : Int32) from rfl, m_run_j73, if_pos (by decide), if_pos (by decide), if_neg (by decide), eta, eta]
theorem j74_17 (y : Hp) : r_answerLine_j74 (some 17) y = r_abort y := by
  rw [r_answerLine_j74, nd22 (by decide), Option.bind_some, if_neg (by decide), if_neg (by decide), eta, r_run, nd22 (by decide), Option.bind_some, gB (by decide) (by decide), clI (by decide), if_neg (by decide), if_neg (by decide), if_neg (by decide), if_neg (by decide), if_neg (by decide), if_neg (by decide), if_neg (by decide), if_neg (by decide), if_neg (by decide), if_pos (by decide), eta]
theorem j73_17 (m : Hp) : m_run_j73 (nI 18) m = m_prepare (18 : Int32) m := by
  rw [show nI 18 = (18 : Int32) from rfl, m_run_j73, if_pos (by decide), if_pos (by decide), if_neg (by decide), eta, eta]
theorem rop_18 (y : Hp) : r_runOnPath (some 18) y = r_retrieve y := by
  rw [r_runOnPath, nd22 (by decide), Option.bind_some, gB (by decide) (by decide), clI (by decide), if_neg (by decide), if_neg (by decide), if_neg (by decide), if_neg (by decide), if_neg (by decide), if_neg (by decide), if_neg (by decide), if_pos (by decide), eta]
theorem j74_18 (y : Hp) : r_answerLine_j74 (some 18) y = (path_walk (gR y (0, 0) 10) (gR y (0, 0) 11) y).bind fun y17 => r_runOnPath (some 18) y17 := by
  rw [r_answerLine_j74, nd22 (by decide), Option.bind_some, if_pos (by decide), r_answerLine_j90]
  cases path_walk (gR y (0, 0) 10) (gR y (0, 0) 11) y with
  | none => rfl
  | some z => rw [Option.bind_some, Option.bind_some, eta]
theorem j73_18 (m : Hp) : m_run_j73 (nI 19) m = m_transferBy (19 : Int32) m := by
  rw [show nI 19 = (19 : Int32) from rfl, m_run_j73, if_pos (by decide), if_pos (by decide), if_pos (by decide), eta, eta]
theorem rop_19 (y : Hp) : r_runOnPath (some 19) y = r_takeFile (0 : Int32) y := by
  rw [r_runOnPath, nd22 (by decide), Option.bind_some, gB (by decide) (by decide), clI (by decide), if_neg (by decide), if_neg (by decide), if_neg (by decide), if_neg (by decide), if_neg (by decide), if_neg (by decide), if_neg (by decide), if_neg (by decide), if_pos (by decide), eta]
theorem j74_19 (y : Hp) : r_answerLine_j74 (some 19) y = (path_walk (gR y (0, 0) 10) (gR y (0, 0) 11) y).bind fun y17 => r_runOnPath (some 19) y17 := by
  rw [r_answerLine_j74, nd22 (by decide), Option.bind_some, if_pos (by decide), r_answerLine_j90]
  cases path_walk (gR y (0, 0) 10) (gR y (0, 0) 11) y with
  | none => rfl
  | some z => rw [Option.bind_some, Option.bind_some, eta]
theorem j73_19 (m : Hp) : m_run_j73 (nI 20) m = m_transferBy (20 : Int32) m := by
  rw [show nI 20 = (20 : Int32) from rfl, m_run_j73, if_pos (by decide), if_pos (by decide), if_pos (by decide), eta, eta]
theorem rop_20 (y : Hp) : r_runOnPath (some 20) y = r_takeFile (1 : Int32) y := by
  rw [r_runOnPath, nd22 (by decide), Option.bind_some, gB (by decide) (by decide), clI (by decide), if_neg (by decide), if_neg (by decide), if_neg (by decide), if_neg (by decide), if_neg (by decide), if_neg (by decide), if_neg (by decide), if_neg (by decide), if_neg (by decide), if_pos (by decide), eta]
theorem j74_20 (y : Hp) : r_answerLine_j74 (some 20) y = (path_walk (gR y (0, 0) 10) (gR y (0, 0) 11) y).bind fun y17 => r_runOnPath (some 20) y17 := by
  rw [r_answerLine_j74, nd22 (by decide), Option.bind_some, if_pos (by decide), r_answerLine_j90]
  cases path_walk (gR y (0, 0) 10) (gR y (0, 0) 11) y with
  | none => rfl
  | some z => rw [Option.bind_some, Option.bind_some, eta]
theorem j73_20 (m : Hp) : m_run_j73 (nI 21) m = m_transferBy (21 : Int32) m := by
  rw [show nI 21 = (21 : Int32) from rfl, m_run_j73, if_pos (by decide), if_pos (by decide), if_pos (by decide), eta, eta]
theorem rop_21 (y : Hp) : r_runOnPath (some 21) y = r_listNames y := by
  rw [r_runOnPath, nd22 (by decide), Option.bind_some, gB (by decide) (by decide), clI (by decide), if_neg (by decide), if_neg (by decide), if_neg (by decide), if_neg (by decide), if_neg (by decide), if_neg (by decide), if_neg (by decide), if_neg (by decide), if_neg (by decide), if_neg (by decide), eta]
theorem j74_21 (y : Hp) : r_answerLine_j74 (some 21) y = (path_walk (gR y (0, 0) 10) (gR y (0, 0) 11) y).bind fun y17 => r_runOnPath (some 21) y17 := by
  rw [r_answerLine_j74, nd22 (by decide), Option.bind_some, if_neg (by decide), if_pos (by decide), r_answerLine_j90]
  cases path_walk (gR y (0, 0) 10) (gR y (0, 0) 11) y with
  | none => rfl
  | some z => rw [Option.bind_some, Option.bind_some, eta]
theorem j73_21 (m : Hp) : m_run_j73 (nI 22) m = m_transferBy (22 : Int32) m := by
  rw [show nI 22 = (22 : Int32) from rfl, m_run_j73, if_pos (by decide), if_pos (by decide), if_pos (by decide), eta, eta]
