/-! the seven roads to a throw -/
set_option maxRecDepth 20000 in
set_option maxHeartbeats 4000000 in
theorem T_weight (d : Nat) (xx : rh_L) (sv : Option Nat) (h : HI) (g : Nat → Nat → Int64) (p0 : Int32) (p1 : Int32) (hq : f_Cr_has h p0 = 0 ∨ f_La_within p1 0 999 = 0) : rh_To (rh_M rh_PT (cw_L ++ xx) (d + 5)) (cw_L ++ xx) pg_X11_weight ((0, [some (.ref 0), some (.int p0), some (.int p1)], []), (h, g, cw_R sv)) ((22, [some (.ref 0), some (.int p0), some (.int p1)], []), (h, g, cw_R sv)) := by
  refine rh_To.blk 3 (s' := ((5, [some (.ref 0), some (.int p0), some (.int p1)], [.int p0, .ref 4]), (h, g, cw_R sv))) rfl ?_
  refine rh_To.call (j := 0) (rc := some 0) [.ref 4, .int p0] [] (some (.int (f_Cr_has h p0))) rfl rfl rfl (Nat.le_of_ble_eq_true rfl) (R_Cr_has (d + 4) xx sv h g p0 rfl) ?_
  by_cases q1 : (f_Cr_has h p0) = 0
  · refine rh_To.stp (s' := ((22, [some (.ref 0), some (.int p0), some (.int p1)], []), (h, g, cw_R sv))) rfl (st_ifeq_p q1) ?_
    exact rh_To.rf
  · refine rh_To.stp (s' := ((11, [some (.ref 0), some (.int p0), some (.int p1)], []), (h, g, cw_R sv))) rfl (st_ifeq_n q1) ?_
    refine rh_To.blk 3 (s' := ((16, [some (.ref 0), some (.int p0), some (.int p1)], [.int (999 : Int32), .int (0 : Int32), .int p1]), (h, g, cw_R sv))) rfl ?_
    refine rh_To.call (j := 155) (rc := none) [.int p1, .int (0 : Int32), .int (999 : Int32)] [] (some (.int (f_La_within p1 (0 : Int32) (999 : Int32)))) rfl rfl trivial (Nat.le_of_ble_eq_true rfl) (R_La_within (d + 4) (cw_L ++ xx) (cw_R sv) h g p1 (0 : Int32) (999 : Int32) rfl) ?_
    refine rh_To.stp (s' := ((22, [some (.ref 0), some (.int p0), some (.int p1)], []), (h, g, cw_R sv))) rfl (st_ifne_p (hq.resolve_left q1)) ?_
    exact rh_To.rf
theorem within_out {v : Int32} (h : f_La_within v 0 5 = 0) : v.toInt < 0 ∨ (0 : Int) + ([60, 77, 87, 103, 113, 125] : List Nat).length ≤ v.toInt := by
  unfold f_La_within at h
  by_cases h1 : v < 0
  · exact Or.inl (Int32.lt_iff_toInt_lt.mp h1)
  · rw [if_neg h1] at h
    by_cases h2 : (5 : Int32) < v
    · refine Or.inr ?_
      have := Int32.lt_iff_toInt_lt.mp h2
      have e5 : (5 : Int32).toInt = 5 := by decide
      show (0 : Int) + 6 ≤ v.toInt
      omega
    · rw [if_neg h2] at h
      exact absurd h (by decide)
set_option maxRecDepth 20000 in
set_option maxHeartbeats 4000000 in
theorem T_of (d : Nat) (xx : rh_L) (sv : Option Nat) (h : HI) (g : Nat → Nat → Int64) (p0 : Int32) (p1 : Int32) (hq : f_Cr_has h p0 = 0 ∨ f_La_within p1 0 5 = 0) : rh_To (rh_M rh_PT (cw_L ++ xx) (d + 5)) (cw_L ++ xx) pg_X11_of ((0, [some (.ref 0), some (.int p0), some (.int p1)], []), (h, g, cw_R sv)) ((11, [some (.ref 0), some (.int p0), some (.int p1)], []), (h, g, cw_R sv)) ∨ rh_To (rh_M rh_PT (cw_L ++ xx) (d + 5)) (cw_L ++ xx) pg_X11_of ((0, [some (.ref 0), some (.int p0), some (.int p1)], []), (h, g, cw_R sv)) ((143, [some (.ref 0), some (.int p0), some (.int p1)], []), (h, g, cw_R sv)) := by
  by_cases q1 : (f_Cr_has h p0) = 0
  · refine Or.inl ?_
    refine rh_To.blk 3 (s' := ((5, [some (.ref 0), some (.int p0), some (.int p1)], [.int p0, .ref 4]), (h, g, cw_R sv))) rfl ?_
    refine rh_To.call (j := 0) (rc := some 0) [.ref 4, .int p0] [] (some (.int (f_Cr_has h p0))) rfl rfl rfl (Nat.le_of_ble_eq_true rfl) (R_Cr_has (d + 4) xx sv h g p0 rfl) ?_
    refine rh_To.stp (s' := ((11, [some (.ref 0), some (.int p0), some (.int p1)], []), (h, g, cw_R sv))) rfl (st_ifne_p q1) ?_
    exact rh_To.rf
  · refine Or.inr ?_
    refine rh_To.blk 3 (s' := ((5, [some (.ref 0), some (.int p0), some (.int p1)], [.int p0, .ref 4]), (h, g, cw_R sv))) rfl ?_
    refine rh_To.call (j := 0) (rc := some 0) [.ref 4, .int p0] [] (some (.int (f_Cr_has h p0))) rfl rfl rfl (Nat.le_of_ble_eq_true rfl) (R_Cr_has (d + 4) xx sv h g p0 rfl) ?_
    refine rh_To.stp (s' := ((19, [some (.ref 0), some (.int p0), some (.int p1)], []), (h, g, cw_R sv))) rfl (st_ifne_n q1) ?_
    refine rh_To.blk 1 (s' := ((20, [some (.ref 0), some (.int p0), some (.int p1)], [.int p1]), (h, g, cw_R sv))) rfl ?_
    have hw : rh_tw 0 [60, 77, 87, 103, 113, 125] 143 p1 = 143 := rh_tw_out p1 143 _ 0 (within_out (hq.resolve_left q1))
    refine rh_To.stp (s' := ((rh_tw 0 [60, 77, 87, 103, 113, 125] 143 p1, [some (.ref 0), some (.int p0), some (.int p1)], []), (h, g, cw_R sv))) rfl rfl ?_
    rw [hw]
    exact rh_To.rf
set_option maxRecDepth 20000 in
set_option maxHeartbeats 4000000 in
theorem T_lean (d : Nat) (xx : rh_L) (sv : Option Nat) (h : HI) (g : Nat → Nat → Int64) (p0 : Int32) (hq : f_La_within p0 0 99 = 0) : rh_To (rh_M rh_PT (cw_L ++ xx) (d + 5)) (cw_L ++ xx) pg_X11_lean ((0, [some (.ref 0), some (.int p0)], []), (h, g, cw_R sv)) ((10, [some (.ref 0), some (.int p0)], []), (h, g, cw_R sv)) := by
  refine rh_To.blk 3 (s' := ((4, [some (.ref 0), some (.int p0)], [.int (99 : Int32), .int (0 : Int32), .int p0]), (h, g, cw_R sv))) rfl ?_
  refine rh_To.call (j := 155) (rc := none) [.int p0, .int (0 : Int32), .int (99 : Int32)] [] (some (.int (f_La_within p0 (0 : Int32) (99 : Int32)))) rfl rfl trivial (Nat.le_of_ble_eq_true rfl) (R_La_within (d + 4) (cw_L ++ xx) (cw_R sv) h g p0 (0 : Int32) (99 : Int32) rfl) ?_
  refine rh_To.stp (s' := ((10, [some (.ref 0), some (.int p0)], []), (h, g, cw_R sv))) rfl (st_ifne_p hq) ?_
  exact rh_To.rf
set_option maxRecDepth 20000 in
set_option maxHeartbeats 4000000 in
theorem T_row (d : Nat) (xx : rh_L) (sv : Option Nat) (h : HI) (g : Nat → Nat → Int64) (p0 : Int32) (hq : ¬ rwOK h p0) : rh_To (rh_M rh_PT (cw_L ++ xx) (d + 5)) (cw_L ++ xx) pg_X11_row ((0, [some (.ref 0), some (.int p0)], []), (h, g, cw_R sv)) ((15, [some (.ref 0), some (.int p0)], []), (h, g, cw_R sv)) := by
  refine rh_To.blk 1 (s' := ((1, [some (.ref 0), some (.int p0)], [.int p0]), (h, g, cw_R sv))) rfl ?_
  by_cases q1 : p0 < 0
  · refine rh_To.stp (s' := ((15, [some (.ref 0), some (.int p0)], []), (h, g, cw_R sv))) rfl (st_iflt_p q1) ?_
    exact rh_To.rf
  · refine rh_To.stp (s' := ((4, [some (.ref 0), some (.int p0)], []), (h, g, cw_R sv))) rfl (st_iflt_n q1) ?_
    refine rh_To.blk 4 (s' := ((12, [some (.ref 0), some (.int p0)], [.int (h 2 1), .int p0]), (h, g, cw_R sv))) rfl ?_
    refine rh_To.stp (s' := ((15, [some (.ref 0), some (.int p0)], []), (h, g, cw_R sv))) rfl (st_iclt_n (fun q2 => hq ⟨q1, q2⟩)) ?_
    exact rh_To.rf
set_option maxRecDepth 20000 in
set_option maxHeartbeats 4000000 in
theorem T_balance (d : Nat) (xx : rh_L) (sv : Option Nat) (h : HI) (g : Nat → Nat → Int64) (p0 : Int32) (p1 : Int32) (p2 : Int32) (hq : f_La_areApart h p0 p1 = 0 ∨ f_La_within p2 0 99 = 0) : rh_To (rh_M rh_PT (cw_L ++ xx) (d + 5)) (cw_L ++ xx) pg_X11_balance ((0, [some (.ref 0), some (.int p0), some (.int p1), some (.int p2)], []), (h, g, cw_R sv)) ((19, [some (.ref 0), some (.int p0), some (.int p1), some (.int p2)], []), (h, g, cw_R sv)) := by
  refine rh_To.blk 3 (s' := ((3, [some (.ref 0), some (.int p0), some (.int p1), some (.int p2)], [.int p1, .int p0, .ref 0]), (h, g, cw_R sv))) rfl ?_
  refine rh_To.call (j := 163) (rc := some 10) [.ref 0, .int p0, .int p1] [] (some (.int (f_La_areApart h p0 p1))) rfl rfl rfl (Nat.le_of_ble_eq_true rfl) (R_La_areApart (d + 2) xx sv h g p0 p1 rfl) ?_
  by_cases q1 : (f_La_areApart h p0 p1) = 0
  · refine rh_To.stp (s' := ((19, [some (.ref 0), some (.int p0), some (.int p1), some (.int p2)], []), (h, g, cw_R sv))) rfl (st_ifeq_p q1) ?_
    exact rh_To.rf
  · refine rh_To.stp (s' := ((9, [some (.ref 0), some (.int p0), some (.int p1), some (.int p2)], []), (h, g, cw_R sv))) rfl (st_ifeq_n q1) ?_
    refine rh_To.blk 3 (s' := ((13, [some (.ref 0), some (.int p0), some (.int p1), some (.int p2)], [.int (99 : Int32), .int (0 : Int32), .int p2]), (h, g, cw_R sv))) rfl ?_
    refine rh_To.call (j := 155) (rc := none) [.int p2, .int (0 : Int32), .int (99 : Int32)] [] (some (.int (f_La_within p2 (0 : Int32) (99 : Int32)))) rfl rfl trivial (Nat.le_of_ble_eq_true rfl) (R_La_within (d + 4) (cw_L ++ xx) (cw_R sv) h g p2 (0 : Int32) (99 : Int32) rfl) ?_
    refine rh_To.stp (s' := ((19, [some (.ref 0), some (.int p0), some (.int p1), some (.int p2)], []), (h, g, cw_R sv))) rfl (st_ifne_p (hq.resolve_left q1)) ?_
    exact rh_To.rf
set_option maxRecDepth 20000 in
set_option maxHeartbeats 4000000 in
theorem T_pair (d : Nat) (xx : rh_L) (sv : Option Nat) (h : HI) (g : Nat → Nat → Int64) (p0 : Int32) (p1 : Int32) (hq : f_La_within p0 0 9999 = 0 ∨ f_La_within p1 0 8 = 0) : rh_To (rh_M rh_PT (cw_L ++ xx) (d + 5)) (cw_L ++ xx) pg_X11_pair ((0, [some (.ref 0), some (.int p0), some (.int p1), none, none, none, none], []), (h, g, cw_R sv)) ((18, [some (.ref 0), some (.int p0), some (.int p1), none, none, none, none], []), (h, g, cw_R sv)) := by
  refine rh_To.blk 3 (s' := ((5, [some (.ref 0), some (.int p0), some (.int p1), none, none, none, none], [.int (9999 : Int32), .int (0 : Int32), .int p0]), (h, g, cw_R sv))) rfl ?_
  refine rh_To.call (j := 155) (rc := none) [.int p0, .int (0 : Int32), .int (9999 : Int32)] [] (some (.int (f_La_within p0 (0 : Int32) (9999 : Int32)))) rfl rfl trivial (Nat.le_of_ble_eq_true rfl) (R_La_within (d + 4) (cw_L ++ xx) (cw_R sv) h g p0 (0 : Int32) (9999 : Int32) rfl) ?_
  by_cases q1 : (f_La_within p0 (0 : Int32) (9999 : Int32)) = 0
  · refine rh_To.stp (s' := ((18, [some (.ref 0), some (.int p0), some (.int p1), none, none, none, none], []), (h, g, cw_R sv))) rfl (st_ifeq_p q1) ?_
    exact rh_To.rf
  · refine rh_To.stp (s' := ((11, [some (.ref 0), some (.int p0), some (.int p1), none, none, none, none], []), (h, g, cw_R sv))) rfl (st_ifeq_n q1) ?_
    refine rh_To.blk 1 (s' := ((12, [some (.ref 0), some (.int p0), some (.int p1), none, none, none, none], [.int p1]), (h, g, cw_R sv))) rfl ?_
    refine rh_To.call (j := 156) (rc := none) [.int p1] [] (some (.int (f_La_within p1 (0 : Int32) (8 : Int32)))) rfl rfl trivial (Nat.le_of_ble_eq_true rfl) (R_La_isBell (d + 3) (cw_L ++ xx) (cw_R sv) h g p1 (la_isBell p1)) ?_
    refine rh_To.stp (s' := ((18, [some (.ref 0), some (.int p0), some (.int p1), none, none, none, none], []), (h, g, cw_R sv))) rfl (st_ifne_p (hq.resolve_left q1)) ?_
    exact rh_To.rf
set_option maxRecDepth 20000 in
set_option maxHeartbeats 4000000 in
theorem T_swap (d : Nat) (xx : rh_L) (sv : Option Nat) (h : HI) (g : Nat → Nat → Int64) (p0 : Int32) (p1 : Int32) (p2 : Int32) (p3 : Int32) (hq : ¬ swOK h p0 p1 p2 p3) : rh_To (rh_M rh_PT (cw_L ++ xx) (d + 5)) (cw_L ++ xx) pg_X11_swap ((0, [some (.ref 0), some (.int p0), some (.int p1), some (.int p2), some (.int p3), none, none], []), (h, g, cw_R sv)) ((42, [some (.ref 0), some (.int p0), some (.int p1), some (.int p2), some (.int p3), none, none], []), (h, g, cw_R sv)) ∨ rh_To (rh_M rh_PT (cw_L ++ xx) (d + 5)) (cw_L ++ xx) pg_X11_swap ((0, [some (.ref 0), some (.int p0), some (.int p1), some (.int p2), some (.int p3), none, none], []), (h, g, cw_R sv)) ((72, [some (.ref 0), some (.int p0), some (.int p1), some (.int p2), some (.int p3), none, none], []), (h, g, cw_R sv)) := by
  by_cases q1 : (f_Cr_has h p0) = 0
  · refine Or.inl ?_
    refine rh_To.blk 3 (s' := ((5, [some (.ref 0), some (.int p0), some (.int p1), some (.int p2), some (.int p3), none, none], [.int p0, .ref 4]), (h, g, cw_R sv))) rfl ?_
    refine rh_To.call (j := 0) (rc := some 0) [.ref 4, .int p0] [] (some (.int (f_Cr_has h p0))) rfl rfl rfl (Nat.le_of_ble_eq_true rfl) (R_Cr_has (d + 4) xx sv h g p0 rfl) ?_
    refine rh_To.stp (s' := ((42, [some (.ref 0), some (.int p0), some (.int p1), some (.int p2), some (.int p3), none, none], []), (h, g, cw_R sv))) rfl (st_ifeq_p q1) ?_
    exact rh_To.rf
  by_cases q2 : (f_Cr_has h p2) = 0
  · refine Or.inl ?_
    refine rh_To.blk 3 (s' := ((5, [some (.ref 0), some (.int p0), some (.int p1), some (.int p2), some (.int p3), none, none], [.int p0, .ref 4]), (h, g, cw_R sv))) rfl ?_
    refine rh_To.call (j := 0) (rc := some 0) [.ref 4, .int p0] [] (some (.int (f_Cr_has h p0))) rfl rfl rfl (Nat.le_of_ble_eq_true rfl) (R_Cr_has (d + 4) xx sv h g p0 rfl) ?_
    refine rh_To.stp (s' := ((11, [some (.ref 0), some (.int p0), some (.int p1), some (.int p2), some (.int p3), none, none], []), (h, g, cw_R sv))) rfl (st_ifeq_n q1) ?_
    refine rh_To.blk 3 (s' := ((16, [some (.ref 0), some (.int p0), some (.int p1), some (.int p2), some (.int p3), none, none], [.int p2, .ref 4]), (h, g, cw_R sv))) rfl ?_
    refine rh_To.call (j := 0) (rc := some 0) [.ref 4, .int p2] [] (some (.int (f_Cr_has h p2))) rfl rfl rfl (Nat.le_of_ble_eq_true rfl) (R_Cr_has (d + 4) xx sv h g p2 rfl) ?_
    refine rh_To.stp (s' := ((42, [some (.ref 0), some (.int p0), some (.int p1), some (.int p2), some (.int p3), none, none], []), (h, g, cw_R sv))) rfl (st_ifeq_p q2) ?_
    exact rh_To.rf
  by_cases q3 : p0 = p2
  · refine Or.inl ?_
    refine rh_To.blk 3 (s' := ((5, [some (.ref 0), some (.int p0), some (.int p1), some (.int p2), some (.int p3), none, none], [.int p0, .ref 4]), (h, g, cw_R sv))) rfl ?_
    refine rh_To.call (j := 0) (rc := some 0) [.ref 4, .int p0] [] (some (.int (f_Cr_has h p0))) rfl rfl rfl (Nat.le_of_ble_eq_true rfl) (R_Cr_has (d + 4) xx sv h g p0 rfl) ?_
    refine rh_To.stp (s' := ((11, [some (.ref 0), some (.int p0), some (.int p1), some (.int p2), some (.int p3), none, none], []), (h, g, cw_R sv))) rfl (st_ifeq_n q1) ?_
    refine rh_To.blk 3 (s' := ((16, [some (.ref 0), some (.int p0), some (.int p1), some (.int p2), some (.int p3), none, none], [.int p2, .ref 4]), (h, g, cw_R sv))) rfl ?_
    refine rh_To.call (j := 0) (rc := some 0) [.ref 4, .int p2] [] (some (.int (f_Cr_has h p2))) rfl rfl rfl (Nat.le_of_ble_eq_true rfl) (R_Cr_has (d + 4) xx sv h g p2 rfl) ?_
    refine rh_To.stp (s' := ((22, [some (.ref 0), some (.int p0), some (.int p1), some (.int p2), some (.int p3), none, none], []), (h, g, cw_R sv))) rfl (st_ifeq_n q2) ?_
    refine rh_To.blk 2 (s' := ((24, [some (.ref 0), some (.int p0), some (.int p1), some (.int p2), some (.int p3), none, none], [.int p2, .int p0]), (h, g, cw_R sv))) rfl ?_
    refine rh_To.stp (s' := ((42, [some (.ref 0), some (.int p0), some (.int p1), some (.int p2), some (.int p3), none, none], []), (h, g, cw_R sv))) rfl (st_iceq_p q3) ?_
    exact rh_To.rf
  by_cases q4 : (f_La_within p1 (0 : Int32) (8 : Int32)) = 0
  · refine Or.inl ?_
    refine rh_To.blk 3 (s' := ((5, [some (.ref 0), some (.int p0), some (.int p1), some (.int p2), some (.int p3), none, none], [.int p0, .ref 4]), (h, g, cw_R sv))) rfl ?_
    refine rh_To.call (j := 0) (rc := some 0) [.ref 4, .int p0] [] (some (.int (f_Cr_has h p0))) rfl rfl rfl (Nat.le_of_ble_eq_true rfl) (R_Cr_has (d + 4) xx sv h g p0 rfl) ?_
    refine rh_To.stp (s' := ((11, [some (.ref 0), some (.int p0), some (.int p1), some (.int p2), some (.int p3), none, none], []), (h, g, cw_R sv))) rfl (st_ifeq_n q1) ?_
    refine rh_To.blk 3 (s' := ((16, [some (.ref 0), some (.int p0), some (.int p1), some (.int p2), some (.int p3), none, none], [.int p2, .ref 4]), (h, g, cw_R sv))) rfl ?_
    refine rh_To.call (j := 0) (rc := some 0) [.ref 4, .int p2] [] (some (.int (f_Cr_has h p2))) rfl rfl rfl (Nat.le_of_ble_eq_true rfl) (R_Cr_has (d + 4) xx sv h g p2 rfl) ?_
    refine rh_To.stp (s' := ((22, [some (.ref 0), some (.int p0), some (.int p1), some (.int p2), some (.int p3), none, none], []), (h, g, cw_R sv))) rfl (st_ifeq_n q2) ?_
    refine rh_To.blk 2 (s' := ((24, [some (.ref 0), some (.int p0), some (.int p1), some (.int p2), some (.int p3), none, none], [.int p2, .int p0]), (h, g, cw_R sv))) rfl ?_
    refine rh_To.stp (s' := ((27, [some (.ref 0), some (.int p0), some (.int p1), some (.int p2), some (.int p3), none, none], []), (h, g, cw_R sv))) rfl (st_iceq_n q3) ?_
    refine rh_To.blk 1 (s' := ((28, [some (.ref 0), some (.int p0), some (.int p1), some (.int p2), some (.int p3), none, none], [.int p1]), (h, g, cw_R sv))) rfl ?_
    refine rh_To.call (j := 156) (rc := none) [.int p1] [] (some (.int (f_La_within p1 (0 : Int32) (8 : Int32)))) rfl rfl trivial (Nat.le_of_ble_eq_true rfl) (R_La_isBell (d + 3) (cw_L ++ xx) (cw_R sv) h g p1 (la_isBell p1)) ?_
    refine rh_To.stp (s' := ((42, [some (.ref 0), some (.int p0), some (.int p1), some (.int p2), some (.int p3), none, none], []), (h, g, cw_R sv))) rfl (st_ifeq_p q4) ?_
    exact rh_To.rf
  by_cases q5 : (f_La_within p3 (0 : Int32) (8 : Int32)) = 0
  · refine Or.inl ?_
    refine rh_To.blk 3 (s' := ((5, [some (.ref 0), some (.int p0), some (.int p1), some (.int p2), some (.int p3), none, none], [.int p0, .ref 4]), (h, g, cw_R sv))) rfl ?_
    refine rh_To.call (j := 0) (rc := some 0) [.ref 4, .int p0] [] (some (.int (f_Cr_has h p0))) rfl rfl rfl (Nat.le_of_ble_eq_true rfl) (R_Cr_has (d + 4) xx sv h g p0 rfl) ?_
    refine rh_To.stp (s' := ((11, [some (.ref 0), some (.int p0), some (.int p1), some (.int p2), some (.int p3), none, none], []), (h, g, cw_R sv))) rfl (st_ifeq_n q1) ?_
    refine rh_To.blk 3 (s' := ((16, [some (.ref 0), some (.int p0), some (.int p1), some (.int p2), some (.int p3), none, none], [.int p2, .ref 4]), (h, g, cw_R sv))) rfl ?_
    refine rh_To.call (j := 0) (rc := some 0) [.ref 4, .int p2] [] (some (.int (f_Cr_has h p2))) rfl rfl rfl (Nat.le_of_ble_eq_true rfl) (R_Cr_has (d + 4) xx sv h g p2 rfl) ?_
    refine rh_To.stp (s' := ((22, [some (.ref 0), some (.int p0), some (.int p1), some (.int p2), some (.int p3), none, none], []), (h, g, cw_R sv))) rfl (st_ifeq_n q2) ?_
    refine rh_To.blk 2 (s' := ((24, [some (.ref 0), some (.int p0), some (.int p1), some (.int p2), some (.int p3), none, none], [.int p2, .int p0]), (h, g, cw_R sv))) rfl ?_
    refine rh_To.stp (s' := ((27, [some (.ref 0), some (.int p0), some (.int p1), some (.int p2), some (.int p3), none, none], []), (h, g, cw_R sv))) rfl (st_iceq_n q3) ?_
    refine rh_To.blk 1 (s' := ((28, [some (.ref 0), some (.int p0), some (.int p1), some (.int p2), some (.int p3), none, none], [.int p1]), (h, g, cw_R sv))) rfl ?_
    refine rh_To.call (j := 156) (rc := none) [.int p1] [] (some (.int (f_La_within p1 (0 : Int32) (8 : Int32)))) rfl rfl trivial (Nat.le_of_ble_eq_true rfl) (R_La_isBell (d + 3) (cw_L ++ xx) (cw_R sv) h g p1 (la_isBell p1)) ?_
    refine rh_To.stp (s' := ((34, [some (.ref 0), some (.int p0), some (.int p1), some (.int p2), some (.int p3), none, none], []), (h, g, cw_R sv))) rfl (st_ifeq_n q4) ?_
    refine rh_To.blk 1 (s' := ((36, [some (.ref 0), some (.int p0), some (.int p1), some (.int p2), some (.int p3), none, none], [.int p3]), (h, g, cw_R sv))) rfl ?_
    refine rh_To.call (j := 156) (rc := none) [.int p3] [] (some (.int (f_La_within p3 (0 : Int32) (8 : Int32)))) rfl rfl trivial (Nat.le_of_ble_eq_true rfl) (R_La_isBell (d + 3) (cw_L ++ xx) (cw_R sv) h g p3 (la_isBell p3)) ?_
    refine rh_To.stp (s' := ((42, [some (.ref 0), some (.int p0), some (.int p1), some (.int p2), some (.int p3), none, none], []), (h, g, cw_R sv))) rfl (st_ifne_p q5) ?_
    exact rh_To.rf
  by_cases q6 : (f_Cr_isPerson h p0) = 0
  · refine Or.inr ?_
    refine rh_To.blk 3 (s' := ((5, [some (.ref 0), some (.int p0), some (.int p1), some (.int p2), some (.int p3), none, none], [.int p0, .ref 4]), (h, g, cw_R sv))) rfl ?_
    refine rh_To.call (j := 0) (rc := some 0) [.ref 4, .int p0] [] (some (.int (f_Cr_has h p0))) rfl rfl rfl (Nat.le_of_ble_eq_true rfl) (R_Cr_has (d + 4) xx sv h g p0 rfl) ?_
    refine rh_To.stp (s' := ((11, [some (.ref 0), some (.int p0), some (.int p1), some (.int p2), some (.int p3), none, none], []), (h, g, cw_R sv))) rfl (st_ifeq_n q1) ?_
    refine rh_To.blk 3 (s' := ((16, [some (.ref 0), some (.int p0), some (.int p1), some (.int p2), some (.int p3), none, none], [.int p2, .ref 4]), (h, g, cw_R sv))) rfl ?_
    refine rh_To.call (j := 0) (rc := some 0) [.ref 4, .int p2] [] (some (.int (f_Cr_has h p2))) rfl rfl rfl (Nat.le_of_ble_eq_true rfl) (R_Cr_has (d + 4) xx sv h g p2 rfl) ?_
    refine rh_To.stp (s' := ((22, [some (.ref 0), some (.int p0), some (.int p1), some (.int p2), some (.int p3), none, none], []), (h, g, cw_R sv))) rfl (st_ifeq_n q2) ?_
    refine rh_To.blk 2 (s' := ((24, [some (.ref 0), some (.int p0), some (.int p1), some (.int p2), some (.int p3), none, none], [.int p2, .int p0]), (h, g, cw_R sv))) rfl ?_
    refine rh_To.stp (s' := ((27, [some (.ref 0), some (.int p0), some (.int p1), some (.int p2), some (.int p3), none, none], []), (h, g, cw_R sv))) rfl (st_iceq_n q3) ?_
    refine rh_To.blk 1 (s' := ((28, [some (.ref 0), some (.int p0), some (.int p1), some (.int p2), some (.int p3), none, none], [.int p1]), (h, g, cw_R sv))) rfl ?_
    refine rh_To.call (j := 156) (rc := none) [.int p1] [] (some (.int (f_La_within p1 (0 : Int32) (8 : Int32)))) rfl rfl trivial (Nat.le_of_ble_eq_true rfl) (R_La_isBell (d + 3) (cw_L ++ xx) (cw_R sv) h g p1 (la_isBell p1)) ?_
    refine rh_To.stp (s' := ((34, [some (.ref 0), some (.int p0), some (.int p1), some (.int p2), some (.int p3), none, none], []), (h, g, cw_R sv))) rfl (st_ifeq_n q4) ?_
    refine rh_To.blk 1 (s' := ((36, [some (.ref 0), some (.int p0), some (.int p1), some (.int p2), some (.int p3), none, none], [.int p3]), (h, g, cw_R sv))) rfl ?_
    refine rh_To.call (j := 156) (rc := none) [.int p3] [] (some (.int (f_La_within p3 (0 : Int32) (8 : Int32)))) rfl rfl trivial (Nat.le_of_ble_eq_true rfl) (R_La_isBell (d + 3) (cw_L ++ xx) (cw_R sv) h g p3 (la_isBell p3)) ?_
    refine rh_To.stp (s' := ((50, [some (.ref 0), some (.int p0), some (.int p1), some (.int p2), some (.int p3), none, none], []), (h, g, cw_R sv))) rfl (st_ifne_n q5) ?_
    refine rh_To.blk 3 (s' := ((55, [some (.ref 0), some (.int p0), some (.int p1), some (.int p2), some (.int p3), none, none], [.int p0, .ref 4]), (h, g, cw_R sv))) rfl ?_
    refine rh_To.call (j := 3) (rc := some 0) [.ref 4, .int p0] [] (some (.int (f_Cr_isPerson h p0))) rfl rfl rfl (Nat.le_of_ble_eq_true rfl) (R_Cr_isPerson (d + 4) xx sv h g p0 rfl) ?_
    refine rh_To.stp (s' := ((72, [some (.ref 0), some (.int p0), some (.int p1), some (.int p2), some (.int p3), none, none], []), (h, g, cw_R sv))) rfl (st_ifeq_p q6) ?_
    exact rh_To.rf
  refine Or.inr ?_
  refine rh_To.blk 3 (s' := ((5, [some (.ref 0), some (.int p0), some (.int p1), some (.int p2), some (.int p3), none, none], [.int p0, .ref 4]), (h, g, cw_R sv))) rfl ?_
  refine rh_To.call (j := 0) (rc := some 0) [.ref 4, .int p0] [] (some (.int (f_Cr_has h p0))) rfl rfl rfl (Nat.le_of_ble_eq_true rfl) (R_Cr_has (d + 4) xx sv h g p0 rfl) ?_
  refine rh_To.stp (s' := ((11, [some (.ref 0), some (.int p0), some (.int p1), some (.int p2), some (.int p3), none, none], []), (h, g, cw_R sv))) rfl (st_ifeq_n q1) ?_
  refine rh_To.blk 3 (s' := ((16, [some (.ref 0), some (.int p0), some (.int p1), some (.int p2), some (.int p3), none, none], [.int p2, .ref 4]), (h, g, cw_R sv))) rfl ?_
  refine rh_To.call (j := 0) (rc := some 0) [.ref 4, .int p2] [] (some (.int (f_Cr_has h p2))) rfl rfl rfl (Nat.le_of_ble_eq_true rfl) (R_Cr_has (d + 4) xx sv h g p2 rfl) ?_
  refine rh_To.stp (s' := ((22, [some (.ref 0), some (.int p0), some (.int p1), some (.int p2), some (.int p3), none, none], []), (h, g, cw_R sv))) rfl (st_ifeq_n q2) ?_
  refine rh_To.blk 2 (s' := ((24, [some (.ref 0), some (.int p0), some (.int p1), some (.int p2), some (.int p3), none, none], [.int p2, .int p0]), (h, g, cw_R sv))) rfl ?_
  refine rh_To.stp (s' := ((27, [some (.ref 0), some (.int p0), some (.int p1), some (.int p2), some (.int p3), none, none], []), (h, g, cw_R sv))) rfl (st_iceq_n q3) ?_
  refine rh_To.blk 1 (s' := ((28, [some (.ref 0), some (.int p0), some (.int p1), some (.int p2), some (.int p3), none, none], [.int p1]), (h, g, cw_R sv))) rfl ?_
  refine rh_To.call (j := 156) (rc := none) [.int p1] [] (some (.int (f_La_within p1 (0 : Int32) (8 : Int32)))) rfl rfl trivial (Nat.le_of_ble_eq_true rfl) (R_La_isBell (d + 3) (cw_L ++ xx) (cw_R sv) h g p1 (la_isBell p1)) ?_
  refine rh_To.stp (s' := ((34, [some (.ref 0), some (.int p0), some (.int p1), some (.int p2), some (.int p3), none, none], []), (h, g, cw_R sv))) rfl (st_ifeq_n q4) ?_
  refine rh_To.blk 1 (s' := ((36, [some (.ref 0), some (.int p0), some (.int p1), some (.int p2), some (.int p3), none, none], [.int p3]), (h, g, cw_R sv))) rfl ?_
  refine rh_To.call (j := 156) (rc := none) [.int p3] [] (some (.int (f_La_within p3 (0 : Int32) (8 : Int32)))) rfl rfl trivial (Nat.le_of_ble_eq_true rfl) (R_La_isBell (d + 3) (cw_L ++ xx) (cw_R sv) h g p3 (la_isBell p3)) ?_
  refine rh_To.stp (s' := ((50, [some (.ref 0), some (.int p0), some (.int p1), some (.int p2), some (.int p3), none, none], []), (h, g, cw_R sv))) rfl (st_ifne_n q5) ?_
  refine rh_To.blk 3 (s' := ((55, [some (.ref 0), some (.int p0), some (.int p1), some (.int p2), some (.int p3), none, none], [.int p0, .ref 4]), (h, g, cw_R sv))) rfl ?_
  refine rh_To.call (j := 3) (rc := some 0) [.ref 4, .int p0] [] (some (.int (f_Cr_isPerson h p0))) rfl rfl rfl (Nat.le_of_ble_eq_true rfl) (R_Cr_isPerson (d + 4) xx sv h g p0 rfl) ?_
  refine rh_To.stp (s' := ((61, [some (.ref 0), some (.int p0), some (.int p1), some (.int p2), some (.int p3), none, none], []), (h, g, cw_R sv))) rfl (st_ifeq_n q6) ?_
  refine rh_To.blk 3 (s' := ((66, [some (.ref 0), some (.int p0), some (.int p1), some (.int p2), some (.int p3), none, none], [.int p2, .ref 4]), (h, g, cw_R sv))) rfl ?_
  refine rh_To.call (j := 3) (rc := some 0) [.ref 4, .int p2] [] (some (.int (f_Cr_isPerson h p2))) rfl rfl rfl (Nat.le_of_ble_eq_true rfl) (R_Cr_isPerson (d + 4) xx sv h g p2 rfl) ?_
  have q7 : (f_Cr_isPerson h p2) = 0 := by
    by_cases q7 : (f_Cr_isPerson h p2) = 0
    · exact q7
    · exact absurd ⟨q1, q2, q3, q4, q5, q6, q7⟩ hq
  refine rh_To.stp (s' := ((72, [some (.ref 0), some (.int p0), some (.int p1), some (.int p2), some (.int p3), none, none], []), (h, g, cw_R sv))) rfl (st_ifne_p q7) ?_
  exact rh_To.rf
