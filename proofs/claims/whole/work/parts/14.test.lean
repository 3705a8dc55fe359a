def f_Cr_has (h : Nat → Nat → Int32) (p0 : Int32) : Int32 :=
  if p0 < 0 then
    (0 : Int32)
  else
    if (h 4 0) ≤ p0 then
      (0 : Int32)
    else
      (1 : Int32)
set_option maxRecDepth 20000 in
set_option maxHeartbeats 4000000 in
theorem R_Cr_has (d : Nat) (xx : rh_L) (sv : Option Nat) (h : Nat → Nat → Int32) (g : Nat → Nat → Int64) (p0 : Int32) {z9 : Int32} (hf : f_Cr_has h p0 = z9) : rh_M rh_PT (cw_L ++ xx) (d + 1) 0 [.ref 4, .int p0] (h, g, cw_R sv) (some (.int z9)) (h, g, cw_R sv) := by
  unfold f_Cr_has at hf
  refine rh_go pt_0 (Nat.le_of_ble_eq_true rfl) (lv := [some (.ref 4), some (.int p0)]) rfl ?_
  refine rh_Ex.blk 1 (s' := ((1, [some (.ref 4), some (.int p0)], [.int p0]), (h, g, cw_R sv))) rfl ?_
  by_cases q1 : p0 < 0
  · rw [if_pos q1] at hf
    refine rh_Ex.stp (s' := ((16, [some (.ref 4), some (.int p0)], []), (h, g, cw_R sv))) rfl (st_iflt_p q1) ?_
    refine rh_Ex.blk 1 (s' := ((17, [some (.ref 4), some (.int p0)], [.int (0 : Int32)]), (h, g, cw_R sv))) rfl ?_
    subst hf
    exact rh_Ex.ret rfl ⟨rfl, Or.inl rfl⟩
  · rw [if_neg q1] at hf
    refine rh_Ex.stp (s' := ((4, [some (.ref 4), some (.int p0)], []), (h, g, cw_R sv))) rfl (st_iflt_n q1) ?_
    refine rh_Ex.blk 3 (s' := ((9, [some (.ref 4), some (.int p0)], [.int (h 4 0), .int p0]), (h, g, cw_R sv))) rfl ?_
    by_cases q2 : (h 4 0) ≤ p0
    · rw [if_pos q2] at hf
      refine rh_Ex.stp (s' := ((16, [some (.ref 4), some (.int p0)], []), (h, g, cw_R sv))) rfl (st_icge_p q2) ?_
      refine rh_Ex.blk 1 (s' := ((17, [some (.ref 4), some (.int p0)], [.int (0 : Int32)]), (h, g, cw_R sv))) rfl ?_
      subst hf
      exact rh_Ex.ret rfl ⟨rfl, Or.inl rfl⟩
    · rw [if_neg q2] at hf
      refine rh_Ex.stp (s' := ((12, [some (.ref 4), some (.int p0)], []), (h, g, cw_R sv))) rfl (st_icge_n q2) ?_
      refine rh_Ex.blk 2 (s' := ((17, [some (.ref 4), some (.int p0)], [.int (1 : Int32)]), (h, g, cw_R sv))) rfl ?_
      subst hf
      exact rh_Ex.ret rfl ⟨rfl, Or.inr rfl⟩
def f_Cr_sets (h : Nat → Nat → Int32) : Int32 :=
  (1 : Int32) <<< ((h 4 0) &&& 31)
set_option maxRecDepth 20000 in
set_option maxHeartbeats 4000000 in
theorem R_Cr_sets (d : Nat) (xx : rh_L) (sv : Option Nat) (h : Nat → Nat → Int32) (g : Nat → Nat → Int64)  {z9 : Int32} (hf : f_Cr_sets h = z9) : rh_M rh_PT (cw_L ++ xx) (d + 1) 2 [.ref 4] (h, g, cw_R sv) (some (.int z9)) (h, g, cw_R sv) := by
  unfold f_Cr_sets at hf
  refine rh_go pt_2 (Nat.le_of_ble_eq_true rfl) (lv := [some (.ref 4)]) rfl ?_
  refine rh_Ex.blk 4 (s' := ((6, [some (.ref 4)], [.int ((1 : Int32) <<< ((h 4 0) &&& 31))]), (h, g, cw_R sv))) rfl ?_
  subst hf
  exact rh_Ex.ret rfl rfl
def f_Cr_holds (h : Nat → Nat → Int32) (p0 : Int32) : Int32 :=
  if p0 < 0 then
    (0 : Int32)
  else
    if (f_Cr_sets h) ≤ p0 then
      (0 : Int32)
    else
      (1 : Int32)
set_option maxRecDepth 20000 in
set_option maxHeartbeats 4000000 in
theorem R_Cr_holds (d : Nat) (xx : rh_L) (sv : Option Nat) (h : Nat → Nat → Int32) (g : Nat → Nat → Int64) (p0 : Int32) {z9 : Int32} (hf : f_Cr_holds h p0 = z9) : rh_M rh_PT (cw_L ++ xx) (d + 2) 1 [.ref 4, .int p0] (h, g, cw_R sv) (some (.int z9)) (h, g, cw_R sv) := by
  unfold f_Cr_holds at hf
  refine rh_go pt_1 (Nat.le_of_ble_eq_true rfl) (lv := [some (.ref 4), some (.int p0)]) rfl ?_
  refine rh_Ex.blk 1 (s' := ((1, [some (.ref 4), some (.int p0)], [.int p0]), (h, g, cw_R sv))) rfl ?_
  by_cases q1 : p0 < 0
  · rw [if_pos q1] at hf
    refine rh_Ex.stp (s' := ((16, [some (.ref 4), some (.int p0)], []), (h, g, cw_R sv))) rfl (st_iflt_p q1) ?_
    refine rh_Ex.blk 1 (s' := ((17, [some (.ref 4), some (.int p0)], [.int (0 : Int32)]), (h, g, cw_R sv))) rfl ?_
    subst hf
    exact rh_Ex.ret rfl ⟨rfl, Or.inl rfl⟩
  · rw [if_neg q1] at hf
    refine rh_Ex.stp (s' := ((4, [some (.ref 4), some (.int p0)], []), (h, g, cw_R sv))) rfl (st_iflt_n q1) ?_
    refine rh_Ex.blk 2 (s' := ((6, [some (.ref 4), some (.int p0)], [.ref 4, .int p0]), (h, g, cw_R sv))) rfl ?_
    refine rh_Ex.call (j := 2) (rc := some 0) [.ref 4] [.int p0] (some (.int (f_Cr_sets h))) rfl rfl rfl (Nat.le_of_ble_eq_true rfl) (R_Cr_sets d xx sv h g  rfl) ?_
    show rh_Ex _ _ _ ((9, [some (.ref 4), some (.int p0)], [.int (f_Cr_sets h), .int p0]), (h, g, cw_R sv)) _ _
    by_cases q2 : (f_Cr_sets h) ≤ p0
    · rw [if_pos q2] at hf
      refine rh_Ex.stp (s' := ((16, [some (.ref 4), some (.int p0)], []), (h, g, cw_R sv))) rfl (st_icge_p q2) ?_
      refine rh_Ex.blk 1 (s' := ((17, [some (.ref 4), some (.int p0)], [.int (0 : Int32)]), (h, g, cw_R sv))) rfl ?_
      subst hf
      exact rh_Ex.ret rfl ⟨rfl, Or.inl rfl⟩
    · rw [if_neg q2] at hf
      refine rh_Ex.stp (s' := ((12, [some (.ref 4), some (.int p0)], []), (h, g, cw_R sv))) rfl (st_icge_n q2) ?_
      refine rh_Ex.blk 2 (s' := ((17, [some (.ref 4), some (.int p0)], [.int (1 : Int32)]), (h, g, cw_R sv))) rfl ?_
      subst hf
      exact rh_Ex.ret rfl ⟨rfl, Or.inr rfl⟩
def f_Cr_isPerson (h : Nat → Nat → Int32) (p0 : Int32) : Int32 :=
  if (((h 4 1) >>> (p0 &&& 31)) &&& (1 : Int32)) = 0 then
    (0 : Int32)
  else
    (1 : Int32)
set_option maxRecDepth 20000 in
set_option maxHeartbeats 4000000 in
theorem R_Cr_isPerson (d : Nat) (xx : rh_L) (sv : Option Nat) (h : Nat → Nat → Int32) (g : Nat → Nat → Int64) (p0 : Int32) {z9 : Int32} (hf : f_Cr_isPerson h p0 = z9) : rh_M rh_PT (cw_L ++ xx) (d + 1) 3 [.ref 4, .int p0] (h, g, cw_R sv) (some (.int z9)) (h, g, cw_R sv) := by
  unfold f_Cr_isPerson at hf
  refine rh_go pt_3 (Nat.le_of_ble_eq_true rfl) (lv := [some (.ref 4), some (.int p0)]) rfl ?_
  refine rh_Ex.blk 6 (s' := ((8, [some (.ref 4), some (.int p0)], [.int (((h 4 1) >>> (p0 &&& 31)) &&& (1 : Int32))]), (h, g, cw_R sv))) rfl ?_
  by_cases q1 : (((h 4 1) >>> (p0 &&& 31)) &&& (1 : Int32)) = 0
  · rw [if_pos q1] at hf
    refine rh_Ex.stp (s' := ((15, [some (.ref 4), some (.int p0)], []), (h, g, cw_R sv))) rfl (st_ifeq_p q1) ?_
    refine rh_Ex.blk 1 (s' := ((16, [some (.ref 4), some (.int p0)], [.int (0 : Int32)]), (h, g, cw_R sv))) rfl ?_
    subst hf
    exact rh_Ex.ret rfl ⟨rfl, Or.inl rfl⟩
  · rw [if_neg q1] at hf
    refine rh_Ex.stp (s' := ((11, [some (.ref 4), some (.int p0)], []), (h, g, cw_R sv))) rfl (st_ifeq_n q1) ?_
    refine rh_Ex.blk 2 (s' := ((16, [some (.ref 4), some (.int p0)], [.int (1 : Int32)]), (h, g, cw_R sv))) rfl ?_
    subst hf
    exact rh_Ex.ret rfl ⟨rfl, Or.inr rfl⟩
def f_Cr_join (h : Nat → Nat → Int32) (p0 : Int32) (p1 : Int32) : Option ((Nat → Nat → Int32)) :=
  if (9 : Int32) ≤ (h 4 0) then
    some (h)
  else
    if p0 = 0 then
      rh_g (0 ≤ (h 4 0).toInt ∧ (h 4 0).toInt < ((9 : Nat) : Int)) (
        some (rh_up (rh_up (rh_up h 4 1 ((h 4 1) ||| (0 : Int32))) 5 (h 4 0).toNatClampNeg p1) 4 0 ((h 4 0) + (1 : Int32)))
      )
    else
      rh_g (0 ≤ (h 4 0).toInt ∧ (h 4 0).toInt < ((9 : Nat) : Int)) (
        some (rh_up (rh_up (rh_up h 4 1 ((h 4 1) ||| ((1 : Int32) <<< ((h 4 0) &&& 31)))) 5 (h 4 0).toNatClampNeg p1) 4 0 ((h 4 0) + (1 : Int32)))
      )
set_option maxRecDepth 20000 in
set_option maxHeartbeats 4000000 in
theorem R_Cr_join (d : Nat) (xx : rh_L) (sv : Option Nat) (h : Nat → Nat → Int32) (g : Nat → Nat → Int64) (p0 : Int32) (p1 : Int32) {z9 : (Nat → Nat → Int32)} (hf : f_Cr_join h p0 p1 = some z9) : rh_M rh_PT (cw_L ++ xx) (d + 1) 4 [.ref 4, .int p0, .int p1] (h, g, cw_R sv) none (z9, g, cw_R sv) := by
  unfold f_Cr_join at hf
  refine rh_go pt_4 (Nat.le_of_ble_eq_true rfl) (lv := [some (.ref 4), some (.int p0), some (.int p1)]) rfl ?_
  refine rh_Ex.blk 3 (s' := ((6, [some (.ref 4), some (.int p0), some (.int p1)], [.int (9 : Int32), .int (h 4 0)]), (h, g, cw_R sv))) rfl ?_
  by_cases q1 : (9 : Int32) ≤ (h 4 0)
  · rw [if_pos q1] at hf
    refine rh_Ex.stp (s' := ((52, [some (.ref 4), some (.int p0), some (.int p1)], []), (h, g, cw_R sv))) rfl (st_icge_p q1) ?_
    cases hf
    exact rh_Ex.ret rfl trivial
  · rw [if_neg q1] at hf
    refine rh_Ex.stp (s' := ((9, [some (.ref 4), some (.int p0), some (.int p1)], []), (h, g, cw_R sv))) rfl (st_icge_n q1) ?_
    refine rh_Ex.blk 4 (s' := ((15, [some (.ref 4), some (.int p0), some (.int p1)], [.int p0, .int (h 4 1), .ref 4]), (h, g, cw_R sv))) rfl ?_
    by_cases q2 : p0 = 0
    · rw [if_pos q2] at hf
      refine rh_Ex.stp (s' := ((27, [some (.ref 4), some (.int p0), some (.int p1)], [.int (h 4 1), .ref 4]), (h, g, cw_R sv))) rfl (st_ifeq_p q2) ?_
      refine rh_Ex.blk 8 (s' := ((41, [some (.ref 4), some (.int p0), some (.int p1)], [.int p1, .int (h 4 0), .ref 5]), (rh_up h 4 1 ((h 4 1) ||| (0 : Int32)), g, cw_R sv))) rfl ?_
      obtain ⟨q3, hf⟩ := rh_gq hf
      refine rh_Ex.stp (s' := ((42, [some (.ref 4), some (.int p0), some (.int p1)], []), (rh_up (rh_up h 4 1 ((h 4 1) ||| (0 : Int32))) 5 (h 4 0).toNatClampNeg p1, g, cw_R sv))) rfl (st_iast (n := 9) rfl q3) ?_
      refine rh_Ex.blk 6 (s' := ((52, [some (.ref 4), some (.int p0), some (.int p1)], []), (rh_up (rh_up (rh_up h 4 1 ((h 4 1) ||| (0 : Int32))) 5 (h 4 0).toNatClampNeg p1) 4 0 ((h 4 0) + (1 : Int32)), g, cw_R sv))) rfl ?_
      cases hf
      exact rh_Ex.ret rfl trivial
    · rw [if_neg q2] at hf
      refine rh_Ex.stp (s' := ((18, [some (.ref 4), some (.int p0), some (.int p1)], [.int (h 4 1), .ref 4]), (h, g, cw_R sv))) rfl (st_ifeq_n q2) ?_
      refine rh_Ex.blk 12 (s' := ((41, [some (.ref 4), some (.int p0), some (.int p1)], [.int p1, .int (h 4 0), .ref 5]), (rh_up h 4 1 ((h 4 1) ||| ((1 : Int32) <<< ((h 4 0) &&& 31))), g, cw_R sv))) rfl ?_
      obtain ⟨q4, hf⟩ := rh_gq hf
      refine rh_Ex.stp (s' := ((42, [some (.ref 4), some (.int p0), some (.int p1)], []), (rh_up (rh_up h 4 1 ((h 4 1) ||| ((1 : Int32) <<< ((h 4 0) &&& 31)))) 5 (h 4 0).toNatClampNeg p1, g, cw_R sv))) rfl (st_iast (n := 9) rfl q4) ?_
      refine rh_Ex.blk 6 (s' := ((52, [some (.ref 4), some (.int p0), some (.int p1)], []), (rh_up (rh_up (rh_up h 4 1 ((h 4 1) ||| ((1 : Int32) <<< ((h 4 0) &&& 31)))) 5 (h 4 0).toNatClampNeg p1) 4 0 ((h 4 0) + (1 : Int32)), g, cw_R sv))) rfl ?_
      cases hf
      exact rh_Ex.ret rfl trivial
def f_Ha_joined (p0 : Int32) (p1 : Int32) (p2 : Int32) : Option (Int32) :=
  if ((42 : Int) = p0.toInt) then
    some (p1 * p2)
  else
    if ((43 : Int) = p0.toInt) then
      some (p1 + p2)
    else
      if ((45 : Int) = p0.toInt) then
        some (p1 - p2)
      else
        if ((47 : Int) = p0.toInt) then
          if p2 = 0 then
            some ((0 : Int32))
          else
            rh_g (¬ p2 = 0) (
              some (p1 / p2)
            )
        else
          if ((60 : Int) = p0.toInt) then
            if p2 ≤ p1 then
              some ((0 : Int32))
            else
              some ((1 : Int32))
          else
            if ((62 : Int) = p0.toInt) then
              if p1 ≤ p2 then
                some ((0 : Int32))
              else
                some ((1 : Int32))
            else
              if p1 = p2 then
                some ((1 : Int32))
              else
                some ((0 : Int32))
set_option maxRecDepth 20000 in
set_option maxHeartbeats 4000000 in
theorem R_Ha_joined (d : Nat) (LL : rh_L) (rr : Nat → Nat → Option Nat) (h : Nat → Nat → Int32) (g : Nat → Nat → Int64) (p0 : Int32) (p1 : Int32) (p2 : Int32) {z9 : Int32} (hf : f_Ha_joined p0 p1 p2 = some z9) : rh_M rh_PT LL (d + 1) 39 [.int p0, .int p1, .int p2] (h, g, rr) (some (.int z9)) (h, g, rr) := by
  unfold f_Ha_joined at hf
  refine rh_go pt_39 (Nat.le_of_ble_eq_true rfl) (lv := [some (.int p0), some (.int p1), some (.int p2)]) rfl ?_
  refine rh_Ex.blk 1 (s' := ((1, [some (.int p0), some (.int p1), some (.int p2)], [.int p0]), (h, g, rr))) rfl ?_
  refine rh_Ex.stp (s' := ((rh_sw [(42, 68), (43, 60), (45, 64), (47, 72), (60, 84), (62, 95)] 106 p0, [some (.int p0), some (.int p1), some (.int p2)], []), (h, g, rr))) rfl rfl ?_
  by_cases q1 : ((42 : Int) = p0.toInt)
  · rw [if_pos q1] at hf
    rw [rh_sw, if_pos (show (42 : Int) = p0.toInt from q1)]
    refine rh_Ex.blk 3 (s' := ((71, [some (.int p0), some (.int p1), some (.int p2)], [.int (p1 * p2)]), (h, g, rr))) rfl ?_
    cases hf
    exact rh_Ex.ret rfl rfl
  · rw [if_neg q1] at hf
    rw [rh_sw, if_neg (show ¬ (42 : Int) = p0.toInt from q1)]
    by_cases q2 : ((43 : Int) = p0.toInt)
    · rw [if_pos q2] at hf
      rw [rh_sw, if_pos (show (43 : Int) = p0.toInt from q2)]
      refine rh_Ex.blk 3 (s' := ((63, [some (.int p0), some (.int p1), some (.int p2)], [.int (p1 + p2)]), (h, g, rr))) rfl ?_
      cases hf
      exact rh_Ex.ret rfl rfl
    · rw [if_neg q2] at hf
      rw [rh_sw, if_neg (show ¬ (43 : Int) = p0.toInt from q2)]
      by_cases q3 : ((45 : Int) = p0.toInt)
      · rw [if_pos q3] at hf
        rw [rh_sw, if_pos (show (45 : Int) = p0.toInt from q3)]
        refine rh_Ex.blk 3 (s' := ((67, [some (.int p0), some (.int p1), some (.int p2)], [.int (p1 - p2)]), (h, g, rr))) rfl ?_
        cases hf
        exact rh_Ex.ret rfl rfl
      · rw [if_neg q3] at hf
        rw [rh_sw, if_neg (show ¬ (45 : Int) = p0.toInt from q3)]
        by_cases q4 : ((47 : Int) = p0.toInt)
        · rw [if_pos q4] at hf
          rw [rh_sw, if_pos (show (47 : Int) = p0.toInt from q4)]
          refine rh_Ex.blk 1 (s' := ((73, [some (.int p0), some (.int p1), some (.int p2)], [.int p2]), (h, g, rr))) rfl ?_
          by_cases q5 : p2 = 0
          · rw [if_pos q5] at hf
            refine rh_Ex.stp (s' := ((76, [some (.int p0), some (.int p1), some (.int p2)], []), (h, g, rr))) rfl (st_ifne_p q5) ?_
            refine rh_Ex.blk 2 (s' := ((83, [some (.int p0), some (.int p1), some (.int p2)], [.int (0 : Int32)]), (h, g, rr))) rfl ?_
            cases hf
            exact rh_Ex.ret rfl rfl
          · rw [if_neg q5] at hf
            refine rh_Ex.stp (s' := ((80, [some (.int p0), some (.int p1), some (.int p2)], []), (h, g, rr))) rfl (st_ifne_n q5) ?_
            refine rh_Ex.blk 2 (s' := ((82, [some (.int p0), some (.int p1), some (.int p2)], [.int p2, .int p1]), (h, g, rr))) rfl ?_
            obtain ⟨q6, hf⟩ := rh_gq hf
            refine rh_Ex.stp (s' := ((83, [some (.int p0), some (.int p1), some (.int p2)], [.int (p1 / p2)]), (h, g, rr))) rfl (st_idiv q6) ?_
            cases hf
            exact rh_Ex.ret rfl rfl
        · rw [if_neg q4] at hf
          rw [rh_sw, if_neg (show ¬ (47 : Int) = p0.toInt from q4)]
          by_cases q7 : ((60 : Int) = p0.toInt)
          · rw [if_pos q7] at hf
            rw [rh_sw, if_pos (show (60 : Int) = p0.toInt from q7)]
            refine rh_Ex.blk 2 (s' := ((86, [some (.int p0), some (.int p1), some (.int p2)], [.int p2, .int p1]), (h, g, rr))) rfl ?_
            by_cases q8 : p2 ≤ p1
            · rw [if_pos q8] at hf
              refine rh_Ex.stp (s' := ((93, [some (.int p0), some (.int p1), some (.int p2)], []), (h, g, rr))) rfl (st_icge_p q8) ?_
              refine rh_Ex.blk 1 (s' := ((94, [some (.int p0), some (.int p1), some (.int p2)], [.int (0 : Int32)]), (h, g, rr))) rfl ?_
              cases hf
              exact rh_Ex.ret rfl rfl
            · rw [if_neg q8] at hf
              refine rh_Ex.stp (s' := ((89, [some (.int p0), some (.int p1), some (.int p2)], []), (h, g, rr))) rfl (st_icge_n q8) ?_
              refine rh_Ex.blk 2 (s' := ((94, [some (.int p0), some (.int p1), some (.int p2)], [.int (1 : Int32)]), (h, g, rr))) rfl ?_
              cases hf
              exact rh_Ex.ret rfl rfl
          · rw [if_neg q7] at hf
            rw [rh_sw, if_neg (show ¬ (60 : Int) = p0.toInt from q7)]
            by_cases q9 : ((62 : Int) = p0.toInt)
            · rw [if_pos q9] at hf
              rw [rh_sw, if_pos (show (62 : Int) = p0.toInt from q9)]
              refine rh_Ex.blk 2 (s' := ((97, [some (.int p0), some (.int p1), some (.int p2)], [.int p2, .int p1]), (h, g, rr))) rfl ?_
              by_cases q10 : p1 ≤ p2
              · rw [if_pos q10] at hf
                refine rh_Ex.stp (s' := ((104, [some (.int p0), some (.int p1), some (.int p2)], []), (h, g, rr))) rfl (st_icle_p q10) ?_
                refine rh_Ex.blk 1 (s' := ((105, [some (.int p0), some (.int p1), some (.int p2)], [.int (0 : Int32)]), (h, g, rr))) rfl ?_
                cases hf
                exact rh_Ex.ret rfl rfl
              · rw [if_neg q10] at hf
                refine rh_Ex.stp (s' := ((100, [some (.int p0), some (.int p1), some (.int p2)], []), (h, g, rr))) rfl (st_icle_n q10) ?_
                refine rh_Ex.blk 2 (s' := ((105, [some (.int p0), some (.int p1), some (.int p2)], [.int (1 : Int32)]), (h, g, rr))) rfl ?_
                cases hf
                exact rh_Ex.ret rfl rfl
            · rw [if_neg q9] at hf
              rw [rh_sw, if_neg (show ¬ (62 : Int) = p0.toInt from q9)]
              rw [rh_sw]
              refine rh_Ex.blk 2 (s' := ((108, [some (.int p0), some (.int p1), some (.int p2)], [.int p2, .int p1]), (h, g, rr))) rfl ?_
              by_cases q11 : p1 = p2
              · rw [if_pos q11] at hf
                refine rh_Ex.stp (s' := ((111, [some (.int p0), some (.int p1), some (.int p2)], []), (h, g, rr))) rfl (st_icne_p q11) ?_
                refine rh_Ex.blk 2 (s' := ((116, [some (.int p0), some (.int p1), some (.int p2)], [.int (1 : Int32)]), (h, g, rr))) rfl ?_
                cases hf
                exact rh_Ex.ret rfl rfl
              · rw [if_neg q11] at hf
                refine rh_Ex.stp (s' := ((115, [some (.int p0), some (.int p1), some (.int p2)], []), (h, g, rr))) rfl (st_icne_n q11) ?_
                refine rh_Ex.blk 1 (s' := ((116, [some (.int p0), some (.int p1), some (.int p2)], [.int (0 : Int32)]), (h, g, rr))) rfl ?_
                cases hf
                exact rh_Ex.ret rfl rfl
def b_Ha_weigh_22 (u1 : Int32) (u2 : Int32) (u3 : Int32) (u4 : Int32) : (Int32 × Int32 × (Nat → Nat → Int32)) → Option ((Int32 × Int32 × (Nat → Nat → Int32)) ⊕ ((Nat → Nat → Int32))) := fun s22 =>
  if (s22.2.2 6 1) ≤ s22.2.1 then
    some (.inr s22.2.2)
  else
    rh_g (0 ≤ s22.2.1.toInt ∧ s22.2.1.toInt < ((48 : Nat) : Int)) (
      if 0 ≤ (s22.2.2 7 s22.2.1.toNatClampNeg) then
        if ((0 : Int) = (0 : Int32).toInt) then
          if (s22.1 + (1 : Int32)) ≤ 0 then
            some (.inl (s22.1 + (1 : Int32), s22.2.1 + (1 : Int32), s22.2.2))
          else
            if (48 : Int32) < (s22.1 + (1 : Int32)) then
              some (.inl (s22.1 + (1 : Int32), s22.2.1 + (1 : Int32), s22.2.2))
            else
              rh_g (0 ≤ ((s22.1 + (1 : Int32)) - (1 : Int32)).toInt ∧ ((s22.1 + (1 : Int32)) - (1 : Int32)).toInt < ((48 : Nat) : Int)) (
                some (.inl (s22.1 + (1 : Int32), s22.2.1 + (1 : Int32), rh_up s22.2.2 8 ((s22.1 + (1 : Int32)) - (1 : Int32)).toNatClampNeg (s22.2.2 7 s22.2.1.toNatClampNeg)))
              )
        else
          if ((98 : Int) = (0 : Int32).toInt) then
            if (s22.1 + (1 : Int32)) ≤ 0 then
              some (.inl (s22.1 + (1 : Int32), s22.2.1 + (1 : Int32), s22.2.2))
            else
              if (48 : Int32) < (s22.1 + (1 : Int32)) then
                some (.inl (s22.1 + (1 : Int32), s22.2.1 + (1 : Int32), s22.2.2))
              else
                rh_g (0 ≤ ((s22.1 + (1 : Int32)) - (1 : Int32)).toInt ∧ ((s22.1 + (1 : Int32)) - (1 : Int32)).toInt < ((48 : Nat) : Int)) (
                  some (.inl (s22.1 + (1 : Int32), s22.2.1 + (1 : Int32), rh_up s22.2.2 8 ((s22.1 + (1 : Int32)) - (1 : Int32)).toNatClampNeg u2))
                )
          else
            if ((100 : Int) = (0 : Int32).toInt) then
              if (s22.1 + (1 : Int32)) ≤ 0 then
                some (.inl (s22.1 + (1 : Int32), s22.2.1 + (1 : Int32), s22.2.2))
              else
                if (48 : Int32) < (s22.1 + (1 : Int32)) then
                  some (.inl (s22.1 + (1 : Int32), s22.2.1 + (1 : Int32), s22.2.2))
                else
                  rh_g (0 ≤ ((s22.1 + (1 : Int32)) - (1 : Int32)).toInt ∧ ((s22.1 + (1 : Int32)) - (1 : Int32)).toInt < ((48 : Nat) : Int)) (
                    some (.inl (s22.1 + (1 : Int32), s22.2.1 + (1 : Int32), rh_up s22.2.2 8 ((s22.1 + (1 : Int32)) - (1 : Int32)).toNatClampNeg u3))
                  )
            else
              if ((105 : Int) = (0 : Int32).toInt) then
                if (s22.1 + (1 : Int32)) ≤ 0 then
                  some (.inl (s22.1 + (1 : Int32), s22.2.1 + (1 : Int32), s22.2.2))
                else
                  if (48 : Int32) < (s22.1 + (1 : Int32)) then
                    some (.inl (s22.1 + (1 : Int32), s22.2.1 + (1 : Int32), s22.2.2))
                  else
                    rh_g (0 ≤ ((s22.1 + (1 : Int32)) - (1 : Int32)).toInt ∧ ((s22.1 + (1 : Int32)) - (1 : Int32)).toInt < ((48 : Nat) : Int)) (
                      some (.inl (s22.1 + (1 : Int32), s22.2.1 + (1 : Int32), rh_up s22.2.2 8 ((s22.1 + (1 : Int32)) - (1 : Int32)).toNatClampNeg u4))
                    )
              else
                if ((119 : Int) = (0 : Int32).toInt) then
                  if (s22.1 + (1 : Int32)) ≤ 0 then
                    some (.inl (s22.1 + (1 : Int32), s22.2.1 + (1 : Int32), s22.2.2))
                  else
                    if (48 : Int32) < (s22.1 + (1 : Int32)) then
                      some (.inl (s22.1 + (1 : Int32), s22.2.1 + (1 : Int32), s22.2.2))
                    else
                      rh_g (0 ≤ ((s22.1 + (1 : Int32)) - (1 : Int32)).toInt ∧ ((s22.1 + (1 : Int32)) - (1 : Int32)).toInt < ((48 : Nat) : Int)) (
                        some (.inl (s22.1 + (1 : Int32), s22.2.1 + (1 : Int32), rh_up s22.2.2 8 ((s22.1 + (1 : Int32)) - (1 : Int32)).toNatClampNeg u1))
                      )
                else
                  if ((126 : Int) = (0 : Int32).toInt) then
                    if s22.1 ≤ 0 then
                      if (s22.1 + (0 : Int32)) ≤ 0 then
                        some (.inl (s22.1 + (0 : Int32), s22.2.1 + (1 : Int32), s22.2.2))
                      else
                        if (48 : Int32) < (s22.1 + (0 : Int32)) then
                          some (.inl (s22.1 + (0 : Int32), s22.2.1 + (1 : Int32), s22.2.2))
                        else
                          rh_g (0 ≤ ((s22.1 + (0 : Int32)) - (1 : Int32)).toInt ∧ ((s22.1 + (0 : Int32)) - (1 : Int32)).toInt < ((48 : Nat) : Int)) (
                            some (.inl (s22.1 + (0 : Int32), s22.2.1 + (1 : Int32), rh_up s22.2.2 8 ((s22.1 + (0 : Int32)) - (1 : Int32)).toNatClampNeg (0 : Int32)))
                          )
                    else
                      rh_g (0 ≤ (s22.1 - (1 : Int32)).toInt ∧ (s22.1 - (1 : Int32)).toInt < ((48 : Nat) : Int)) (
                        if (s22.1 + (0 : Int32)) ≤ 0 then
                          some (.inl (s22.1 + (0 : Int32), s22.2.1 + (1 : Int32), s22.2.2))
                        else
                          if (48 : Int32) < (s22.1 + (0 : Int32)) then
                            some (.inl (s22.1 + (0 : Int32), s22.2.1 + (1 : Int32), s22.2.2))
                          else
                            rh_g (0 ≤ ((s22.1 + (0 : Int32)) - (1 : Int32)).toInt ∧ ((s22.1 + (0 : Int32)) - (1 : Int32)).toInt < ((48 : Nat) : Int)) (
                              some (.inl (s22.1 + (0 : Int32), s22.2.1 + (1 : Int32), rh_up s22.2.2 8 ((s22.1 + (0 : Int32)) - (1 : Int32)).toNatClampNeg (-(s22.2.2 8 (s22.1 - (1 : Int32)).toNatClampNeg))))
                            )
                      )
                  else
                    if s22.1 ≤ (1 : Int32) then
                      if (s22.1 + (-1 : Int32)) ≤ 0 then
                        some (.inl (s22.1 + (-1 : Int32), s22.2.1 + (1 : Int32), s22.2.2))
                      else
                        if (48 : Int32) < (s22.1 + (-1 : Int32)) then
                          some (.inl (s22.1 + (-1 : Int32), s22.2.1 + (1 : Int32), s22.2.2))
                        else
                          rh_g (0 ≤ ((s22.1 + (-1 : Int32)) - (1 : Int32)).toInt ∧ ((s22.1 + (-1 : Int32)) - (1 : Int32)).toInt < ((48 : Nat) : Int)) (
                            some (.inl (s22.1 + (-1 : Int32), s22.2.1 + (1 : Int32), rh_up s22.2.2 8 ((s22.1 + (-1 : Int32)) - (1 : Int32)).toNatClampNeg (0 : Int32)))
                          )
                    else
                      rh_g (0 ≤ (s22.1 - (2 : Int32)).toInt ∧ (s22.1 - (2 : Int32)).toInt < ((48 : Nat) : Int)) (
                        rh_g (0 ≤ (s22.1 - (1 : Int32)).toInt ∧ (s22.1 - (1 : Int32)).toInt < ((48 : Nat) : Int)) (
                          (f_Ha_joined (-(s22.2.2 7 s22.2.1.toNatClampNeg)) (s22.2.2 8 (s22.1 - (2 : Int32)).toNatClampNeg) (s22.2.2 8 (s22.1 - (1 : Int32)).toNatClampNeg)).bind (fun x41 =>
                            if (s22.1 + (-1 : Int32)) ≤ 0 then
                              some (.inl (s22.1 + (-1 : Int32), s22.2.1 + (1 : Int32), s22.2.2))
                            else
                              if (48 : Int32) < (s22.1 + (-1 : Int32)) then
                                some (.inl (s22.1 + (-1 : Int32), s22.2.1 + (1 : Int32), s22.2.2))
                              else
                                rh_g (0 ≤ ((s22.1 + (-1 : Int32)) - (1 : Int32)).toInt ∧ ((s22.1 + (-1 : Int32)) - (1 : Int32)).toInt < ((48 : Nat) : Int)) (
                                  some (.inl (s22.1 + (-1 : Int32), s22.2.1 + (1 : Int32), rh_up s22.2.2 8 ((s22.1 + (-1 : Int32)) - (1 : Int32)).toNatClampNeg x41))
                                )
                          )
                        )
                      )
      else
        if ((0 : Int) = (-(s22.2.2 7 s22.2.1.toNatClampNeg)).toInt) then
          if (s22.1 + (1 : Int32)) ≤ 0 then
            some (.inl (s22.1 + (1 : Int32), s22.2.1 + (1 : Int32), s22.2.2))
          else
            if (48 : Int32) < (s22.1 + (1 : Int32)) then
              some (.inl (s22.1 + (1 : Int32), s22.2.1 + (1 : Int32), s22.2.2))
            else
              rh_g (0 ≤ ((s22.1 + (1 : Int32)) - (1 : Int32)).toInt ∧ ((s22.1 + (1 : Int32)) - (1 : Int32)).toInt < ((48 : Nat) : Int)) (
                some (.inl (s22.1 + (1 : Int32), s22.2.1 + (1 : Int32), rh_up s22.2.2 8 ((s22.1 + (1 : Int32)) - (1 : Int32)).toNatClampNeg (s22.2.2 7 s22.2.1.toNatClampNeg)))
              )
        else
          if ((98 : Int) = (-(s22.2.2 7 s22.2.1.toNatClampNeg)).toInt) then
            if (s22.1 + (1 : Int32)) ≤ 0 then
              some (.inl (s22.1 + (1 : Int32), s22.2.1 + (1 : Int32), s22.2.2))
            else
              if (48 : Int32) < (s22.1 + (1 : Int32)) then
                some (.inl (s22.1 + (1 : Int32), s22.2.1 + (1 : Int32), s22.2.2))
              else
                rh_g (0 ≤ ((s22.1 + (1 : Int32)) - (1 : Int32)).toInt ∧ ((s22.1 + (1 : Int32)) - (1 : Int32)).toInt < ((48 : Nat) : Int)) (
                  some (.inl (s22.1 + (1 : Int32), s22.2.1 + (1 : Int32), rh_up s22.2.2 8 ((s22.1 + (1 : Int32)) - (1 : Int32)).toNatClampNeg u2))
                )
          else
            if ((100 : Int) = (-(s22.2.2 7 s22.2.1.toNatClampNeg)).toInt) then
              if (s22.1 + (1 : Int32)) ≤ 0 then
                some (.inl (s22.1 + (1 : Int32), s22.2.1 + (1 : Int32), s22.2.2))
              else
                if (48 : Int32) < (s22.1 + (1 : Int32)) then
                  some (.inl (s22.1 + (1 : Int32), s22.2.1 + (1 : Int32), s22.2.2))
                else
                  rh_g (0 ≤ ((s22.1 + (1 : Int32)) - (1 : Int32)).toInt ∧ ((s22.1 + (1 : Int32)) - (1 : Int32)).toInt < ((48 : Nat) : Int)) (
                    some (.inl (s22.1 + (1 : Int32), s22.2.1 + (1 : Int32), rh_up s22.2.2 8 ((s22.1 + (1 : Int32)) - (1 : Int32)).toNatClampNeg u3))
                  )
            else
              if ((105 : Int) = (-(s22.2.2 7 s22.2.1.toNatClampNeg)).toInt) then
                if (s22.1 + (1 : Int32)) ≤ 0 then
                  some (.inl (s22.1 + (1 : Int32), s22.2.1 + (1 : Int32), s22.2.2))
                else
                  if (48 : Int32) < (s22.1 + (1 : Int32)) then
                    some (.inl (s22.1 + (1 : Int32), s22.2.1 + (1 : Int32), s22.2.2))
                  else
                    rh_g (0 ≤ ((s22.1 + (1 : Int32)) - (1 : Int32)).toInt ∧ ((s22.1 + (1 : Int32)) - (1 : Int32)).toInt < ((48 : Nat) : Int)) (
                      some (.inl (s22.1 + (1 : Int32), s22.2.1 + (1 : Int32), rh_up s22.2.2 8 ((s22.1 + (1 : Int32)) - (1 : Int32)).toNatClampNeg u4))
                    )
              else
                if ((119 : Int) = (-(s22.2.2 7 s22.2.1.toNatClampNeg)).toInt) then
                  if (s22.1 + (1 : Int32)) ≤ 0 then
                    some (.inl (s22.1 + (1 : Int32), s22.2.1 + (1 : Int32), s22.2.2))
                  else
                    if (48 : Int32) < (s22.1 + (1 : Int32)) then
                      some (.inl (s22.1 + (1 : Int32), s22.2.1 + (1 : Int32), s22.2.2))
                    else
                      rh_g (0 ≤ ((s22.1 + (1 : Int32)) - (1 : Int32)).toInt ∧ ((s22.1 + (1 : Int32)) - (1 : Int32)).toInt < ((48 : Nat) : Int)) (
                        some (.inl (s22.1 + (1 : Int32), s22.2.1 + (1 : Int32), rh_up s22.2.2 8 ((s22.1 + (1 : Int32)) - (1 : Int32)).toNatClampNeg u1))
                      )
                else
                  if ((126 : Int) = (-(s22.2.2 7 s22.2.1.toNatClampNeg)).toInt) then
                    if s22.1 ≤ 0 then
                      if (s22.1 + (0 : Int32)) ≤ 0 then
                        some (.inl (s22.1 + (0 : Int32), s22.2.1 + (1 : Int32), s22.2.2))
                      else
                        if (48 : Int32) < (s22.1 + (0 : Int32)) then
                          some (.inl (s22.1 + (0 : Int32), s22.2.1 + (1 : Int32), s22.2.2))
                        else
                          rh_g (0 ≤ ((s22.1 + (0 : Int32)) - (1 : Int32)).toInt ∧ ((s22.1 + (0 : Int32)) - (1 : Int32)).toInt < ((48 : Nat) : Int)) (
                            some (.inl (s22.1 + (0 : Int32), s22.2.1 + (1 : Int32), rh_up s22.2.2 8 ((s22.1 + (0 : Int32)) - (1 : Int32)).toNatClampNeg (0 : Int32)))
                          )
                    else
                      rh_g (0 ≤ (s22.1 - (1 : Int32)).toInt ∧ (s22.1 - (1 : Int32)).toInt < ((48 : Nat) : Int)) (
                        if (s22.1 + (0 : Int32)) ≤ 0 then
                          some (.inl (s22.1 + (0 : Int32), s22.2.1 + (1 : Int32), s22.2.2))
                        else
                          if (48 : Int32) < (s22.1 + (0 : Int32)) then
                            some (.inl (s22.1 + (0 : Int32), s22.2.1 + (1 : Int32), s22.2.2))
                          else
                            rh_g (0 ≤ ((s22.1 + (0 : Int32)) - (1 : Int32)).toInt ∧ ((s22.1 + (0 : Int32)) - (1 : Int32)).toInt < ((48 : Nat) : Int)) (
                              some (.inl (s22.1 + (0 : Int32), s22.2.1 + (1 : Int32), rh_up s22.2.2 8 ((s22.1 + (0 : Int32)) - (1 : Int32)).toNatClampNeg (-(s22.2.2 8 (s22.1 - (1 : Int32)).toNatClampNeg))))
                            )
                      )
                  else
                    if s22.1 ≤ (1 : Int32) then
                      if (s22.1 + (-1 : Int32)) ≤ 0 then
                        some (.inl (s22.1 + (-1 : Int32), s22.2.1 + (1 : Int32), s22.2.2))
                      else
                        if (48 : Int32) < (s22.1 + (-1 : Int32)) then
                          some (.inl (s22.1 + (-1 : Int32), s22.2.1 + (1 : Int32), s22.2.2))
                        else
                          rh_g (0 ≤ ((s22.1 + (-1 : Int32)) - (1 : Int32)).toInt ∧ ((s22.1 + (-1 : Int32)) - (1 : Int32)).toInt < ((48 : Nat) : Int)) (
                            some (.inl (s22.1 + (-1 : Int32), s22.2.1 + (1 : Int32), rh_up s22.2.2 8 ((s22.1 + (-1 : Int32)) - (1 : Int32)).toNatClampNeg (0 : Int32)))
                          )
                    else
                      rh_g (0 ≤ (s22.1 - (2 : Int32)).toInt ∧ (s22.1 - (2 : Int32)).toInt < ((48 : Nat) : Int)) (
                        rh_g (0 ≤ (s22.1 - (1 : Int32)).toInt ∧ (s22.1 - (1 : Int32)).toInt < ((48 : Nat) : Int)) (
                          (f_Ha_joined (-(s22.2.2 7 s22.2.1.toNatClampNeg)) (s22.2.2 8 (s22.1 - (2 : Int32)).toNatClampNeg) (s22.2.2 8 (s22.1 - (1 : Int32)).toNatClampNeg)).bind (fun x80 =>
                            if (s22.1 + (-1 : Int32)) ≤ 0 then
                              some (.inl (s22.1 + (-1 : Int32), s22.2.1 + (1 : Int32), s22.2.2))
                            else
                              if (48 : Int32) < (s22.1 + (-1 : Int32)) then
                                some (.inl (s22.1 + (-1 : Int32), s22.2.1 + (1 : Int32), s22.2.2))
                              else
                                rh_g (0 ≤ ((s22.1 + (-1 : Int32)) - (1 : Int32)).toInt ∧ ((s22.1 + (-1 : Int32)) - (1 : Int32)).toInt < ((48 : Nat) : Int)) (
                                  some (.inl (s22.1 + (-1 : Int32), s22.2.1 + (1 : Int32), rh_up s22.2.2 8 ((s22.1 + (-1 : Int32)) - (1 : Int32)).toNatClampNeg x80))
                                )
                          )
                        )
                      )
    )
def f_Ha_weigh (h : Nat → Nat → Int32) (p0 : Int32) (p1 : Int32) (p2 : Int32) (p3 : Int32) : Option (Int32 × (Nat → Nat → Int32)) :=
  if (h 6 1) = 0 then
    some ((p0 - ((p0 * p1) / (24 : Int32)), h))
  else
    (rh_loop (b_Ha_weigh_22 p0 p1 p2 p3) rh_N ((0 : Int32), (0 : Int32), h)).bind (fun r84 =>
      some (((if (0 : Int32) < (if (r84 8 (0 : Int32).toNatClampNeg) < (9999 : Int32) then (r84 8 (0 : Int32).toNatClampNeg) else (9999 : Int32)) then (if (r84 8 (0 : Int32).toNatClampNeg) < (9999 : Int32) then (r84 8 (0 : Int32).toNatClampNeg) else (9999 : Int32)) else (0 : Int32)), r84))
    )
set_option maxRecDepth 20000 in
set_option maxHeartbeats 4000000 in
theorem lb_Ha_weigh_22 (d : Nat) (xx : rh_L) (sv : Option Nat) (u1 : Int32) (u2 : Int32) (u3 : Int32) (u4 : Int32) (g : Nat → Nat → Int64) (v9 : Option Value) (h9 : rh_H) : ∀ s22 x9, b_Ha_weigh_22 u1 u2 u3 u4 s22 = some x9 → Sum.elim (fun s22 => rh_Ex (rh_M rh_PT (cw_L ++ xx) (d + 1)) (cw_L ++ xx) pg_X4_weigh ((22, [some (.ref 6), some (.int u1), some (.int u2), some (.int u3), some (.int u4), some (.int s22.1), some (.int s22.2.1), none, none, none], []), (s22.2.2, g, cw_R sv)) v9 h9) (fun e9 => rh_Ex (rh_M rh_PT (cw_L ++ xx) (d + 1)) (cw_L ++ xx) pg_X4_weigh ((250, [some (.ref 6), none, none, none, none, none, none, none, none, none], []), (e9, g, cw_R sv)) v9 h9) x9 → rh_Ex (rh_M rh_PT (cw_L ++ xx) (d + 1)) (cw_L ++ xx) pg_X4_weigh ((22, [some (.ref 6), some (.int u1), some (.int u2), some (.int u3), some (.int u4), some (.int s22.1), some (.int s22.2.1), none, none, none], []), (s22.2.2, g, cw_R sv)) v9 h9 := by
  intro s22 x9 hf hk
  unfold b_Ha_weigh_22 at hf
  refine rh_Ex.blk 3 (s' := ((28, [some (.ref 6), some (.int u1), some (.int u2), some (.int u3), some (.int u4), some (.int s22.1), some (.int s22.2.1), none, none, none], [.int (s22.2.2 6 1), .int s22.2.1]), (s22.2.2, g, cw_R sv))) rfl ?_
  by_cases q3 : (s22.2.2 6 1) ≤ s22.2.1
  · rw [if_pos q3] at hf
    refine rh_Ex.stp (s' := ((250, [some (.ref 6), some (.int u1), some (.int u2), some (.int u3), some (.int u4), some (.int s22.1), some (.int s22.2.1), none, none, none], []), (s22.2.2, g, cw_R sv))) rfl (st_icge_p q3) ?_
    cases hf
    refine rh_Ex.fgt [some (.ref 6), none, none, none, none, none, none, none, none, none] ⟨rfl, trivial⟩ ?_
    exact hk
  · rw [if_neg q3] at hf
    refine rh_Ex.stp (s' := ((31, [some (.ref 6), some (.int u1), some (.int u2), some (.int u3), some (.int u4), some (.int s22.1), some (.int s22.2.1), none, none, none], []), (s22.2.2, g, cw_R sv))) rfl (st_icge_n q3) ?_
    refine rh_Ex.blk 3 (s' := ((37, [some (.ref 6), some (.int u1), some (.int u2), some (.int u3), some (.int u4), some (.int s22.1), some (.int s22.2.1), none, none, none], [.int s22.2.1, .ref 7]), (s22.2.2, g, cw_R sv))) rfl ?_
    obtain ⟨q4, hf⟩ := rh_gq hf
    refine rh_Ex.stp (s' := ((38, [some (.ref 6), some (.int u1), some (.int u2), some (.int u3), some (.int u4), some (.int s22.1), some (.int s22.2.1), none, none, none], [.int (s22.2.2 7 s22.2.1.toNatClampNeg)]), (s22.2.2, g, cw_R sv))) rfl (st_iald (n := 48) rfl q4) ?_
    refine rh_Ex.blk 6 (s' := ((48, [some (.ref 6), some (.int u1), some (.int u2), some (.int u3), some (.int u4), some (.int s22.1), some (.int s22.2.1), some (.int (s22.2.2 7 s22.2.1.toNatClampNeg)), some (.int (0 : Int32)), some (.int (1 : Int32))], [.int (s22.2.2 7 s22.2.1.toNatClampNeg)]), (s22.2.2, g, cw_R sv))) rfl ?_
    by_cases q5 : 0 ≤ (s22.2.2 7 s22.2.1.toNatClampNeg)
    · rw [if_pos q5] at hf
      refine rh_Ex.stp (s' := ((57, [some (.ref 6), some (.int u1), some (.int u2), some (.int u3), some (.int u4), some (.int s22.1), some (.int s22.2.1), some (.int (s22.2.2 7 s22.2.1.toNatClampNeg)), some (.int (0 : Int32)), some (.int (1 : Int32))], []), (s22.2.2, g, cw_R sv))) rfl (st_ifge_p q5) ?_
      refine rh_Ex.blk 1 (s' := ((58, [some (.ref 6), some (.int u1), some (.int u2), some (.int u3), some (.int u4), some (.int s22.1), some (.int s22.2.1), some (.int (s22.2.2 7 s22.2.1.toNatClampNeg)), some (.int (0 : Int32)), some (.int (1 : Int32))], [.int (0 : Int32)]), (s22.2.2, g, cw_R sv))) rfl ?_
      refine rh_Ex.stp (s' := ((rh_sw [(0, 116), (98, 129), (100, 135), (105, 141), (119, 123), (126, 148)] 175 (0 : Int32), [some (.ref 6), some (.int u1), some (.int u2), some (.int u3), some (.int u4), some (.int s22.1), some (.int s22.2.1), some (.int (s22.2.2 7 s22.2.1.toNatClampNeg)), some (.int (0 : Int32)), some (.int (1 : Int32))], []), (s22.2.2, g, cw_R sv))) rfl rfl ?_
      by_cases q6 : ((0 : Int) = (0 : Int32).toInt)
      · rw [if_pos q6] at hf
        rw [rh_sw, if_pos (show (0 : Int) = (0 : Int32).toInt from q6)]
        refine rh_Ex.blk 8 (s' := ((223, [some (.ref 6), some (.int u1), some (.int u2), some (.int u3), some (.int u4), some (.int (s22.1 + (1 : Int32))), some (.int s22.2.1), some (.int (s22.2.2 7 s22.2.1.toNatClampNeg)), some (.int (s22.2.2 7 s22.2.1.toNatClampNeg)), some (.int (1 : Int32))], [.int (s22.1 + (1 : Int32))]), (s22.2.2, g, cw_R sv))) rfl ?_
        by_cases q7 : (s22.1 + (1 : Int32)) ≤ 0
        · rw [if_pos q7] at hf
          refine rh_Ex.stp (s' := ((244, [some (.ref 6), some (.int u1), some (.int u2), some (.int u3), some (.int u4), some (.int (s22.1 + (1 : Int32))), some (.int s22.2.1), some (.int (s22.2.2 7 s22.2.1.toNatClampNeg)), some (.int (s22.2.2 7 s22.2.1.toNatClampNeg)), some (.int (1 : Int32))], []), (s22.2.2, g, cw_R sv))) rfl (st_ifle_p q7) ?_
          refine rh_Ex.blk 2 (s' := ((22, [some (.ref 6), some (.int u1), some (.int u2), some (.int u3), some (.int u4), some (.int (s22.1 + (1 : Int32))), some (.int (s22.2.1 + (1 : Int32))), some (.int (s22.2.2 7 s22.2.1.toNatClampNeg)), some (.int (s22.2.2 7 s22.2.1.toNatClampNeg)), some (.int (1 : Int32))], []), (s22.2.2, g, cw_R sv))) rfl ?_
          cases hf
          refine rh_Ex.fgt [some (.ref 6), some (.int u1), some (.int u2), some (.int u3), some (.int u4), some (.int (s22.1 + (1 : Int32))), some (.int (s22.2.1 + (1 : Int32))), none, none, none] ⟨rfl, rfl, rfl, rfl, rfl, rfl, rfl, trivial⟩ ?_
          exact hk
        · rw [if_neg q7] at hf
          refine rh_Ex.stp (s' := ((226, [some (.ref 6), some (.int u1), some (.int u2), some (.int u3), some (.int u4), some (.int (s22.1 + (1 : Int32))), some (.int s22.2.1), some (.int (s22.2.2 7 s22.2.1.toNatClampNeg)), some (.int (s22.2.2 7 s22.2.1.toNatClampNeg)), some (.int (1 : Int32))], []), (s22.2.2, g, cw_R sv))) rfl (st_ifle_n q7) ?_
          refine rh_Ex.blk 2 (s' := ((230, [some (.ref 6), some (.int u1), some (.int u2), some (.int u3), some (.int u4), some (.int (s22.1 + (1 : Int32))), some (.int s22.2.1), some (.int (s22.2.2 7 s22.2.1.toNatClampNeg)), some (.int (s22.2.2 7 s22.2.1.toNatClampNeg)), some (.int (1 : Int32))], [.int (48 : Int32), .int (s22.1 + (1 : Int32))]), (s22.2.2, g, cw_R sv))) rfl ?_
          by_cases q8 : (48 : Int32) < (s22.1 + (1 : Int32))
          · rw [if_pos q8] at hf
            refine rh_Ex.stp (s' := ((244, [some (.ref 6), some (.int u1), some (.int u2), some (.int u3), some (.int u4), some (.int (s22.1 + (1 : Int32))), some (.int s22.2.1), some (.int (s22.2.2 7 s22.2.1.toNatClampNeg)), some (.int (s22.2.2 7 s22.2.1.toNatClampNeg)), some (.int (1 : Int32))], []), (s22.2.2, g, cw_R sv))) rfl (st_icgt_p q8) ?_
            refine rh_Ex.blk 2 (s' := ((22, [some (.ref 6), some (.int u1), some (.int u2), some (.int u3), some (.int u4), some (.int (s22.1 + (1 : Int32))), some (.int (s22.2.1 + (1 : Int32))), some (.int (s22.2.2 7 s22.2.1.toNatClampNeg)), some (.int (s22.2.2 7 s22.2.1.toNatClampNeg)), some (.int (1 : Int32))], []), (s22.2.2, g, cw_R sv))) rfl ?_
            cases hf
            refine rh_Ex.fgt [some (.ref 6), some (.int u1), some (.int u2), some (.int u3), some (.int u4), some (.int (s22.1 + (1 : Int32))), some (.int (s22.2.1 + (1 : Int32))), none, none, none] ⟨rfl, rfl, rfl, rfl, rfl, rfl, rfl, trivial⟩ ?_
            exact hk
          · rw [if_neg q8] at hf
            refine rh_Ex.stp (s' := ((233, [some (.ref 6), some (.int u1), some (.int u2), some (.int u3), some (.int u4), some (.int (s22.1 + (1 : Int32))), some (.int s22.2.1), some (.int (s22.2.2 7 s22.2.1.toNatClampNeg)), some (.int (s22.2.2 7 s22.2.1.toNatClampNeg)), some (.int (1 : Int32))], []), (s22.2.2, g, cw_R sv))) rfl (st_icgt_n q8) ?_
            refine rh_Ex.blk 6 (s' := ((243, [some (.ref 6), some (.int u1), some (.int u2), some (.int u3), some (.int u4), some (.int (s22.1 + (1 : Int32))), some (.int s22.2.1), some (.int (s22.2.2 7 s22.2.1.toNatClampNeg)), some (.int (s22.2.2 7 s22.2.1.toNatClampNeg)), some (.int (1 : Int32))], [.int (s22.2.2 7 s22.2.1.toNatClampNeg), .int ((s22.1 + (1 : Int32)) - (1 : Int32)), .ref 8]), (s22.2.2, g, cw_R sv))) rfl ?_
            obtain ⟨q9, hf⟩ := rh_gq hf
            refine rh_Ex.stp (s' := ((244, [some (.ref 6), some (.int u1), some (.int u2), some (.int u3), some (.int u4), some (.int (s22.1 + (1 : Int32))), some (.int s22.2.1), some (.int (s22.2.2 7 s22.2.1.toNatClampNeg)), some (.int (s22.2.2 7 s22.2.1.toNatClampNeg)), some (.int (1 : Int32))], []), (rh_up s22.2.2 8 ((s22.1 + (1 : Int32)) - (1 : Int32)).toNatClampNeg (s22.2.2 7 s22.2.1.toNatClampNeg), g, cw_R sv))) rfl (st_iast (n := 48) rfl q9) ?_
            refine rh_Ex.blk 2 (s' := ((22, [some (.ref 6), some (.int u1), some (.int u2), some (.int u3), some (.int u4), some (.int (s22.1 + (1 : Int32))), some (.int (s22.2.1 + (1 : Int32))), some (.int (s22.2.2 7 s22.2.1.toNatClampNeg)), some (.int (s22.2.2 7 s22.2.1.toNatClampNeg)), some (.int (1 : Int32))], []), (rh_up s22.2.2 8 ((s22.1 + (1 : Int32)) - (1 : Int32)).toNatClampNeg (s22.2.2 7 s22.2.1.toNatClampNeg), g, cw_R sv))) rfl ?_
            cases hf
            refine rh_Ex.fgt [some (.ref 6), some (.int u1), some (.int u2), some (.int u3), some (.int u4), some (.int (s22.1 + (1 : Int32))), some (.int (s22.2.1 + (1 : Int32))), none, none, none] ⟨rfl, rfl, rfl, rfl, rfl, rfl, rfl, trivial⟩ ?_
            exact hk
      · rw [if_neg q6] at hf
        rw [rh_sw, if_neg (show ¬ (0 : Int) = (0 : Int32).toInt from q6)]
        by_cases q10 : ((98 : Int) = (0 : Int32).toInt)
        · rw [if_pos q10] at hf
          rw [rh_sw, if_pos (show (98 : Int) = (0 : Int32).toInt from q10)]
          refine rh_Ex.blk 8 (s' := ((223, [some (.ref 6), some (.int u1), some (.int u2), some (.int u3), some (.int u4), some (.int (s22.1 + (1 : Int32))), some (.int s22.2.1), some (.int (s22.2.2 7 s22.2.1.toNatClampNeg)), some (.int u2), some (.int (1 : Int32))], [.int (s22.1 + (1 : Int32))]), (s22.2.2, g, cw_R sv))) rfl ?_
          by_cases q11 : (s22.1 + (1 : Int32)) ≤ 0
          · rw [if_pos q11] at hf
            refine rh_Ex.stp (s' := ((244, [some (.ref 6), some (.int u1), some (.int u2), some (.int u3), some (.int u4), some (.int (s22.1 + (1 : Int32))), some (.int s22.2.1), some (.int (s22.2.2 7 s22.2.1.toNatClampNeg)), some (.int u2), some (.int (1 : Int32))], []), (s22.2.2, g, cw_R sv))) rfl (st_ifle_p q11) ?_
            refine rh_Ex.blk 2 (s' := ((22, [some (.ref 6), some (.int u1), some (.int u2), some (.int u3), some (.int u4), some (.int (s22.1 + (1 : Int32))), some (.int (s22.2.1 + (1 : Int32))), some (.int (s22.2.2 7 s22.2.1.toNatClampNeg)), some (.int u2), some (.int (1 : Int32))], []), (s22.2.2, g, cw_R sv))) rfl ?_
            cases hf
            refine rh_Ex.fgt [some (.ref 6), some (.int u1), some (.int u2), some (.int u3), some (.int u4), some (.int (s22.1 + (1 : Int32))), some (.int (s22.2.1 + (1 : Int32))), none, none, none] ⟨rfl, rfl, rfl, rfl, rfl, rfl, rfl, trivial⟩ ?_
            exact hk
          · rw [if_neg q11] at hf
            refine rh_Ex.stp (s' := ((226, [some (.ref 6), some (.int u1), some (.int u2), some (.int u3), some (.int u4), some (.int (s22.1 + (1 : Int32))), some (.int s22.2.1), some (.int (s22.2.2 7 s22.2.1.toNatClampNeg)), some (.int u2), some (.int (1 : Int32))], []), (s22.2.2, g, cw_R sv))) rfl (st_ifle_n q11) ?_
            refine rh_Ex.blk 2 (s' := ((230, [some (.ref 6), some (.int u1), some (.int u2), some (.int u3), some (.int u4), some (.int (s22.1 + (1 : Int32))), some (.int s22.2.1), some (.int (s22.2.2 7 s22.2.1.toNatClampNeg)), some (.int u2), some (.int (1 : Int32))], [.int (48 : Int32), .int (s22.1 + (1 : Int32))]), (s22.2.2, g, cw_R sv))) rfl ?_
            by_cases q12 : (48 : Int32) < (s22.1 + (1 : Int32))
            · rw [if_pos q12] at hf
              refine rh_Ex.stp (s' := ((244, [some (.ref 6), some (.int u1), some (.int u2), some (.int u3), some (.int u4), some (.int (s22.1 + (1 : Int32))), some (.int s22.2.1), some (.int (s22.2.2 7 s22.2.1.toNatClampNeg)), some (.int u2), some (.int (1 : Int32))], []), (s22.2.2, g, cw_R sv))) rfl (st_icgt_p q12) ?_
              refine rh_Ex.blk 2 (s' := ((22, [some (.ref 6), some (.int u1), some (.int u2), some (.int u3), some (.int u4), some (.int (s22.1 + (1 : Int32))), some (.int (s22.2.1 + (1 : Int32))), some (.int (s22.2.2 7 s22.2.1.toNatClampNeg)), some (.int u2), some (.int (1 : Int32))], []), (s22.2.2, g, cw_R sv))) rfl ?_
              cases hf
              refine rh_Ex.fgt [some (.ref 6), some (.int u1), some (.int u2), some (.int u3), some (.int u4), some (.int (s22.1 + (1 : Int32))), some (.int (s22.2.1 + (1 : Int32))), none, none, none] ⟨rfl, rfl, rfl, rfl, rfl, rfl, rfl, trivial⟩ ?_
              exact hk
            · rw [if_neg q12] at hf
              refine rh_Ex.stp (s' := ((233, [some (.ref 6), some (.int u1), some (.int u2), some (.int u3), some (.int u4), some (.int (s22.1 + (1 : Int32))), some (.int s22.2.1), some (.int (s22.2.2 7 s22.2.1.toNatClampNeg)), some (.int u2), some (.int (1 : Int32))], []), (s22.2.2, g, cw_R sv))) rfl (st_icgt_n q12) ?_
              refine rh_Ex.blk 6 (s' := ((243, [some (.ref 6), some (.int u1), some (.int u2), some (.int u3), some (.int u4), some (.int (s22.1 + (1 : Int32))), some (.int s22.2.1), some (.int (s22.2.2 7 s22.2.1.toNatClampNeg)), some (.int u2), some (.int (1 : Int32))], [.int u2, .int ((s22.1 + (1 : Int32)) - (1 : Int32)), .ref 8]), (s22.2.2, g, cw_R sv))) rfl ?_
              obtain ⟨q13, hf⟩ := rh_gq hf
              refine rh_Ex.stp (s' := ((244, [some (.ref 6), some (.int u1), some (.int u2), some (.int u3), some (.int u4), some (.int (s22.1 + (1 : Int32))), some (.int s22.2.1), some (.int (s22.2.2 7 s22.2.1.toNatClampNeg)), some (.int u2), some (.int (1 : Int32))], []), (rh_up s22.2.2 8 ((s22.1 + (1 : Int32)) - (1 : Int32)).toNatClampNeg u2, g, cw_R sv))) rfl (st_iast (n := 48) rfl q13) ?_
              refine rh_Ex.blk 2 (s' := ((22, [some (.ref 6), some (.int u1), some (.int u2), some (.int u3), some (.int u4), some (.int (s22.1 + (1 : Int32))), some (.int (s22.2.1 + (1 : Int32))), some (.int (s22.2.2 7 s22.2.1.toNatClampNeg)), some (.int u2), some (.int (1 : Int32))], []), (rh_up s22.2.2 8 ((s22.1 + (1 : Int32)) - (1 : Int32)).toNatClampNeg u2, g, cw_R sv))) rfl ?_
              cases hf
              refine rh_Ex.fgt [some (.ref 6), some (.int u1), some (.int u2), some (.int u3), some (.int u4), some (.int (s22.1 + (1 : Int32))), some (.int (s22.2.1 + (1 : Int32))), none, none, none] ⟨rfl, rfl, rfl, rfl, rfl, rfl, rfl, trivial⟩ ?_
              exact hk
        · rw [if_neg q10] at hf
          rw [rh_sw, if_neg (show ¬ (98 : Int) = (0 : Int32).toInt from q10)]
          by_cases q14 : ((100 : Int) = (0 : Int32).toInt)
          · rw [if_pos q14] at hf
            rw [rh_sw, if_pos (show (100 : Int) = (0 : Int32).toInt from q14)]
            refine rh_Ex.blk 8 (s' := ((223, [some (.ref 6), some (.int u1), some (.int u2), some (.int u3), some (.int u4), some (.int (s22.1 + (1 : Int32))), some (.int s22.2.1), some (.int (s22.2.2 7 s22.2.1.toNatClampNeg)), some (.int u3), some (.int (1 : Int32))], [.int (s22.1 + (1 : Int32))]), (s22.2.2, g, cw_R sv))) rfl ?_
            by_cases q15 : (s22.1 + (1 : Int32)) ≤ 0
            · rw [if_pos q15] at hf
              refine rh_Ex.stp (s' := ((244, [some (.ref 6), some (.int u1), some (.int u2), some (.int u3), some (.int u4), some (.int (s22.1 + (1 : Int32))), some (.int s22.2.1), some (.int (s22.2.2 7 s22.2.1.toNatClampNeg)), some (.int u3), some (.int (1 : Int32))], []), (s22.2.2, g, cw_R sv))) rfl (st_ifle_p q15) ?_
              refine rh_Ex.blk 2 (s' := ((22, [some (.ref 6), some (.int u1), some (.int u2), some (.int u3), some (.int u4), some (.int (s22.1 + (1 : Int32))), some (.int (s22.2.1 + (1 : Int32))), some (.int (s22.2.2 7 s22.2.1.toNatClampNeg)), some (.int u3), some (.int (1 : Int32))], []), (s22.2.2, g, cw_R sv))) rfl ?_
              cases hf
              refine rh_Ex.fgt [some (.ref 6), some (.int u1), some (.int u2), some (.int u3), some (.int u4), some (.int (s22.1 + (1 : Int32))), some (.int (s22.2.1 + (1 : Int32))), none, none, none] ⟨rfl, rfl, rfl, rfl, rfl, rfl, rfl, trivial⟩ ?_
              exact hk
            · rw [if_neg q15] at hf
              refine rh_Ex.stp (s' := ((226, [some (.ref 6), some (.int u1), some (.int u2), some (.int u3), some (.int u4), some (.int (s22.1 + (1 : Int32))), some (.int s22.2.1), some (.int (s22.2.2 7 s22.2.1.toNatClampNeg)), some (.int u3), some (.int (1 : Int32))], []), (s22.2.2, g, cw_R sv))) rfl (st_ifle_n q15) ?_
              refine rh_Ex.blk 2 (s' := ((230, [some (.ref 6), some (.int u1), some (.int u2), some (.int u3), some (.int u4), some (.int (s22.1 + (1 : Int32))), some (.int s22.2.1), some (.int (s22.2.2 7 s22.2.1.toNatClampNeg)), some (.int u3), some (.int (1 : Int32))], [.int (48 : Int32), .int (s22.1 + (1 : Int32))]), (s22.2.2, g, cw_R sv))) rfl ?_
              by_cases q16 : (48 : Int32) < (s22.1 + (1 : Int32))
              · rw [if_pos q16] at hf
                refine rh_Ex.stp (s' := ((244, [some (.ref 6), some (.int u1), some (.int u2), some (.int u3), some (.int u4), some (.int (s22.1 + (1 : Int32))), some (.int s22.2.1), some (.int (s22.2.2 7 s22.2.1.toNatClampNeg)), some (.int u3), some (.int (1 : Int32))], []), (s22.2.2, g, cw_R sv))) rfl (st_icgt_p q16) ?_
                refine rh_Ex.blk 2 (s' := ((22, [some (.ref 6), some (.int u1), some (.int u2), some (.int u3), some (.int u4), some (.int (s22.1 + (1 : Int32))), some (.int (s22.2.1 + (1 : Int32))), some (.int (s22.2.2 7 s22.2.1.toNatClampNeg)), some (.int u3), some (.int (1 : Int32))], []), (s22.2.2, g, cw_R sv))) rfl ?_
                cases hf
                refine rh_Ex.fgt [some (.ref 6), some (.int u1), some (.int u2), some (.int u3), some (.int u4), some (.int (s22.1 + (1 : Int32))), some (.int (s22.2.1 + (1 : Int32))), none, none, none] ⟨rfl, rfl, rfl, rfl, rfl, rfl, rfl, trivial⟩ ?_
                exact hk
              · rw [if_neg q16] at hf
                refine rh_Ex.stp (s' := ((233, [some (.ref 6), some (.int u1), some (.int u2), some (.int u3), some (.int u4), some (.int (s22.1 + (1 : Int32))), some (.int s22.2.1), some (.int (s22.2.2 7 s22.2.1.toNatClampNeg)), some (.int u3), some (.int (1 : Int32))], []), (s22.2.2, g, cw_R sv))) rfl (st_icgt_n q16) ?_
                refine rh_Ex.blk 6 (s' := ((243, [some (.ref 6), some (.int u1), some (.int u2), some (.int u3), some (.int u4), some (.int (s22.1 + (1 : Int32))), some (.int s22.2.1), some (.int (s22.2.2 7 s22.2.1.toNatClampNeg)), some (.int u3), some (.int (1 : Int32))], [.int u3, .int ((s22.1 + (1 : Int32)) - (1 : Int32)), .ref 8]), (s22.2.2, g, cw_R sv))) rfl ?_
                obtain ⟨q17, hf⟩ := rh_gq hf
                refine rh_Ex.stp (s' := ((244, [some (.ref 6), some (.int u1), some (.int u2), some (.int u3), some (.int u4), some (.int (s22.1 + (1 : Int32))), some (.int s22.2.1), some (.int (s22.2.2 7 s22.2.1.toNatClampNeg)), some (.int u3), some (.int (1 : Int32))], []), (rh_up s22.2.2 8 ((s22.1 + (1 : Int32)) - (1 : Int32)).toNatClampNeg u3, g, cw_R sv))) rfl (st_iast (n := 48) rfl q17) ?_
                refine rh_Ex.blk 2 (s' := ((22, [some (.ref 6), some (.int u1), some (.int u2), some (.int u3), some (.int u4), some (.int (s22.1 + (1 : Int32))), some (.int (s22.2.1 + (1 : Int32))), some (.int (s22.2.2 7 s22.2.1.toNatClampNeg)), some (.int u3), some (.int (1 : Int32))], []), (rh_up s22.2.2 8 ((s22.1 + (1 : Int32)) - (1 : Int32)).toNatClampNeg u3, g, cw_R sv))) rfl ?_
                cases hf
                refine rh_Ex.fgt [some (.ref 6), some (.int u1), some (.int u2), some (.int u3), some (.int u4), some (.int (s22.1 + (1 : Int32))), some (.int (s22.2.1 + (1 : Int32))), none, none, none] ⟨rfl, rfl, rfl, rfl, rfl, rfl, rfl, trivial⟩ ?_
                exact hk
          · rw [if_neg q14] at hf
            rw [rh_sw, if_neg (show ¬ (100 : Int) = (0 : Int32).toInt from q14)]
            by_cases q18 : ((105 : Int) = (0 : Int32).toInt)
            · rw [if_pos q18] at hf
              rw [rh_sw, if_pos (show (105 : Int) = (0 : Int32).toInt from q18)]
              refine rh_Ex.blk 8 (s' := ((223, [some (.ref 6), some (.int u1), some (.int u2), some (.int u3), some (.int u4), some (.int (s22.1 + (1 : Int32))), some (.int s22.2.1), some (.int (s22.2.2 7 s22.2.1.toNatClampNeg)), some (.int u4), some (.int (1 : Int32))], [.int (s22.1 + (1 : Int32))]), (s22.2.2, g, cw_R sv))) rfl ?_
              by_cases q19 : (s22.1 + (1 : Int32)) ≤ 0
              · rw [if_pos q19] at hf
                refine rh_Ex.stp (s' := ((244, [some (.ref 6), some (.int u1), some (.int u2), some (.int u3), some (.int u4), some (.int (s22.1 + (1 : Int32))), some (.int s22.2.1), some (.int (s22.2.2 7 s22.2.1.toNatClampNeg)), some (.int u4), some (.int (1 : Int32))], []), (s22.2.2, g, cw_R sv))) rfl (st_ifle_p q19) ?_
                refine rh_Ex.blk 2 (s' := ((22, [some (.ref 6), some (.int u1), some (.int u2), some (.int u3), some (.int u4), some (.int (s22.1 + (1 : Int32))), some (.int (s22.2.1 + (1 : Int32))), some (.int (s22.2.2 7 s22.2.1.toNatClampNeg)), some (.int u4), some (.int (1 : Int32))], []), (s22.2.2, g, cw_R sv))) rfl ?_
                cases hf
                refine rh_Ex.fgt [some (.ref 6), some (.int u1), some (.int u2), some (.int u3), some (.int u4), some (.int (s22.1 + (1 : Int32))), some (.int (s22.2.1 + (1 : Int32))), none, none, none] ⟨rfl, rfl, rfl, rfl, rfl, rfl, rfl, trivial⟩ ?_
                exact hk
              · rw [if_neg q19] at hf
                refine rh_Ex.stp (s' := ((226, [some (.ref 6), some (.int u1), some (.int u2), some (.int u3), some (.int u4), some (.int (s22.1 + (1 : Int32))), some (.int s22.2.1), some (.int (s22.2.2 7 s22.2.1.toNatClampNeg)), some (.int u4), some (.int (1 : Int32))], []), (s22.2.2, g, cw_R sv))) rfl (st_ifle_n q19) ?_
                refine rh_Ex.blk 2 (s' := ((230, [some (.ref 6), some (.int u1), some (.int u2), some (.int u3), some (.int u4), some (.int (s22.1 + (1 : Int32))), some (.int s22.2.1), some (.int (s22.2.2 7 s22.2.1.toNatClampNeg)), some (.int u4), some (.int (1 : Int32))], [.int (48 : Int32), .int (s22.1 + (1 : Int32))]), (s22.2.2, g, cw_R sv))) rfl ?_
                by_cases q20 : (48 : Int32) < (s22.1 + (1 : Int32))
                · rw [if_pos q20] at hf
                  refine rh_Ex.stp (s' := ((244, [some (.ref 6), some (.int u1), some (.int u2), some (.int u3), some (.int u4), some (.int (s22.1 + (1 : Int32))), some (.int s22.2.1), some (.int (s22.2.2 7 s22.2.1.toNatClampNeg)), some (.int u4), some (.int (1 : Int32))], []), (s22.2.2, g, cw_R sv))) rfl (st_icgt_p q20) ?_
                  refine rh_Ex.blk 2 (s' := ((22, [some (.ref 6), some (.int u1), some (.int u2), some (.int u3), some (.int u4), some (.int (s22.1 + (1 : Int32))), some (.int (s22.2.1 + (1 : Int32))), some (.int (s22.2.2 7 s22.2.1.toNatClampNeg)), some (.int u4), some (.int (1 : Int32))], []), (s22.2.2, g, cw_R sv))) rfl ?_
                  cases hf
                  refine rh_Ex.fgt [some (.ref 6), some (.int u1), some (.int u2), some (.int u3), some (.int u4), some (.int (s22.1 + (1 : Int32))), some (.int (s22.2.1 + (1 : Int32))), none, none, none] ⟨rfl, rfl, rfl, rfl, rfl, rfl, rfl, trivial⟩ ?_
                  exact hk
                · rw [if_neg q20] at hf
                  refine rh_Ex.stp (s' := ((233, [some (.ref 6), some (.int u1), some (.int u2), some (.int u3), some (.int u4), some (.int (s22.1 + (1 : Int32))), some (.int s22.2.1), some (.int (s22.2.2 7 s22.2.1.toNatClampNeg)), some (.int u4), some (.int (1 : Int32))], []), (s22.2.2, g, cw_R sv))) rfl (st_icgt_n q20) ?_
                  refine rh_Ex.blk 6 (s' := ((243, [some (.ref 6), some (.int u1), some (.int u2), some (.int u3), some (.int u4), some (.int (s22.1 + (1 : Int32))), some (.int s22.2.1), some (.int (s22.2.2 7 s22.2.1.toNatClampNeg)), some (.int u4), some (.int (1 : Int32))], [.int u4, .int ((s22.1 + (1 : Int32)) - (1 : Int32)), .ref 8]), (s22.2.2, g, cw_R sv))) rfl ?_
                  obtain ⟨q21, hf⟩ := rh_gq hf
                  refine rh_Ex.stp (s' := ((244, [some (.ref 6), some (.int u1), some (.int u2), some (.int u3), some (.int u4), some (.int (s22.1 + (1 : Int32))), some (.int s22.2.1), some (.int (s22.2.2 7 s22.2.1.toNatClampNeg)), some (.int u4), some (.int (1 : Int32))], []), (rh_up s22.2.2 8 ((s22.1 + (1 : Int32)) - (1 : Int32)).toNatClampNeg u4, g, cw_R sv))) rfl (st_iast (n := 48) rfl q21) ?_
                  refine rh_Ex.blk 2 (s' := ((22, [some (.ref 6), some (.int u1), some (.int u2), some (.int u3), some (.int u4), some (.int (s22.1 + (1 : Int32))), some (.int (s22.2.1 + (1 : Int32))), some (.int (s22.2.2 7 s22.2.1.toNatClampNeg)), some (.int u4), some (.int (1 : Int32))], []), (rh_up s22.2.2 8 ((s22.1 + (1 : Int32)) - (1 : Int32)).toNatClampNeg u4, g, cw_R sv))) rfl ?_
                  cases hf
                  refine rh_Ex.fgt [some (.ref 6), some (.int u1), some (.int u2), some (.int u3), some (.int u4), some (.int (s22.1 + (1 : Int32))), some (.int (s22.2.1 + (1 : Int32))), none, none, none] ⟨rfl, rfl, rfl, rfl, rfl, rfl, rfl, trivial⟩ ?_
                  exact hk
            · rw [if_neg q18] at hf
              rw [rh_sw, if_neg (show ¬ (105 : Int) = (0 : Int32).toInt from q18)]
              by_cases q22 : ((119 : Int) = (0 : Int32).toInt)
              · rw [if_pos q22] at hf
                rw [rh_sw, if_pos (show (119 : Int) = (0 : Int32).toInt from q22)]
                refine rh_Ex.blk 8 (s' := ((223, [some (.ref 6), some (.int u1), some (.int u2), some (.int u3), some (.int u4), some (.int (s22.1 + (1 : Int32))), some (.int s22.2.1), some (.int (s22.2.2 7 s22.2.1.toNatClampNeg)), some (.int u1), some (.int (1 : Int32))], [.int (s22.1 + (1 : Int32))]), (s22.2.2, g, cw_R sv))) rfl ?_
                by_cases q23 : (s22.1 + (1 : Int32)) ≤ 0
                · rw [if_pos q23] at hf
                  refine rh_Ex.stp (s' := ((244, [some (.ref 6), some (.int u1), some (.int u2), some (.int u3), some (.int u4), some (.int (s22.1 + (1 : Int32))), some (.int s22.2.1), some (.int (s22.2.2 7 s22.2.1.toNatClampNeg)), some (.int u1), some (.int (1 : Int32))], []), (s22.2.2, g, cw_R sv))) rfl (st_ifle_p q23) ?_
                  refine rh_Ex.blk 2 (s' := ((22, [some (.ref 6), some (.int u1), some (.int u2), some (.int u3), some (.int u4), some (.int (s22.1 + (1 : Int32))), some (.int (s22.2.1 + (1 : Int32))), some (.int (s22.2.2 7 s22.2.1.toNatClampNeg)), some (.int u1), some (.int (1 : Int32))], []), (s22.2.2, g, cw_R sv))) rfl ?_
                  cases hf
                  refine rh_Ex.fgt [some (.ref 6), some (.int u1), some (.int u2), some (.int u3), some (.int u4), some (.int (s22.1 + (1 : Int32))), some (.int (s22.2.1 + (1 : Int32))), none, none, none] ⟨rfl, rfl, rfl, rfl, rfl, rfl, rfl, trivial⟩ ?_
                  exact hk
                · rw [if_neg q23] at hf
                  refine rh_Ex.stp (s' := ((226, [some (.ref 6), some (.int u1), some (.int u2), some (.int u3), some (.int u4), some (.int (s22.1 + (1 : Int32))), some (.int s22.2.1), some (.int (s22.2.2 7 s22.2.1.toNatClampNeg)), some (.int u1), some (.int (1 : Int32))], []), (s22.2.2, g, cw_R sv))) rfl (st_ifle_n q23) ?_
                  refine rh_Ex.blk 2 (s' := ((230, [some (.ref 6), some (.int u1), some (.int u2), some (.int u3), some (.int u4), some (.int (s22.1 + (1 : Int32))), some (.int s22.2.1), some (.int (s22.2.2 7 s22.2.1.toNatClampNeg)), some (.int u1), some (.int (1 : Int32))], [.int (48 : Int32), .int (s22.1 + (1 : Int32))]), (s22.2.2, g, cw_R sv))) rfl ?_
                  by_cases q24 : (48 : Int32) < (s22.1 + (1 : Int32))
                  · rw [if_pos q24] at hf
                    refine rh_Ex.stp (s' := ((244, [some (.ref 6), some (.int u1), some (.int u2), some (.int u3), some (.int u4), some (.int (s22.1 + (1 : Int32))), some (.int s22.2.1), some (.int (s22.2.2 7 s22.2.1.toNatClampNeg)), some (.int u1), some (.int (1 : Int32))], []), (s22.2.2, g, cw_R sv))) rfl (st_icgt_p q24) ?_
                    refine rh_Ex.blk 2 (s' := ((22, [some (.ref 6), some (.int u1), some (.int u2), some (.int u3), some (.int u4), some (.int (s22.1 + (1 : Int32))), some (.int (s22.2.1 + (1 : Int32))), some (.int (s22.2.2 7 s22.2.1.toNatClampNeg)), some (.int u1), some (.int (1 : Int32))], []), (s22.2.2, g, cw_R sv))) rfl ?_
                    cases hf
                    refine rh_Ex.fgt [some (.ref 6), some (.int u1), some (.int u2), some (.int u3), some (.int u4), some (.int (s22.1 + (1 : Int32))), some (.int (s22.2.1 + (1 : Int32))), none, none, none] ⟨rfl, rfl, rfl, rfl, rfl, rfl, rfl, trivial⟩ ?_
                    exact hk
                  · rw [if_neg q24] at hf
                    refine rh_Ex.stp (s' := ((233, [some (.ref 6), some (.int u1), some (.int u2), some (.int u3), some (.int u4), some (.int (s22.1 + (1 : Int32))), some (.int s22.2.1), some (.int (s22.2.2 7 s22.2.1.toNatClampNeg)), some (.int u1), some (.int (1 : Int32))], []), (s22.2.2, g, cw_R sv))) rfl (st_icgt_n q24) ?_
                    refine rh_Ex.blk 6 (s' := ((243, [some (.ref 6), some (.int u1), some (.int u2), some (.int u3), some (.int u4), some (.int (s22.1 + (1 : Int32))), some (.int s22.2.1), some (.int (s22.2.2 7 s22.2.1.toNatClampNeg)), some (.int u1), some (.int (1 : Int32))], [.int u1, .int ((s22.1 + (1 : Int32)) - (1 : Int32)), .ref 8]), (s22.2.2, g, cw_R sv))) rfl ?_
                    obtain ⟨q25, hf⟩ := rh_gq hf
                    refine rh_Ex.stp (s' := ((244, [some (.ref 6), some (.int u1), some (.int u2), some (.int u3), some (.int u4), some (.int (s22.1 + (1 : Int32))), some (.int s22.2.1), some (.int (s22.2.2 7 s22.2.1.toNatClampNeg)), some (.int u1), some (.int (1 : Int32))], []), (rh_up s22.2.2 8 ((s22.1 + (1 : Int32)) - (1 : Int32)).toNatClampNeg u1, g, cw_R sv))) rfl (st_iast (n := 48) rfl q25) ?_
                    refine rh_Ex.blk 2 (s' := ((22, [some (.ref 6), some (.int u1), some (.int u2), some (.int u3), some (.int u4), some (.int (s22.1 + (1 : Int32))), some (.int (s22.2.1 + (1 : Int32))), some (.int (s22.2.2 7 s22.2.1.toNatClampNeg)), some (.int u1), some (.int (1 : Int32))], []), (rh_up s22.2.2 8 ((s22.1 + (1 : Int32)) - (1 : Int32)).toNatClampNeg u1, g, cw_R sv))) rfl ?_
                    cases hf
                    refine rh_Ex.fgt [some (.ref 6), some (.int u1), some (.int u2), some (.int u3), some (.int u4), some (.int (s22.1 + (1 : Int32))), some (.int (s22.2.1 + (1 : Int32))), none, none, none] ⟨rfl, rfl, rfl, rfl, rfl, rfl, rfl, trivial⟩ ?_
                    exact hk
              · rw [if_neg q22] at hf
                rw [rh_sw, if_neg (show ¬ (119 : Int) = (0 : Int32).toInt from q22)]
                by_cases q26 : ((126 : Int) = (0 : Int32).toInt)
                · rw [if_pos q26] at hf
                  rw [rh_sw, if_pos (show (126 : Int) = (0 : Int32).toInt from q26)]
                  refine rh_Ex.blk 1 (s' := ((150, [some (.ref 6), some (.int u1), some (.int u2), some (.int u3), some (.int u4), some (.int s22.1), some (.int s22.2.1), some (.int (s22.2.2 7 s22.2.1.toNatClampNeg)), some (.int (0 : Int32)), some (.int (1 : Int32))], [.int s22.1]), (s22.2.2, g, cw_R sv))) rfl ?_
                  by_cases q27 : s22.1 ≤ 0
                  · rw [if_pos q27] at hf
                    refine rh_Ex.stp (s' := ((166, [some (.ref 6), some (.int u1), some (.int u2), some (.int u3), some (.int u4), some (.int s22.1), some (.int s22.2.1), some (.int (s22.2.2 7 s22.2.1.toNatClampNeg)), some (.int (0 : Int32)), some (.int (1 : Int32))], []), (s22.2.2, g, cw_R sv))) rfl (st_ifle_p q27) ?_
                    refine rh_Ex.blk 10 (s' := ((223, [some (.ref 6), some (.int u1), some (.int u2), some (.int u3), some (.int u4), some (.int (s22.1 + (0 : Int32))), some (.int s22.2.1), some (.int (s22.2.2 7 s22.2.1.toNatClampNeg)), some (.int (0 : Int32)), some (.int (0 : Int32))], [.int (s22.1 + (0 : Int32))]), (s22.2.2, g, cw_R sv))) rfl ?_
                    by_cases q28 : (s22.1 + (0 : Int32)) ≤ 0
                    · rw [if_pos q28] at hf
                      refine rh_Ex.stp (s' := ((244, [some (.ref 6), some (.int u1), some (.int u2), some (.int u3), some (.int u4), some (.int (s22.1 + (0 : Int32))), some (.int s22.2.1), some (.int (s22.2.2 7 s22.2.1.toNatClampNeg)), some (.int (0 : Int32)), some (.int (0 : Int32))], []), (s22.2.2, g, cw_R sv))) rfl (st_ifle_p q28) ?_
                      refine rh_Ex.blk 2 (s' := ((22, [some (.ref 6), some (.int u1), some (.int u2), some (.int u3), some (.int u4), some (.int (s22.1 + (0 : Int32))), some (.int (s22.2.1 + (1 : Int32))), some (.int (s22.2.2 7 s22.2.1.toNatClampNeg)), some (.int (0 : Int32)), some (.int (0 : Int32))], []), (s22.2.2, g, cw_R sv))) rfl ?_
                      cases hf
                      refine rh_Ex.fgt [some (.ref 6), some (.int u1), some (.int u2), some (.int u3), some (.int u4), some (.int (s22.1 + (0 : Int32))), some (.int (s22.2.1 + (1 : Int32))), none, none, none] ⟨rfl, rfl, rfl, rfl, rfl, rfl, rfl, trivial⟩ ?_
                      exact hk
                    · rw [if_neg q28] at hf
                      refine rh_Ex.stp (s' := ((226, [some (.ref 6), some (.int u1), some (.int u2), some (.int u3), some (.int u4), some (.int (s22.1 + (0 : Int32))), some (.int s22.2.1), some (.int (s22.2.2 7 s22.2.1.toNatClampNeg)), some (.int (0 : Int32)), some (.int (0 : Int32))], []), (s22.2.2, g, cw_R sv))) rfl (st_ifle_n q28) ?_
                      refine rh_Ex.blk 2 (s' := ((230, [some (.ref 6), some (.int u1), some (.int u2), some (.int u3), some (.int u4), some (.int (s22.1 + (0 : Int32))), some (.int s22.2.1), some (.int (s22.2.2 7 s22.2.1.toNatClampNeg)), some (.int (0 : Int32)), some (.int (0 : Int32))], [.int (48 : Int32), .int (s22.1 + (0 : Int32))]), (s22.2.2, g, cw_R sv))) rfl ?_
                      by_cases q29 : (48 : Int32) < (s22.1 + (0 : Int32))
                      · rw [if_pos q29] at hf
                        refine rh_Ex.stp (s' := ((244, [some (.ref 6), some (.int u1), some (.int u2), some (.int u3), some (.int u4), some (.int (s22.1 + (0 : Int32))), some (.int s22.2.1), some (.int (s22.2.2 7 s22.2.1.toNatClampNeg)), some (.int (0 : Int32)), some (.int (0 : Int32))], []), (s22.2.2, g, cw_R sv))) rfl (st_icgt_p q29) ?_
                        refine rh_Ex.blk 2 (s' := ((22, [some (.ref 6), some (.int u1), some (.int u2), some (.int u3), some (.int u4), some (.int (s22.1 + (0 : Int32))), some (.int (s22.2.1 + (1 : Int32))), some (.int (s22.2.2 7 s22.2.1.toNatClampNeg)), some (.int (0 : Int32)), some (.int (0 : Int32))], []), (s22.2.2, g, cw_R sv))) rfl ?_
                        cases hf
                        refine rh_Ex.fgt [some (.ref 6), some (.int u1), some (.int u2), some (.int u3), some (.int u4), some (.int (s22.1 + (0 : Int32))), some (.int (s22.2.1 + (1 : Int32))), none, none, none] ⟨rfl, rfl, rfl, rfl, rfl, rfl, rfl, trivial⟩ ?_
                        exact hk
                      · rw [if_neg q29] at hf
                        refine rh_Ex.stp (s' := ((233, [some (.ref 6), some (.int u1), some (.int u2), some (.int u3), some (.int u4), some (.int (s22.1 + (0 : Int32))), some (.int s22.2.1), some (.int (s22.2.2 7 s22.2.1.toNatClampNeg)), some (.int (0 : Int32)), some (.int (0 : Int32))], []), (s22.2.2, g, cw_R sv))) rfl (st_icgt_n q29) ?_
                        refine rh_Ex.blk 6 (s' := ((243, [some (.ref 6), some (.int u1), some (.int u2), some (.int u3), some (.int u4), some (.int (s22.1 + (0 : Int32))), some (.int s22.2.1), some (.int (s22.2.2 7 s22.2.1.toNatClampNeg)), some (.int (0 : Int32)), some (.int (0 : Int32))], [.int (0 : Int32), .int ((s22.1 + (0 : Int32)) - (1 : Int32)), .ref 8]), (s22.2.2, g, cw_R sv))) rfl ?_
                        obtain ⟨q30, hf⟩ := rh_gq hf
                        refine rh_Ex.stp (s' := ((244, [some (.ref 6), some (.int u1), some (.int u2), some (.int u3), some (.int u4), some (.int (s22.1 + (0 : Int32))), some (.int s22.2.1), some (.int (s22.2.2 7 s22.2.1.toNatClampNeg)), some (.int (0 : Int32)), some (.int (0 : Int32))], []), (rh_up s22.2.2 8 ((s22.1 + (0 : Int32)) - (1 : Int32)).toNatClampNeg (0 : Int32), g, cw_R sv))) rfl (st_iast (n := 48) rfl q30) ?_
                        refine rh_Ex.blk 2 (s' := ((22, [some (.ref 6), some (.int u1), some (.int u2), some (.int u3), some (.int u4), some (.int (s22.1 + (0 : Int32))), some (.int (s22.2.1 + (1 : Int32))), some (.int (s22.2.2 7 s22.2.1.toNatClampNeg)), some (.int (0 : Int32)), some (.int (0 : Int32))], []), (rh_up s22.2.2 8 ((s22.1 + (0 : Int32)) - (1 : Int32)).toNatClampNeg (0 : Int32), g, cw_R sv))) rfl ?_
                        cases hf
                        refine rh_Ex.fgt [some (.ref 6), some (.int u1), some (.int u2), some (.int u3), some (.int u4), some (.int (s22.1 + (0 : Int32))), some (.int (s22.2.1 + (1 : Int32))), none, none, none] ⟨rfl, rfl, rfl, rfl, rfl, rfl, rfl, trivial⟩ ?_
                        exact hk
                  · rw [if_neg q27] at hf
                    refine rh_Ex.stp (s' := ((153, [some (.ref 6), some (.int u1), some (.int u2), some (.int u3), some (.int u4), some (.int s22.1), some (.int s22.2.1), some (.int (s22.2.2 7 s22.2.1.toNatClampNeg)), some (.int (0 : Int32)), some (.int (1 : Int32))], []), (s22.2.2, g, cw_R sv))) rfl (st_ifle_n q27) ?_
                    refine rh_Ex.blk 5 (s' := ((161, [some (.ref 6), some (.int u1), some (.int u2), some (.int u3), some (.int u4), some (.int s22.1), some (.int s22.2.1), some (.int (s22.2.2 7 s22.2.1.toNatClampNeg)), some (.int (0 : Int32)), some (.int (1 : Int32))], [.int (s22.1 - (1 : Int32)), .ref 8]), (s22.2.2, g, cw_R sv))) rfl ?_
                    obtain ⟨q31, hf⟩ := rh_gq hf
                    refine rh_Ex.stp (s' := ((162, [some (.ref 6), some (.int u1), some (.int u2), some (.int u3), some (.int u4), some (.int s22.1), some (.int s22.2.1), some (.int (s22.2.2 7 s22.2.1.toNatClampNeg)), some (.int (0 : Int32)), some (.int (1 : Int32))], [.int (s22.2.2 8 (s22.1 - (1 : Int32)).toNatClampNeg)]), (s22.2.2, g, cw_R sv))) rfl (st_iald (n := 48) rfl q31) ?_
                    refine rh_Ex.blk 11 (s' := ((223, [some (.ref 6), some (.int u1), some (.int u2), some (.int u3), some (.int u4), some (.int (s22.1 + (0 : Int32))), some (.int s22.2.1), some (.int (s22.2.2 7 s22.2.1.toNatClampNeg)), some (.int (-(s22.2.2 8 (s22.1 - (1 : Int32)).toNatClampNeg))), some (.int (0 : Int32))], [.int (s22.1 + (0 : Int32))]), (s22.2.2, g, cw_R sv))) rfl ?_
                    by_cases q32 : (s22.1 + (0 : Int32)) ≤ 0
                    · rw [if_pos q32] at hf
                      refine rh_Ex.stp (s' := ((244, [some (.ref 6), some (.int u1), some (.int u2), some (.int u3), some (.int u4), some (.int (s22.1 + (0 : Int32))), some (.int s22.2.1), some (.int (s22.2.2 7 s22.2.1.toNatClampNeg)), some (.int (-(s22.2.2 8 (s22.1 - (1 : Int32)).toNatClampNeg))), some (.int (0 : Int32))], []), (s22.2.2, g, cw_R sv))) rfl (st_ifle_p q32) ?_
                      refine rh_Ex.blk 2 (s' := ((22, [some (.ref 6), some (.int u1), some (.int u2), some (.int u3), some (.int u4), some (.int (s22.1 + (0 : Int32))), some (.int (s22.2.1 + (1 : Int32))), some (.int (s22.2.2 7 s22.2.1.toNatClampNeg)), some (.int (-(s22.2.2 8 (s22.1 - (1 : Int32)).toNatClampNeg))), some (.int (0 : Int32))], []), (s22.2.2, g, cw_R sv))) rfl ?_
                      cases hf
                      refine rh_Ex.fgt [some (.ref 6), some (.int u1), some (.int u2), some (.int u3), some (.int u4), some (.int (s22.1 + (0 : Int32))), some (.int (s22.2.1 + (1 : Int32))), none, none, none] ⟨rfl, rfl, rfl, rfl, rfl, rfl, rfl, trivial⟩ ?_
                      exact hk
                    · rw [if_neg q32] at hf
                      refine rh_Ex.stp (s' := ((226, [some (.ref 6), some (.int u1), some (.int u2), some (.int u3), some (.int u4), some (.int (s22.1 + (0 : Int32))), some (.int s22.2.1), some (.int (s22.2.2 7 s22.2.1.toNatClampNeg)), some (.int (-(s22.2.2 8 (s22.1 - (1 : Int32)).toNatClampNeg))), some (.int (0 : Int32))], []), (s22.2.2, g, cw_R sv))) rfl (st_ifle_n q32) ?_
                      refine rh_Ex.blk 2 (s' := ((230, [some (.ref 6), some (.int u1), some (.int u2), some (.int u3), some (.int u4), some (.int (s22.1 + (0 : Int32))), some (.int s22.2.1), some (.int (s22.2.2 7 s22.2.1.toNatClampNeg)), some (.int (-(s22.2.2 8 (s22.1 - (1 : Int32)).toNatClampNeg))), some (.int (0 : Int32))], [.int (48 : Int32), .int (s22.1 + (0 : Int32))]), (s22.2.2, g, cw_R sv))) rfl ?_
                      by_cases q33 : (48 : Int32) < (s22.1 + (0 : Int32))
                      · rw [if_pos q33] at hf
                        refine rh_Ex.stp (s' := ((244, [some (.ref 6), some (.int u1), some (.int u2), some (.int u3), some (.int u4), some (.int (s22.1 + (0 : Int32))), some (.int s22.2.1), some (.int (s22.2.2 7 s22.2.1.toNatClampNeg)), some (.int (-(s22.2.2 8 (s22.1 - (1 : Int32)).toNatClampNeg))), some (.int (0 : Int32))], []), (s22.2.2, g, cw_R sv))) rfl (st_icgt_p q33) ?_
                        refine rh_Ex.blk 2 (s' := ((22, [some (.ref 6), some (.int u1), some (.int u2), some (.int u3), some (.int u4), some (.int (s22.1 + (0 : Int32))), some (.int (s22.2.1 + (1 : Int32))), some (.int (s22.2.2 7 s22.2.1.toNatClampNeg)), some (.int (-(s22.2.2 8 (s22.1 - (1 : Int32)).toNatClampNeg))), some (.int (0 : Int32))], []), (s22.2.2, g, cw_R sv))) rfl ?_
                        cases hf
                        refine rh_Ex.fgt [some (.ref 6), some (.int u1), some (.int u2), some (.int u3), some (.int u4), some (.int (s22.1 + (0 : Int32))), some (.int (s22.2.1 + (1 : Int32))), none, none, none] ⟨rfl, rfl, rfl, rfl, rfl, rfl, rfl, trivial⟩ ?_
                        exact hk
                      · rw [if_neg q33] at hf
                        refine rh_Ex.stp (s' := ((233, [some (.ref 6), some (.int u1), some (.int u2), some (.int u3), some (.int u4), some (.int (s22.1 + (0 : Int32))), some (.int s22.2.1), some (.int (s22.2.2 7 s22.2.1.toNatClampNeg)), some (.int (-(s22.2.2 8 (s22.1 - (1 : Int32)).toNatClampNeg))), some (.int (0 : Int32))], []), (s22.2.2, g, cw_R sv))) rfl (st_icgt_n q33) ?_
                        refine rh_Ex.blk 6 (s' := ((243, [some (.ref 6), some (.int u1), some (.int u2), some (.int u3), some (.int u4), some (.int (s22.1 + (0 : Int32))), some (.int s22.2.1), some (.int (s22.2.2 7 s22.2.1.toNatClampNeg)), some (.int (-(s22.2.2 8 (s22.1 - (1 : Int32)).toNatClampNeg))), some (.int (0 : Int32))], [.int (-(s22.2.2 8 (s22.1 - (1 : Int32)).toNatClampNeg)), .int ((s22.1 + (0 : Int32)) - (1 : Int32)), .ref 8]), (s22.2.2, g, cw_R sv))) rfl ?_
                        obtain ⟨q34, hf⟩ := rh_gq hf
                        refine rh_Ex.stp (s' := ((244, [some (.ref 6), some (.int u1), some (.int u2), some (.int u3), some (.int u4), some (.int (s22.1 + (0 : Int32))), some (.int s22.2.1), some (.int (s22.2.2 7 s22.2.1.toNatClampNeg)), some (.int (-(s22.2.2 8 (s22.1 - (1 : Int32)).toNatClampNeg))), some (.int (0 : Int32))], []), (rh_up s22.2.2 8 ((s22.1 + (0 : Int32)) - (1 : Int32)).toNatClampNeg (-(s22.2.2 8 (s22.1 - (1 : Int32)).toNatClampNeg)), g, cw_R sv))) rfl (st_iast (n := 48) rfl q34) ?_
                        refine rh_Ex.blk 2 (s' := ((22, [some (.ref 6), some (.int u1), some (.int u2), some (.int u3), some (.int u4), some (.int (s22.1 + (0 : Int32))), some (.int (s22.2.1 + (1 : Int32))), some (.int (s22.2.2 7 s22.2.1.toNatClampNeg)), some (.int (-(s22.2.2 8 (s22.1 - (1 : Int32)).toNatClampNeg))), some (.int (0 : Int32))], []), (rh_up s22.2.2 8 ((s22.1 + (0 : Int32)) - (1 : Int32)).toNatClampNeg (-(s22.2.2 8 (s22.1 - (1 : Int32)).toNatClampNeg)), g, cw_R sv))) rfl ?_
                        cases hf
                        refine rh_Ex.fgt [some (.ref 6), some (.int u1), some (.int u2), some (.int u3), some (.int u4), some (.int (s22.1 + (0 : Int32))), some (.int (s22.2.1 + (1 : Int32))), none, none, none] ⟨rfl, rfl, rfl, rfl, rfl, rfl, rfl, trivial⟩ ?_
                        exact hk
                · rw [if_neg q26] at hf
                  rw [rh_sw, if_neg (show ¬ (126 : Int) = (0 : Int32).toInt from q26)]
                  rw [rh_sw]
                  refine rh_Ex.blk 2 (s' := ((178, [some (.ref 6), some (.int u1), some (.int u2), some (.int u3), some (.int u4), some (.int s22.1), some (.int s22.2.1), some (.int (s22.2.2 7 s22.2.1.toNatClampNeg)), some (.int (0 : Int32)), some (.int (1 : Int32))], [.int (1 : Int32), .int s22.1]), (s22.2.2, g, cw_R sv))) rfl ?_
                  by_cases q35 : s22.1 ≤ (1 : Int32)
                  · rw [if_pos q35] at hf
                    refine rh_Ex.stp (s' := ((208, [some (.ref 6), some (.int u1), some (.int u2), some (.int u3), some (.int u4), some (.int s22.1), some (.int s22.2.1), some (.int (s22.2.2 7 s22.2.1.toNatClampNeg)), some (.int (0 : Int32)), some (.int (1 : Int32))], []), (s22.2.2, g, cw_R sv))) rfl (st_icle_p q35) ?_
                    refine rh_Ex.blk 9 (s' := ((223, [some (.ref 6), some (.int u1), some (.int u2), some (.int u3), some (.int u4), some (.int (s22.1 + (-1 : Int32))), some (.int s22.2.1), some (.int (s22.2.2 7 s22.2.1.toNatClampNeg)), some (.int (0 : Int32)), some (.int (-1 : Int32))], [.int (s22.1 + (-1 : Int32))]), (s22.2.2, g, cw_R sv))) rfl ?_
                    by_cases q36 : (s22.1 + (-1 : Int32)) ≤ 0
                    · rw [if_pos q36] at hf
                      refine rh_Ex.stp (s' := ((244, [some (.ref 6), some (.int u1), some (.int u2), some (.int u3), some (.int u4), some (.int (s22.1 + (-1 : Int32))), some (.int s22.2.1), some (.int (s22.2.2 7 s22.2.1.toNatClampNeg)), some (.int (0 : Int32)), some (.int (-1 : Int32))], []), (s22.2.2, g, cw_R sv))) rfl (st_ifle_p q36) ?_
                      refine rh_Ex.blk 2 (s' := ((22, [some (.ref 6), some (.int u1), some (.int u2), some (.int u3), some (.int u4), some (.int (s22.1 + (-1 : Int32))), some (.int (s22.2.1 + (1 : Int32))), some (.int (s22.2.2 7 s22.2.1.toNatClampNeg)), some (.int (0 : Int32)), some (.int (-1 : Int32))], []), (s22.2.2, g, cw_R sv))) rfl ?_
                      cases hf
                      refine rh_Ex.fgt [some (.ref 6), some (.int u1), some (.int u2), some (.int u3), some (.int u4), some (.int (s22.1 + (-1 : Int32))), some (.int (s22.2.1 + (1 : Int32))), none, none, none] ⟨rfl, rfl, rfl, rfl, rfl, rfl, rfl, trivial⟩ ?_
                      exact hk
                    · rw [if_neg q36] at hf
                      refine rh_Ex.stp (s' := ((226, [some (.ref 6), some (.int u1), some (.int u2), some (.int u3), some (.int u4), some (.int (s22.1 + (-1 : Int32))), some (.int s22.2.1), some (.int (s22.2.2 7 s22.2.1.toNatClampNeg)), some (.int (0 : Int32)), some (.int (-1 : Int32))], []), (s22.2.2, g, cw_R sv))) rfl (st_ifle_n q36) ?_
                      refine rh_Ex.blk 2 (s' := ((230, [some (.ref 6), some (.int u1), some (.int u2), some (.int u3), some (.int u4), some (.int (s22.1 + (-1 : Int32))), some (.int s22.2.1), some (.int (s22.2.2 7 s22.2.1.toNatClampNeg)), some (.int (0 : Int32)), some (.int (-1 : Int32))], [.int (48 : Int32), .int (s22.1 + (-1 : Int32))]), (s22.2.2, g, cw_R sv))) rfl ?_
                      by_cases q37 : (48 : Int32) < (s22.1 + (-1 : Int32))
                      · rw [if_pos q37] at hf
                        refine rh_Ex.stp (s' := ((244, [some (.ref 6), some (.int u1), some (.int u2), some (.int u3), some (.int u4), some (.int (s22.1 + (-1 : Int32))), some (.int s22.2.1), some (.int (s22.2.2 7 s22.2.1.toNatClampNeg)), some (.int (0 : Int32)), some (.int (-1 : Int32))], []), (s22.2.2, g, cw_R sv))) rfl (st_icgt_p q37) ?_
                        refine rh_Ex.blk 2 (s' := ((22, [some (.ref 6), some (.int u1), some (.int u2), some (.int u3), some (.int u4), some (.int (s22.1 + (-1 : Int32))), some (.int (s22.2.1 + (1 : Int32))), some (.int (s22.2.2 7 s22.2.1.toNatClampNeg)), some (.int (0 : Int32)), some (.int (-1 : Int32))], []), (s22.2.2, g, cw_R sv))) rfl ?_
                        cases hf
                        refine rh_Ex.fgt [some (.ref 6), some (.int u1), some (.int u2), some (.int u3), some (.int u4), some (.int (s22.1 + (-1 : Int32))), some (.int (s22.2.1 + (1 : Int32))), none, none, none] ⟨rfl, rfl, rfl, rfl, rfl, rfl, rfl, trivial⟩ ?_
                        exact hk
                      · rw [if_neg q37] at hf
                        refine rh_Ex.stp (s' := ((233, [some (.ref 6), some (.int u1), some (.int u2), some (.int u3), some (.int u4), some (.int (s22.1 + (-1 : Int32))), some (.int s22.2.1), some (.int (s22.2.2 7 s22.2.1.toNatClampNeg)), some (.int (0 : Int32)), some (.int (-1 : Int32))], []), (s22.2.2, g, cw_R sv))) rfl (st_icgt_n q37) ?_
                        refine rh_Ex.blk 6 (s' := ((243, [some (.ref 6), some (.int u1), some (.int u2), some (.int u3), some (.int u4), some (.int (s22.1 + (-1 : Int32))), some (.int s22.2.1), some (.int (s22.2.2 7 s22.2.1.toNatClampNeg)), some (.int (0 : Int32)), some (.int (-1 : Int32))], [.int (0 : Int32), .int ((s22.1 + (-1 : Int32)) - (1 : Int32)), .ref 8]), (s22.2.2, g, cw_R sv))) rfl ?_
                        obtain ⟨q38, hf⟩ := rh_gq hf
                        refine rh_Ex.stp (s' := ((244, [some (.ref 6), some (.int u1), some (.int u2), some (.int u3), some (.int u4), some (.int (s22.1 + (-1 : Int32))), some (.int s22.2.1), some (.int (s22.2.2 7 s22.2.1.toNatClampNeg)), some (.int (0 : Int32)), some (.int (-1 : Int32))], []), (rh_up s22.2.2 8 ((s22.1 + (-1 : Int32)) - (1 : Int32)).toNatClampNeg (0 : Int32), g, cw_R sv))) rfl (st_iast (n := 48) rfl q38) ?_
                        refine rh_Ex.blk 2 (s' := ((22, [some (.ref 6), some (.int u1), some (.int u2), some (.int u3), some (.int u4), some (.int (s22.1 + (-1 : Int32))), some (.int (s22.2.1 + (1 : Int32))), some (.int (s22.2.2 7 s22.2.1.toNatClampNeg)), some (.int (0 : Int32)), some (.int (-1 : Int32))], []), (rh_up s22.2.2 8 ((s22.1 + (-1 : Int32)) - (1 : Int32)).toNatClampNeg (0 : Int32), g, cw_R sv))) rfl ?_
                        cases hf
                        refine rh_Ex.fgt [some (.ref 6), some (.int u1), some (.int u2), some (.int u3), some (.int u4), some (.int (s22.1 + (-1 : Int32))), some (.int (s22.2.1 + (1 : Int32))), none, none, none] ⟨rfl, rfl, rfl, rfl, rfl, rfl, rfl, trivial⟩ ?_
                        exact hk
                  · rw [if_neg q35] at hf
                    refine rh_Ex.stp (s' := ((181, [some (.ref 6), some (.int u1), some (.int u2), some (.int u3), some (.int u4), some (.int s22.1), some (.int s22.2.1), some (.int (s22.2.2 7 s22.2.1.toNatClampNeg)), some (.int (0 : Int32)), some (.int (1 : Int32))], []), (s22.2.2, g, cw_R sv))) rfl (st_icle_n q35) ?_
                    refine rh_Ex.blk 7 (s' := ((192, [some (.ref 6), some (.int u1), some (.int u2), some (.int u3), some (.int u4), some (.int s22.1), some (.int s22.2.1), some (.int (s22.2.2 7 s22.2.1.toNatClampNeg)), some (.int (0 : Int32)), some (.int (1 : Int32))], [.int (s22.1 - (2 : Int32)), .ref 8, .int (-(s22.2.2 7 s22.2.1.toNatClampNeg))]), (s22.2.2, g, cw_R sv))) rfl ?_
                    obtain ⟨q39, hf⟩ := rh_gq hf
                    refine rh_Ex.stp (s' := ((193, [some (.ref 6), some (.int u1), some (.int u2), some (.int u3), some (.int u4), some (.int s22.1), some (.int s22.2.1), some (.int (s22.2.2 7 s22.2.1.toNatClampNeg)), some (.int (0 : Int32)), some (.int (1 : Int32))], [.int (s22.2.2 8 (s22.1 - (2 : Int32)).toNatClampNeg), .int (-(s22.2.2 7 s22.2.1.toNatClampNeg))]), (s22.2.2, g, cw_R sv))) rfl (st_iald (n := 48) rfl q39) ?_
                    refine rh_Ex.blk 5 (s' := ((201, [some (.ref 6), some (.int u1), some (.int u2), some (.int u3), some (.int u4), some (.int s22.1), some (.int s22.2.1), some (.int (s22.2.2 7 s22.2.1.toNatClampNeg)), some (.int (0 : Int32)), some (.int (1 : Int32))], [.int (s22.1 - (1 : Int32)), .ref 8, .int (s22.2.2 8 (s22.1 - (2 : Int32)).toNatClampNeg), .int (-(s22.2.2 7 s22.2.1.toNatClampNeg))]), (s22.2.2, g, cw_R sv))) rfl ?_
                    obtain ⟨q40, hf⟩ := rh_gq hf
                    refine rh_Ex.stp (s' := ((202, [some (.ref 6), some (.int u1), some (.int u2), some (.int u3), some (.int u4), some (.int s22.1), some (.int s22.2.1), some (.int (s22.2.2 7 s22.2.1.toNatClampNeg)), some (.int (0 : Int32)), some (.int (1 : Int32))], [.int (s22.2.2 8 (s22.1 - (1 : Int32)).toNatClampNeg), .int (s22.2.2 8 (s22.1 - (2 : Int32)).toNatClampNeg), .int (-(s22.2.2 7 s22.2.1.toNatClampNeg))]), (s22.2.2, g, cw_R sv))) rfl (st_iald (n := 48) rfl q40) ?_
                    obtain ⟨x41, hx41, hf⟩ := rh_bq hf
                    refine rh_Ex.call (j := 39) (rc := none) [.int (-(s22.2.2 7 s22.2.1.toNatClampNeg)), .int (s22.2.2 8 (s22.1 - (2 : Int32)).toNatClampNeg), .int (s22.2.2 8 (s22.1 - (1 : Int32)).toNatClampNeg)] [] (some (.int x41)) rfl rfl trivial (Nat.le_of_ble_eq_true rfl) (R_Ha_joined d (cw_L ++ xx) (cw_R sv) s22.2.2 g (-(s22.2.2 7 s22.2.1.toNatClampNeg)) (s22.2.2 8 (s22.1 - (2 : Int32)).toNatClampNeg) (s22.2.2 8 (s22.1 - (1 : Int32)).toNatClampNeg) hx41) ?_
                    show rh_Ex _ _ _ ((205, [some (.ref 6), some (.int u1), some (.int u2), some (.int u3), some (.int u4), some (.int s22.1), some (.int s22.2.1), some (.int (s22.2.2 7 s22.2.1.toNatClampNeg)), some (.int (0 : Int32)), some (.int (1 : Int32))], [.int x41]), (s22.2.2, g, cw_R sv)) _ _
                    refine rh_Ex.blk 9 (s' := ((223, [some (.ref 6), some (.int u1), some (.int u2), some (.int u3), some (.int u4), some (.int (s22.1 + (-1 : Int32))), some (.int s22.2.1), some (.int (s22.2.2 7 s22.2.1.toNatClampNeg)), some (.int x41), some (.int (-1 : Int32))], [.int (s22.1 + (-1 : Int32))]), (s22.2.2, g, cw_R sv))) rfl ?_
                    by_cases q42 : (s22.1 + (-1 : Int32)) ≤ 0
                    · rw [if_pos q42] at hf
                      refine rh_Ex.stp (s' := ((244, [some (.ref 6), some (.int u1), some (.int u2), some (.int u3), some (.int u4), some (.int (s22.1 + (-1 : Int32))), some (.int s22.2.1), some (.int (s22.2.2 7 s22.2.1.toNatClampNeg)), some (.int x41), some (.int (-1 : Int32))], []), (s22.2.2, g, cw_R sv))) rfl (st_ifle_p q42) ?_
                      refine rh_Ex.blk 2 (s' := ((22, [some (.ref 6), some (.int u1), some (.int u2), some (.int u3), some (.int u4), some (.int (s22.1 + (-1 : Int32))), some (.int (s22.2.1 + (1 : Int32))), some (.int (s22.2.2 7 s22.2.1.toNatClampNeg)), some (.int x41), some (.int (-1 : Int32))], []), (s22.2.2, g, cw_R sv))) rfl ?_
                      cases hf
                      refine rh_Ex.fgt [some (.ref 6), some (.int u1), some (.int u2), some (.int u3), some (.int u4), some (.int (s22.1 + (-1 : Int32))), some (.int (s22.2.1 + (1 : Int32))), none, none, none] ⟨rfl, rfl, rfl, rfl, rfl, rfl, rfl, trivial⟩ ?_
                      exact hk
                    · rw [if_neg q42] at hf
                      refine rh_Ex.stp (s' := ((226, [some (.ref 6), some (.int u1), some (.int u2), some (.int u3), some (.int u4), some (.int (s22.1 + (-1 : Int32))), some (.int s22.2.1), some (.int (s22.2.2 7 s22.2.1.toNatClampNeg)), some (.int x41), some (.int (-1 : Int32))], []), (s22.2.2, g, cw_R sv))) rfl (st_ifle_n q42) ?_
                      refine rh_Ex.blk 2 (s' := ((230, [some (.ref 6), some (.int u1), some (.int u2), some (.int u3), some (.int u4), some (.int (s22.1 + (-1 : Int32))), some (.int s22.2.1), some (.int (s22.2.2 7 s22.2.1.toNatClampNeg)), some (.int x41), some (.int (-1 : Int32))], [.int (48 : Int32), .int (s22.1 + (-1 : Int32))]), (s22.2.2, g, cw_R sv))) rfl ?_
                      by_cases q43 : (48 : Int32) < (s22.1 + (-1 : Int32))
                      · rw [if_pos q43] at hf
                        refine rh_Ex.stp (s' := ((244, [some (.ref 6), some (.int u1), some (.int u2), some (.int u3), some (.int u4), some (.int (s22.1 + (-1 : Int32))), some (.int s22.2.1), some (.int (s22.2.2 7 s22.2.1.toNatClampNeg)), some (.int x41), some (.int (-1 : Int32))], []), (s22.2.2, g, cw_R sv))) rfl (st_icgt_p q43) ?_
                        refine rh_Ex.blk 2 (s' := ((22, [some (.ref 6), some (.int u1), some (.int u2), some (.int u3), some (.int u4), some (.int (s22.1 + (-1 : Int32))), some (.int (s22.2.1 + (1 : Int32))), some (.int (s22.2.2 7 s22.2.1.toNatClampNeg)), some (.int x41), some (.int (-1 : Int32))], []), (s22.2.2, g, cw_R sv))) rfl ?_
                        cases hf
                        refine rh_Ex.fgt [some (.ref 6), some (.int u1), some (.int u2), some (.int u3), some (.int u4), some (.int (s22.1 + (-1 : Int32))), some (.int (s22.2.1 + (1 : Int32))), none, none, none] ⟨rfl, rfl, rfl, rfl, rfl, rfl, rfl, trivial⟩ ?_
                        exact hk
                      · rw [if_neg q43] at hf
                        refine rh_Ex.stp (s' := ((233, [some (.ref 6), some (.int u1), some (.int u2), some (.int u3), some (.int u4), some (.int (s22.1 + (-1 : Int32))), some (.int s22.2.1), some (.int (s22.2.2 7 s22.2.1.toNatClampNeg)), some (.int x41), some (.int (-1 : Int32))], []), (s22.2.2, g, cw_R sv))) rfl (st_icgt_n q43) ?_
                        refine rh_Ex.blk 6 (s' := ((243, [some (.ref 6), some (.int u1), some (.int u2), some (.int u3), some (.int u4), some (.int (s22.1 + (-1 : Int32))), some (.int s22.2.1), some (.int (s22.2.2 7 s22.2.1.toNatClampNeg)), some (.int x41), some (.int (-1 : Int32))], [.int x41, .int ((s22.1 + (-1 : Int32)) - (1 : Int32)), .ref 8]), (s22.2.2, g, cw_R sv))) rfl ?_
                        obtain ⟨q44, hf⟩ := rh_gq hf
                        refine rh_Ex.stp (s' := ((244, [some (.ref 6), some (.int u1), some (.int u2), some (.int u3), some (.int u4), some (.int (s22.1 + (-1 : Int32))), some (.int s22.2.1), some (.int (s22.2.2 7 s22.2.1.toNatClampNeg)), some (.int x41), some (.int (-1 : Int32))], []), (rh_up s22.2.2 8 ((s22.1 + (-1 : Int32)) - (1 : Int32)).toNatClampNeg x41, g, cw_R sv))) rfl (st_iast (n := 48) rfl q44) ?_
                        refine rh_Ex.blk 2 (s' := ((22, [some (.ref 6), some (.int u1), some (.int u2), some (.int u3), some (.int u4), some (.int (s22.1 + (-1 : Int32))), some (.int (s22.2.1 + (1 : Int32))), some (.int (s22.2.2 7 s22.2.1.toNatClampNeg)), some (.int x41), some (.int (-1 : Int32))], []), (rh_up s22.2.2 8 ((s22.1 + (-1 : Int32)) - (1 : Int32)).toNatClampNeg x41, g, cw_R sv))) rfl ?_
                        cases hf
                        refine rh_Ex.fgt [some (.ref 6), some (.int u1), some (.int u2), some (.int u3), some (.int u4), some (.int (s22.1 + (-1 : Int32))), some (.int (s22.2.1 + (1 : Int32))), none, none, none] ⟨rfl, rfl, rfl, rfl, rfl, rfl, rfl, trivial⟩ ?_
                        exact hk
    · rw [if_neg q5] at hf
      refine rh_Ex.stp (s' := ((51, [some (.ref 6), some (.int u1), some (.int u2), some (.int u3), some (.int u4), some (.int s22.1), some (.int s22.2.1), some (.int (s22.2.2 7 s22.2.1.toNatClampNeg)), some (.int (0 : Int32)), some (.int (1 : Int32))], []), (s22.2.2, g, cw_R sv))) rfl (st_ifge_n q5) ?_
      refine rh_Ex.blk 3 (s' := ((58, [some (.ref 6), some (.int u1), some (.int u2), some (.int u3), some (.int u4), some (.int s22.1), some (.int s22.2.1), some (.int (s22.2.2 7 s22.2.1.toNatClampNeg)), some (.int (0 : Int32)), some (.int (1 : Int32))], [.int (-(s22.2.2 7 s22.2.1.toNatClampNeg))]), (s22.2.2, g, cw_R sv))) rfl ?_
      refine rh_Ex.stp (s' := ((rh_sw [(0, 116), (98, 129), (100, 135), (105, 141), (119, 123), (126, 148)] 175 (-(s22.2.2 7 s22.2.1.toNatClampNeg)), [some (.ref 6), some (.int u1), some (.int u2), some (.int u3), some (.int u4), some (.int s22.1), some (.int s22.2.1), some (.int (s22.2.2 7 s22.2.1.toNatClampNeg)), some (.int (0 : Int32)), some (.int (1 : Int32))], []), (s22.2.2, g, cw_R sv))) rfl rfl ?_
      by_cases q45 : ((0 : Int) = (-(s22.2.2 7 s22.2.1.toNatClampNeg)).toInt)
      · rw [if_pos q45] at hf
        rw [rh_sw, if_pos (show (0 : Int) = (-(s22.2.2 7 s22.2.1.toNatClampNeg)).toInt from q45)]
        refine rh_Ex.blk 8 (s' := ((223, [some (.ref 6), some (.int u1), some (.int u2), some (.int u3), some (.int u4), some (.int (s22.1 + (1 : Int32))), some (.int s22.2.1), some (.int (s22.2.2 7 s22.2.1.toNatClampNeg)), some (.int (s22.2.2 7 s22.2.1.toNatClampNeg)), some (.int (1 : Int32))], [.int (s22.1 + (1 : Int32))]), (s22.2.2, g, cw_R sv))) rfl ?_
        by_cases q46 : (s22.1 + (1 : Int32)) ≤ 0
        · rw [if_pos q46] at hf
          refine rh_Ex.stp (s' := ((244, [some (.ref 6), some (.int u1), some (.int u2), some (.int u3), some (.int u4), some (.int (s22.1 + (1 : Int32))), some (.int s22.2.1), some (.int (s22.2.2 7 s22.2.1.toNatClampNeg)), some (.int (s22.2.2 7 s22.2.1.toNatClampNeg)), some (.int (1 : Int32))], []), (s22.2.2, g, cw_R sv))) rfl (st_ifle_p q46) ?_
          refine rh_Ex.blk 2 (s' := ((22, [some (.ref 6), some (.int u1), some (.int u2), some (.int u3), some (.int u4), some (.int (s22.1 + (1 : Int32))), some (.int (s22.2.1 + (1 : Int32))), some (.int (s22.2.2 7 s22.2.1.toNatClampNeg)), some (.int (s22.2.2 7 s22.2.1.toNatClampNeg)), some (.int (1 : Int32))], []), (s22.2.2, g, cw_R sv))) rfl ?_
          cases hf
          refine rh_Ex.fgt [some (.ref 6), some (.int u1), some (.int u2), some (.int u3), some (.int u4), some (.int (s22.1 + (1 : Int32))), some (.int (s22.2.1 + (1 : Int32))), none, none, none] ⟨rfl, rfl, rfl, rfl, rfl, rfl, rfl, trivial⟩ ?_
          exact hk
        · rw [if_neg q46] at hf
          refine rh_Ex.stp (s' := ((226, [some (.ref 6), some (.int u1), some (.int u2), some (.int u3), some (.int u4), some (.int (s22.1 + (1 : Int32))), some (.int s22.2.1), some (.int (s22.2.2 7 s22.2.1.toNatClampNeg)), some (.int (s22.2.2 7 s22.2.1.toNatClampNeg)), some (.int (1 : Int32))], []), (s22.2.2, g, cw_R sv))) rfl (st_ifle_n q46) ?_
          refine rh_Ex.blk 2 (s' := ((230, [some (.ref 6), some (.int u1), some (.int u2), some (.int u3), some (.int u4), some (.int (s22.1 + (1 : Int32))), some (.int s22.2.1), some (.int (s22.2.2 7 s22.2.1.toNatClampNeg)), some (.int (s22.2.2 7 s22.2.1.toNatClampNeg)), some (.int (1 : Int32))], [.int (48 : Int32), .int (s22.1 + (1 : Int32))]), (s22.2.2, g, cw_R sv))) rfl ?_
          by_cases q47 : (48 : Int32) < (s22.1 + (1 : Int32))
          · rw [if_pos q47] at hf
            refine rh_Ex.stp (s' := ((244, [some (.ref 6), some (.int u1), some (.int u2), some (.int u3), some (.int u4), some (.int (s22.1 + (1 : Int32))), some (.int s22.2.1), some (.int (s22.2.2 7 s22.2.1.toNatClampNeg)), some (.int (s22.2.2 7 s22.2.1.toNatClampNeg)), some (.int (1 : Int32))], []), (s22.2.2, g, cw_R sv))) rfl (st_icgt_p q47) ?_
            refine rh_Ex.blk 2 (s' := ((22, [some (.ref 6), some (.int u1), some (.int u2), some (.int u3), some (.int u4), some (.int (s22.1 + (1 : Int32))), some (.int (s22.2.1 + (1 : Int32))), some (.int (s22.2.2 7 s22.2.1.toNatClampNeg)), some (.int (s22.2.2 7 s22.2.1.toNatClampNeg)), some (.int (1 : Int32))], []), (s22.2.2, g, cw_R sv))) rfl ?_
            cases hf
            refine rh_Ex.fgt [some (.ref 6), some (.int u1), some (.int u2), some (.int u3), some (.int u4), some (.int (s22.1 + (1 : Int32))), some (.int (s22.2.1 + (1 : Int32))), none, none, none] ⟨rfl, rfl, rfl, rfl, rfl, rfl, rfl, trivial⟩ ?_
            exact hk
          · rw [if_neg q47] at hf
            refine rh_Ex.stp (s' := ((233, [some (.ref 6), some (.int u1), some (.int u2), some (.int u3), some (.int u4), some (.int (s22.1 + (1 : Int32))), some (.int s22.2.1), some (.int (s22.2.2 7 s22.2.1.toNatClampNeg)), some (.int (s22.2.2 7 s22.2.1.toNatClampNeg)), some (.int (1 : Int32))], []), (s22.2.2, g, cw_R sv))) rfl (st_icgt_n q47) ?_
            refine rh_Ex.blk 6 (s' := ((243, [some (.ref 6), some (.int u1), some (.int u2), some (.int u3), some (.int u4), some (.int (s22.1 + (1 : Int32))), some (.int s22.2.1), some (.int (s22.2.2 7 s22.2.1.toNatClampNeg)), some (.int (s22.2.2 7 s22.2.1.toNatClampNeg)), some (.int (1 : Int32))], [.int (s22.2.2 7 s22.2.1.toNatClampNeg), .int ((s22.1 + (1 : Int32)) - (1 : Int32)), .ref 8]), (s22.2.2, g, cw_R sv))) rfl ?_
            obtain ⟨q48, hf⟩ := rh_gq hf
            refine rh_Ex.stp (s' := ((244, [some (.ref 6), some (.int u1), some (.int u2), some (.int u3), some (.int u4), some (.int (s22.1 + (1 : Int32))), some (.int s22.2.1), some (.int (s22.2.2 7 s22.2.1.toNatClampNeg)), some (.int (s22.2.2 7 s22.2.1.toNatClampNeg)), some (.int (1 : Int32))], []), (rh_up s22.2.2 8 ((s22.1 + (1 : Int32)) - (1 : Int32)).toNatClampNeg (s22.2.2 7 s22.2.1.toNatClampNeg), g, cw_R sv))) rfl (st_iast (n := 48) rfl q48) ?_
            refine rh_Ex.blk 2 (s' := ((22, [some (.ref 6), some (.int u1), some (.int u2), some (.int u3), some (.int u4), some (.int (s22.1 + (1 : Int32))), some (.int (s22.2.1 + (1 : Int32))), some (.int (s22.2.2 7 s22.2.1.toNatClampNeg)), some (.int (s22.2.2 7 s22.2.1.toNatClampNeg)), some (.int (1 : Int32))], []), (rh_up s22.2.2 8 ((s22.1 + (1 : Int32)) - (1 : Int32)).toNatClampNeg (s22.2.2 7 s22.2.1.toNatClampNeg), g, cw_R sv))) rfl ?_
            cases hf
            refine rh_Ex.fgt [some (.ref 6), some (.int u1), some (.int u2), some (.int u3), some (.int u4), some (.int (s22.1 + (1 : Int32))), some (.int (s22.2.1 + (1 : Int32))), none, none, none] ⟨rfl, rfl, rfl, rfl, rfl, rfl, rfl, trivial⟩ ?_
            exact hk
      · rw [if_neg q45] at hf
        rw [rh_sw, if_neg (show ¬ (0 : Int) = (-(s22.2.2 7 s22.2.1.toNatClampNeg)).toInt from q45)]
        by_cases q49 : ((98 : Int) = (-(s22.2.2 7 s22.2.1.toNatClampNeg)).toInt)
        · rw [if_pos q49] at hf
          rw [rh_sw, if_pos (show (98 : Int) = (-(s22.2.2 7 s22.2.1.toNatClampNeg)).toInt from q49)]
          refine rh_Ex.blk 8 (s' := ((223, [some (.ref 6), some (.int u1), some (.int u2), some (.int u3), some (.int u4), some (.int (s22.1 + (1 : Int32))), some (.int s22.2.1), some (.int (s22.2.2 7 s22.2.1.toNatClampNeg)), some (.int u2), some (.int (1 : Int32))], [.int (s22.1 + (1 : Int32))]), (s22.2.2, g, cw_R sv))) rfl ?_
          by_cases q50 : (s22.1 + (1 : Int32)) ≤ 0
          · rw [if_pos q50] at hf
            refine rh_Ex.stp (s' := ((244, [some (.ref 6), some (.int u1), some (.int u2), some (.int u3), some (.int u4), some (.int (s22.1 + (1 : Int32))), some (.int s22.2.1), some (.int (s22.2.2 7 s22.2.1.toNatClampNeg)), some (.int u2), some (.int (1 : Int32))], []), (s22.2.2, g, cw_R sv))) rfl (st_ifle_p q50) ?_
            refine rh_Ex.blk 2 (s' := ((22, [some (.ref 6), some (.int u1), some (.int u2), some (.int u3), some (.int u4), some (.int (s22.1 + (1 : Int32))), some (.int (s22.2.1 + (1 : Int32))), some (.int (s22.2.2 7 s22.2.1.toNatClampNeg)), some (.int u2), some (.int (1 : Int32))], []), (s22.2.2, g, cw_R sv))) rfl ?_
            cases hf
            refine rh_Ex.fgt [some (.ref 6), some (.int u1), some (.int u2), some (.int u3), some (.int u4), some (.int (s22.1 + (1 : Int32))), some (.int (s22.2.1 + (1 : Int32))), none, none, none] ⟨rfl, rfl, rfl, rfl, rfl, rfl, rfl, trivial⟩ ?_
            exact hk
          · rw [if_neg q50] at hf
            refine rh_Ex.stp (s' := ((226, [some (.ref 6), some (.int u1), some (.int u2), some (.int u3), some (.int u4), some (.int (s22.1 + (1 : Int32))), some (.int s22.2.1), some (.int (s22.2.2 7 s22.2.1.toNatClampNeg)), some (.int u2), some (.int (1 : Int32))], []), (s22.2.2, g, cw_R sv))) rfl (st_ifle_n q50) ?_
            refine rh_Ex.blk 2 (s' := ((230, [some (.ref 6), some (.int u1), some (.int u2), some (.int u3), some (.int u4), some (.int (s22.1 + (1 : Int32))), some (.int s22.2.1), some (.int (s22.2.2 7 s22.2.1.toNatClampNeg)), some (.int u2), some (.int (1 : Int32))], [.int (48 : Int32), .int (s22.1 + (1 : Int32))]), (s22.2.2, g, cw_R sv))) rfl ?_
            by_cases q51 : (48 : Int32) < (s22.1 + (1 : Int32))
            · rw [if_pos q51] at hf
              refine rh_Ex.stp (s' := ((244, [some (.ref 6), some (.int u1), some (.int u2), some (.int u3), some (.int u4), some (.int (s22.1 + (1 : Int32))), some (.int s22.2.1), some (.int (s22.2.2 7 s22.2.1.toNatClampNeg)), some (.int u2), some (.int (1 : Int32))], []), (s22.2.2, g, cw_R sv))) rfl (st_icgt_p q51) ?_
              refine rh_Ex.blk 2 (s' := ((22, [some (.ref 6), some (.int u1), some (.int u2), some (.int u3), some (.int u4), some (.int (s22.1 + (1 : Int32))), some (.int (s22.2.1 + (1 : Int32))), some (.int (s22.2.2 7 s22.2.1.toNatClampNeg)), some (.int u2), some (.int (1 : Int32))], []), (s22.2.2, g, cw_R sv))) rfl ?_
              cases hf
              refine rh_Ex.fgt [some (.ref 6), some (.int u1), some (.int u2), some (.int u3), some (.int u4), some (.int (s22.1 + (1 : Int32))), some (.int (s22.2.1 + (1 : Int32))), none, none, none] ⟨rfl, rfl, rfl, rfl, rfl, rfl, rfl, trivial⟩ ?_
              exact hk
            · rw [if_neg q51] at hf
              refine rh_Ex.stp (s' := ((233, [some (.ref 6), some (.int u1), some (.int u2), some (.int u3), some (.int u4), some (.int (s22.1 + (1 : Int32))), some (.int s22.2.1), some (.int (s22.2.2 7 s22.2.1.toNatClampNeg)), some (.int u2), some (.int (1 : Int32))], []), (s22.2.2, g, cw_R sv))) rfl (st_icgt_n q51) ?_
              refine rh_Ex.blk 6 (s' := ((243, [some (.ref 6), some (.int u1), some (.int u2), some (.int u3), some (.int u4), some (.int (s22.1 + (1 : Int32))), some (.int s22.2.1), some (.int (s22.2.2 7 s22.2.1.toNatClampNeg)), some (.int u2), some (.int (1 : Int32))], [.int u2, .int ((s22.1 + (1 : Int32)) - (1 : Int32)), .ref 8]), (s22.2.2, g, cw_R sv))) rfl ?_
              obtain ⟨q52, hf⟩ := rh_gq hf
              refine rh_Ex.stp (s' := ((244, [some (.ref 6), some (.int u1), some (.int u2), some (.int u3), some (.int u4), some (.int (s22.1 + (1 : Int32))), some (.int s22.2.1), some (.int (s22.2.2 7 s22.2.1.toNatClampNeg)), some (.int u2), some (.int (1 : Int32))], []), (rh_up s22.2.2 8 ((s22.1 + (1 : Int32)) - (1 : Int32)).toNatClampNeg u2, g, cw_R sv))) rfl (st_iast (n := 48) rfl q52) ?_
              refine rh_Ex.blk 2 (s' := ((22, [some (.ref 6), some (.int u1), some (.int u2), some (.int u3), some (.int u4), some (.int (s22.1 + (1 : Int32))), some (.int (s22.2.1 + (1 : Int32))), some (.int (s22.2.2 7 s22.2.1.toNatClampNeg)), some (.int u2), some (.int (1 : Int32))], []), (rh_up s22.2.2 8 ((s22.1 + (1 : Int32)) - (1 : Int32)).toNatClampNeg u2, g, cw_R sv))) rfl ?_
              cases hf
              refine rh_Ex.fgt [some (.ref 6), some (.int u1), some (.int u2), some (.int u3), some (.int u4), some (.int (s22.1 + (1 : Int32))), some (.int (s22.2.1 + (1 : Int32))), none, none, none] ⟨rfl, rfl, rfl, rfl, rfl, rfl, rfl, trivial⟩ ?_
              exact hk
        · rw [if_neg q49] at hf
          rw [rh_sw, if_neg (show ¬ (98 : Int) = (-(s22.2.2 7 s22.2.1.toNatClampNeg)).toInt from q49)]
          by_cases q53 : ((100 : Int) = (-(s22.2.2 7 s22.2.1.toNatClampNeg)).toInt)
          · rw [if_pos q53] at hf
            rw [rh_sw, if_pos (show (100 : Int) = (-(s22.2.2 7 s22.2.1.toNatClampNeg)).toInt from q53)]
            refine rh_Ex.blk 8 (s' := ((223, [some (.ref 6), some (.int u1), some (.int u2), some (.int u3), some (.int u4), some (.int (s22.1 + (1 : Int32))), some (.int s22.2.1), some (.int (s22.2.2 7 s22.2.1.toNatClampNeg)), some (.int u3), some (.int (1 : Int32))], [.int (s22.1 + (1 : Int32))]), (s22.2.2, g, cw_R sv))) rfl ?_
            by_cases q54 : (s22.1 + (1 : Int32)) ≤ 0
            · rw [if_pos q54] at hf
              refine rh_Ex.stp (s' := ((244, [some (.ref 6), some (.int u1), some (.int u2), some (.int u3), some (.int u4), some (.int (s22.1 + (1 : Int32))), some (.int s22.2.1), some (.int (s22.2.2 7 s22.2.1.toNatClampNeg)), some (.int u3), some (.int (1 : Int32))], []), (s22.2.2, g, cw_R sv))) rfl (st_ifle_p q54) ?_
              refine rh_Ex.blk 2 (s' := ((22, [some (.ref 6), some (.int u1), some (.int u2), some (.int u3), some (.int u4), some (.int (s22.1 + (1 : Int32))), some (.int (s22.2.1 + (1 : Int32))), some (.int (s22.2.2 7 s22.2.1.toNatClampNeg)), some (.int u3), some (.int (1 : Int32))], []), (s22.2.2, g, cw_R sv))) rfl ?_
              cases hf
              refine rh_Ex.fgt [some (.ref 6), some (.int u1), some (.int u2), some (.int u3), some (.int u4), some (.int (s22.1 + (1 : Int32))), some (.int (s22.2.1 + (1 : Int32))), none, none, none] ⟨rfl, rfl, rfl, rfl, rfl, rfl, rfl, trivial⟩ ?_
              exact hk
            · rw [if_neg q54] at hf
              refine rh_Ex.stp (s' := ((226, [some (.ref 6), some (.int u1), some (.int u2), some (.int u3), some (.int u4), some (.int (s22.1 + (1 : Int32))), some (.int s22.2.1), some (.int (s22.2.2 7 s22.2.1.toNatClampNeg)), some (.int u3), some (.int (1 : Int32))], []), (s22.2.2, g, cw_R sv))) rfl (st_ifle_n q54) ?_
              refine rh_Ex.blk 2 (s' := ((230, [some (.ref 6), some (.int u1), some (.int u2), some (.int u3), some (.int u4), some (.int (s22.1 + (1 : Int32))), some (.int s22.2.1), some (.int (s22.2.2 7 s22.2.1.toNatClampNeg)), some (.int u3), some (.int (1 : Int32))], [.int (48 : Int32), .int (s22.1 + (1 : Int32))]), (s22.2.2, g, cw_R sv))) rfl ?_
              by_cases q55 : (48 : Int32) < (s22.1 + (1 : Int32))
              · rw [if_pos q55] at hf
                refine rh_Ex.stp (s' := ((244, [some (.ref 6), some (.int u1), some (.int u2), some (.int u3), some (.int u4), some (.int (s22.1 + (1 : Int32))), some (.int s22.2.1), some (.int (s22.2.2 7 s22.2.1.toNatClampNeg)), some (.int u3), some (.int (1 : Int32))], []), (s22.2.2, g, cw_R sv))) rfl (st_icgt_p q55) ?_
                refine rh_Ex.blk 2 (s' := ((22, [some (.ref 6), some (.int u1), some (.int u2), some (.int u3), some (.int u4), some (.int (s22.1 + (1 : Int32))), some (.int (s22.2.1 + (1 : Int32))), some (.int (s22.2.2 7 s22.2.1.toNatClampNeg)), some (.int u3), some (.int (1 : Int32))], []), (s22.2.2, g, cw_R sv))) rfl ?_
                cases hf
                refine rh_Ex.fgt [some (.ref 6), some (.int u1), some (.int u2), some (.int u3), some (.int u4), some (.int (s22.1 + (1 : Int32))), some (.int (s22.2.1 + (1 : Int32))), none, none, none] ⟨rfl, rfl, rfl, rfl, rfl, rfl, rfl, trivial⟩ ?_
                exact hk
              · rw [if_neg q55] at hf
                refine rh_Ex.stp (s' := ((233, [some (.ref 6), some (.int u1), some (.int u2), some (.int u3), some (.int u4), some (.int (s22.1 + (1 : Int32))), some (.int s22.2.1), some (.int (s22.2.2 7 s22.2.1.toNatClampNeg)), some (.int u3), some (.int (1 : Int32))], []), (s22.2.2, g, cw_R sv))) rfl (st_icgt_n q55) ?_
                refine rh_Ex.blk 6 (s' := ((243, [some (.ref 6), some (.int u1), some (.int u2), some (.int u3), some (.int u4), some (.int (s22.1 + (1 : Int32))), some (.int s22.2.1), some (.int (s22.2.2 7 s22.2.1.toNatClampNeg)), some (.int u3), some (.int (1 : Int32))], [.int u3, .int ((s22.1 + (1 : Int32)) - (1 : Int32)), .ref 8]), (s22.2.2, g, cw_R sv))) rfl ?_
                obtain ⟨q56, hf⟩ := rh_gq hf
                refine rh_Ex.stp (s' := ((244, [some (.ref 6), some (.int u1), some (.int u2), some (.int u3), some (.int u4), some (.int (s22.1 + (1 : Int32))), some (.int s22.2.1), some (.int (s22.2.2 7 s22.2.1.toNatClampNeg)), some (.int u3), some (.int (1 : Int32))], []), (rh_up s22.2.2 8 ((s22.1 + (1 : Int32)) - (1 : Int32)).toNatClampNeg u3, g, cw_R sv))) rfl (st_iast (n := 48) rfl q56) ?_
                refine rh_Ex.blk 2 (s' := ((22, [some (.ref 6), some (.int u1), some (.int u2), some (.int u3), some (.int u4), some (.int (s22.1 + (1 : Int32))), some (.int (s22.2.1 + (1 : Int32))), some (.int (s22.2.2 7 s22.2.1.toNatClampNeg)), some (.int u3), some (.int (1 : Int32))], []), (rh_up s22.2.2 8 ((s22.1 + (1 : Int32)) - (1 : Int32)).toNatClampNeg u3, g, cw_R sv))) rfl ?_
                cases hf
                refine rh_Ex.fgt [some (.ref 6), some (.int u1), some (.int u2), some (.int u3), some (.int u4), some (.int (s22.1 + (1 : Int32))), some (.int (s22.2.1 + (1 : Int32))), none, none, none] ⟨rfl, rfl, rfl, rfl, rfl, rfl, rfl, trivial⟩ ?_
                exact hk
          · rw [if_neg q53] at hf
            rw [rh_sw, if_neg (show ¬ (100 : Int) = (-(s22.2.2 7 s22.2.1.toNatClampNeg)).toInt from q53)]
            by_cases q57 : ((105 : Int) = (-(s22.2.2 7 s22.2.1.toNatClampNeg)).toInt)
            · rw [if_pos q57] at hf
              rw [rh_sw, if_pos (show (105 : Int) = (-(s22.2.2 7 s22.2.1.toNatClampNeg)).toInt from q57)]
              refine rh_Ex.blk 8 (s' := ((223, [some (.ref 6), some (.int u1), some (.int u2), some (.int u3), some (.int u4), some (.int (s22.1 + (1 : Int32))), some (.int s22.2.1), some (.int (s22.2.2 7 s22.2.1.toNatClampNeg)), some (.int u4), some (.int (1 : Int32))], [.int (s22.1 + (1 : Int32))]), (s22.2.2, g, cw_R sv))) rfl ?_
              by_cases q58 : (s22.1 + (1 : Int32)) ≤ 0
              · rw [if_pos q58] at hf
                refine rh_Ex.stp (s' := ((244, [some (.ref 6), some (.int u1), some (.int u2), some (.int u3), some (.int u4), some (.int (s22.1 + (1 : Int32))), some (.int s22.2.1), some (.int (s22.2.2 7 s22.2.1.toNatClampNeg)), some (.int u4), some (.int (1 : Int32))], []), (s22.2.2, g, cw_R sv))) rfl (st_ifle_p q58) ?_
                refine rh_Ex.blk 2 (s' := ((22, [some (.ref 6), some (.int u1), some (.int u2), some (.int u3), some (.int u4), some (.int (s22.1 + (1 : Int32))), some (.int (s22.2.1 + (1 : Int32))), some (.int (s22.2.2 7 s22.2.1.toNatClampNeg)), some (.int u4), some (.int (1 : Int32))], []), (s22.2.2, g, cw_R sv))) rfl ?_
                cases hf
                refine rh_Ex.fgt [some (.ref 6), some (.int u1), some (.int u2), some (.int u3), some (.int u4), some (.int (s22.1 + (1 : Int32))), some (.int (s22.2.1 + (1 : Int32))), none, none, none] ⟨rfl, rfl, rfl, rfl, rfl, rfl, rfl, trivial⟩ ?_
                exact hk
              · rw [if_neg q58] at hf
                refine rh_Ex.stp (s' := ((226, [some (.ref 6), some (.int u1), some (.int u2), some (.int u3), some (.int u4), some (.int (s22.1 + (1 : Int32))), some (.int s22.2.1), some (.int (s22.2.2 7 s22.2.1.toNatClampNeg)), some (.int u4), some (.int (1 : Int32))], []), (s22.2.2, g, cw_R sv))) rfl (st_ifle_n q58) ?_
                refine rh_Ex.blk 2 (s' := ((230, [some (.ref 6), some (.int u1), some (.int u2), some (.int u3), some (.int u4), some (.int (s22.1 + (1 : Int32))), some (.int s22.2.1), some (.int (s22.2.2 7 s22.2.1.toNatClampNeg)), some (.int u4), some (.int (1 : Int32))], [.int (48 : Int32), .int (s22.1 + (1 : Int32))]), (s22.2.2, g, cw_R sv))) rfl ?_
                by_cases q59 : (48 : Int32) < (s22.1 + (1 : Int32))
                · rw [if_pos q59] at hf
                  refine rh_Ex.stp (s' := ((244, [some (.ref 6), some (.int u1), some (.int u2), some (.int u3), some (.int u4), some (.int (s22.1 + (1 : Int32))), some (.int s22.2.1), some (.int (s22.2.2 7 s22.2.1.toNatClampNeg)), some (.int u4), some (.int (1 : Int32))], []), (s22.2.2, g, cw_R sv))) rfl (st_icgt_p q59) ?_
                  refine rh_Ex.blk 2 (s' := ((22, [some (.ref 6), some (.int u1), some (.int u2), some (.int u3), some (.int u4), some (.int (s22.1 + (1 : Int32))), some (.int (s22.2.1 + (1 : Int32))), some (.int (s22.2.2 7 s22.2.1.toNatClampNeg)), some (.int u4), some (.int (1 : Int32))], []), (s22.2.2, g, cw_R sv))) rfl ?_
                  cases hf
                  refine rh_Ex.fgt [some (.ref 6), some (.int u1), some (.int u2), some (.int u3), some (.int u4), some (.int (s22.1 + (1 : Int32))), some (.int (s22.2.1 + (1 : Int32))), none, none, none] ⟨rfl, rfl, rfl, rfl, rfl, rfl, rfl, trivial⟩ ?_
                  exact hk
                · rw [if_neg q59] at hf
                  refine rh_Ex.stp (s' := ((233, [some (.ref 6), some (.int u1), some (.int u2), some (.int u3), some (.int u4), some (.int (s22.1 + (1 : Int32))), some (.int s22.2.1), some (.int (s22.2.2 7 s22.2.1.toNatClampNeg)), some (.int u4), some (.int (1 : Int32))], []), (s22.2.2, g, cw_R sv))) rfl (st_icgt_n q59) ?_
                  refine rh_Ex.blk 6 (s' := ((243, [some (.ref 6), some (.int u1), some (.int u2), some (.int u3), some (.int u4), some (.int (s22.1 + (1 : Int32))), some (.int s22.2.1), some (.int (s22.2.2 7 s22.2.1.toNatClampNeg)), some (.int u4), some (.int (1 : Int32))], [.int u4, .int ((s22.1 + (1 : Int32)) - (1 : Int32)), .ref 8]), (s22.2.2, g, cw_R sv))) rfl ?_
                  obtain ⟨q60, hf⟩ := rh_gq hf
                  refine rh_Ex.stp (s' := ((244, [some (.ref 6), some (.int u1), some (.int u2), some (.int u3), some (.int u4), some (.int (s22.1 + (1 : Int32))), some (.int s22.2.1), some (.int (s22.2.2 7 s22.2.1.toNatClampNeg)), some (.int u4), some (.int (1 : Int32))], []), (rh_up s22.2.2 8 ((s22.1 + (1 : Int32)) - (1 : Int32)).toNatClampNeg u4, g, cw_R sv))) rfl (st_iast (n := 48) rfl q60) ?_
                  refine rh_Ex.blk 2 (s' := ((22, [some (.ref 6), some (.int u1), some (.int u2), some (.int u3), some (.int u4), some (.int (s22.1 + (1 : Int32))), some (.int (s22.2.1 + (1 : Int32))), some (.int (s22.2.2 7 s22.2.1.toNatClampNeg)), some (.int u4), some (.int (1 : Int32))], []), (rh_up s22.2.2 8 ((s22.1 + (1 : Int32)) - (1 : Int32)).toNatClampNeg u4, g, cw_R sv))) rfl ?_
                  cases hf
                  refine rh_Ex.fgt [some (.ref 6), some (.int u1), some (.int u2), some (.int u3), some (.int u4), some (.int (s22.1 + (1 : Int32))), some (.int (s22.2.1 + (1 : Int32))), none, none, none] ⟨rfl, rfl, rfl, rfl, rfl, rfl, rfl, trivial⟩ ?_
                  exact hk
            · rw [if_neg q57] at hf
              rw [rh_sw, if_neg (show ¬ (105 : Int) = (-(s22.2.2 7 s22.2.1.toNatClampNeg)).toInt from q57)]
              by_cases q61 : ((119 : Int) = (-(s22.2.2 7 s22.2.1.toNatClampNeg)).toInt)
              · rw [if_pos q61] at hf
                rw [rh_sw, if_pos (show (119 : Int) = (-(s22.2.2 7 s22.2.1.toNatClampNeg)).toInt from q61)]
                refine rh_Ex.blk 8 (s' := ((223, [some (.ref 6), some (.int u1), some (.int u2), some (.int u3), some (.int u4), some (.int (s22.1 + (1 : Int32))), some (.int s22.2.1), some (.int (s22.2.2 7 s22.2.1.toNatClampNeg)), some (.int u1), some (.int (1 : Int32))], [.int (s22.1 + (1 : Int32))]), (s22.2.2, g, cw_R sv))) rfl ?_
                by_cases q62 : (s22.1 + (1 : Int32)) ≤ 0
                · rw [if_pos q62] at hf
                  refine rh_Ex.stp (s' := ((244, [some (.ref 6), some (.int u1), some (.int u2), some (.int u3), some (.int u4), some (.int (s22.1 + (1 : Int32))), some (.int s22.2.1), some (.int (s22.2.2 7 s22.2.1.toNatClampNeg)), some (.int u1), some (.int (1 : Int32))], []), (s22.2.2, g, cw_R sv))) rfl (st_ifle_p q62) ?_
                  refine rh_Ex.blk 2 (s' := ((22, [some (.ref 6), some (.int u1), some (.int u2), some (.int u3), some (.int u4), some (.int (s22.1 + (1 : Int32))), some (.int (s22.2.1 + (1 : Int32))), some (.int (s22.2.2 7 s22.2.1.toNatClampNeg)), some (.int u1), some (.int (1 : Int32))], []), (s22.2.2, g, cw_R sv))) rfl ?_
                  cases hf
                  refine rh_Ex.fgt [some (.ref 6), some (.int u1), some (.int u2), some (.int u3), some (.int u4), some (.int (s22.1 + (1 : Int32))), some (.int (s22.2.1 + (1 : Int32))), none, none, none] ⟨rfl, rfl, rfl, rfl, rfl, rfl, rfl, trivial⟩ ?_
                  exact hk
                · rw [if_neg q62] at hf
                  refine rh_Ex.stp (s' := ((226, [some (.ref 6), some (.int u1), some (.int u2), some (.int u3), some (.int u4), some (.int (s22.1 + (1 : Int32))), some (.int s22.2.1), some (.int (s22.2.2 7 s22.2.1.toNatClampNeg)), some (.int u1), some (.int (1 : Int32))], []), (s22.2.2, g, cw_R sv))) rfl (st_ifle_n q62) ?_
                  refine rh_Ex.blk 2 (s' := ((230, [some (.ref 6), some (.int u1), some (.int u2), some (.int u3), some (.int u4), some (.int (s22.1 + (1 : Int32))), some (.int s22.2.1), some (.int (s22.2.2 7 s22.2.1.toNatClampNeg)), some (.int u1), some (.int (1 : Int32))], [.int (48 : Int32), .int (s22.1 + (1 : Int32))]), (s22.2.2, g, cw_R sv))) rfl ?_
                  by_cases q63 : (48 : Int32) < (s22.1 + (1 : Int32))
                  · rw [if_pos q63] at hf
                    refine rh_Ex.stp (s' := ((244, [some (.ref 6), some (.int u1), some (.int u2), some (.int u3), some (.int u4), some (.int (s22.1 + (1 : Int32))), some (.int s22.2.1), some (.int (s22.2.2 7 s22.2.1.toNatClampNeg)), some (.int u1), some (.int (1 : Int32))], []), (s22.2.2, g, cw_R sv))) rfl (st_icgt_p q63) ?_
                    refine rh_Ex.blk 2 (s' := ((22, [some (.ref 6), some (.int u1), some (.int u2), some (.int u3), some (.int u4), some (.int (s22.1 + (1 : Int32))), some (.int (s22.2.1 + (1 : Int32))), some (.int (s22.2.2 7 s22.2.1.toNatClampNeg)), some (.int u1), some (.int (1 : Int32))], []), (s22.2.2, g, cw_R sv))) rfl ?_
                    cases hf
                    refine rh_Ex.fgt [some (.ref 6), some (.int u1), some (.int u2), some (.int u3), some (.int u4), some (.int (s22.1 + (1 : Int32))), some (.int (s22.2.1 + (1 : Int32))), none, none, none] ⟨rfl, rfl, rfl, rfl, rfl, rfl, rfl, trivial⟩ ?_
                    exact hk
                  · rw [if_neg q63] at hf
                    refine rh_Ex.stp (s' := ((233, [some (.ref 6), some (.int u1), some (.int u2), some (.int u3), some (.int u4), some (.int (s22.1 + (1 : Int32))), some (.int s22.2.1), some (.int (s22.2.2 7 s22.2.1.toNatClampNeg)), some (.int u1), some (.int (1 : Int32))], []), (s22.2.2, g, cw_R sv))) rfl (st_icgt_n q63) ?_
                    refine rh_Ex.blk 6 (s' := ((243, [some (.ref 6), some (.int u1), some (.int u2), some (.int u3), some (.int u4), some (.int (s22.1 + (1 : Int32))), some (.int s22.2.1), some (.int (s22.2.2 7 s22.2.1.toNatClampNeg)), some (.int u1), some (.int (1 : Int32))], [.int u1, .int ((s22.1 + (1 : Int32)) - (1 : Int32)), .ref 8]), (s22.2.2, g, cw_R sv))) rfl ?_
                    obtain ⟨q64, hf⟩ := rh_gq hf
                    refine rh_Ex.stp (s' := ((244, [some (.ref 6), some (.int u1), some (.int u2), some (.int u3), some (.int u4), some (.int (s22.1 + (1 : Int32))), some (.int s22.2.1), some (.int (s22.2.2 7 s22.2.1.toNatClampNeg)), some (.int u1), some (.int (1 : Int32))], []), (rh_up s22.2.2 8 ((s22.1 + (1 : Int32)) - (1 : Int32)).toNatClampNeg u1, g, cw_R sv))) rfl (st_iast (n := 48) rfl q64) ?_
                    refine rh_Ex.blk 2 (s' := ((22, [some (.ref 6), some (.int u1), some (.int u2), some (.int u3), some (.int u4), some (.int (s22.1 + (1 : Int32))), some (.int (s22.2.1 + (1 : Int32))), some (.int (s22.2.2 7 s22.2.1.toNatClampNeg)), some (.int u1), some (.int (1 : Int32))], []), (rh_up s22.2.2 8 ((s22.1 + (1 : Int32)) - (1 : Int32)).toNatClampNeg u1, g, cw_R sv))) rfl ?_
                    cases hf
                    refine rh_Ex.fgt [some (.ref 6), some (.int u1), some (.int u2), some (.int u3), some (.int u4), some (.int (s22.1 + (1 : Int32))), some (.int (s22.2.1 + (1 : Int32))), none, none, none] ⟨rfl, rfl, rfl, rfl, rfl, rfl, rfl, trivial⟩ ?_
                    exact hk
              · rw [if_neg q61] at hf
                rw [rh_sw, if_neg (show ¬ (119 : Int) = (-(s22.2.2 7 s22.2.1.toNatClampNeg)).toInt from q61)]
                by_cases q65 : ((126 : Int) = (-(s22.2.2 7 s22.2.1.toNatClampNeg)).toInt)
                · rw [if_pos q65] at hf
                  rw [rh_sw, if_pos (show (126 : Int) = (-(s22.2.2 7 s22.2.1.toNatClampNeg)).toInt from q65)]
                  refine rh_Ex.blk 1 (s' := ((150, [some (.ref 6), some (.int u1), some (.int u2), some (.int u3), some (.int u4), some (.int s22.1), some (.int s22.2.1), some (.int (s22.2.2 7 s22.2.1.toNatClampNeg)), some (.int (0 : Int32)), some (.int (1 : Int32))], [.int s22.1]), (s22.2.2, g, cw_R sv))) rfl ?_
                  by_cases q66 : s22.1 ≤ 0
                  · rw [if_pos q66] at hf
                    refine rh_Ex.stp (s' := ((166, [some (.ref 6), some (.int u1), some (.int u2), some (.int u3), some (.int u4), some (.int s22.1), some (.int s22.2.1), some (.int (s22.2.2 7 s22.2.1.toNatClampNeg)), some (.int (0 : Int32)), some (.int (1 : Int32))], []), (s22.2.2, g, cw_R sv))) rfl (st_ifle_p q66) ?_
                    refine rh_Ex.blk 10 (s' := ((223, [some (.ref 6), some (.int u1), some (.int u2), some (.int u3), some (.int u4), some (.int (s22.1 + (0 : Int32))), some (.int s22.2.1), some (.int (s22.2.2 7 s22.2.1.toNatClampNeg)), some (.int (0 : Int32)), some (.int (0 : Int32))], [.int (s22.1 + (0 : Int32))]), (s22.2.2, g, cw_R sv))) rfl ?_
                    by_cases q67 : (s22.1 + (0 : Int32)) ≤ 0
                    · rw [if_pos q67] at hf
                      refine rh_Ex.stp (s' := ((244, [some (.ref 6), some (.int u1), some (.int u2), some (.int u3), some (.int u4), some (.int (s22.1 + (0 : Int32))), some (.int s22.2.1), some (.int (s22.2.2 7 s22.2.1.toNatClampNeg)), some (.int (0 : Int32)), some (.int (0 : Int32))], []), (s22.2.2, g, cw_R sv))) rfl (st_ifle_p q67) ?_
                      refine rh_Ex.blk 2 (s' := ((22, [some (.ref 6), some (.int u1), some (.int u2), some (.int u3), some (.int u4), some (.int (s22.1 + (0 : Int32))), some (.int (s22.2.1 + (1 : Int32))), some (.int (s22.2.2 7 s22.2.1.toNatClampNeg)), some (.int (0 : Int32)), some (.int (0 : Int32))], []), (s22.2.2, g, cw_R sv))) rfl ?_
                      cases hf
                      refine rh_Ex.fgt [some (.ref 6), some (.int u1), some (.int u2), some (.int u3), some (.int u4), some (.int (s22.1 + (0 : Int32))), some (.int (s22.2.1 + (1 : Int32))), none, none, none] ⟨rfl, rfl, rfl, rfl, rfl, rfl, rfl, trivial⟩ ?_
                      exact hk
                    · rw [if_neg q67] at hf
                      refine rh_Ex.stp (s' := ((226, [some (.ref 6), some (.int u1), some (.int u2), some (.int u3), some (.int u4), some (.int (s22.1 + (0 : Int32))), some (.int s22.2.1), some (.int (s22.2.2 7 s22.2.1.toNatClampNeg)), some (.int (0 : Int32)), some (.int (0 : Int32))], []), (s22.2.2, g, cw_R sv))) rfl (st_ifle_n q67) ?_
                      refine rh_Ex.blk 2 (s' := ((230, [some (.ref 6), some (.int u1), some (.int u2), some (.int u3), some (.int u4), some (.int (s22.1 + (0 : Int32))), some (.int s22.2.1), some (.int (s22.2.2 7 s22.2.1.toNatClampNeg)), some (.int (0 : Int32)), some (.int (0 : Int32))], [.int (48 : Int32), .int (s22.1 + (0 : Int32))]), (s22.2.2, g, cw_R sv))) rfl ?_
                      by_cases q68 : (48 : Int32) < (s22.1 + (0 : Int32))
                      · rw [if_pos q68] at hf
                        refine rh_Ex.stp (s' := ((244, [some (.ref 6), some (.int u1), some (.int u2), some (.int u3), some (.int u4), some (.int (s22.1 + (0 : Int32))), some (.int s22.2.1), some (.int (s22.2.2 7 s22.2.1.toNatClampNeg)), some (.int (0 : Int32)), some (.int (0 : Int32))], []), (s22.2.2, g, cw_R sv))) rfl (st_icgt_p q68) ?_
                        refine rh_Ex.blk 2 (s' := ((22, [some (.ref 6), some (.int u1), some (.int u2), some (.int u3), some (.int u4), some (.int (s22.1 + (0 : Int32))), some (.int (s22.2.1 + (1 : Int32))), some (.int (s22.2.2 7 s22.2.1.toNatClampNeg)), some (.int (0 : Int32)), some (.int (0 : Int32))], []), (s22.2.2, g, cw_R sv))) rfl ?_
                        cases hf
                        refine rh_Ex.fgt [some (.ref 6), some (.int u1), some (.int u2), some (.int u3), some (.int u4), some (.int (s22.1 + (0 : Int32))), some (.int (s22.2.1 + (1 : Int32))), none, none, none] ⟨rfl, rfl, rfl, rfl, rfl, rfl, rfl, trivial⟩ ?_
                        exact hk
                      · rw [if_neg q68] at hf
                        refine rh_Ex.stp (s' := ((233, [some (.ref 6), some (.int u1), some (.int u2), some (.int u3), some (.int u4), some (.int (s22.1 + (0 : Int32))), some (.int s22.2.1), some (.int (s22.2.2 7 s22.2.1.toNatClampNeg)), some (.int (0 : Int32)), some (.int (0 : Int32))], []), (s22.2.2, g, cw_R sv))) rfl (st_icgt_n q68) ?_
                        refine rh_Ex.blk 6 (s' := ((243, [some (.ref 6), some (.int u1), some (.int u2), some (.int u3), some (.int u4), some (.int (s22.1 + (0 : Int32))), some (.int s22.2.1), some (.int (s22.2.2 7 s22.2.1.toNatClampNeg)), some (.int (0 : Int32)), some (.int (0 : Int32))], [.int (0 : Int32), .int ((s22.1 + (0 : Int32)) - (1 : Int32)), .ref 8]), (s22.2.2, g, cw_R sv))) rfl ?_
                        obtain ⟨q69, hf⟩ := rh_gq hf
                        refine rh_Ex.stp (s' := ((244, [some (.ref 6), some (.int u1), some (.int u2), some (.int u3), some (.int u4), some (.int (s22.1 + (0 : Int32))), some (.int s22.2.1), some (.int (s22.2.2 7 s22.2.1.toNatClampNeg)), some (.int (0 : Int32)), some (.int (0 : Int32))], []), (rh_up s22.2.2 8 ((s22.1 + (0 : Int32)) - (1 : Int32)).toNatClampNeg (0 : Int32), g, cw_R sv))) rfl (st_iast (n := 48) rfl q69) ?_
                        refine rh_Ex.blk 2 (s' := ((22, [some (.ref 6), some (.int u1), some (.int u2), some (.int u3), some (.int u4), some (.int (s22.1 + (0 : Int32))), some (.int (s22.2.1 + (1 : Int32))), some (.int (s22.2.2 7 s22.2.1.toNatClampNeg)), some (.int (0 : Int32)), some (.int (0 : Int32))], []), (rh_up s22.2.2 8 ((s22.1 + (0 : Int32)) - (1 : Int32)).toNatClampNeg (0 : Int32), g, cw_R sv))) rfl ?_
                        cases hf
                        refine rh_Ex.fgt [some (.ref 6), some (.int u1), some (.int u2), some (.int u3), some (.int u4), some (.int (s22.1 + (0 : Int32))), some (.int (s22.2.1 + (1 : Int32))), none, none, none] ⟨rfl, rfl, rfl, rfl, rfl, rfl, rfl, trivial⟩ ?_
                        exact hk
                  · rw [if_neg q66] at hf
                    refine rh_Ex.stp (s' := ((153, [some (.ref 6), some (.int u1), some (.int u2), some (.int u3), some (.int u4), some (.int s22.1), some (.int s22.2.1), some (.int (s22.2.2 7 s22.2.1.toNatClampNeg)), some (.int (0 : Int32)), some (.int (1 : Int32))], []), (s22.2.2, g, cw_R sv))) rfl (st_ifle_n q66) ?_
                    refine rh_Ex.blk 5 (s' := ((161, [some (.ref 6), some (.int u1), some (.int u2), some (.int u3), some (.int u4), some (.int s22.1), some (.int s22.2.1), some (.int (s22.2.2 7 s22.2.1.toNatClampNeg)), some (.int (0 : Int32)), some (.int (1 : Int32))], [.int (s22.1 - (1 : Int32)), .ref 8]), (s22.2.2, g, cw_R sv))) rfl ?_
                    obtain ⟨q70, hf⟩ := rh_gq hf
                    refine rh_Ex.stp (s' := ((162, [some (.ref 6), some (.int u1), some (.int u2), some (.int u3), some (.int u4), some (.int s22.1), some (.int s22.2.1), some (.int (s22.2.2 7 s22.2.1.toNatClampNeg)), some (.int (0 : Int32)), some (.int (1 : Int32))], [.int (s22.2.2 8 (s22.1 - (1 : Int32)).toNatClampNeg)]), (s22.2.2, g, cw_R sv))) rfl (st_iald (n := 48) rfl q70) ?_
                    refine rh_Ex.blk 11 (s' := ((223, [some (.ref 6), some (.int u1), some (.int u2), some (.int u3), some (.int u4), some (.int (s22.1 + (0 : Int32))), some (.int s22.2.1), some (.int (s22.2.2 7 s22.2.1.toNatClampNeg)), some (.int (-(s22.2.2 8 (s22.1 - (1 : Int32)).toNatClampNeg))), some (.int (0 : Int32))], [.int (s22.1 + (0 : Int32))]), (s22.2.2, g, cw_R sv))) rfl ?_
                    by_cases q71 : (s22.1 + (0 : Int32)) ≤ 0
                    · rw [if_pos q71] at hf
                      refine rh_Ex.stp (s' := ((244, [some (.ref 6), some (.int u1), some (.int u2), some (.int u3), some (.int u4), some (.int (s22.1 + (0 : Int32))), some (.int s22.2.1), some (.int (s22.2.2 7 s22.2.1.toNatClampNeg)), some (.int (-(s22.2.2 8 (s22.1 - (1 : Int32)).toNatClampNeg))), some (.int (0 : Int32))], []), (s22.2.2, g, cw_R sv))) rfl (st_ifle_p q71) ?_
                      refine rh_Ex.blk 2 (s' := ((22, [some (.ref 6), some (.int u1), some (.int u2), some (.int u3), some (.int u4), some (.int (s22.1 + (0 : Int32))), some (.int (s22.2.1 + (1 : Int32))), some (.int (s22.2.2 7 s22.2.1.toNatClampNeg)), some (.int (-(s22.2.2 8 (s22.1 - (1 : Int32)).toNatClampNeg))), some (.int (0 : Int32))], []), (s22.2.2, g, cw_R sv))) rfl ?_
                      cases hf
                      refine rh_Ex.fgt [some (.ref 6), some (.int u1), some (.int u2), some (.int u3), some (.int u4), some (.int (s22.1 + (0 : Int32))), some (.int (s22.2.1 + (1 : Int32))), none, none, none] ⟨rfl, rfl, rfl, rfl, rfl, rfl, rfl, trivial⟩ ?_
                      exact hk
                    · rw [if_neg q71] at hf
                      refine rh_Ex.stp (s' := ((226, [some (.ref 6), some (.int u1), some (.int u2), some (.int u3), some (.int u4), some (.int (s22.1 + (0 : Int32))), some (.int s22.2.1), some (.int (s22.2.2 7 s22.2.1.toNatClampNeg)), some (.int (-(s22.2.2 8 (s22.1 - (1 : Int32)).toNatClampNeg))), some (.int (0 : Int32))], []), (s22.2.2, g, cw_R sv))) rfl (st_ifle_n q71) ?_
                      refine rh_Ex.blk 2 (s' := ((230, [some (.ref 6), some (.int u1), some (.int u2), some (.int u3), some (.int u4), some (.int (s22.1 + (0 : Int32))), some (.int s22.2.1), some (.int (s22.2.2 7 s22.2.1.toNatClampNeg)), some (.int (-(s22.2.2 8 (s22.1 - (1 : Int32)).toNatClampNeg))), some (.int (0 : Int32))], [.int (48 : Int32), .int (s22.1 + (0 : Int32))]), (s22.2.2, g, cw_R sv))) rfl ?_
                      by_cases q72 : (48 : Int32) < (s22.1 + (0 : Int32))
                      · rw [if_pos q72] at hf
                        refine rh_Ex.stp (s' := ((244, [some (.ref 6), some (.int u1), some (.int u2), some (.int u3), some (.int u4), some (.int (s22.1 + (0 : Int32))), some (.int s22.2.1), some (.int (s22.2.2 7 s22.2.1.toNatClampNeg)), some (.int (-(s22.2.2 8 (s22.1 - (1 : Int32)).toNatClampNeg))), some (.int (0 : Int32))], []), (s22.2.2, g, cw_R sv))) rfl (st_icgt_p q72) ?_
                        refine rh_Ex.blk 2 (s' := ((22, [some (.ref 6), some (.int u1), some (.int u2), some (.int u3), some (.int u4), some (.int (s22.1 + (0 : Int32))), some (.int (s22.2.1 + (1 : Int32))), some (.int (s22.2.2 7 s22.2.1.toNatClampNeg)), some (.int (-(s22.2.2 8 (s22.1 - (1 : Int32)).toNatClampNeg))), some (.int (0 : Int32))], []), (s22.2.2, g, cw_R sv))) rfl ?_
                        cases hf
                        refine rh_Ex.fgt [some (.ref 6), some (.int u1), some (.int u2), some (.int u3), some (.int u4), some (.int (s22.1 + (0 : Int32))), some (.int (s22.2.1 + (1 : Int32))), none, none, none] ⟨rfl, rfl, rfl, rfl, rfl, rfl, rfl, trivial⟩ ?_
                        exact hk
                      · rw [if_neg q72] at hf
                        refine rh_Ex.stp (s' := ((233, [some (.ref 6), some (.int u1), some (.int u2), some (.int u3), some (.int u4), some (.int (s22.1 + (0 : Int32))), some (.int s22.2.1), some (.int (s22.2.2 7 s22.2.1.toNatClampNeg)), some (.int (-(s22.2.2 8 (s22.1 - (1 : Int32)).toNatClampNeg))), some (.int (0 : Int32))], []), (s22.2.2, g, cw_R sv))) rfl (st_icgt_n q72) ?_
                        refine rh_Ex.blk 6 (s' := ((243, [some (.ref 6), some (.int u1), some (.int u2), some (.int u3), some (.int u4), some (.int (s22.1 + (0 : Int32))), some (.int s22.2.1), some (.int (s22.2.2 7 s22.2.1.toNatClampNeg)), some (.int (-(s22.2.2 8 (s22.1 - (1 : Int32)).toNatClampNeg))), some (.int (0 : Int32))], [.int (-(s22.2.2 8 (s22.1 - (1 : Int32)).toNatClampNeg)), .int ((s22.1 + (0 : Int32)) - (1 : Int32)), .ref 8]), (s22.2.2, g, cw_R sv))) rfl ?_
                        obtain ⟨q73, hf⟩ := rh_gq hf
                        refine rh_Ex.stp (s' := ((244, [some (.ref 6), some (.int u1), some (.int u2), some (.int u3), some (.int u4), some (.int (s22.1 + (0 : Int32))), some (.int s22.2.1), some (.int (s22.2.2 7 s22.2.1.toNatClampNeg)), some (.int (-(s22.2.2 8 (s22.1 - (1 : Int32)).toNatClampNeg))), some (.int (0 : Int32))], []), (rh_up s22.2.2 8 ((s22.1 + (0 : Int32)) - (1 : Int32)).toNatClampNeg (-(s22.2.2 8 (s22.1 - (1 : Int32)).toNatClampNeg)), g, cw_R sv))) rfl (st_iast (n := 48) rfl q73) ?_
                        refine rh_Ex.blk 2 (s' := ((22, [some (.ref 6), some (.int u1), some (.int u2), some (.int u3), some (.int u4), some (.int (s22.1 + (0 : Int32))), some (.int (s22.2.1 + (1 : Int32))), some (.int (s22.2.2 7 s22.2.1.toNatClampNeg)), some (.int (-(s22.2.2 8 (s22.1 - (1 : Int32)).toNatClampNeg))), some (.int (0 : Int32))], []), (rh_up s22.2.2 8 ((s22.1 + (0 : Int32)) - (1 : Int32)).toNatClampNeg (-(s22.2.2 8 (s22.1 - (1 : Int32)).toNatClampNeg)), g, cw_R sv))) rfl ?_
                        cases hf
                        refine rh_Ex.fgt [some (.ref 6), some (.int u1), some (.int u2), some (.int u3), some (.int u4), some (.int (s22.1 + (0 : Int32))), some (.int (s22.2.1 + (1 : Int32))), none, none, none] ⟨rfl, rfl, rfl, rfl, rfl, rfl, rfl, trivial⟩ ?_
                        exact hk
                · rw [if_neg q65] at hf
                  rw [rh_sw, if_neg (show ¬ (126 : Int) = (-(s22.2.2 7 s22.2.1.toNatClampNeg)).toInt from q65)]
                  rw [rh_sw]
                  refine rh_Ex.blk 2 (s' := ((178, [some (.ref 6), some (.int u1), some (.int u2), some (.int u3), some (.int u4), some (.int s22.1), some (.int s22.2.1), some (.int (s22.2.2 7 s22.2.1.toNatClampNeg)), some (.int (0 : Int32)), some (.int (1 : Int32))], [.int (1 : Int32), .int s22.1]), (s22.2.2, g, cw_R sv))) rfl ?_
                  by_cases q74 : s22.1 ≤ (1 : Int32)
                  · rw [if_pos q74] at hf
                    refine rh_Ex.stp (s' := ((208, [some (.ref 6), some (.int u1), some (.int u2), some (.int u3), some (.int u4), some (.int s22.1), some (.int s22.2.1), some (.int (s22.2.2 7 s22.2.1.toNatClampNeg)), some (.int (0 : Int32)), some (.int (1 : Int32))], []), (s22.2.2, g, cw_R sv))) rfl (st_icle_p q74) ?_
                    refine rh_Ex.blk 9 (s' := ((223, [some (.ref 6), some (.int u1), some (.int u2), some (.int u3), some (.int u4), some (.int (s22.1 + (-1 : Int32))), some (.int s22.2.1), some (.int (s22.2.2 7 s22.2.1.toNatClampNeg)), some (.int (0 : Int32)), some (.int (-1 : Int32))], [.int (s22.1 + (-1 : Int32))]), (s22.2.2, g, cw_R sv))) rfl ?_
                    by_cases q75 : (s22.1 + (-1 : Int32)) ≤ 0
                    · rw [if_pos q75] at hf
                      refine rh_Ex.stp (s' := ((244, [some (.ref 6), some (.int u1), some (.int u2), some (.int u3), some (.int u4), some (.int (s22.1 + (-1 : Int32))), some (.int s22.2.1), some (.int (s22.2.2 7 s22.2.1.toNatClampNeg)), some (.int (0 : Int32)), some (.int (-1 : Int32))], []), (s22.2.2, g, cw_R sv))) rfl (st_ifle_p q75) ?_
                      refine rh_Ex.blk 2 (s' := ((22, [some (.ref 6), some (.int u1), some (.int u2), some (.int u3), some (.int u4), some (.int (s22.1 + (-1 : Int32))), some (.int (s22.2.1 + (1 : Int32))), some (.int (s22.2.2 7 s22.2.1.toNatClampNeg)), some (.int (0 : Int32)), some (.int (-1 : Int32))], []), (s22.2.2, g, cw_R sv))) rfl ?_
                      cases hf
                      refine rh_Ex.fgt [some (.ref 6), some (.int u1), some (.int u2), some (.int u3), some (.int u4), some (.int (s22.1 + (-1 : Int32))), some (.int (s22.2.1 + (1 : Int32))), none, none, none] ⟨rfl, rfl, rfl, rfl, rfl, rfl, rfl, trivial⟩ ?_
                      exact hk
                    · rw [if_neg q75] at hf
                      refine rh_Ex.stp (s' := ((226, [some (.ref 6), some (.int u1), some (.int u2), some (.int u3), some (.int u4), some (.int (s22.1 + (-1 : Int32))), some (.int s22.2.1), some (.int (s22.2.2 7 s22.2.1.toNatClampNeg)), some (.int (0 : Int32)), some (.int (-1 : Int32))], []), (s22.2.2, g, cw_R sv))) rfl (st_ifle_n q75) ?_
                      refine rh_Ex.blk 2 (s' := ((230, [some (.ref 6), some (.int u1), some (.int u2), some (.int u3), some (.int u4), some (.int (s22.1 + (-1 : Int32))), some (.int s22.2.1), some (.int (s22.2.2 7 s22.2.1.toNatClampNeg)), some (.int (0 : Int32)), some (.int (-1 : Int32))], [.int (48 : Int32), .int (s22.1 + (-1 : Int32))]), (s22.2.2, g, cw_R sv))) rfl ?_
                      by_cases q76 : (48 : Int32) < (s22.1 + (-1 : Int32))
                      · rw [if_pos q76] at hf
                        refine rh_Ex.stp (s' := ((244, [some (.ref 6), some (.int u1), some (.int u2), some (.int u3), some (.int u4), some (.int (s22.1 + (-1 : Int32))), some (.int s22.2.1), some (.int (s22.2.2 7 s22.2.1.toNatClampNeg)), some (.int (0 : Int32)), some (.int (-1 : Int32))], []), (s22.2.2, g, cw_R sv))) rfl (st_icgt_p q76) ?_
                        refine rh_Ex.blk 2 (s' := ((22, [some (.ref 6), some (.int u1), some (.int u2), some (.int u3), some (.int u4), some (.int (s22.1 + (-1 : Int32))), some (.int (s22.2.1 + (1 : Int32))), some (.int (s22.2.2 7 s22.2.1.toNatClampNeg)), some (.int (0 : Int32)), some (.int (-1 : Int32))], []), (s22.2.2, g, cw_R sv))) rfl ?_
                        cases hf
                        refine rh_Ex.fgt [some (.ref 6), some (.int u1), some (.int u2), some (.int u3), some (.int u4), some (.int (s22.1 + (-1 : Int32))), some (.int (s22.2.1 + (1 : Int32))), none, none, none] ⟨rfl, rfl, rfl, rfl, rfl, rfl, rfl, trivial⟩ ?_
                        exact hk
                      · rw [if_neg q76] at hf
                        refine rh_Ex.stp (s' := ((233, [some (.ref 6), some (.int u1), some (.int u2), some (.int u3), some (.int u4), some (.int (s22.1 + (-1 : Int32))), some (.int s22.2.1), some (.int (s22.2.2 7 s22.2.1.toNatClampNeg)), some (.int (0 : Int32)), some (.int (-1 : Int32))], []), (s22.2.2, g, cw_R sv))) rfl (st_icgt_n q76) ?_
                        refine rh_Ex.blk 6 (s' := ((243, [some (.ref 6), some (.int u1), some (.int u2), some (.int u3), some (.int u4), some (.int (s22.1 + (-1 : Int32))), some (.int s22.2.1), some (.int (s22.2.2 7 s22.2.1.toNatClampNeg)), some (.int (0 : Int32)), some (.int (-1 : Int32))], [.int (0 : Int32), .int ((s22.1 + (-1 : Int32)) - (1 : Int32)), .ref 8]), (s22.2.2, g, cw_R sv))) rfl ?_
                        obtain ⟨q77, hf⟩ := rh_gq hf
                        refine rh_Ex.stp (s' := ((244, [some (.ref 6), some (.int u1), some (.int u2), some (.int u3), some (.int u4), some (.int (s22.1 + (-1 : Int32))), some (.int s22.2.1), some (.int (s22.2.2 7 s22.2.1.toNatClampNeg)), some (.int (0 : Int32)), some (.int (-1 : Int32))], []), (rh_up s22.2.2 8 ((s22.1 + (-1 : Int32)) - (1 : Int32)).toNatClampNeg (0 : Int32), g, cw_R sv))) rfl (st_iast (n := 48) rfl q77) ?_
                        refine rh_Ex.blk 2 (s' := ((22, [some (.ref 6), some (.int u1), some (.int u2), some (.int u3), some (.int u4), some (.int (s22.1 + (-1 : Int32))), some (.int (s22.2.1 + (1 : Int32))), some (.int (s22.2.2 7 s22.2.1.toNatClampNeg)), some (.int (0 : Int32)), some (.int (-1 : Int32))], []), (rh_up s22.2.2 8 ((s22.1 + (-1 : Int32)) - (1 : Int32)).toNatClampNeg (0 : Int32), g, cw_R sv))) rfl ?_
                        cases hf
                        refine rh_Ex.fgt [some (.ref 6), some (.int u1), some (.int u2), some (.int u3), some (.int u4), some (.int (s22.1 + (-1 : Int32))), some (.int (s22.2.1 + (1 : Int32))), none, none, none] ⟨rfl, rfl, rfl, rfl, rfl, rfl, rfl, trivial⟩ ?_
                        exact hk
                  · rw [if_neg q74] at hf
                    refine rh_Ex.stp (s' := ((181, [some (.ref 6), some (.int u1), some (.int u2), some (.int u3), some (.int u4), some (.int s22.1), some (.int s22.2.1), some (.int (s22.2.2 7 s22.2.1.toNatClampNeg)), some (.int (0 : Int32)), some (.int (1 : Int32))], []), (s22.2.2, g, cw_R sv))) rfl (st_icle_n q74) ?_
                    refine rh_Ex.blk 7 (s' := ((192, [some (.ref 6), some (.int u1), some (.int u2), some (.int u3), some (.int u4), some (.int s22.1), some (.int s22.2.1), some (.int (s22.2.2 7 s22.2.1.toNatClampNeg)), some (.int (0 : Int32)), some (.int (1 : Int32))], [.int (s22.1 - (2 : Int32)), .ref 8, .int (-(s22.2.2 7 s22.2.1.toNatClampNeg))]), (s22.2.2, g, cw_R sv))) rfl ?_
                    obtain ⟨q78, hf⟩ := rh_gq hf
                    refine rh_Ex.stp (s' := ((193, [some (.ref 6), some (.int u1), some (.int u2), some (.int u3), some (.int u4), some (.int s22.1), some (.int s22.2.1), some (.int (s22.2.2 7 s22.2.1.toNatClampNeg)), some (.int (0 : Int32)), some (.int (1 : Int32))], [.int (s22.2.2 8 (s22.1 - (2 : Int32)).toNatClampNeg), .int (-(s22.2.2 7 s22.2.1.toNatClampNeg))]), (s22.2.2, g, cw_R sv))) rfl (st_iald (n := 48) rfl q78) ?_
                    refine rh_Ex.blk 5 (s' := ((201, [some (.ref 6), some (.int u1), some (.int u2), some (.int u3), some (.int u4), some (.int s22.1), some (.int s22.2.1), some (.int (s22.2.2 7 s22.2.1.toNatClampNeg)), some (.int (0 : Int32)), some (.int (1 : Int32))], [.int (s22.1 - (1 : Int32)), .ref 8, .int (s22.2.2 8 (s22.1 - (2 : Int32)).toNatClampNeg), .int (-(s22.2.2 7 s22.2.1.toNatClampNeg))]), (s22.2.2, g, cw_R sv))) rfl ?_
                    obtain ⟨q79, hf⟩ := rh_gq hf
                    refine rh_Ex.stp (s' := ((202, [some (.ref 6), some (.int u1), some (.int u2), some (.int u3), some (.int u4), some (.int s22.1), some (.int s22.2.1), some (.int (s22.2.2 7 s22.2.1.toNatClampNeg)), some (.int (0 : Int32)), some (.int (1 : Int32))], [.int (s22.2.2 8 (s22.1 - (1 : Int32)).toNatClampNeg), .int (s22.2.2 8 (s22.1 - (2 : Int32)).toNatClampNeg), .int (-(s22.2.2 7 s22.2.1.toNatClampNeg))]), (s22.2.2, g, cw_R sv))) rfl (st_iald (n := 48) rfl q79) ?_
                    obtain ⟨x80, hx80, hf⟩ := rh_bq hf
                    refine rh_Ex.call (j := 39) (rc := none) [.int (-(s22.2.2 7 s22.2.1.toNatClampNeg)), .int (s22.2.2 8 (s22.1 - (2 : Int32)).toNatClampNeg), .int (s22.2.2 8 (s22.1 - (1 : Int32)).toNatClampNeg)] [] (some (.int x80)) rfl rfl trivial (Nat.le_of_ble_eq_true rfl) (R_Ha_joined d (cw_L ++ xx) (cw_R sv) s22.2.2 g (-(s22.2.2 7 s22.2.1.toNatClampNeg)) (s22.2.2 8 (s22.1 - (2 : Int32)).toNatClampNeg) (s22.2.2 8 (s22.1 - (1 : Int32)).toNatClampNeg) hx80) ?_
                    show rh_Ex _ _ _ ((205, [some (.ref 6), some (.int u1), some (.int u2), some (.int u3), some (.int u4), some (.int s22.1), some (.int s22.2.1), some (.int (s22.2.2 7 s22.2.1.toNatClampNeg)), some (.int (0 : Int32)), some (.int (1 : Int32))], [.int x80]), (s22.2.2, g, cw_R sv)) _ _
                    refine rh_Ex.blk 9 (s' := ((223, [some (.ref 6), some (.int u1), some (.int u2), some (.int u3), some (.int u4), some (.int (s22.1 + (-1 : Int32))), some (.int s22.2.1), some (.int (s22.2.2 7 s22.2.1.toNatClampNeg)), some (.int x80), some (.int (-1 : Int32))], [.int (s22.1 + (-1 : Int32))]), (s22.2.2, g, cw_R sv))) rfl ?_
                    by_cases q81 : (s22.1 + (-1 : Int32)) ≤ 0
                    · rw [if_pos q81] at hf
                      refine rh_Ex.stp (s' := ((244, [some (.ref 6), some (.int u1), some (.int u2), some (.int u3), some (.int u4), some (.int (s22.1 + (-1 : Int32))), some (.int s22.2.1), some (.int (s22.2.2 7 s22.2.1.toNatClampNeg)), some (.int x80), some (.int (-1 : Int32))], []), (s22.2.2, g, cw_R sv))) rfl (st_ifle_p q81) ?_
                      refine rh_Ex.blk 2 (s' := ((22, [some (.ref 6), some (.int u1), some (.int u2), some (.int u3), some (.int u4), some (.int (s22.1 + (-1 : Int32))), some (.int (s22.2.1 + (1 : Int32))), some (.int (s22.2.2 7 s22.2.1.toNatClampNeg)), some (.int x80), some (.int (-1 : Int32))], []), (s22.2.2, g, cw_R sv))) rfl ?_
                      cases hf
                      refine rh_Ex.fgt [some (.ref 6), some (.int u1), some (.int u2), some (.int u3), some (.int u4), some (.int (s22.1 + (-1 : Int32))), some (.int (s22.2.1 + (1 : Int32))), none, none, none] ⟨rfl, rfl, rfl, rfl, rfl, rfl, rfl, trivial⟩ ?_
                      exact hk
                    · rw [if_neg q81] at hf
                      refine rh_Ex.stp (s' := ((226, [some (.ref 6), some (.int u1), some (.int u2), some (.int u3), some (.int u4), some (.int (s22.1 + (-1 : Int32))), some (.int s22.2.1), some (.int (s22.2.2 7 s22.2.1.toNatClampNeg)), some (.int x80), some (.int (-1 : Int32))], []), (s22.2.2, g, cw_R sv))) rfl (st_ifle_n q81) ?_
                      refine rh_Ex.blk 2 (s' := ((230, [some (.ref 6), some (.int u1), some (.int u2), some (.int u3), some (.int u4), some (.int (s22.1 + (-1 : Int32))), some (.int s22.2.1), some (.int (s22.2.2 7 s22.2.1.toNatClampNeg)), some (.int x80), some (.int (-1 : Int32))], [.int (48 : Int32), .int (s22.1 + (-1 : Int32))]), (s22.2.2, g, cw_R sv))) rfl ?_
                      by_cases q82 : (48 : Int32) < (s22.1 + (-1 : Int32))
                      · rw [if_pos q82] at hf
                        refine rh_Ex.stp (s' := ((244, [some (.ref 6), some (.int u1), some (.int u2), some (.int u3), some (.int u4), some (.int (s22.1 + (-1 : Int32))), some (.int s22.2.1), some (.int (s22.2.2 7 s22.2.1.toNatClampNeg)), some (.int x80), some (.int (-1 : Int32))], []), (s22.2.2, g, cw_R sv))) rfl (st_icgt_p q82) ?_
                        refine rh_Ex.blk 2 (s' := ((22, [some (.ref 6), some (.int u1), some (.int u2), some (.int u3), some (.int u4), some (.int (s22.1 + (-1 : Int32))), some (.int (s22.2.1 + (1 : Int32))), some (.int (s22.2.2 7 s22.2.1.toNatClampNeg)), some (.int x80), some (.int (-1 : Int32))], []), (s22.2.2, g, cw_R sv))) rfl ?_
                        cases hf
                        refine rh_Ex.fgt [some (.ref 6), some (.int u1), some (.int u2), some (.int u3), some (.int u4), some (.int (s22.1 + (-1 : Int32))), some (.int (s22.2.1 + (1 : Int32))), none, none, none] ⟨rfl, rfl, rfl, rfl, rfl, rfl, rfl, trivial⟩ ?_
                        exact hk
                      · rw [if_neg q82] at hf
                        refine rh_Ex.stp (s' := ((233, [some (.ref 6), some (.int u1), some (.int u2), some (.int u3), some (.int u4), some (.int (s22.1 + (-1 : Int32))), some (.int s22.2.1), some (.int (s22.2.2 7 s22.2.1.toNatClampNeg)), some (.int x80), some (.int (-1 : Int32))], []), (s22.2.2, g, cw_R sv))) rfl (st_icgt_n q82) ?_
                        refine rh_Ex.blk 6 (s' := ((243, [some (.ref 6), some (.int u1), some (.int u2), some (.int u3), some (.int u4), some (.int (s22.1 + (-1 : Int32))), some (.int s22.2.1), some (.int (s22.2.2 7 s22.2.1.toNatClampNeg)), some (.int x80), some (.int (-1 : Int32))], [.int x80, .int ((s22.1 + (-1 : Int32)) - (1 : Int32)), .ref 8]), (s22.2.2, g, cw_R sv))) rfl ?_
                        obtain ⟨q83, hf⟩ := rh_gq hf
                        refine rh_Ex.stp (s' := ((244, [some (.ref 6), some (.int u1), some (.int u2), some (.int u3), some (.int u4), some (.int (s22.1 + (-1 : Int32))), some (.int s22.2.1), some (.int (s22.2.2 7 s22.2.1.toNatClampNeg)), some (.int x80), some (.int (-1 : Int32))], []), (rh_up s22.2.2 8 ((s22.1 + (-1 : Int32)) - (1 : Int32)).toNatClampNeg x80, g, cw_R sv))) rfl (st_iast (n := 48) rfl q83) ?_
                        refine rh_Ex.blk 2 (s' := ((22, [some (.ref 6), some (.int u1), some (.int u2), some (.int u3), some (.int u4), some (.int (s22.1 + (-1 : Int32))), some (.int (s22.2.1 + (1 : Int32))), some (.int (s22.2.2 7 s22.2.1.toNatClampNeg)), some (.int x80), some (.int (-1 : Int32))], []), (rh_up s22.2.2 8 ((s22.1 + (-1 : Int32)) - (1 : Int32)).toNatClampNeg x80, g, cw_R sv))) rfl ?_
                        cases hf
                        refine rh_Ex.fgt [some (.ref 6), some (.int u1), some (.int u2), some (.int u3), some (.int u4), some (.int (s22.1 + (-1 : Int32))), some (.int (s22.2.1 + (1 : Int32))), none, none, none] ⟨rfl, rfl, rfl, rfl, rfl, rfl, rfl, trivial⟩ ?_
                        exact hk
set_option maxRecDepth 20000 in
set_option maxHeartbeats 4000000 in
theorem R_Ha_weigh (d : Nat) (xx : rh_L) (sv : Option Nat) (h : Nat → Nat → Int32) (g : Nat → Nat → Int64) (p0 : Int32) (p1 : Int32) (p2 : Int32) (p3 : Int32) {z9 : Int32 × (Nat → Nat → Int32)} (hf : f_Ha_weigh h p0 p1 p2 p3 = some z9) : rh_M rh_PT (cw_L ++ xx) (d + 2) 38 [.ref 6, .int p0, .int p1, .int p2, .int p3] (h, g, cw_R sv) (some (.int z9.1)) (z9.2, g, cw_R sv) := by
  unfold f_Ha_weigh at hf
  refine rh_go pt_38 (Nat.le_of_ble_eq_true rfl) (lv := [some (.ref 6), some (.int p0), some (.int p1), some (.int p2), some (.int p3), none, none, none, none, none]) rfl ?_
  refine rh_Ex.blk 2 (s' := ((4, [some (.ref 6), some (.int p0), some (.int p1), some (.int p2), some (.int p3), none, none, none, none, none], [.int (h 6 1)]), (h, g, cw_R sv))) rfl ?_
  by_cases q1 : (h 6 1) = 0
  · rw [if_pos q1] at hf
    refine rh_Ex.stp (s' := ((7, [some (.ref 6), some (.int p0), some (.int p1), some (.int p2), some (.int p3), none, none, none, none, none], []), (h, g, cw_R sv))) rfl (st_ifne_p q1) ?_
    refine rh_Ex.blk 5 (s' := ((13, [some (.ref 6), some (.int p0), some (.int p1), some (.int p2), some (.int p3), none, none, none, none, none], [.int (24 : Int32), .int (p0 * p1), .int p0]), (h, g, cw_R sv))) rfl ?_
    refine rh_Ex.stp (s' := ((14, [some (.ref 6), some (.int p0), some (.int p1), some (.int p2), some (.int p3), none, none, none, none, none], [.int ((p0 * p1) / (24 : Int32)), .int p0]), (h, g, cw_R sv))) rfl (st_idiv (by decide)) ?_
    refine rh_Ex.blk 1 (s' := ((15, [some (.ref 6), some (.int p0), some (.int p1), some (.int p2), some (.int p3), none, none, none, none, none], [.int (p0 - ((p0 * p1) / (24 : Int32)))]), (h, g, cw_R sv))) rfl ?_
    cases hf
    exact rh_Ex.ret rfl rfl
  · rw [if_neg q1] at hf
    refine rh_Ex.stp (s' := ((16, [some (.ref 6), some (.int p0), some (.int p1), some (.int p2), some (.int p3), none, none, none, none, none], []), (h, g, cw_R sv))) rfl (st_ifne_n q1) ?_
    refine rh_Ex.blk 4 (s' := ((22, [some (.ref 6), some (.int p0), some (.int p1), some (.int p2), some (.int p3), some (.int (0 : Int32)), some (.int (0 : Int32)), none, none, none], []), (h, g, cw_R sv))) rfl ?_
    obtain ⟨r84, hr84, hf⟩ := rh_bq hf
    refine rh_Ex.fgt [some (.ref 6), some (.int p0), some (.int p1), some (.int p2), some (.int p3), some (.int (0 : Int32)), some (.int (0 : Int32)), none, none, none] ⟨rfl, rfl, rfl, rfl, rfl, rfl, rfl, trivial⟩ ?_
    refine rh_Ex.loop _ _ _ (lb_Ha_weigh_22 d xx sv p0 p1 p2 p3  g _ _) rh_N _ r84 hr84 ?_
    refine rh_Ex.blk 5 (s' := ((259, [some (.ref 6), none, none, none, none, none, none, none, none, none], [.int (0 : Int32), .ref 8, .int (9999 : Int32), .int (0 : Int32)]), (r84, g, cw_R sv))) rfl ?_
    refine rh_Ex.stp (s' := ((260, [some (.ref 6), none, none, none, none, none, none, none, none, none], [.int (r84 8 (0 : Int32).toNatClampNeg), .int (9999 : Int32), .int (0 : Int32)]), (r84, g, cw_R sv))) rfl (st_iald (n := 48) rfl (by decide)) ?_
    refine rh_Ex.stp (s' := ((263, [some (.ref 6), none, none, none, none, none, none, none, none, none], [.int (if (r84 8 (0 : Int32).toNatClampNeg) < (9999 : Int32) then (r84 8 (0 : Int32).toNatClampNeg) else (9999 : Int32)), .int (0 : Int32)]), (r84, g, cw_R sv))) rfl (st_mmin (Nat.le_of_ble_eq_true rfl)) ?_
    refine rh_Ex.stp (s' := ((266, [some (.ref 6), none, none, none, none, none, none, none, none, none], [.int (if (0 : Int32) < (if (r84 8 (0 : Int32).toNatClampNeg) < (9999 : Int32) then (r84 8 (0 : Int32).toNatClampNeg) else (9999 : Int32)) then (if (r84 8 (0 : Int32).toNatClampNeg) < (9999 : Int32) then (r84 8 (0 : Int32).toNatClampNeg) else (9999 : Int32)) else (0 : Int32))]), (r84, g, cw_R sv))) rfl (st_mmax (Nat.le_of_ble_eq_true rfl)) ?_
    cases hf
    exact rh_Ex.ret rfl rfl
def f_Cr_weightAt (h : Nat → Nat → Int32) (p0 : Int32) (p1 : Int32) : Option (Int32 × (Nat → Nat → Int32)) :=
  if (f_Cr_isPerson h p0) = 0 then
    rh_g (0 ≤ p0.toInt ∧ p0.toInt < ((9 : Nat) : Int)) (
      some ((h 5 p0.toNatClampNeg, h))
    )
  else
    rh_g (0 ≤ p0.toInt ∧ p0.toInt < ((9 : Nat) : Int)) (
      (f_Ha_weigh h (h 5 p0.toNatClampNeg) (p1 - p1 / (9 : Int32) * (9 : Int32)) (p1 / (9 : Int32)) p0).bind (fun x4 =>
        some ((x4.1, x4.2))
      )
    )
set_option maxRecDepth 20000 in
set_option maxHeartbeats 4000000 in
theorem R_Cr_weightAt (d : Nat) (xx : rh_L) (sv : Option Nat) (h : Nat → Nat → Int32) (g : Nat → Nat → Int64) (p0 : Int32) (p1 : Int32) {z9 : Int32 × (Nat → Nat → Int32)} (hf : f_Cr_weightAt h p0 p1 = some z9) : rh_M rh_PT (cw_L ++ xx) (d + 3) 5 [.ref 4, .int p0, .int p1] (h, g, cw_R sv) (some (.int z9.1)) (z9.2, g, cw_R sv) := by
  unfold f_Cr_weightAt at hf
  refine rh_go pt_5 (Nat.le_of_ble_eq_true rfl) (lv := [some (.ref 4), some (.int p0), some (.int p1)]) rfl ?_
  refine rh_Ex.blk 2 (s' := ((2, [some (.ref 4), some (.int p0), some (.int p1)], [.int p0, .ref 4]), (h, g, cw_R sv))) rfl ?_
  refine rh_Ex.call (j := 3) (rc := some 0) [.ref 4, .int p0] [] (some (.int (f_Cr_isPerson h p0))) rfl rfl rfl (Nat.le_of_ble_eq_true rfl) (R_Cr_isPerson (d + 1) xx sv h g p0 rfl) ?_
  show rh_Ex _ _ _ ((5, [some (.ref 4), some (.int p0), some (.int p1)], [.int (f_Cr_isPerson h p0)]), (h, g, cw_R sv)) _ _
  by_cases q1 : (f_Cr_isPerson h p0) = 0
  · rw [if_pos q1] at hf
    refine rh_Ex.stp (s' := ((33, [some (.ref 4), some (.int p0), some (.int p1)], []), (h, g, cw_R sv))) rfl (st_ifeq_p q1) ?_
    refine rh_Ex.blk 3 (s' := ((38, [some (.ref 4), some (.int p0), some (.int p1)], [.int p0, .ref 5]), (h, g, cw_R sv))) rfl ?_
    obtain ⟨q2, hf⟩ := rh_gq hf
    refine rh_Ex.stp (s' := ((39, [some (.ref 4), some (.int p0), some (.int p1)], [.int (h 5 p0.toNatClampNeg)]), (h, g, cw_R sv))) rfl (st_iald (n := 9) rfl q2) ?_
    cases hf
    exact rh_Ex.ret rfl rfl
  · rw [if_neg q1] at hf
    refine rh_Ex.stp (s' := ((8, [some (.ref 4), some (.int p0), some (.int p1)], []), (h, g, cw_R sv))) rfl (st_ifeq_n q1) ?_
    refine rh_Ex.blk 5 (s' := ((17, [some (.ref 4), some (.int p0), some (.int p1)], [.int p0, .ref 5, .ref 6]), (h, g, cw_R sv))) rfl ?_
    obtain ⟨q3, hf⟩ := rh_gq hf
    refine rh_Ex.stp (s' := ((18, [some (.ref 4), some (.int p0), some (.int p1)], [.int (h 5 p0.toNatClampNeg), .ref 6]), (h, g, cw_R sv))) rfl (st_iald (n := 9) rfl q3) ?_
    refine rh_Ex.blk 2 (s' := ((21, [some (.ref 4), some (.int p0), some (.int p1)], [.int (9 : Int32), .int p1, .int (h 5 p0.toNatClampNeg), .ref 6]), (h, g, cw_R sv))) rfl ?_
    refine rh_Ex.stp (s' := ((22, [some (.ref 4), some (.int p0), some (.int p1)], [.int (p1 - p1 / (9 : Int32) * (9 : Int32)), .int (h 5 p0.toNatClampNeg), .ref 6]), (h, g, cw_R sv))) rfl (st_irem (by decide)) ?_
    refine rh_Ex.blk 2 (s' := ((25, [some (.ref 4), some (.int p0), some (.int p1)], [.int (9 : Int32), .int p1, .int (p1 - p1 / (9 : Int32) * (9 : Int32)), .int (h 5 p0.toNatClampNeg), .ref 6]), (h, g, cw_R sv))) rfl ?_
    refine rh_Ex.stp (s' := ((26, [some (.ref 4), some (.int p0), some (.int p1)], [.int (p1 / (9 : Int32)), .int (p1 - p1 / (9 : Int32) * (9 : Int32)), .int (h 5 p0.toNatClampNeg), .ref 6]), (h, g, cw_R sv))) rfl (st_idiv (by decide)) ?_
    refine rh_Ex.blk 1 (s' := ((27, [some (.ref 4), some (.int p0), some (.int p1)], [.int p0, .int (p1 / (9 : Int32)), .int (p1 - p1 / (9 : Int32) * (9 : Int32)), .int (h 5 p0.toNatClampNeg), .ref 6]), (h, g, cw_R sv))) rfl ?_
    obtain ⟨x4, hx4, hf⟩ := rh_bq hf
    refine rh_Ex.call (j := 38) (rc := some 4) [.ref 6, .int (h 5 p0.toNatClampNeg), .int (p1 - p1 / (9 : Int32) * (9 : Int32)), .int (p1 / (9 : Int32)), .int p0] [] (some (.int x4.1)) rfl rfl rfl (Nat.le_of_ble_eq_true rfl) (R_Ha_weigh d xx sv h g (h 5 p0.toNatClampNeg) (p1 - p1 / (9 : Int32) * (9 : Int32)) (p1 / (9 : Int32)) p0 hx4) ?_
    show rh_Ex _ _ _ ((30, [some (.ref 4), some (.int p0), some (.int p1)], [.int x4.1]), (x4.2, g, cw_R sv)) _ _
    refine rh_Ex.blk 1 (s' := ((39, [some (.ref 4), some (.int p0), some (.int p1)], [.int x4.1]), (x4.2, g, cw_R sv))) rfl ?_
    cases hf
    exact rh_Ex.ret rfl rfl
def b_Cr_together_5 (u1 : Int32) (u2 : Int32) : (Int32 × Int32 × (Nat → Nat → Int32)) → Option ((Int32 × Int32 × (Nat → Nat → Int32)) ⊕ (Int32 × (Nat → Nat → Int32))) := fun s5 =>
  if (s5.2.2 4 0) ≤ s5.2.1 then
    some (.inr (s5.1, s5.2.2))
  else
    if ((u1 >>> (s5.2.1 &&& 31)) &&& (1 : Int32)) = 0 then
      some (.inl (s5.1, s5.2.1 + (1 : Int32), s5.2.2))
    else
      (f_Cr_weightAt s5.2.2 s5.2.1 u2).bind (fun x4 =>
        some (.inl (s5.1 + x4.1, s5.2.1 + (1 : Int32), x4.2))
      )
def f_Cr_together (h : Nat → Nat → Int32) (p0 : Int32) (p1 : Int32) : Option (Int32 × (Nat → Nat → Int32)) :=
  (rh_loop (b_Cr_together_5 p0 p1) rh_N ((0 : Int32), (0 : Int32), h)).bind (fun r5 =>
    some ((r5.1, r5.2))
  )
set_option maxRecDepth 20000 in
set_option maxHeartbeats 4000000 in
theorem lb_Cr_together_5 (d : Nat) (xx : rh_L) (sv : Option Nat) (u1 : Int32) (u2 : Int32) (g : Nat → Nat → Int64) (v9 : Option Value) (h9 : rh_H) : ∀ s5 x9, b_Cr_together_5 u1 u2 s5 = some x9 → Sum.elim (fun s5 => rh_Ex (rh_M rh_PT (cw_L ++ xx) (d + 3)) (cw_L ++ xx) pg_X0_together ((5, [some (.ref 4), some (.int u1), some (.int u2), some (.int s5.1), some (.int s5.2.1)], []), (s5.2.2, g, cw_R sv)) v9 h9) (fun e9 => rh_Ex (rh_M rh_PT (cw_L ++ xx) (d + 3)) (cw_L ++ xx) pg_X0_together ((39, [none, none, none, some (.int e9.1), none], []), (e9.2, g, cw_R sv)) v9 h9) x9 → rh_Ex (rh_M rh_PT (cw_L ++ xx) (d + 3)) (cw_L ++ xx) pg_X0_together ((5, [some (.ref 4), some (.int u1), some (.int u2), some (.int s5.1), some (.int s5.2.1)], []), (s5.2.2, g, cw_R sv)) v9 h9 := by
  intro s5 x9 hf hk
  unfold b_Cr_together_5 at hf
  refine rh_Ex.blk 3 (s' := ((11, [some (.ref 4), some (.int u1), some (.int u2), some (.int s5.1), some (.int s5.2.1)], [.int (s5.2.2 4 0), .int s5.2.1]), (s5.2.2, g, cw_R sv))) rfl ?_
  by_cases q2 : (s5.2.2 4 0) ≤ s5.2.1
  · rw [if_pos q2] at hf
    refine rh_Ex.stp (s' := ((39, [some (.ref 4), some (.int u1), some (.int u2), some (.int s5.1), some (.int s5.2.1)], []), (s5.2.2, g, cw_R sv))) rfl (st_icge_p q2) ?_
    cases hf
    refine rh_Ex.fgt [none, none, none, some (.int s5.1), none] ⟨rfl, trivial⟩ ?_
    exact hk
  · rw [if_neg q2] at hf
    refine rh_Ex.stp (s' := ((14, [some (.ref 4), some (.int u1), some (.int u2), some (.int s5.1), some (.int s5.2.1)], []), (s5.2.2, g, cw_R sv))) rfl (st_icge_n q2) ?_
    refine rh_Ex.blk 5 (s' := ((20, [some (.ref 4), some (.int u1), some (.int u2), some (.int s5.1), some (.int s5.2.1)], [.int ((u1 >>> (s5.2.1 &&& 31)) &&& (1 : Int32))]), (s5.2.2, g, cw_R sv))) rfl ?_
    by_cases q3 : ((u1 >>> (s5.2.1 &&& 31)) &&& (1 : Int32)) = 0
    · rw [if_pos q3] at hf
      refine rh_Ex.stp (s' := ((33, [some (.ref 4), some (.int u1), some (.int u2), some (.int s5.1), some (.int s5.2.1)], []), (s5.2.2, g, cw_R sv))) rfl (st_ifeq_p q3) ?_
      refine rh_Ex.blk 2 (s' := ((5, [some (.ref 4), some (.int u1), some (.int u2), some (.int s5.1), some (.int (s5.2.1 + (1 : Int32)))], []), (s5.2.2, g, cw_R sv))) rfl ?_
      cases hf
      refine rh_Ex.fgt [some (.ref 4), some (.int u1), some (.int u2), some (.int s5.1), some (.int (s5.2.1 + (1 : Int32)))] ⟨rfl, rfl, rfl, rfl, rfl, trivial⟩ ?_
      exact hk
    · rw [if_neg q3] at hf
      refine rh_Ex.stp (s' := ((23, [some (.ref 4), some (.int u1), some (.int u2), some (.int s5.1), some (.int s5.2.1)], []), (s5.2.2, g, cw_R sv))) rfl (st_ifeq_n q3) ?_
      refine rh_Ex.blk 4 (s' := ((28, [some (.ref 4), some (.int u1), some (.int u2), some (.int s5.1), some (.int s5.2.1)], [.int u2, .int s5.2.1, .ref 4, .int s5.1]), (s5.2.2, g, cw_R sv))) rfl ?_
      obtain ⟨x4, hx4, hf⟩ := rh_bq hf
      refine rh_Ex.call (j := 5) (rc := some 0) [.ref 4, .int s5.2.1, .int u2] [.int s5.1] (some (.int x4.1)) rfl rfl rfl (Nat.le_of_ble_eq_true rfl) (R_Cr_weightAt d xx sv s5.2.2 g s5.2.1 u2 hx4) ?_
      show rh_Ex _ _ _ ((31, [some (.ref 4), some (.int u1), some (.int u2), some (.int s5.1), some (.int s5.2.1)], [.int x4.1, .int s5.1]), (x4.2, g, cw_R sv)) _ _
      refine rh_Ex.blk 4 (s' := ((5, [some (.ref 4), some (.int u1), some (.int u2), some (.int (s5.1 + x4.1)), some (.int (s5.2.1 + (1 : Int32)))], []), (x4.2, g, cw_R sv))) rfl ?_
      cases hf
      refine rh_Ex.fgt [some (.ref 4), some (.int u1), some (.int u2), some (.int (s5.1 + x4.1)), some (.int (s5.2.1 + (1 : Int32)))] ⟨rfl, rfl, rfl, rfl, rfl, trivial⟩ ?_
      exact hk
set_option maxRecDepth 20000 in
set_option maxHeartbeats 4000000 in
theorem R_Cr_together (d : Nat) (xx : rh_L) (sv : Option Nat) (h : Nat → Nat → Int32) (g : Nat → Nat → Int64) (p0 : Int32) (p1 : Int32) {z9 : Int32 × (Nat → Nat → Int32)} (hf : f_Cr_together h p0 p1 = some z9) : rh_M rh_PT (cw_L ++ xx) (d + 4) 7 [.ref 4, .int p0, .int p1] (h, g, cw_R sv) (some (.int z9.1)) (z9.2, g, cw_R sv) := by
  unfold f_Cr_together at hf
  refine rh_go pt_7 (Nat.le_of_ble_eq_true rfl) (lv := [some (.ref 4), some (.int p0), some (.int p1), none, none]) rfl ?_
  refine rh_Ex.blk 4 (s' := ((5, [some (.ref 4), some (.int p0), some (.int p1), some (.int (0 : Int32)), some (.int (0 : Int32))], []), (h, g, cw_R sv))) rfl ?_
  obtain ⟨r5, hr5, hf⟩ := rh_bq hf
  refine rh_Ex.fgt [some (.ref 4), some (.int p0), some (.int p1), some (.int (0 : Int32)), some (.int (0 : Int32))] ⟨rfl, rfl, rfl, rfl, rfl, trivial⟩ ?_
  refine rh_Ex.loop _ _ _ (lb_Cr_together_5 d xx sv p0 p1  g _ _) rh_N _ r5 hr5 ?_
  refine rh_Ex.blk 1 (s' := ((40, [none, none, none, some (.int r5.1), none], [.int r5.1]), (r5.2, g, cw_R sv))) rfl ?_
  cases hf
  exact rh_Ex.ret rfl rfl
def f_Cr_narrowed (p0 : Int32) (p1 : Int32) : Int32 :=
  if ((0 : Int) = p0.toInt) then
    p1.toInt8.toInt32
  else
    if ((1 : Int) = p0.toInt) then
      p1.toInt16.toInt32
    else
      p1
set_option maxRecDepth 20000 in
set_option maxHeartbeats 4000000 in
theorem R_Cr_narrowed (d : Nat) (LL : rh_L) (rr : Nat → Nat → Option Nat) (h : Nat → Nat → Int32) (g : Nat → Nat → Int64) (p0 : Int32) (p1 : Int32) {z9 : Int32} (hf : f_Cr_narrowed p0 p1 = z9) : rh_M rh_PT LL (d + 1) 10 [.int p0, .int p1] (h, g, rr) (some (.int z9)) (h, g, rr) := by
  unfold f_Cr_narrowed at hf
  refine rh_go pt_10 (Nat.le_of_ble_eq_true rfl) (lv := [some (.int p0), some (.int p1)]) rfl ?_
  refine rh_Ex.blk 1 (s' := ((1, [some (.int p0), some (.int p1)], [.int p0]), (h, g, rr))) rfl ?_
  refine rh_Ex.stp (s' := ((rh_sw [(0, 28), (1, 31)] 34 p0, [some (.int p0), some (.int p1)], []), (h, g, rr))) rfl rfl ?_
  by_cases q1 : ((0 : Int) = p0.toInt)
  · rw [if_pos q1] at hf
    rw [rh_sw, if_pos (show (0 : Int) = p0.toInt from q1)]
    refine rh_Ex.blk 2 (s' := ((30, [some (.int p0), some (.int p1)], [.int p1.toInt8.toInt32]), (h, g, rr))) rfl ?_
    subst hf
    exact rh_Ex.ret rfl rfl
  · rw [if_neg q1] at hf
    rw [rh_sw, if_neg (show ¬ (0 : Int) = p0.toInt from q1)]
    by_cases q2 : ((1 : Int) = p0.toInt)
    · rw [if_pos q2] at hf
      rw [rh_sw, if_pos (show (1 : Int) = p0.toInt from q2)]
      refine rh_Ex.blk 2 (s' := ((33, [some (.int p0), some (.int p1)], [.int p1.toInt16.toInt32]), (h, g, rr))) rfl ?_
      subst hf
      exact rh_Ex.ret rfl rfl
    · rw [if_neg q2] at hf
      rw [rh_sw, if_neg (show ¬ (1 : Int) = p0.toInt from q2)]
      rw [rh_sw]
      refine rh_Ex.blk 1 (s' := ((35, [some (.int p0), some (.int p1)], [.int p1]), (h, g, rr))) rfl ?_
      subst hf
      exact rh_Ex.ret rfl rfl
def b_Cr_rebase_9 (u1 : Int32) (u2 : Int32) (u4 : Int32) : (Int32 × Int32 × Int32 × (Nat → Nat → Int32)) → Option ((Int32 × Int32 × Int32 × (Nat → Nat → Int32)) ⊕ (Int32 × (Nat → Nat → Int32))) := fun s9 =>
  if (s9.2.2.2 4 0) ≤ s9.2.2.1 then
    some (.inr (s9.1, s9.2.2.2))
  else
    if u2 ≤ s9.2.2.1 then
      rh_g (0 ≤ s9.2.2.1.toInt ∧ s9.2.2.1.toInt < ((9 : Nat) : Int)) (
        rh_g (0 ≤ s9.2.2.1.toInt ∧ s9.2.2.1.toInt < ((9 : Nat) : Int)) (
          some (.inl (s9.1 + ((rh_up s9.2.2.2 5 s9.2.2.1.toNatClampNeg (if (1 : Int32) < (if (1 : Int32) < (999 : Int32) then (1 : Int32) else (999 : Int32)) then (if (1 : Int32) < (999 : Int32) then (1 : Int32) else (999 : Int32)) else (1 : Int32))) 5 s9.2.2.1.toNatClampNeg), s9.2.1 + u4, s9.2.2.1 + (1 : Int32), rh_up s9.2.2.2 5 s9.2.2.1.toNatClampNeg (if (1 : Int32) < (if (1 : Int32) < (999 : Int32) then (1 : Int32) else (999 : Int32)) then (if (1 : Int32) < (999 : Int32) then (1 : Int32) else (999 : Int32)) else (1 : Int32))))
        )
      )
    else
      rh_g (0 ≤ s9.2.2.1.toInt ∧ s9.2.2.1.toInt < ((9 : Nat) : Int)) (
        rh_g (0 ≤ s9.2.2.1.toInt ∧ s9.2.2.1.toInt < ((9 : Nat) : Int)) (
          some (.inl (s9.1 + ((rh_up s9.2.2.2 5 s9.2.2.1.toNatClampNeg (if (1 : Int32) < (if (f_Cr_narrowed u1 s9.2.1) < (999 : Int32) then (f_Cr_narrowed u1 s9.2.1) else (999 : Int32)) then (if (f_Cr_narrowed u1 s9.2.1) < (999 : Int32) then (f_Cr_narrowed u1 s9.2.1) else (999 : Int32)) else (1 : Int32))) 5 s9.2.2.1.toNatClampNeg), s9.2.1 + u4, s9.2.2.1 + (1 : Int32), rh_up s9.2.2.2 5 s9.2.2.1.toNatClampNeg (if (1 : Int32) < (if (f_Cr_narrowed u1 s9.2.1) < (999 : Int32) then (f_Cr_narrowed u1 s9.2.1) else (999 : Int32)) then (if (f_Cr_narrowed u1 s9.2.1) < (999 : Int32) then (f_Cr_narrowed u1 s9.2.1) else (999 : Int32)) else (1 : Int32))))
        )
      )
def f_Cr_rebase (h : Nat → Nat → Int32) (p0 : Int32) (p1 : Int32) (p2 : Int32) (p3 : Int32) : Option (Int32 × (Nat → Nat → Int32)) :=
  (rh_loop (b_Cr_rebase_9 p0 p1 p3) rh_N ((0 : Int32), p2, (0 : Int32), h)).bind (fun r8 =>
    some ((r8.1, r8.2))
  )
set_option maxRecDepth 20000 in
set_option maxHeartbeats 4000000 in
theorem lb_Cr_rebase_9 (d : Nat) (xx : rh_L) (sv : Option Nat) (u1 : Int32) (u2 : Int32) (u4 : Int32) (g : Nat → Nat → Int64) (v9 : Option Value) (h9 : rh_H) : ∀ s9 x9, b_Cr_rebase_9 u1 u2 u4 s9 = some x9 → Sum.elim (fun s9 => rh_Ex (rh_M rh_PT (cw_L ++ xx) (d + 1)) (cw_L ++ xx) pg_X0_rebase ((9, [some (.ref 4), some (.int u1), some (.int u2), none, some (.int u4), some (.int s9.1), some (.int s9.2.1), some (.int s9.2.2.1), none], []), (s9.2.2.2, g, cw_R sv)) v9 h9) (fun e9 => rh_Ex (rh_M rh_PT (cw_L ++ xx) (d + 1)) (cw_L ++ xx) pg_X0_rebase ((80, [none, none, none, none, none, some (.int e9.1), none, none, none], []), (e9.2, g, cw_R sv)) v9 h9) x9 → rh_Ex (rh_M rh_PT (cw_L ++ xx) (d + 1)) (cw_L ++ xx) pg_X0_rebase ((9, [some (.ref 4), some (.int u1), some (.int u2), none, some (.int u4), some (.int s9.1), some (.int s9.2.1), some (.int s9.2.2.1), none], []), (s9.2.2.2, g, cw_R sv)) v9 h9 := by
  intro s9 x9 hf hk
  unfold b_Cr_rebase_9 at hf
  refine rh_Ex.blk 3 (s' := ((15, [some (.ref 4), some (.int u1), some (.int u2), none, some (.int u4), some (.int s9.1), some (.int s9.2.1), some (.int s9.2.2.1), none], [.int (s9.2.2.2 4 0), .int s9.2.2.1]), (s9.2.2.2, g, cw_R sv))) rfl ?_
  by_cases q2 : (s9.2.2.2 4 0) ≤ s9.2.2.1
  · rw [if_pos q2] at hf
    refine rh_Ex.stp (s' := ((80, [some (.ref 4), some (.int u1), some (.int u2), none, some (.int u4), some (.int s9.1), some (.int s9.2.1), some (.int s9.2.2.1), none], []), (s9.2.2.2, g, cw_R sv))) rfl (st_icge_p q2) ?_
    cases hf
    refine rh_Ex.fgt [none, none, none, none, none, some (.int s9.1), none, none, none] ⟨rfl, trivial⟩ ?_
    exact hk
  · rw [if_neg q2] at hf
    refine rh_Ex.stp (s' := ((18, [some (.ref 4), some (.int u1), some (.int u2), none, some (.int u4), some (.int s9.1), some (.int s9.2.1), some (.int s9.2.2.1), none], []), (s9.2.2.2, g, cw_R sv))) rfl (st_icge_n q2) ?_
    refine rh_Ex.blk 2 (s' := ((21, [some (.ref 4), some (.int u1), some (.int u2), none, some (.int u4), some (.int s9.1), some (.int s9.2.1), some (.int s9.2.2.1), none], [.int u2, .int s9.2.2.1]), (s9.2.2.2, g, cw_R sv))) rfl ?_
    by_cases q3 : u2 ≤ s9.2.2.1
    · rw [if_pos q3] at hf
      refine rh_Ex.stp (s' := ((33, [some (.ref 4), some (.int u1), some (.int u2), none, some (.int u4), some (.int s9.1), some (.int s9.2.1), some (.int s9.2.2.1), none], []), (s9.2.2.2, g, cw_R sv))) rfl (st_icge_p q3) ?_
      refine rh_Ex.blk 8 (s' := ((48, [some (.ref 4), some (.int u1), some (.int u2), none, some (.int u4), some (.int s9.1), some (.int s9.2.1), some (.int s9.2.2.1), some (.int (1 : Int32))], [.int (1 : Int32), .int (999 : Int32), .int (1 : Int32), .int s9.2.2.1, .ref 5]), (s9.2.2.2, g, cw_R sv))) rfl ?_
      refine rh_Ex.stp (s' := ((51, [some (.ref 4), some (.int u1), some (.int u2), none, some (.int u4), some (.int s9.1), some (.int s9.2.1), some (.int s9.2.2.1), some (.int (1 : Int32))], [.int (if (1 : Int32) < (999 : Int32) then (1 : Int32) else (999 : Int32)), .int (1 : Int32), .int s9.2.2.1, .ref 5]), (s9.2.2.2, g, cw_R sv))) rfl (st_mmin (Nat.le_of_ble_eq_true rfl)) ?_
      refine rh_Ex.stp (s' := ((54, [some (.ref 4), some (.int u1), some (.int u2), none, some (.int u4), some (.int s9.1), some (.int s9.2.1), some (.int s9.2.2.1), some (.int (1 : Int32))], [.int (if (1 : Int32) < (if (1 : Int32) < (999 : Int32) then (1 : Int32) else (999 : Int32)) then (if (1 : Int32) < (999 : Int32) then (1 : Int32) else (999 : Int32)) else (1 : Int32)), .int s9.2.2.1, .ref 5]), (s9.2.2.2, g, cw_R sv))) rfl (st_mmax (Nat.le_of_ble_eq_true rfl)) ?_
      obtain ⟨q4, hf⟩ := rh_gq hf
      refine rh_Ex.stp (s' := ((55, [some (.ref 4), some (.int u1), some (.int u2), none, some (.int u4), some (.int s9.1), some (.int s9.2.1), some (.int s9.2.2.1), some (.int (1 : Int32))], []), (rh_up s9.2.2.2 5 s9.2.2.1.toNatClampNeg (if (1 : Int32) < (if (1 : Int32) < (999 : Int32) then (1 : Int32) else (999 : Int32)) then (if (1 : Int32) < (999 : Int32) then (1 : Int32) else (999 : Int32)) else (1 : Int32)), g, cw_R sv))) rfl (st_iast (n := 9) rfl q4) ?_
      refine rh_Ex.blk 4 (s' := ((63, [some (.ref 4), some (.int u1), some (.int u2), none, some (.int u4), some (.int s9.1), some (.int s9.2.1), some (.int s9.2.2.1), some (.int (1 : Int32))], [.int s9.2.2.1, .ref 5, .int s9.1]), (rh_up s9.2.2.2 5 s9.2.2.1.toNatClampNeg (if (1 : Int32) < (if (1 : Int32) < (999 : Int32) then (1 : Int32) else (999 : Int32)) then (if (1 : Int32) < (999 : Int32) then (1 : Int32) else (999 : Int32)) else (1 : Int32)), g, cw_R sv))) rfl ?_
      obtain ⟨q5, hf⟩ := rh_gq hf
      refine rh_Ex.stp (s' := ((64, [some (.ref 4), some (.int u1), some (.int u2), none, some (.int u4), some (.int s9.1), some (.int s9.2.1), some (.int s9.2.2.1), some (.int (1 : Int32))], [.int ((rh_up s9.2.2.2 5 s9.2.2.1.toNatClampNeg (if (1 : Int32) < (if (1 : Int32) < (999 : Int32) then (1 : Int32) else (999 : Int32)) then (if (1 : Int32) < (999 : Int32) then (1 : Int32) else (999 : Int32)) else (1 : Int32))) 5 s9.2.2.1.toNatClampNeg), .int s9.1]), (rh_up s9.2.2.2 5 s9.2.2.1.toNatClampNeg (if (1 : Int32) < (if (1 : Int32) < (999 : Int32) then (1 : Int32) else (999 : Int32)) then (if (1 : Int32) < (999 : Int32) then (1 : Int32) else (999 : Int32)) else (1 : Int32)), g, cw_R sv))) rfl (st_iald (n := 9) rfl q5) ?_
      refine rh_Ex.blk 8 (s' := ((9, [some (.ref 4), some (.int u1), some (.int u2), none, some (.int u4), some (.int (s9.1 + ((rh_up s9.2.2.2 5 s9.2.2.1.toNatClampNeg (if (1 : Int32) < (if (1 : Int32) < (999 : Int32) then (1 : Int32) else (999 : Int32)) then (if (1 : Int32) < (999 : Int32) then (1 : Int32) else (999 : Int32)) else (1 : Int32))) 5 s9.2.2.1.toNatClampNeg))), some (.int (s9.2.1 + u4)), some (.int (s9.2.2.1 + (1 : Int32))), some (.int (1 : Int32))], []), (rh_up s9.2.2.2 5 s9.2.2.1.toNatClampNeg (if (1 : Int32) < (if (1 : Int32) < (999 : Int32) then (1 : Int32) else (999 : Int32)) then (if (1 : Int32) < (999 : Int32) then (1 : Int32) else (999 : Int32)) else (1 : Int32)), g, cw_R sv))) rfl ?_
      cases hf
      refine rh_Ex.fgt [some (.ref 4), some (.int u1), some (.int u2), none, some (.int u4), some (.int (s9.1 + ((rh_up s9.2.2.2 5 s9.2.2.1.toNatClampNeg (if (1 : Int32) < (if (1 : Int32) < (999 : Int32) then (1 : Int32) else (999 : Int32)) then (if (1 : Int32) < (999 : Int32) then (1 : Int32) else (999 : Int32)) else (1 : Int32))) 5 s9.2.2.1.toNatClampNeg))), some (.int (s9.2.1 + u4)), some (.int (s9.2.2.1 + (1 : Int32))), none] ⟨rfl, rfl, rfl, rfl, rfl, rfl, rfl, trivial⟩ ?_
      exact hk
    · rw [if_neg q3] at hf
      refine rh_Ex.stp (s' := ((24, [some (.ref 4), some (.int u1), some (.int u2), none, some (.int u4), some (.int s9.1), some (.int s9.2.1), some (.int s9.2.2.1), none], []), (s9.2.2.2, g, cw_R sv))) rfl (st_icge_n q3) ?_
      refine rh_Ex.blk 2 (s' := ((27, [some (.ref 4), some (.int u1), some (.int u2), none, some (.int u4), some (.int s9.1), some (.int s9.2.1), some (.int s9.2.2.1), none], [.int s9.2.1, .int u1]), (s9.2.2.2, g, cw_R sv))) rfl ?_
      refine rh_Ex.call (j := 10) (rc := none) [.int u1, .int s9.2.1] [] (some (.int (f_Cr_narrowed u1 s9.2.1))) rfl rfl trivial (Nat.le_of_ble_eq_true rfl) (R_Cr_narrowed d (cw_L ++ xx) (cw_R sv) s9.2.2.2 g u1 s9.2.1 rfl) ?_
      show rh_Ex _ _ _ ((30, [some (.ref 4), some (.int u1), some (.int u2), none, some (.int u4), some (.int s9.1), some (.int s9.2.1), some (.int s9.2.2.1), none], [.int (f_Cr_narrowed u1 s9.2.1)]), (s9.2.2.2, g, cw_R sv)) _ _
      refine rh_Ex.blk 8 (s' := ((48, [some (.ref 4), some (.int u1), some (.int u2), none, some (.int u4), some (.int s9.1), some (.int s9.2.1), some (.int s9.2.2.1), some (.int (f_Cr_narrowed u1 s9.2.1))], [.int (f_Cr_narrowed u1 s9.2.1), .int (999 : Int32), .int (1 : Int32), .int s9.2.2.1, .ref 5]), (s9.2.2.2, g, cw_R sv))) rfl ?_
      refine rh_Ex.stp (s' := ((51, [some (.ref 4), some (.int u1), some (.int u2), none, some (.int u4), some (.int s9.1), some (.int s9.2.1), some (.int s9.2.2.1), some (.int (f_Cr_narrowed u1 s9.2.1))], [.int (if (f_Cr_narrowed u1 s9.2.1) < (999 : Int32) then (f_Cr_narrowed u1 s9.2.1) else (999 : Int32)), .int (1 : Int32), .int s9.2.2.1, .ref 5]), (s9.2.2.2, g, cw_R sv))) rfl (st_mmin (Nat.le_of_ble_eq_true rfl)) ?_
      refine rh_Ex.stp (s' := ((54, [some (.ref 4), some (.int u1), some (.int u2), none, some (.int u4), some (.int s9.1), some (.int s9.2.1), some (.int s9.2.2.1), some (.int (f_Cr_narrowed u1 s9.2.1))], [.int (if (1 : Int32) < (if (f_Cr_narrowed u1 s9.2.1) < (999 : Int32) then (f_Cr_narrowed u1 s9.2.1) else (999 : Int32)) then (if (f_Cr_narrowed u1 s9.2.1) < (999 : Int32) then (f_Cr_narrowed u1 s9.2.1) else (999 : Int32)) else (1 : Int32)), .int s9.2.2.1, .ref 5]), (s9.2.2.2, g, cw_R sv))) rfl (st_mmax (Nat.le_of_ble_eq_true rfl)) ?_
      obtain ⟨q6, hf⟩ := rh_gq hf
      refine rh_Ex.stp (s' := ((55, [some (.ref 4), some (.int u1), some (.int u2), none, some (.int u4), some (.int s9.1), some (.int s9.2.1), some (.int s9.2.2.1), some (.int (f_Cr_narrowed u1 s9.2.1))], []), (rh_up s9.2.2.2 5 s9.2.2.1.toNatClampNeg (if (1 : Int32) < (if (f_Cr_narrowed u1 s9.2.1) < (999 : Int32) then (f_Cr_narrowed u1 s9.2.1) else (999 : Int32)) then (if (f_Cr_narrowed u1 s9.2.1) < (999 : Int32) then (f_Cr_narrowed u1 s9.2.1) else (999 : Int32)) else (1 : Int32)), g, cw_R sv))) rfl (st_iast (n := 9) rfl q6) ?_
      refine rh_Ex.blk 4 (s' := ((63, [some (.ref 4), some (.int u1), some (.int u2), none, some (.int u4), some (.int s9.1), some (.int s9.2.1), some (.int s9.2.2.1), some (.int (f_Cr_narrowed u1 s9.2.1))], [.int s9.2.2.1, .ref 5, .int s9.1]), (rh_up s9.2.2.2 5 s9.2.2.1.toNatClampNeg (if (1 : Int32) < (if (f_Cr_narrowed u1 s9.2.1) < (999 : Int32) then (f_Cr_narrowed u1 s9.2.1) else (999 : Int32)) then (if (f_Cr_narrowed u1 s9.2.1) < (999 : Int32) then (f_Cr_narrowed u1 s9.2.1) else (999 : Int32)) else (1 : Int32)), g, cw_R sv))) rfl ?_
      obtain ⟨q7, hf⟩ := rh_gq hf
      refine rh_Ex.stp (s' := ((64, [some (.ref 4), some (.int u1), some (.int u2), none, some (.int u4), some (.int s9.1), some (.int s9.2.1), some (.int s9.2.2.1), some (.int (f_Cr_narrowed u1 s9.2.1))], [.int ((rh_up s9.2.2.2 5 s9.2.2.1.toNatClampNeg (if (1 : Int32) < (if (f_Cr_narrowed u1 s9.2.1) < (999 : Int32) then (f_Cr_narrowed u1 s9.2.1) else (999 : Int32)) then (if (f_Cr_narrowed u1 s9.2.1) < (999 : Int32) then (f_Cr_narrowed u1 s9.2.1) else (999 : Int32)) else (1 : Int32))) 5 s9.2.2.1.toNatClampNeg), .int s9.1]), (rh_up s9.2.2.2 5 s9.2.2.1.toNatClampNeg (if (1 : Int32) < (if (f_Cr_narrowed u1 s9.2.1) < (999 : Int32) then (f_Cr_narrowed u1 s9.2.1) else (999 : Int32)) then (if (f_Cr_narrowed u1 s9.2.1) < (999 : Int32) then (f_Cr_narrowed u1 s9.2.1) else (999 : Int32)) else (1 : Int32)), g, cw_R sv))) rfl (st_iald (n := 9) rfl q7) ?_
      refine rh_Ex.blk 8 (s' := ((9, [some (.ref 4), some (.int u1), some (.int u2), none, some (.int u4), some (.int (s9.1 + ((rh_up s9.2.2.2 5 s9.2.2.1.toNatClampNeg (if (1 : Int32) < (if (f_Cr_narrowed u1 s9.2.1) < (999 : Int32) then (f_Cr_narrowed u1 s9.2.1) else (999 : Int32)) then (if (f_Cr_narrowed u1 s9.2.1) < (999 : Int32) then (f_Cr_narrowed u1 s9.2.1) else (999 : Int32)) else (1 : Int32))) 5 s9.2.2.1.toNatClampNeg))), some (.int (s9.2.1 + u4)), some (.int (s9.2.2.1 + (1 : Int32))), some (.int (f_Cr_narrowed u1 s9.2.1))], []), (rh_up s9.2.2.2 5 s9.2.2.1.toNatClampNeg (if (1 : Int32) < (if (f_Cr_narrowed u1 s9.2.1) < (999 : Int32) then (f_Cr_narrowed u1 s9.2.1) else (999 : Int32)) then (if (f_Cr_narrowed u1 s9.2.1) < (999 : Int32) then (f_Cr_narrowed u1 s9.2.1) else (999 : Int32)) else (1 : Int32)), g, cw_R sv))) rfl ?_
      cases hf
      refine rh_Ex.fgt [some (.ref 4), some (.int u1), some (.int u2), none, some (.int u4), some (.int (s9.1 + ((rh_up s9.2.2.2 5 s9.2.2.1.toNatClampNeg (if (1 : Int32) < (if (f_Cr_narrowed u1 s9.2.1) < (999 : Int32) then (f_Cr_narrowed u1 s9.2.1) else (999 : Int32)) then (if (f_Cr_narrowed u1 s9.2.1) < (999 : Int32) then (f_Cr_narrowed u1 s9.2.1) else (999 : Int32)) else (1 : Int32))) 5 s9.2.2.1.toNatClampNeg))), some (.int (s9.2.1 + u4)), some (.int (s9.2.2.1 + (1 : Int32))), none] ⟨rfl, rfl, rfl, rfl, rfl, rfl, rfl, trivial⟩ ?_
      exact hk
set_option maxRecDepth 20000 in
set_option maxHeartbeats 4000000 in
theorem R_Cr_rebase (d : Nat) (xx : rh_L) (sv : Option Nat) (h : Nat → Nat → Int32) (g : Nat → Nat → Int64) (p0 : Int32) (p1 : Int32) (p2 : Int32) (p3 : Int32) {z9 : Int32 × (Nat → Nat → Int32)} (hf : f_Cr_rebase h p0 p1 p2 p3 = some z9) : rh_M rh_PT (cw_L ++ xx) (d + 2) 9 [.ref 4, .int p0, .int p1, .int p2, .int p3] (h, g, cw_R sv) (some (.int z9.1)) (z9.2, g, cw_R sv) := by
  unfold f_Cr_rebase at hf
  refine rh_go pt_9 (Nat.le_of_ble_eq_true rfl) (lv := [some (.ref 4), some (.int p0), some (.int p1), some (.int p2), some (.int p3), none, none, none, none]) rfl ?_
  refine rh_Ex.blk 6 (s' := ((9, [some (.ref 4), some (.int p0), some (.int p1), some (.int p2), some (.int p3), some (.int (0 : Int32)), some (.int p2), some (.int (0 : Int32)), none], []), (h, g, cw_R sv))) rfl ?_
  obtain ⟨r8, hr8, hf⟩ := rh_bq hf
  refine rh_Ex.fgt [some (.ref 4), some (.int p0), some (.int p1), none, some (.int p3), some (.int (0 : Int32)), some (.int p2), some (.int (0 : Int32)), none] ⟨rfl, rfl, rfl, rfl, rfl, rfl, rfl, trivial⟩ ?_
  refine rh_Ex.loop _ _ _ (lb_Cr_rebase_9 d xx sv p0 p1 p3  g _ _) rh_N _ r8 hr8 ?_
  refine rh_Ex.blk 1 (s' := ((82, [none, none, none, none, none, some (.int r8.1), none, none, none], [.int r8.1]), (r8.2, g, cw_R sv))) rfl ?_
  cases hf
  exact rh_Ex.ret rfl rfl
def b_La_sign_19 (u1 : Int32) : (Int32 × (Nat → Nat → Int32)) → Option ((Int32 × (Nat → Nat → Int32)) ⊕ ((Nat → Nat → Int32))) := fun s19 =>
  if s19.1 < 0 then
    some (.inr s19.2)
  else
    rh_g (0 ≤ (s19.2 0 1).toInt ∧ (s19.2 0 1).toInt < ((80 : Nat) : Int)) (
      some (.inl (s19.1 + (-8 : Int32), rh_up (rh_up s19.2 1 (s19.2 0 1).toNatClampNeg (((u1.toUInt32 >>> (s19.1.toUInt32 &&& Int32.toUInt32 31)).toInt32) &&& (255 : Int32))) 0 1 ((s19.2 0 1) + (1 : Int32))))
    )
def f_La_sign (h : Nat → Nat → Int32) (p0 : Int32) : Option (Int32 × (Nat → Nat → Int32)) :=
  if ((h 0 1) + (4 : Int32)) ≤ (80 : Int32) then
    (rh_loop (b_La_sign_19 p0) rh_N ((24 : Int32), h)).bind (fun r5 =>
      some ((r5 0 1, r5))
    )
  else
    some (((-1 : Int32), h))
set_option maxRecDepth 20000 in
set_option maxHeartbeats 4000000 in
theorem lb_La_sign_19 (d : Nat) (xx : rh_L) (sv : Option Nat) (u1 : Int32) (g : Nat → Nat → Int64) (v9 : Option Value) (h9 : rh_H) : ∀ s19 x9, b_La_sign_19 u1 s19 = some x9 → Sum.elim (fun s19 => rh_Ex (rh_M rh_PT (cw_L ++ xx) (d + 0)) (cw_L ++ xx) pg_X11_sign ((19, [some (.ref 0), some (.int u1), some (.int s19.1)], []), (s19.2, g, cw_R sv)) v9 h9) (fun e9 => rh_Ex (rh_M rh_PT (cw_L ++ xx) (d + 0)) (cw_L ++ xx) pg_X11_sign ((55, [some (.ref 0), none, none], []), (e9, g, cw_R sv)) v9 h9) x9 → rh_Ex (rh_M rh_PT (cw_L ++ xx) (d + 0)) (cw_L ++ xx) pg_X11_sign ((19, [some (.ref 0), some (.int u1), some (.int s19.1)], []), (s19.2, g, cw_R sv)) v9 h9 := by
  intro s19 x9 hf hk
  unfold b_La_sign_19 at hf
  refine rh_Ex.blk 1 (s' := ((20, [some (.ref 0), some (.int u1), some (.int s19.1)], [.int s19.1]), (s19.2, g, cw_R sv))) rfl ?_
  by_cases q3 : s19.1 < 0
  · rw [if_pos q3] at hf
    refine rh_Ex.stp (s' := ((55, [some (.ref 0), some (.int u1), some (.int s19.1)], []), (s19.2, g, cw_R sv))) rfl (st_iflt_p q3) ?_
    cases hf
    refine rh_Ex.fgt [some (.ref 0), none, none] ⟨rfl, trivial⟩ ?_
    exact hk
  · rw [if_neg q3] at hf
    refine rh_Ex.stp (s' := ((23, [some (.ref 0), some (.int u1), some (.int s19.1)], []), (s19.2, g, cw_R sv))) rfl (st_iflt_n q3) ?_
    refine rh_Ex.blk 9 (s' := ((38, [some (.ref 0), some (.int u1), some (.int s19.1)], [.int (((u1.toUInt32 >>> (s19.1.toUInt32 &&& Int32.toUInt32 31)).toInt32) &&& (255 : Int32)), .int (s19.2 0 1), .ref 1]), (s19.2, g, cw_R sv))) rfl ?_
    obtain ⟨q4, hf⟩ := rh_gq hf
    refine rh_Ex.stp (s' := ((39, [some (.ref 0), some (.int u1), some (.int s19.1)], []), (rh_up s19.2 1 (s19.2 0 1).toNatClampNeg (((u1.toUInt32 >>> (s19.1.toUInt32 &&& Int32.toUInt32 31)).toInt32) &&& (255 : Int32)), g, cw_R sv))) rfl (st_iast (n := 80) rfl q4) ?_
    refine rh_Ex.blk 8 (s' := ((19, [some (.ref 0), some (.int u1), some (.int (s19.1 + (-8 : Int32)))], []), (rh_up (rh_up s19.2 1 (s19.2 0 1).toNatClampNeg (((u1.toUInt32 >>> (s19.1.toUInt32 &&& Int32.toUInt32 31)).toInt32) &&& (255 : Int32))) 0 1 ((s19.2 0 1) + (1 : Int32)), g, cw_R sv))) rfl ?_
    cases hf
    refine rh_Ex.fgt [some (.ref 0), some (.int u1), some (.int (s19.1 + (-8 : Int32)))] ⟨rfl, rfl, rfl, trivial⟩ ?_
    exact hk
set_option maxRecDepth 20000 in
set_option maxHeartbeats 4000000 in
theorem R_La_sign (d : Nat) (xx : rh_L) (sv : Option Nat) (h : Nat → Nat → Int32) (g : Nat → Nat → Int64) (p0 : Int32) {z9 : Int32 × (Nat → Nat → Int32)} (hf : f_La_sign h p0 = some z9) : rh_M rh_PT (cw_L ++ xx) (d + 1) 101 [.ref 0, .int p0] (h, g, cw_R sv) (some (.int z9.1)) (z9.2, g, cw_R sv) := by
  unfold f_La_sign at hf
  refine rh_go pt_101 (Nat.le_of_ble_eq_true rfl) (lv := [some (.ref 0), some (.int p0), none]) rfl ?_
  refine rh_Ex.blk 7 (s' := ((11, [some (.ref 0), some (.int p0), none], [.int (80 : Int32), .int ((h 0 1) + (4 : Int32))]), (h, g, cw_R sv))) rfl ?_
  by_cases q1 : ((h 0 1) + (4 : Int32)) ≤ (80 : Int32)
  · rw [if_pos q1] at hf
    refine rh_Ex.stp (s' := ((16, [some (.ref 0), some (.int p0), none], []), (h, g, cw_R sv))) rfl (st_icle_p q1) ?_
    refine rh_Ex.blk 2 (s' := ((19, [some (.ref 0), some (.int p0), some (.int (24 : Int32))], []), (h, g, cw_R sv))) rfl ?_
    obtain ⟨r5, hr5, hf⟩ := rh_bq hf
    refine rh_Ex.fgt [some (.ref 0), some (.int p0), some (.int (24 : Int32))] ⟨rfl, rfl, rfl, trivial⟩ ?_
    refine rh_Ex.loop _ _ _ (lb_La_sign_19 d xx sv p0  g _ _) rh_N _ r5 hr5 ?_
    refine rh_Ex.blk 2 (s' := ((59, [some (.ref 0), none, none], [.int (r5 0 1)]), (r5, g, cw_R sv))) rfl ?_
    cases hf
    exact rh_Ex.ret rfl rfl
  · rw [if_neg q1] at hf
    refine rh_Ex.stp (s' := ((14, [some (.ref 0), some (.int p0), none], []), (h, g, cw_R sv))) rfl (st_icle_n q1) ?_
    refine rh_Ex.blk 1 (s' := ((15, [some (.ref 0), some (.int p0), none], [.int (-1 : Int32)]), (h, g, cw_R sv))) rfl ?_
    cases hf
    exact rh_Ex.ret rfl rfl
def f_La_end (h : Nat → Nat → Int32) (p0 : Int32) : Int32 × (Nat → Nat → Int32) :=
  if p0 < 0 then
    ((0 : Int32), h)
  else
    if p0 ≤ (h 0 1) then
      ((1 : Int32), rh_up h 0 1 p0)
    else
      ((0 : Int32), h)
set_option maxRecDepth 20000 in
set_option maxHeartbeats 4000000 in
theorem R_La_end (d : Nat) (xx : rh_L) (sv : Option Nat) (h : Nat → Nat → Int32) (g : Nat → Nat → Int64) (p0 : Int32) {z9 : Int32 × (Nat → Nat → Int32)} (hf : f_La_end h p0 = z9) : rh_M rh_PT (cw_L ++ xx) (d + 1) 102 [.ref 0, .int p0] (h, g, cw_R sv) (some (.int z9.1)) (z9.2, g, cw_R sv) := by
  unfold f_La_end at hf
  refine rh_go pt_102 (Nat.le_of_ble_eq_true rfl) (lv := [some (.ref 0), some (.int p0)]) rfl ?_
  refine rh_Ex.blk 1 (s' := ((1, [some (.ref 0), some (.int p0)], [.int p0]), (h, g, cw_R sv))) rfl ?_
  by_cases q1 : p0 < 0
  · rw [if_pos q1] at hf
    refine rh_Ex.stp (s' := ((12, [some (.ref 0), some (.int p0)], []), (h, g, cw_R sv))) rfl (st_iflt_p q1) ?_
    refine rh_Ex.blk 1 (s' := ((13, [some (.ref 0), some (.int p0)], [.int (0 : Int32)]), (h, g, cw_R sv))) rfl ?_
    subst hf
    exact rh_Ex.ret rfl ⟨rfl, Or.inl rfl⟩
  · rw [if_neg q1] at hf
    refine rh_Ex.stp (s' := ((4, [some (.ref 0), some (.int p0)], []), (h, g, cw_R sv))) rfl (st_iflt_n q1) ?_
    refine rh_Ex.blk 3 (s' := ((9, [some (.ref 0), some (.int p0)], [.int (h 0 1), .int p0]), (h, g, cw_R sv))) rfl ?_
    by_cases q2 : p0 ≤ (h 0 1)
    · rw [if_pos q2] at hf
      refine rh_Ex.stp (s' := ((14, [some (.ref 0), some (.int p0)], []), (h, g, cw_R sv))) rfl (st_icle_p q2) ?_
      refine rh_Ex.blk 4 (s' := ((20, [some (.ref 0), some (.int p0)], [.int (1 : Int32)]), (rh_up h 0 1 p0, g, cw_R sv))) rfl ?_
      subst hf
      exact rh_Ex.ret rfl ⟨rfl, Or.inr rfl⟩
    · rw [if_neg q2] at hf
      refine rh_Ex.stp (s' := ((12, [some (.ref 0), some (.int p0)], []), (h, g, cw_R sv))) rfl (st_icle_n q2) ?_
      refine rh_Ex.blk 1 (s' := ((13, [some (.ref 0), some (.int p0)], [.int (0 : Int32)]), (h, g, cw_R sv))) rfl ?_
      subst hf
      exact rh_Ex.ret rfl ⟨rfl, Or.inl rfl⟩
