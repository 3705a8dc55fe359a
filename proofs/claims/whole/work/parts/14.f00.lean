def f_Cr_has (h : Nat → Nat → Int32) (p0 : Int32) : Int32 :=
  if p0 < 0 then
    (0 : Int32)
  else
    if (h 4 0) ≤ p0 then
      (0 : Int32)
    else
      (1 : Int32)
set_option maxRecDepth 20000 in
set_option maxHeartbeats 4000000 in
theorem R_Cr_has (d : Nat) (xx : rh_L) (sv : Option Nat) (h : Nat → Nat → Int32) (g : Nat → Nat → Int64) (p0 : Int32) {z9 : Int32} (hf : f_Cr_has h p0 = z9) : rh_M rh_PT (cw_L ++ xx) (d + 1) 0 [.ref 4, .int p0] (h, g, cw_R sv) (some (.int z9)) (h, g, cw_R sv) := by
  unfold f_Cr_has at hf
  refine rh_go pt_0 (Nat.le_of_ble_eq_true rfl) (lv := [some (.ref 4), some (.int p0)]) rfl ?_
  refine rh_Ex.blk 1 (s' := ((1, [some (.ref 4), some (.int p0)], [.int p0]), (h, g, cw_R sv))) rfl ?_
  by_cases q1 : p0 < 0
  · rw [if_pos q1] at hf
    refine rh_Ex.stp (s' := ((16, [some (.ref 4), some (.int p0)], []), (h, g, cw_R sv))) rfl (st_iflt_p q1) ?_
    refine rh_Ex.blk 1 (s' := ((17, [some (.ref 4), some (.int p0)], [.int (0 : Int32)]), (h, g, cw_R sv))) rfl ?_
    subst hf
    exact rh_Ex.ret rfl ⟨rfl, Or.inl rfl⟩
  · rw [if_neg q1] at hf
    refine rh_Ex.stp (s' := ((4, [some (.ref 4), some (.int p0)], []), (h, g, cw_R sv))) rfl (st_iflt_n q1) ?_
    refine rh_Ex.blk 3 (s' := ((9, [some (.ref 4), some (.int p0)], [.int (h 4 0), .int p0]), (h, g, cw_R sv))) rfl ?_
    by_cases q2 : (h 4 0) ≤ p0
    · rw [if_pos q2] at hf
      refine rh_Ex.stp (s' := ((16, [some (.ref 4), some (.int p0)], []), (h, g, cw_R sv))) rfl (st_icge_p q2) ?_
      refine rh_Ex.blk 1 (s' := ((17, [some (.ref 4), some (.int p0)], [.int (0 : Int32)]), (h, g, cw_R sv))) rfl ?_
      subst hf
      exact rh_Ex.ret rfl ⟨rfl, Or.inl rfl⟩
    · rw [if_neg q2] at hf
      refine rh_Ex.stp (s' := ((12, [some (.ref 4), some (.int p0)], []), (h, g, cw_R sv))) rfl (st_icge_n q2) ?_
      refine rh_Ex.blk 2 (s' := ((17, [some (.ref 4), some (.int p0)], [.int (1 : Int32)]), (h, g, cw_R sv))) rfl ?_
      subst hf
      exact rh_Ex.ret rfl ⟨rfl, Or.inr rfl⟩
def f_Cr_sets (h : Nat → Nat → Int32) : Int32 :=
  ((1 : Int32) <<< ((h 4 0) &&& 31))
set_option maxRecDepth 20000 in
set_option maxHeartbeats 4000000 in
theorem R_Cr_sets (d : Nat) (xx : rh_L) (sv : Option Nat) (h : Nat → Nat → Int32) (g : Nat → Nat → Int64)  {z9 : Int32} (hf : f_Cr_sets h = z9) : rh_M rh_PT (cw_L ++ xx) (d + 1) 2 [.ref 4] (h, g, cw_R sv) (some (.int z9)) (h, g, cw_R sv) := by
  unfold f_Cr_sets at hf
  refine rh_go pt_2 (Nat.le_of_ble_eq_true rfl) (lv := [some (.ref 4)]) rfl ?_
  refine rh_Ex.blk 4 (s' := ((6, [some (.ref 4)], [.int ((1 : Int32) <<< ((h 4 0) &&& 31))]), (h, g, cw_R sv))) rfl ?_
  subst hf
  exact rh_Ex.ret rfl rfl
def f_Cr_holds (h : Nat → Nat → Int32) (p0 : Int32) : Int32 :=
  if p0 < 0 then
    (0 : Int32)
  else
    if (f_Cr_sets h) ≤ p0 then
      (0 : Int32)
    else
      (1 : Int32)
set_option maxRecDepth 20000 in
set_option maxHeartbeats 4000000 in
theorem R_Cr_holds (d : Nat) (xx : rh_L) (sv : Option Nat) (h : Nat → Nat → Int32) (g : Nat → Nat → Int64) (p0 : Int32) {z9 : Int32} (hf : f_Cr_holds h p0 = z9) : rh_M rh_PT (cw_L ++ xx) (d + 2) 1 [.ref 4, .int p0] (h, g, cw_R sv) (some (.int z9)) (h, g, cw_R sv) := by
  unfold f_Cr_holds at hf
  refine rh_go pt_1 (Nat.le_of_ble_eq_true rfl) (lv := [some (.ref 4), some (.int p0)]) rfl ?_
  refine rh_Ex.blk 1 (s' := ((1, [some (.ref 4), some (.int p0)], [.int p0]), (h, g, cw_R sv))) rfl ?_
  by_cases q1 : p0 < 0
  · rw [if_pos q1] at hf
    refine rh_Ex.stp (s' := ((16, [some (.ref 4), some (.int p0)], []), (h, g, cw_R sv))) rfl (st_iflt_p q1) ?_
    refine rh_Ex.blk 1 (s' := ((17, [some (.ref 4), some (.int p0)], [.int (0 : Int32)]), (h, g, cw_R sv))) rfl ?_
    subst hf
    exact rh_Ex.ret rfl ⟨rfl, Or.inl rfl⟩
  · rw [if_neg q1] at hf
    refine rh_Ex.stp (s' := ((4, [some (.ref 4), some (.int p0)], []), (h, g, cw_R sv))) rfl (st_iflt_n q1) ?_
    refine rh_Ex.blk 2 (s' := ((6, [some (.ref 4), some (.int p0)], [.ref 4, .int p0]), (h, g, cw_R sv))) rfl ?_
    refine rh_Ex.call (j := 2) (rc := some 0) [.ref 4] [.int p0] (some (.int (f_Cr_sets h))) rfl rfl rfl (Nat.le_of_ble_eq_true rfl) (R_Cr_sets d xx sv h g  rfl) ?_
    show rh_Ex _ _ _ ((9, [some (.ref 4), some (.int p0)], [.int (f_Cr_sets h), .int p0]), (h, g, cw_R sv)) _ _
    by_cases q2 : (f_Cr_sets h) ≤ p0
    · rw [if_pos q2] at hf
      refine rh_Ex.stp (s' := ((16, [some (.ref 4), some (.int p0)], []), (h, g, cw_R sv))) rfl (st_icge_p q2) ?_
      refine rh_Ex.blk 1 (s' := ((17, [some (.ref 4), some (.int p0)], [.int (0 : Int32)]), (h, g, cw_R sv))) rfl ?_
      subst hf
      exact rh_Ex.ret rfl ⟨rfl, Or.inl rfl⟩
    · rw [if_neg q2] at hf
      refine rh_Ex.stp (s' := ((12, [some (.ref 4), some (.int p0)], []), (h, g, cw_R sv))) rfl (st_icge_n q2) ?_
      refine rh_Ex.blk 2 (s' := ((17, [some (.ref 4), some (.int p0)], [.int (1 : Int32)]), (h, g, cw_R sv))) rfl ?_
      subst hf
      exact rh_Ex.ret rfl ⟨rfl, Or.inr rfl⟩
def f_Cr_isPerson (h : Nat → Nat → Int32) (p0 : Int32) : Int32 :=
  if (((h 4 1) >>> (p0 &&& 31)) &&& (1 : Int32)) = 0 then
    (0 : Int32)
  else
    (1 : Int32)
set_option maxRecDepth 20000 in
set_option maxHeartbeats 4000000 in
theorem R_Cr_isPerson (d : Nat) (xx : rh_L) (sv : Option Nat) (h : Nat → Nat → Int32) (g : Nat → Nat → Int64) (p0 : Int32) {z9 : Int32} (hf : f_Cr_isPerson h p0 = z9) : rh_M rh_PT (cw_L ++ xx) (d + 1) 3 [.ref 4, .int p0] (h, g, cw_R sv) (some (.int z9)) (h, g, cw_R sv) := by
  unfold f_Cr_isPerson at hf
  refine rh_go pt_3 (Nat.le_of_ble_eq_true rfl) (lv := [some (.ref 4), some (.int p0)]) rfl ?_
  refine rh_Ex.blk 6 (s' := ((8, [some (.ref 4), some (.int p0)], [.int (((h 4 1) >>> (p0 &&& 31)) &&& (1 : Int32))]), (h, g, cw_R sv))) rfl ?_
  by_cases q1 : (((h 4 1) >>> (p0 &&& 31)) &&& (1 : Int32)) = 0
  · rw [if_pos q1] at hf
    refine rh_Ex.stp (s' := ((15, [some (.ref 4), some (.int p0)], []), (h, g, cw_R sv))) rfl (st_ifeq_p q1) ?_
    refine rh_Ex.blk 1 (s' := ((16, [some (.ref 4), some (.int p0)], [.int (0 : Int32)]), (h, g, cw_R sv))) rfl ?_
    subst hf
    exact rh_Ex.ret rfl ⟨rfl, Or.inl rfl⟩
  · rw [if_neg q1] at hf
    refine rh_Ex.stp (s' := ((11, [some (.ref 4), some (.int p0)], []), (h, g, cw_R sv))) rfl (st_ifeq_n q1) ?_
    refine rh_Ex.blk 2 (s' := ((16, [some (.ref 4), some (.int p0)], [.int (1 : Int32)]), (h, g, cw_R sv))) rfl ?_
    subst hf
    exact rh_Ex.ret rfl ⟨rfl, Or.inr rfl⟩
def f_Cr_join (h : Nat → Nat → Int32) (p0 : Int32) (p1 : Int32) : Option ((Nat → Nat → Int32)) :=
  if (9 : Int32) ≤ (h 4 0) then
    some (h)
  else
    if p0 = 0 then
      rh_g (0 ≤ (h 4 0).toInt ∧ (h 4 0).toInt < ((9 : Nat) : Int)) (
        some ((rh_up (rh_up (rh_up h 4 1 ((h 4 1) ||| (0 : Int32))) 5 (h 4 0).toNatClampNeg p1) 4 0 ((h 4 0) + (1 : Int32))))
      )
    else
      rh_g (0 ≤ (h 4 0).toInt ∧ (h 4 0).toInt < ((9 : Nat) : Int)) (
        some ((rh_up (rh_up (rh_up h 4 1 ((h 4 1) ||| ((1 : Int32) <<< ((h 4 0) &&& 31)))) 5 (h 4 0).toNatClampNeg p1) 4 0 ((h 4 0) + (1 : Int32))))
      )
set_option maxRecDepth 20000 in
set_option maxHeartbeats 4000000 in
theorem R_Cr_join (d : Nat) (xx : rh_L) (sv : Option Nat) (h : Nat → Nat → Int32) (g : Nat → Nat → Int64) (p0 : Int32) (p1 : Int32) {z9 : (Nat → Nat → Int32)} (hf : f_Cr_join h p0 p1 = some z9) : rh_M rh_PT (cw_L ++ xx) (d + 1) 4 [.ref 4, .int p0, .int p1] (h, g, cw_R sv) none (z9, g, cw_R sv) := by
  unfold f_Cr_join at hf
  refine rh_go pt_4 (Nat.le_of_ble_eq_true rfl) (lv := [some (.ref 4), some (.int p0), some (.int p1)]) rfl ?_
  refine rh_Ex.blk 3 (s' := ((6, [some (.ref 4), some (.int p0), some (.int p1)], [.int (9 : Int32), .int (h 4 0)]), (h, g, cw_R sv))) rfl ?_
  by_cases q1 : (9 : Int32) ≤ (h 4 0)
  · rw [if_pos q1] at hf
    refine rh_Ex.stp (s' := ((52, [some (.ref 4), some (.int p0), some (.int p1)], []), (h, g, cw_R sv))) rfl (st_icge_p q1) ?_
    obtain rfl := Option.some.inj hf
    exact rh_Ex.ret rfl trivial
  · rw [if_neg q1] at hf
    refine rh_Ex.stp (s' := ((9, [some (.ref 4), some (.int p0), some (.int p1)], []), (h, g, cw_R sv))) rfl (st_icge_n q1) ?_
    refine rh_Ex.blk 4 (s' := ((15, [some (.ref 4), some (.int p0), some (.int p1)], [.int p0, .int (h 4 1), .ref 4]), (h, g, cw_R sv))) rfl ?_
    by_cases q2 : p0 = 0
    · rw [if_pos q2] at hf
      refine rh_Ex.stp (s' := ((27, [some (.ref 4), some (.int p0), some (.int p1)], [.int (h 4 1), .ref 4]), (h, g, cw_R sv))) rfl (st_ifeq_p q2) ?_
      refine rh_Ex.blk 8 (s' := ((41, [some (.ref 4), some (.int p0), some (.int p1)], [.int p1, .int (h 4 0), .ref 5]), (rh_up h 4 1 ((h 4 1) ||| (0 : Int32)), g, cw_R sv))) rfl ?_
      obtain ⟨q3, hf⟩ := rh_gq hf
      refine rh_Ex.stp (s' := ((42, [some (.ref 4), some (.int p0), some (.int p1)], []), (rh_up (rh_up h 4 1 ((h 4 1) ||| (0 : Int32))) 5 (h 4 0).toNatClampNeg p1, g, cw_R sv))) rfl (st_iast (n := 9) rfl q3) ?_
      refine rh_Ex.blk 6 (s' := ((52, [some (.ref 4), some (.int p0), some (.int p1)], []), (rh_up (rh_up (rh_up h 4 1 ((h 4 1) ||| (0 : Int32))) 5 (h 4 0).toNatClampNeg p1) 4 0 ((h 4 0) + (1 : Int32)), g, cw_R sv))) rfl ?_
      obtain rfl := Option.some.inj hf
      exact rh_Ex.ret rfl trivial
    · rw [if_neg q2] at hf
      refine rh_Ex.stp (s' := ((18, [some (.ref 4), some (.int p0), some (.int p1)], [.int (h 4 1), .ref 4]), (h, g, cw_R sv))) rfl (st_ifeq_n q2) ?_
      refine rh_Ex.blk 12 (s' := ((41, [some (.ref 4), some (.int p0), some (.int p1)], [.int p1, .int (h 4 0), .ref 5]), (rh_up h 4 1 ((h 4 1) ||| ((1 : Int32) <<< ((h 4 0) &&& 31))), g, cw_R sv))) rfl ?_
      obtain ⟨q4, hf⟩ := rh_gq hf
      refine rh_Ex.stp (s' := ((42, [some (.ref 4), some (.int p0), some (.int p1)], []), (rh_up (rh_up h 4 1 ((h 4 1) ||| ((1 : Int32) <<< ((h 4 0) &&& 31)))) 5 (h 4 0).toNatClampNeg p1, g, cw_R sv))) rfl (st_iast (n := 9) rfl q4) ?_
      refine rh_Ex.blk 6 (s' := ((52, [some (.ref 4), some (.int p0), some (.int p1)], []), (rh_up (rh_up (rh_up h 4 1 ((h 4 1) ||| ((1 : Int32) <<< ((h 4 0) &&& 31)))) 5 (h 4 0).toNatClampNeg p1) 4 0 ((h 4 0) + (1 : Int32)), g, cw_R sv))) rfl ?_
      obtain rfl := Option.some.inj hf
      exact rh_Ex.ret rfl trivial
def f_Ha_joined (p0 : Int32) (p1 : Int32) (p2 : Int32) : Option (Int32) :=
  if ((42 : Int) = p0.toInt) then
    some ((p1 * p2))
  else
    if ((43 : Int) = p0.toInt) then
      some ((p1 + p2))
    else
      if ((45 : Int) = p0.toInt) then
        some ((p1 - p2))
      else
        if ((47 : Int) = p0.toInt) then
          if p2 = 0 then
            some ((0 : Int32))
          else
            rh_g (¬ p2 = 0) (
              some ((p1 / p2))
            )
        else
          if ((60 : Int) = p0.toInt) then
            if p2 ≤ p1 then
              some ((0 : Int32))
            else
              some ((1 : Int32))
          else
            if ((62 : Int) = p0.toInt) then
              if p1 ≤ p2 then
                some ((0 : Int32))
              else
                some ((1 : Int32))
            else
              if p1 = p2 then
                some ((1 : Int32))
              else
                some ((0 : Int32))
set_option maxRecDepth 20000 in
set_option maxHeartbeats 4000000 in
theorem R_Ha_joined (d : Nat) (LL : rh_L) (rr : Nat → Nat → Option Nat) (h : Nat → Nat → Int32) (g : Nat → Nat → Int64) (p0 : Int32) (p1 : Int32) (p2 : Int32) {z9 : Int32} (hf : f_Ha_joined p0 p1 p2 = some z9) : rh_M rh_PT LL (d + 1) 39 [.int p0, .int p1, .int p2] (h, g, rr) (some (.int z9)) (h, g, rr) := by
  unfold f_Ha_joined at hf
  refine rh_go pt_39 (Nat.le_of_ble_eq_true rfl) (lv := [some (.int p0), some (.int p1), some (.int p2)]) rfl ?_
  refine rh_Ex.blk 1 (s' := ((1, [some (.int p0), some (.int p1), some (.int p2)], [.int p0]), (h, g, rr))) rfl ?_
  refine rh_Ex.stp (s' := ((rh_sw [(42, 68), (43, 60), (45, 64), (47, 72), (60, 84), (62, 95)] 106 p0, [some (.int p0), some (.int p1), some (.int p2)], []), (h, g, rr))) rfl rfl ?_
  by_cases q1 : ((42 : Int) = p0.toInt)
  · rw [if_pos q1] at hf
    rw [rh_sw, if_pos (show (42 : Int) = p0.toInt from q1)]
    refine rh_Ex.blk 3 (s' := ((71, [some (.int p0), some (.int p1), some (.int p2)], [.int (p1 * p2)]), (h, g, rr))) rfl ?_
    obtain rfl := Option.some.inj hf
    exact rh_Ex.ret rfl rfl
  · rw [if_neg q1] at hf
    rw [rh_sw, if_neg (show ¬ (42 : Int) = p0.toInt from q1)]
    by_cases q2 : ((43 : Int) = p0.toInt)
    · rw [if_pos q2] at hf
      rw [rh_sw, if_pos (show (43 : Int) = p0.toInt from q2)]
      refine rh_Ex.blk 3 (s' := ((63, [some (.int p0), some (.int p1), some (.int p2)], [.int (p1 + p2)]), (h, g, rr))) rfl ?_
      obtain rfl := Option.some.inj hf
      exact rh_Ex.ret rfl rfl
    · rw [if_neg q2] at hf
      rw [rh_sw, if_neg (show ¬ (43 : Int) = p0.toInt from q2)]
      by_cases q3 : ((45 : Int) = p0.toInt)
      · rw [if_pos q3] at hf
        rw [rh_sw, if_pos (show (45 : Int) = p0.toInt from q3)]
        refine rh_Ex.blk 3 (s' := ((67, [some (.int p0), some (.int p1), some (.int p2)], [.int (p1 - p2)]), (h, g, rr))) rfl ?_
        obtain rfl := Option.some.inj hf
        exact rh_Ex.ret rfl rfl
      · rw [if_neg q3] at hf
        rw [rh_sw, if_neg (show ¬ (45 : Int) = p0.toInt from q3)]
        by_cases q4 : ((47 : Int) = p0.toInt)
        · rw [if_pos q4] at hf
          rw [rh_sw, if_pos (show (47 : Int) = p0.toInt from q4)]
          refine rh_Ex.blk 1 (s' := ((73, [some (.int p0), some (.int p1), some (.int p2)], [.int p2]), (h, g, rr))) rfl ?_
          by_cases q5 : p2 = 0
          · rw [if_pos q5] at hf
            refine rh_Ex.stp (s' := ((76, [some (.int p0), some (.int p1), some (.int p2)], []), (h, g, rr))) rfl (st_ifne_p q5) ?_
            refine rh_Ex.blk 2 (s' := ((83, [some (.int p0), some (.int p1), some (.int p2)], [.int (0 : Int32)]), (h, g, rr))) rfl ?_
            obtain rfl := Option.some.inj hf
            exact rh_Ex.ret rfl rfl
          · rw [if_neg q5] at hf
            refine rh_Ex.stp (s' := ((80, [some (.int p0), some (.int p1), some (.int p2)], []), (h, g, rr))) rfl (st_ifne_n q5) ?_
            refine rh_Ex.blk 2 (s' := ((82, [some (.int p0), some (.int p1), some (.int p2)], [.int p2, .int p1]), (h, g, rr))) rfl ?_
            obtain ⟨q6, hf⟩ := rh_gq hf
            refine rh_Ex.stp (s' := ((83, [some (.int p0), some (.int p1), some (.int p2)], [.int (p1 / p2)]), (h, g, rr))) rfl (st_idiv q6) ?_
            obtain rfl := Option.some.inj hf
            exact rh_Ex.ret rfl rfl
        · rw [if_neg q4] at hf
          rw [rh_sw, if_neg (show ¬ (47 : Int) = p0.toInt from q4)]
          by_cases q7 : ((60 : Int) = p0.toInt)
          · rw [if_pos q7] at hf
            rw [rh_sw, if_pos (show (60 : Int) = p0.toInt from q7)]
            refine rh_Ex.blk 2 (s' := ((86, [some (.int p0), some (.int p1), some (.int p2)], [.int p2, .int p1]), (h, g, rr))) rfl ?_
            by_cases q8 : p2 ≤ p1
            · rw [if_pos q8] at hf
              refine rh_Ex.stp (s' := ((93, [some (.int p0), some (.int p1), some (.int p2)], []), (h, g, rr))) rfl (st_icge_p q8) ?_
              refine rh_Ex.blk 1 (s' := ((94, [some (.int p0), some (.int p1), some (.int p2)], [.int (0 : Int32)]), (h, g, rr))) rfl ?_
              obtain rfl := Option.some.inj hf
              exact rh_Ex.ret rfl rfl
            · rw [if_neg q8] at hf
              refine rh_Ex.stp (s' := ((89, [some (.int p0), some (.int p1), some (.int p2)], []), (h, g, rr))) rfl (st_icge_n q8) ?_
              refine rh_Ex.blk 2 (s' := ((94, [some (.int p0), some (.int p1), some (.int p2)], [.int (1 : Int32)]), (h, g, rr))) rfl ?_
              obtain rfl := Option.some.inj hf
              exact rh_Ex.ret rfl rfl
          · rw [if_neg q7] at hf
            rw [rh_sw, if_neg (show ¬ (60 : Int) = p0.toInt from q7)]
            by_cases q9 : ((62 : Int) = p0.toInt)
            · rw [if_pos q9] at hf
              rw [rh_sw, if_pos (show (62 : Int) = p0.toInt from q9)]
              refine rh_Ex.blk 2 (s' := ((97, [some (.int p0), some (.int p1), some (.int p2)], [.int p2, .int p1]), (h, g, rr))) rfl ?_
              by_cases q10 : p1 ≤ p2
              · rw [if_pos q10] at hf
                refine rh_Ex.stp (s' := ((104, [some (.int p0), some (.int p1), some (.int p2)], []), (h, g, rr))) rfl (st_icle_p q10) ?_
                refine rh_Ex.blk 1 (s' := ((105, [some (.int p0), some (.int p1), some (.int p2)], [.int (0 : Int32)]), (h, g, rr))) rfl ?_
                obtain rfl := Option.some.inj hf
                exact rh_Ex.ret rfl rfl
              · rw [if_neg q10] at hf
                refine rh_Ex.stp (s' := ((100, [some (.int p0), some (.int p1), some (.int p2)], []), (h, g, rr))) rfl (st_icle_n q10) ?_
                refine rh_Ex.blk 2 (s' := ((105, [some (.int p0), some (.int p1), some (.int p2)], [.int (1 : Int32)]), (h, g, rr))) rfl ?_
                obtain rfl := Option.some.inj hf
                exact rh_Ex.ret rfl rfl
            · rw [if_neg q9] at hf
              rw [rh_sw, if_neg (show ¬ (62 : Int) = p0.toInt from q9)]
              rw [rh_sw]
              refine rh_Ex.blk 2 (s' := ((108, [some (.int p0), some (.int p1), some (.int p2)], [.int p2, .int p1]), (h, g, rr))) rfl ?_
              by_cases q11 : p1 = p2
              · rw [if_pos q11] at hf
                refine rh_Ex.stp (s' := ((111, [some (.int p0), some (.int p1), some (.int p2)], []), (h, g, rr))) rfl (st_icne_p q11) ?_
                refine rh_Ex.blk 2 (s' := ((116, [some (.int p0), some (.int p1), some (.int p2)], [.int (1 : Int32)]), (h, g, rr))) rfl ?_
                obtain rfl := Option.some.inj hf
                exact rh_Ex.ret rfl rfl
              · rw [if_neg q11] at hf
                refine rh_Ex.stp (s' := ((115, [some (.int p0), some (.int p1), some (.int p2)], []), (h, g, rr))) rfl (st_icne_n q11) ?_
                refine rh_Ex.blk 1 (s' := ((116, [some (.int p0), some (.int p1), some (.int p2)], [.int (0 : Int32)]), (h, g, rr))) rfl ?_
                obtain rfl := Option.some.inj hf
                exact rh_Ex.ret rfl rfl
def j_Ha_weigh_214 (h : Nat → Nat → Int32) (u1 : Int32) (u2 : Int32) (u3 : Int32) (u4 : Int32) (j5 : Int32) (j6 : Int32) (j8 : Int32) (j9 : Int32) : Option ((Int32 × Int32 × (Nat → Nat → Int32)) ⊕ ((Nat → Nat → Int32))) :=
  if (j5 + j9) ≤ 0 then
    some (.inl (j5 + j9, j6 + (1 : Int32), h))
  else
    if (48 : Int32) < (j5 + j9) then
      some (.inl (j5 + j9, j6 + (1 : Int32), h))
    else
      rh_g (0 ≤ ((j5 + j9) - (1 : Int32)).toInt ∧ ((j5 + j9) - (1 : Int32)).toInt < ((48 : Nat) : Int)) (
        some (.inl (j5 + j9, j6 + (1 : Int32), rh_up h 8 ((j5 + j9) - (1 : Int32)).toNatClampNeg j8))
      )
def j_Ha_weigh_167 (h : Nat → Nat → Int32) (u1 : Int32) (u2 : Int32) (u3 : Int32) (u4 : Int32) (j5 : Int32) (j6 : Int32) (k0 : Int32) : Option ((Int32 × Int32 × (Nat → Nat → Int32)) ⊕ ((Nat → Nat → Int32))) :=
  j_Ha_weigh_214 h u1 u2 u3 u4 j5 j6 k0 (0 : Int32)
def j_Ha_weigh_209 (h : Nat → Nat → Int32) (u1 : Int32) (u2 : Int32) (u3 : Int32) (u4 : Int32) (j5 : Int32) (j6 : Int32) (k0 : Int32) : Option ((Int32 × Int32 × (Nat → Nat → Int32)) ⊕ ((Nat → Nat → Int32))) :=
  j_Ha_weigh_214 h u1 u2 u3 u4 j5 j6 k0 (-1 : Int32)
def j_Ha_weigh_58 (h : Nat → Nat → Int32) (u1 : Int32) (u2 : Int32) (u3 : Int32) (u4 : Int32) (j5 : Int32) (j6 : Int32) (j7 : Int32) (j9 : Int32) (k0 : Int32) : Option ((Int32 × Int32 × (Nat → Nat → Int32)) ⊕ ((Nat → Nat → Int32))) :=
  if ((0 : Int) = k0.toInt) then
    j_Ha_weigh_214 h u1 u2 u3 u4 j5 j6 j7 j9
  else
    if ((98 : Int) = k0.toInt) then
      j_Ha_weigh_214 h u1 u2 u3 u4 j5 j6 u2 j9
    else
      if ((100 : Int) = k0.toInt) then
        j_Ha_weigh_214 h u1 u2 u3 u4 j5 j6 u3 j9
      else
        if ((105 : Int) = k0.toInt) then
          j_Ha_weigh_214 h u1 u2 u3 u4 j5 j6 u4 j9
        else
          if ((119 : Int) = k0.toInt) then
            j_Ha_weigh_214 h u1 u2 u3 u4 j5 j6 u1 j9
          else
            if ((126 : Int) = k0.toInt) then
              if j5 ≤ 0 then
                j_Ha_weigh_167 h u1 u2 u3 u4 j5 j6 (0 : Int32)
              else
                rh_g (0 ≤ (j5 - (1 : Int32)).toInt ∧ (j5 - (1 : Int32)).toInt < ((48 : Nat) : Int)) (
                  j_Ha_weigh_167 h u1 u2 u3 u4 j5 j6 (-(h 8 (j5 - (1 : Int32)).toNatClampNeg))
                )
            else
              if j5 ≤ (1 : Int32) then
                j_Ha_weigh_209 h u1 u2 u3 u4 j5 j6 (0 : Int32)
              else
                rh_g (0 ≤ (j5 - (2 : Int32)).toInt ∧ (j5 - (2 : Int32)).toInt < ((48 : Nat) : Int)) (
                  rh_g (0 ≤ (j5 - (1 : Int32)).toInt ∧ (j5 - (1 : Int32)).toInt < ((48 : Nat) : Int)) (
                    (f_Ha_joined (-j7) (h 8 (j5 - (2 : Int32)).toNatClampNeg) (h 8 (j5 - (1 : Int32)).toNatClampNeg)).bind (fun x20 =>
                      j_Ha_weigh_209 h u1 u2 u3 u4 j5 j6 x20
                    )
                  )
                )
def b_Ha_weigh_22 (u1 : Int32) (u2 : Int32) (u3 : Int32) (u4 : Int32) : (Int32 × Int32 × (Nat → Nat → Int32)) → Option ((Int32 × Int32 × (Nat → Nat → Int32)) ⊕ ((Nat → Nat → Int32))) := fun s22 =>
  if (s22.2.2 6 1) ≤ s22.2.1 then
    some (.inr s22.2.2)
  else
    rh_g (0 ≤ s22.2.1.toInt ∧ s22.2.1.toInt < ((48 : Nat) : Int)) (
      if 0 ≤ (s22.2.2 7 s22.2.1.toNatClampNeg) then
        j_Ha_weigh_58 s22.2.2 u1 u2 u3 u4 s22.1 s22.2.1 (s22.2.2 7 s22.2.1.toNatClampNeg) (1 : Int32) (0 : Int32)
      else
        j_Ha_weigh_58 s22.2.2 u1 u2 u3 u4 s22.1 s22.2.1 (s22.2.2 7 s22.2.1.toNatClampNeg) (1 : Int32) (-(s22.2.2 7 s22.2.1.toNatClampNeg))
    )
def f_Ha_weigh (h : Nat → Nat → Int32) (p0 : Int32) (p1 : Int32) (p2 : Int32) (p3 : Int32) : Option (Int32 × (Nat → Nat → Int32)) :=
  if (h 6 1) = 0 then
    some ((p0 - ((p0 * p1) / (24 : Int32)), h))
  else
    (rh_loop (b_Ha_weigh_22 p0 p1 p2 p3) rh_N ((0 : Int32), (0 : Int32), h)).bind (fun r21 =>
      some (((if (0 : Int32) < (if (r21 8 (0 : Int32).toNatClampNeg) < (9999 : Int32) then (r21 8 (0 : Int32).toNatClampNeg) else (9999 : Int32)) then (if (r21 8 (0 : Int32).toNatClampNeg) < (9999 : Int32) then (r21 8 (0 : Int32).toNatClampNeg) else (9999 : Int32)) else (0 : Int32)), r21))
    )
set_option maxRecDepth 20000 in
set_option maxHeartbeats 4000000 in
theorem lj_Ha_weigh_214 (d : Nat) (xx : rh_L) (sv : Option Nat) (h : Nat → Nat → Int32) (u1 : Int32) (u2 : Int32) (u3 : Int32) (u4 : Int32) (j5 : Int32) (j6 : Int32) (j8 : Int32) (j9 : Int32) (g : Nat → Nat → Int64) (v9 : Option Value) (h9 : rh_H) (x9 : (Int32 × Int32 × (Nat → Nat → Int32)) ⊕ ((Nat → Nat → Int32))) (hf : j_Ha_weigh_214 h u1 u2 u3 u4 j5 j6 j8 j9 = some x9) (hk : Sum.elim (fun s22 => rh_Ex (rh_M rh_PT (cw_L ++ xx) (d + 1)) (cw_L ++ xx) pg_X4_weigh ((22, [some (.ref 6), some (.int u1), some (.int u2), some (.int u3), some (.int u4), some (.int s22.1), some (.int s22.2.1), none, none, none], []), (s22.2.2, g, cw_R sv)) v9 h9) (fun e9 => rh_Ex (rh_M rh_PT (cw_L ++ xx) (d + 1)) (cw_L ++ xx) pg_X4_weigh ((250, [some (.ref 6), none, none, none, none, none, none, none, none, none], []), (e9, g, cw_R sv)) v9 h9) x9) : rh_Ex (rh_M rh_PT (cw_L ++ xx) (d + 1)) (cw_L ++ xx) pg_X4_weigh ((214, [some (.ref 6), some (.int u1), some (.int u2), some (.int u3), some (.int u4), some (.int j5), some (.int j6), none, some (.int j8), some (.int j9)], []), (h, g, cw_R sv)) v9 h9 := by
  unfold j_Ha_weigh_214 at hf
  refine rh_Ex.blk 5 (s' := ((223, [some (.ref 6), some (.int u1), some (.int u2), some (.int u3), some (.int u4), some (.int (j5 + j9)), some (.int j6), none, some (.int j8), some (.int j9)], [.int (j5 + j9)]), (h, g, cw_R sv))) rfl ?_
  by_cases q7 : (j5 + j9) ≤ 0
  · rw [if_pos q7] at hf
    refine rh_Ex.stp (s' := ((244, [some (.ref 6), some (.int u1), some (.int u2), some (.int u3), some (.int u4), some (.int (j5 + j9)), some (.int j6), none, some (.int j8), some (.int j9)], []), (h, g, cw_R sv))) rfl (st_ifle_p q7) ?_
    refine rh_Ex.blk 2 (s' := ((22, [some (.ref 6), some (.int u1), some (.int u2), some (.int u3), some (.int u4), some (.int (j5 + j9)), some (.int (j6 + (1 : Int32))), none, some (.int j8), some (.int j9)], []), (h, g, cw_R sv))) rfl ?_
    obtain rfl := Option.some.inj hf
    refine rh_Ex.fgt [some (.ref 6), some (.int u1), some (.int u2), some (.int u3), some (.int u4), some (.int (j5 + j9)), some (.int (j6 + (1 : Int32))), none, none, none] ⟨rfl, rfl, rfl, rfl, rfl, rfl, rfl, trivial⟩ ?_
    exact hk
  · rw [if_neg q7] at hf
    refine rh_Ex.stp (s' := ((226, [some (.ref 6), some (.int u1), some (.int u2), some (.int u3), some (.int u4), some (.int (j5 + j9)), some (.int j6), none, some (.int j8), some (.int j9)], []), (h, g, cw_R sv))) rfl (st_ifle_n q7) ?_
    refine rh_Ex.blk 2 (s' := ((230, [some (.ref 6), some (.int u1), some (.int u2), some (.int u3), some (.int u4), some (.int (j5 + j9)), some (.int j6), none, some (.int j8), some (.int j9)], [.int (48 : Int32), .int (j5 + j9)]), (h, g, cw_R sv))) rfl ?_
    by_cases q8 : (48 : Int32) < (j5 + j9)
    · rw [if_pos q8] at hf
      refine rh_Ex.stp (s' := ((244, [some (.ref 6), some (.int u1), some (.int u2), some (.int u3), some (.int u4), some (.int (j5 + j9)), some (.int j6), none, some (.int j8), some (.int j9)], []), (h, g, cw_R sv))) rfl (st_icgt_p q8) ?_
      refine rh_Ex.blk 2 (s' := ((22, [some (.ref 6), some (.int u1), some (.int u2), some (.int u3), some (.int u4), some (.int (j5 + j9)), some (.int (j6 + (1 : Int32))), none, some (.int j8), some (.int j9)], []), (h, g, cw_R sv))) rfl ?_
      obtain rfl := Option.some.inj hf
      refine rh_Ex.fgt [some (.ref 6), some (.int u1), some (.int u2), some (.int u3), some (.int u4), some (.int (j5 + j9)), some (.int (j6 + (1 : Int32))), none, none, none] ⟨rfl, rfl, rfl, rfl, rfl, rfl, rfl, trivial⟩ ?_
      exact hk
    · rw [if_neg q8] at hf
      refine rh_Ex.stp (s' := ((233, [some (.ref 6), some (.int u1), some (.int u2), some (.int u3), some (.int u4), some (.int (j5 + j9)), some (.int j6), none, some (.int j8), some (.int j9)], []), (h, g, cw_R sv))) rfl (st_icgt_n q8) ?_
      refine rh_Ex.blk 6 (s' := ((243, [some (.ref 6), some (.int u1), some (.int u2), some (.int u3), some (.int u4), some (.int (j5 + j9)), some (.int j6), none, some (.int j8), some (.int j9)], [.int j8, .int ((j5 + j9) - (1 : Int32)), .ref 8]), (h, g, cw_R sv))) rfl ?_
      obtain ⟨q9, hf⟩ := rh_gq hf
      refine rh_Ex.stp (s' := ((244, [some (.ref 6), some (.int u1), some (.int u2), some (.int u3), some (.int u4), some (.int (j5 + j9)), some (.int j6), none, some (.int j8), some (.int j9)], []), (rh_up h 8 ((j5 + j9) - (1 : Int32)).toNatClampNeg j8, g, cw_R sv))) rfl (st_iast (n := 48) rfl q9) ?_
      refine rh_Ex.blk 2 (s' := ((22, [some (.ref 6), some (.int u1), some (.int u2), some (.int u3), some (.int u4), some (.int (j5 + j9)), some (.int (j6 + (1 : Int32))), none, some (.int j8), some (.int j9)], []), (rh_up h 8 ((j5 + j9) - (1 : Int32)).toNatClampNeg j8, g, cw_R sv))) rfl ?_
      obtain rfl := Option.some.inj hf
      refine rh_Ex.fgt [some (.ref 6), some (.int u1), some (.int u2), some (.int u3), some (.int u4), some (.int (j5 + j9)), some (.int (j6 + (1 : Int32))), none, none, none] ⟨rfl, rfl, rfl, rfl, rfl, rfl, rfl, trivial⟩ ?_
      exact hk
set_option maxRecDepth 20000 in
set_option maxHeartbeats 4000000 in
theorem lj_Ha_weigh_167 (d : Nat) (xx : rh_L) (sv : Option Nat) (h : Nat → Nat → Int32) (u1 : Int32) (u2 : Int32) (u3 : Int32) (u4 : Int32) (j5 : Int32) (j6 : Int32) (k0 : Int32) (g : Nat → Nat → Int64) (v9 : Option Value) (h9 : rh_H) (x9 : (Int32 × Int32 × (Nat → Nat → Int32)) ⊕ ((Nat → Nat → Int32))) (hf : j_Ha_weigh_167 h u1 u2 u3 u4 j5 j6 k0 = some x9) (hk : Sum.elim (fun s22 => rh_Ex (rh_M rh_PT (cw_L ++ xx) (d + 1)) (cw_L ++ xx) pg_X4_weigh ((22, [some (.ref 6), some (.int u1), some (.int u2), some (.int u3), some (.int u4), some (.int s22.1), some (.int s22.2.1), none, none, none], []), (s22.2.2, g, cw_R sv)) v9 h9) (fun e9 => rh_Ex (rh_M rh_PT (cw_L ++ xx) (d + 1)) (cw_L ++ xx) pg_X4_weigh ((250, [some (.ref 6), none, none, none, none, none, none, none, none, none], []), (e9, g, cw_R sv)) v9 h9) x9) : rh_Ex (rh_M rh_PT (cw_L ++ xx) (d + 1)) (cw_L ++ xx) pg_X4_weigh ((167, [some (.ref 6), some (.int u1), some (.int u2), some (.int u3), some (.int u4), some (.int j5), some (.int j6), none, none, none], [.int k0]), (h, g, cw_R sv)) v9 h9 := by
  unfold j_Ha_weigh_167 at hf
  refine rh_Ex.blk 4 (s' := ((214, [some (.ref 6), some (.int u1), some (.int u2), some (.int u3), some (.int u4), some (.int j5), some (.int j6), none, some (.int k0), some (.int (0 : Int32))], []), (h, g, cw_R sv))) rfl ?_
  refine rh_Ex.fgt [some (.ref 6), some (.int u1), some (.int u2), some (.int u3), some (.int u4), some (.int j5), some (.int j6), none, some (.int k0), some (.int (0 : Int32))] ⟨rfl, rfl, rfl, rfl, rfl, rfl, rfl, rfl, rfl, trivial⟩ ?_
  exact lj_Ha_weigh_214 d xx sv h u1 u2 u3 u4 j5 j6 k0 (0 : Int32) g _ _ _ hf hk
set_option maxRecDepth 20000 in
set_option maxHeartbeats 4000000 in
theorem lj_Ha_weigh_209 (d : Nat) (xx : rh_L) (sv : Option Nat) (h : Nat → Nat → Int32) (u1 : Int32) (u2 : Int32) (u3 : Int32) (u4 : Int32) (j5 : Int32) (j6 : Int32) (k0 : Int32) (g : Nat → Nat → Int64) (v9 : Option Value) (h9 : rh_H) (x9 : (Int32 × Int32 × (Nat → Nat → Int32)) ⊕ ((Nat → Nat → Int32))) (hf : j_Ha_weigh_209 h u1 u2 u3 u4 j5 j6 k0 = some x9) (hk : Sum.elim (fun s22 => rh_Ex (rh_M rh_PT (cw_L ++ xx) (d + 1)) (cw_L ++ xx) pg_X4_weigh ((22, [some (.ref 6), some (.int u1), some (.int u2), some (.int u3), some (.int u4), some (.int s22.1), some (.int s22.2.1), none, none, none], []), (s22.2.2, g, cw_R sv)) v9 h9) (fun e9 => rh_Ex (rh_M rh_PT (cw_L ++ xx) (d + 1)) (cw_L ++ xx) pg_X4_weigh ((250, [some (.ref 6), none, none, none, none, none, none, none, none, none], []), (e9, g, cw_R sv)) v9 h9) x9) : rh_Ex (rh_M rh_PT (cw_L ++ xx) (d + 1)) (cw_L ++ xx) pg_X4_weigh ((209, [some (.ref 6), some (.int u1), some (.int u2), some (.int u3), some (.int u4), some (.int j5), some (.int j6), none, none, none], [.int k0]), (h, g, cw_R sv)) v9 h9 := by
  unfold j_Ha_weigh_209 at hf
  refine rh_Ex.blk 3 (s' := ((214, [some (.ref 6), some (.int u1), some (.int u2), some (.int u3), some (.int u4), some (.int j5), some (.int j6), none, some (.int k0), some (.int (-1 : Int32))], []), (h, g, cw_R sv))) rfl ?_
  refine rh_Ex.fgt [some (.ref 6), some (.int u1), some (.int u2), some (.int u3), some (.int u4), some (.int j5), some (.int j6), none, some (.int k0), some (.int (-1 : Int32))] ⟨rfl, rfl, rfl, rfl, rfl, rfl, rfl, rfl, rfl, trivial⟩ ?_
  exact lj_Ha_weigh_214 d xx sv h u1 u2 u3 u4 j5 j6 k0 (-1 : Int32) g _ _ _ hf hk
set_option maxRecDepth 20000 in
set_option maxHeartbeats 4000000 in
theorem lj_Ha_weigh_58 (d : Nat) (xx : rh_L) (sv : Option Nat) (h : Nat → Nat → Int32) (u1 : Int32) (u2 : Int32) (u3 : Int32) (u4 : Int32) (j5 : Int32) (j6 : Int32) (j7 : Int32) (j9 : Int32) (k0 : Int32) (g : Nat → Nat → Int64) (v9 : Option Value) (h9 : rh_H) (x9 : (Int32 × Int32 × (Nat → Nat → Int32)) ⊕ ((Nat → Nat → Int32))) (hf : j_Ha_weigh_58 h u1 u2 u3 u4 j5 j6 j7 j9 k0 = some x9) (hk : Sum.elim (fun s22 => rh_Ex (rh_M rh_PT (cw_L ++ xx) (d + 1)) (cw_L ++ xx) pg_X4_weigh ((22, [some (.ref 6), some (.int u1), some (.int u2), some (.int u3), some (.int u4), some (.int s22.1), some (.int s22.2.1), none, none, none], []), (s22.2.2, g, cw_R sv)) v9 h9) (fun e9 => rh_Ex (rh_M rh_PT (cw_L ++ xx) (d + 1)) (cw_L ++ xx) pg_X4_weigh ((250, [some (.ref 6), none, none, none, none, none, none, none, none, none], []), (e9, g, cw_R sv)) v9 h9) x9) : rh_Ex (rh_M rh_PT (cw_L ++ xx) (d + 1)) (cw_L ++ xx) pg_X4_weigh ((58, [some (.ref 6), some (.int u1), some (.int u2), some (.int u3), some (.int u4), some (.int j5), some (.int j6), some (.int j7), none, some (.int j9)], [.int k0]), (h, g, cw_R sv)) v9 h9 := by
  unfold j_Ha_weigh_58 at hf
  refine rh_Ex.stp (s' := ((rh_sw [(0, 116), (98, 129), (100, 135), (105, 141), (119, 123), (126, 148)] 175 k0, [some (.ref 6), some (.int u1), some (.int u2), some (.int u3), some (.int u4), some (.int j5), some (.int j6), some (.int j7), none, some (.int j9)], []), (h, g, cw_R sv))) rfl rfl ?_
  by_cases q6 : ((0 : Int) = k0.toInt)
  · rw [if_pos q6] at hf
    rw [rh_sw, if_pos (show (0 : Int) = k0.toInt from q6)]
    refine rh_Ex.blk 3 (s' := ((214, [some (.ref 6), some (.int u1), some (.int u2), some (.int u3), some (.int u4), some (.int j5), some (.int j6), some (.int j7), some (.int j7), some (.int j9)], []), (h, g, cw_R sv))) rfl ?_
    refine rh_Ex.fgt [some (.ref 6), some (.int u1), some (.int u2), some (.int u3), some (.int u4), some (.int j5), some (.int j6), none, some (.int j7), some (.int j9)] ⟨rfl, rfl, rfl, rfl, rfl, rfl, rfl, rfl, rfl, trivial⟩ ?_
    exact lj_Ha_weigh_214 d xx sv h u1 u2 u3 u4 j5 j6 j7 j9 g _ _ _ hf hk
  · rw [if_neg q6] at hf
    rw [rh_sw, if_neg (show ¬ (0 : Int) = k0.toInt from q6)]
    by_cases q10 : ((98 : Int) = k0.toInt)
    · rw [if_pos q10] at hf
      rw [rh_sw, if_pos (show (98 : Int) = k0.toInt from q10)]
      refine rh_Ex.blk 3 (s' := ((214, [some (.ref 6), some (.int u1), some (.int u2), some (.int u3), some (.int u4), some (.int j5), some (.int j6), some (.int j7), some (.int u2), some (.int j9)], []), (h, g, cw_R sv))) rfl ?_
      refine rh_Ex.fgt [some (.ref 6), some (.int u1), some (.int u2), some (.int u3), some (.int u4), some (.int j5), some (.int j6), none, some (.int u2), some (.int j9)] ⟨rfl, rfl, rfl, rfl, rfl, rfl, rfl, rfl, rfl, trivial⟩ ?_
      exact lj_Ha_weigh_214 d xx sv h u1 u2 u3 u4 j5 j6 u2 j9 g _ _ _ hf hk
    · rw [if_neg q10] at hf
      rw [rh_sw, if_neg (show ¬ (98 : Int) = k0.toInt from q10)]
      by_cases q11 : ((100 : Int) = k0.toInt)
      · rw [if_pos q11] at hf
        rw [rh_sw, if_pos (show (100 : Int) = k0.toInt from q11)]
        refine rh_Ex.blk 3 (s' := ((214, [some (.ref 6), some (.int u1), some (.int u2), some (.int u3), some (.int u4), some (.int j5), some (.int j6), some (.int j7), some (.int u3), some (.int j9)], []), (h, g, cw_R sv))) rfl ?_
        refine rh_Ex.fgt [some (.ref 6), some (.int u1), some (.int u2), some (.int u3), some (.int u4), some (.int j5), some (.int j6), none, some (.int u3), some (.int j9)] ⟨rfl, rfl, rfl, rfl, rfl, rfl, rfl, rfl, rfl, trivial⟩ ?_
        exact lj_Ha_weigh_214 d xx sv h u1 u2 u3 u4 j5 j6 u3 j9 g _ _ _ hf hk
      · rw [if_neg q11] at hf
        rw [rh_sw, if_neg (show ¬ (100 : Int) = k0.toInt from q11)]
        by_cases q12 : ((105 : Int) = k0.toInt)
        · rw [if_pos q12] at hf
          rw [rh_sw, if_pos (show (105 : Int) = k0.toInt from q12)]
          refine rh_Ex.blk 3 (s' := ((214, [some (.ref 6), some (.int u1), some (.int u2), some (.int u3), some (.int u4), some (.int j5), some (.int j6), some (.int j7), some (.int u4), some (.int j9)], []), (h, g, cw_R sv))) rfl ?_
          refine rh_Ex.fgt [some (.ref 6), some (.int u1), some (.int u2), some (.int u3), some (.int u4), some (.int j5), some (.int j6), none, some (.int u4), some (.int j9)] ⟨rfl, rfl, rfl, rfl, rfl, rfl, rfl, rfl, rfl, trivial⟩ ?_
          exact lj_Ha_weigh_214 d xx sv h u1 u2 u3 u4 j5 j6 u4 j9 g _ _ _ hf hk
        · rw [if_neg q12] at hf
          rw [rh_sw, if_neg (show ¬ (105 : Int) = k0.toInt from q12)]
          by_cases q13 : ((119 : Int) = k0.toInt)
          · rw [if_pos q13] at hf
            rw [rh_sw, if_pos (show (119 : Int) = k0.toInt from q13)]
            refine rh_Ex.blk 3 (s' := ((214, [some (.ref 6), some (.int u1), some (.int u2), some (.int u3), some (.int u4), some (.int j5), some (.int j6), some (.int j7), some (.int u1), some (.int j9)], []), (h, g, cw_R sv))) rfl ?_
            refine rh_Ex.fgt [some (.ref 6), some (.int u1), some (.int u2), some (.int u3), some (.int u4), some (.int j5), some (.int j6), none, some (.int u1), some (.int j9)] ⟨rfl, rfl, rfl, rfl, rfl, rfl, rfl, rfl, rfl, trivial⟩ ?_
            exact lj_Ha_weigh_214 d xx sv h u1 u2 u3 u4 j5 j6 u1 j9 g _ _ _ hf hk
          · rw [if_neg q13] at hf
            rw [rh_sw, if_neg (show ¬ (119 : Int) = k0.toInt from q13)]
            by_cases q14 : ((126 : Int) = k0.toInt)
            · rw [if_pos q14] at hf
              rw [rh_sw, if_pos (show (126 : Int) = k0.toInt from q14)]
              refine rh_Ex.blk 1 (s' := ((150, [some (.ref 6), some (.int u1), some (.int u2), some (.int u3), some (.int u4), some (.int j5), some (.int j6), some (.int j7), none, some (.int j9)], [.int j5]), (h, g, cw_R sv))) rfl ?_
              by_cases q15 : j5 ≤ 0
              · rw [if_pos q15] at hf
                refine rh_Ex.stp (s' := ((166, [some (.ref 6), some (.int u1), some (.int u2), some (.int u3), some (.int u4), some (.int j5), some (.int j6), some (.int j7), none, some (.int j9)], []), (h, g, cw_R sv))) rfl (st_ifle_p q15) ?_
                refine rh_Ex.blk 1 (s' := ((167, [some (.ref 6), some (.int u1), some (.int u2), some (.int u3), some (.int u4), some (.int j5), some (.int j6), some (.int j7), none, some (.int j9)], [.int (0 : Int32)]), (h, g, cw_R sv))) rfl ?_
                refine rh_Ex.fgt [some (.ref 6), some (.int u1), some (.int u2), some (.int u3), some (.int u4), some (.int j5), some (.int j6), none, none, none] ⟨rfl, rfl, rfl, rfl, rfl, rfl, rfl, trivial⟩ ?_
                exact lj_Ha_weigh_167 d xx sv h u1 u2 u3 u4 j5 j6 (0 : Int32) g _ _ _ hf hk
              · rw [if_neg q15] at hf
                refine rh_Ex.stp (s' := ((153, [some (.ref 6), some (.int u1), some (.int u2), some (.int u3), some (.int u4), some (.int j5), some (.int j6), some (.int j7), none, some (.int j9)], []), (h, g, cw_R sv))) rfl (st_ifle_n q15) ?_
                refine rh_Ex.blk 5 (s' := ((161, [some (.ref 6), some (.int u1), some (.int u2), some (.int u3), some (.int u4), some (.int j5), some (.int j6), some (.int j7), none, some (.int j9)], [.int (j5 - (1 : Int32)), .ref 8]), (h, g, cw_R sv))) rfl ?_
                obtain ⟨q16, hf⟩ := rh_gq hf
                refine rh_Ex.stp (s' := ((162, [some (.ref 6), some (.int u1), some (.int u2), some (.int u3), some (.int u4), some (.int j5), some (.int j6), some (.int j7), none, some (.int j9)], [.int (h 8 (j5 - (1 : Int32)).toNatClampNeg)]), (h, g, cw_R sv))) rfl (st_iald (n := 48) rfl q16) ?_
                refine rh_Ex.blk 2 (s' := ((167, [some (.ref 6), some (.int u1), some (.int u2), some (.int u3), some (.int u4), some (.int j5), some (.int j6), some (.int j7), none, some (.int j9)], [.int (-(h 8 (j5 - (1 : Int32)).toNatClampNeg))]), (h, g, cw_R sv))) rfl ?_
                refine rh_Ex.fgt [some (.ref 6), some (.int u1), some (.int u2), some (.int u3), some (.int u4), some (.int j5), some (.int j6), none, none, none] ⟨rfl, rfl, rfl, rfl, rfl, rfl, rfl, trivial⟩ ?_
                exact lj_Ha_weigh_167 d xx sv h u1 u2 u3 u4 j5 j6 (-(h 8 (j5 - (1 : Int32)).toNatClampNeg)) g _ _ _ hf hk
            · rw [if_neg q14] at hf
              rw [rh_sw, if_neg (show ¬ (126 : Int) = k0.toInt from q14)]
              rw [rh_sw]
              refine rh_Ex.blk 2 (s' := ((178, [some (.ref 6), some (.int u1), some (.int u2), some (.int u3), some (.int u4), some (.int j5), some (.int j6), some (.int j7), none, some (.int j9)], [.int (1 : Int32), .int j5]), (h, g, cw_R sv))) rfl ?_
              by_cases q17 : j5 ≤ (1 : Int32)
              · rw [if_pos q17] at hf
                refine rh_Ex.stp (s' := ((208, [some (.ref 6), some (.int u1), some (.int u2), some (.int u3), some (.int u4), some (.int j5), some (.int j6), some (.int j7), none, some (.int j9)], []), (h, g, cw_R sv))) rfl (st_icle_p q17) ?_
                refine rh_Ex.blk 1 (s' := ((209, [some (.ref 6), some (.int u1), some (.int u2), some (.int u3), some (.int u4), some (.int j5), some (.int j6), some (.int j7), none, some (.int j9)], [.int (0 : Int32)]), (h, g, cw_R sv))) rfl ?_
                refine rh_Ex.fgt [some (.ref 6), some (.int u1), some (.int u2), some (.int u3), some (.int u4), some (.int j5), some (.int j6), none, none, none] ⟨rfl, rfl, rfl, rfl, rfl, rfl, rfl, trivial⟩ ?_
                exact lj_Ha_weigh_209 d xx sv h u1 u2 u3 u4 j5 j6 (0 : Int32) g _ _ _ hf hk
              · rw [if_neg q17] at hf
                refine rh_Ex.stp (s' := ((181, [some (.ref 6), some (.int u1), some (.int u2), some (.int u3), some (.int u4), some (.int j5), some (.int j6), some (.int j7), none, some (.int j9)], []), (h, g, cw_R sv))) rfl (st_icle_n q17) ?_
                refine rh_Ex.blk 7 (s' := ((192, [some (.ref 6), some (.int u1), some (.int u2), some (.int u3), some (.int u4), some (.int j5), some (.int j6), some (.int j7), none, some (.int j9)], [.int (j5 - (2 : Int32)), .ref 8, .int (-j7)]), (h, g, cw_R sv))) rfl ?_
                obtain ⟨q18, hf⟩ := rh_gq hf
                refine rh_Ex.stp (s' := ((193, [some (.ref 6), some (.int u1), some (.int u2), some (.int u3), some (.int u4), some (.int j5), some (.int j6), some (.int j7), none, some (.int j9)], [.int (h 8 (j5 - (2 : Int32)).toNatClampNeg), .int (-j7)]), (h, g, cw_R sv))) rfl (st_iald (n := 48) rfl q18) ?_
                refine rh_Ex.blk 5 (s' := ((201, [some (.ref 6), some (.int u1), some (.int u2), some (.int u3), some (.int u4), some (.int j5), some (.int j6), some (.int j7), none, some (.int j9)], [.int (j5 - (1 : Int32)), .ref 8, .int (h 8 (j5 - (2 : Int32)).toNatClampNeg), .int (-j7)]), (h, g, cw_R sv))) rfl ?_
                obtain ⟨q19, hf⟩ := rh_gq hf
                refine rh_Ex.stp (s' := ((202, [some (.ref 6), some (.int u1), some (.int u2), some (.int u3), some (.int u4), some (.int j5), some (.int j6), some (.int j7), none, some (.int j9)], [.int (h 8 (j5 - (1 : Int32)).toNatClampNeg), .int (h 8 (j5 - (2 : Int32)).toNatClampNeg), .int (-j7)]), (h, g, cw_R sv))) rfl (st_iald (n := 48) rfl q19) ?_
                obtain ⟨x20, hx20, hf⟩ := rh_bq hf
                refine rh_Ex.call (j := 39) (rc := none) [.int (-j7), .int (h 8 (j5 - (2 : Int32)).toNatClampNeg), .int (h 8 (j5 - (1 : Int32)).toNatClampNeg)] [] (some (.int x20)) rfl rfl trivial (Nat.le_of_ble_eq_true rfl) (R_Ha_joined d (cw_L ++ xx) (cw_R sv) h g (-j7) (h 8 (j5 - (2 : Int32)).toNatClampNeg) (h 8 (j5 - (1 : Int32)).toNatClampNeg) hx20) ?_
                show rh_Ex _ _ _ ((205, [some (.ref 6), some (.int u1), some (.int u2), some (.int u3), some (.int u4), some (.int j5), some (.int j6), some (.int j7), none, some (.int j9)], [.int x20]), (h, g, cw_R sv)) _ _
                refine rh_Ex.blk 1 (s' := ((209, [some (.ref 6), some (.int u1), some (.int u2), some (.int u3), some (.int u4), some (.int j5), some (.int j6), some (.int j7), none, some (.int j9)], [.int x20]), (h, g, cw_R sv))) rfl ?_
                refine rh_Ex.fgt [some (.ref 6), some (.int u1), some (.int u2), some (.int u3), some (.int u4), some (.int j5), some (.int j6), none, none, none] ⟨rfl, rfl, rfl, rfl, rfl, rfl, rfl, trivial⟩ ?_
                exact lj_Ha_weigh_209 d xx sv h u1 u2 u3 u4 j5 j6 x20 g _ _ _ hf hk
set_option maxRecDepth 20000 in
set_option maxHeartbeats 4000000 in
theorem lb_Ha_weigh_22 (d : Nat) (xx : rh_L) (sv : Option Nat) (u1 : Int32) (u2 : Int32) (u3 : Int32) (u4 : Int32) (g : Nat → Nat → Int64) (v9 : Option Value) (h9 : rh_H) : ∀ s22 x9, b_Ha_weigh_22 u1 u2 u3 u4 s22 = some x9 → Sum.elim (fun s22 => rh_Ex (rh_M rh_PT (cw_L ++ xx) (d + 1)) (cw_L ++ xx) pg_X4_weigh ((22, [some (.ref 6), some (.int u1), some (.int u2), some (.int u3), some (.int u4), some (.int s22.1), some (.int s22.2.1), none, none, none], []), (s22.2.2, g, cw_R sv)) v9 h9) (fun e9 => rh_Ex (rh_M rh_PT (cw_L ++ xx) (d + 1)) (cw_L ++ xx) pg_X4_weigh ((250, [some (.ref 6), none, none, none, none, none, none, none, none, none], []), (e9, g, cw_R sv)) v9 h9) x9 → rh_Ex (rh_M rh_PT (cw_L ++ xx) (d + 1)) (cw_L ++ xx) pg_X4_weigh ((22, [some (.ref 6), some (.int u1), some (.int u2), some (.int u3), some (.int u4), some (.int s22.1), some (.int s22.2.1), none, none, none], []), (s22.2.2, g, cw_R sv)) v9 h9 := by
  intro s22 x9 hf hk
  unfold b_Ha_weigh_22 at hf
  refine rh_Ex.blk 3 (s' := ((28, [some (.ref 6), some (.int u1), some (.int u2), some (.int u3), some (.int u4), some (.int s22.1), some (.int s22.2.1), none, none, none], [.int (s22.2.2 6 1), .int s22.2.1]), (s22.2.2, g, cw_R sv))) rfl ?_
  by_cases q3 : (s22.2.2 6 1) ≤ s22.2.1
  · rw [if_pos q3] at hf
    refine rh_Ex.stp (s' := ((250, [some (.ref 6), some (.int u1), some (.int u2), some (.int u3), some (.int u4), some (.int s22.1), some (.int s22.2.1), none, none, none], []), (s22.2.2, g, cw_R sv))) rfl (st_icge_p q3) ?_
    obtain rfl := Option.some.inj hf
    refine rh_Ex.fgt [some (.ref 6), none, none, none, none, none, none, none, none, none] ⟨rfl, trivial⟩ ?_
    exact hk
  · rw [if_neg q3] at hf
    refine rh_Ex.stp (s' := ((31, [some (.ref 6), some (.int u1), some (.int u2), some (.int u3), some (.int u4), some (.int s22.1), some (.int s22.2.1), none, none, none], []), (s22.2.2, g, cw_R sv))) rfl (st_icge_n q3) ?_
    refine rh_Ex.blk 3 (s' := ((37, [some (.ref 6), some (.int u1), some (.int u2), some (.int u3), some (.int u4), some (.int s22.1), some (.int s22.2.1), none, none, none], [.int s22.2.1, .ref 7]), (s22.2.2, g, cw_R sv))) rfl ?_
    obtain ⟨q4, hf⟩ := rh_gq hf
    refine rh_Ex.stp (s' := ((38, [some (.ref 6), some (.int u1), some (.int u2), some (.int u3), some (.int u4), some (.int s22.1), some (.int s22.2.1), none, none, none], [.int (s22.2.2 7 s22.2.1.toNatClampNeg)]), (s22.2.2, g, cw_R sv))) rfl (st_iald (n := 48) rfl q4) ?_
    refine rh_Ex.blk 6 (s' := ((48, [some (.ref 6), some (.int u1), some (.int u2), some (.int u3), some (.int u4), some (.int s22.1), some (.int s22.2.1), some (.int (s22.2.2 7 s22.2.1.toNatClampNeg)), some (.int (0 : Int32)), some (.int (1 : Int32))], [.int (s22.2.2 7 s22.2.1.toNatClampNeg)]), (s22.2.2, g, cw_R sv))) rfl ?_
    by_cases q5 : 0 ≤ (s22.2.2 7 s22.2.1.toNatClampNeg)
    · rw [if_pos q5] at hf
      refine rh_Ex.stp (s' := ((57, [some (.ref 6), some (.int u1), some (.int u2), some (.int u3), some (.int u4), some (.int s22.1), some (.int s22.2.1), some (.int (s22.2.2 7 s22.2.1.toNatClampNeg)), some (.int (0 : Int32)), some (.int (1 : Int32))], []), (s22.2.2, g, cw_R sv))) rfl (st_ifge_p q5) ?_
      refine rh_Ex.blk 1 (s' := ((58, [some (.ref 6), some (.int u1), some (.int u2), some (.int u3), some (.int u4), some (.int s22.1), some (.int s22.2.1), some (.int (s22.2.2 7 s22.2.1.toNatClampNeg)), some (.int (0 : Int32)), some (.int (1 : Int32))], [.int (0 : Int32)]), (s22.2.2, g, cw_R sv))) rfl ?_
      refine rh_Ex.fgt [some (.ref 6), some (.int u1), some (.int u2), some (.int u3), some (.int u4), some (.int s22.1), some (.int s22.2.1), some (.int (s22.2.2 7 s22.2.1.toNatClampNeg)), none, some (.int (1 : Int32))] ⟨rfl, rfl, rfl, rfl, rfl, rfl, rfl, rfl, rfl, trivial⟩ ?_
      exact lj_Ha_weigh_58 d xx sv s22.2.2 u1 u2 u3 u4 s22.1 s22.2.1 (s22.2.2 7 s22.2.1.toNatClampNeg) (1 : Int32) (0 : Int32) g _ _ _ hf hk
    · rw [if_neg q5] at hf
      refine rh_Ex.stp (s' := ((51, [some (.ref 6), some (.int u1), some (.int u2), some (.int u3), some (.int u4), some (.int s22.1), some (.int s22.2.1), some (.int (s22.2.2 7 s22.2.1.toNatClampNeg)), some (.int (0 : Int32)), some (.int (1 : Int32))], []), (s22.2.2, g, cw_R sv))) rfl (st_ifge_n q5) ?_
      refine rh_Ex.blk 3 (s' := ((58, [some (.ref 6), some (.int u1), some (.int u2), some (.int u3), some (.int u4), some (.int s22.1), some (.int s22.2.1), some (.int (s22.2.2 7 s22.2.1.toNatClampNeg)), some (.int (0 : Int32)), some (.int (1 : Int32))], [.int (-(s22.2.2 7 s22.2.1.toNatClampNeg))]), (s22.2.2, g, cw_R sv))) rfl ?_
      refine rh_Ex.fgt [some (.ref 6), some (.int u1), some (.int u2), some (.int u3), some (.int u4), some (.int s22.1), some (.int s22.2.1), some (.int (s22.2.2 7 s22.2.1.toNatClampNeg)), none, some (.int (1 : Int32))] ⟨rfl, rfl, rfl, rfl, rfl, rfl, rfl, rfl, rfl, trivial⟩ ?_
      exact lj_Ha_weigh_58 d xx sv s22.2.2 u1 u2 u3 u4 s22.1 s22.2.1 (s22.2.2 7 s22.2.1.toNatClampNeg) (1 : Int32) (-(s22.2.2 7 s22.2.1.toNatClampNeg)) g _ _ _ hf hk
set_option maxRecDepth 20000 in
set_option maxHeartbeats 4000000 in
theorem R_Ha_weigh (d : Nat) (xx : rh_L) (sv : Option Nat) (h : Nat → Nat → Int32) (g : Nat → Nat → Int64) (p0 : Int32) (p1 : Int32) (p2 : Int32) (p3 : Int32) {z9 : Int32 × (Nat → Nat → Int32)} (hf : f_Ha_weigh h p0 p1 p2 p3 = some z9) : rh_M rh_PT (cw_L ++ xx) (d + 2) 38 [.ref 6, .int p0, .int p1, .int p2, .int p3] (h, g, cw_R sv) (some (.int z9.1)) (z9.2, g, cw_R sv) := by
  unfold f_Ha_weigh at hf
  refine rh_go pt_38 (Nat.le_of_ble_eq_true rfl) (lv := [some (.ref 6), some (.int p0), some (.int p1), some (.int p2), some (.int p3), none, none, none, none, none]) rfl ?_
  refine rh_Ex.blk 2 (s' := ((4, [some (.ref 6), some (.int p0), some (.int p1), some (.int p2), some (.int p3), none, none, none, none, none], [.int (h 6 1)]), (h, g, cw_R sv))) rfl ?_
  by_cases q1 : (h 6 1) = 0
  · rw [if_pos q1] at hf
    refine rh_Ex.stp (s' := ((7, [some (.ref 6), some (.int p0), some (.int p1), some (.int p2), some (.int p3), none, none, none, none, none], []), (h, g, cw_R sv))) rfl (st_ifne_p q1) ?_
    refine rh_Ex.blk 5 (s' := ((13, [some (.ref 6), some (.int p0), some (.int p1), some (.int p2), some (.int p3), none, none, none, none, none], [.int (24 : Int32), .int (p0 * p1), .int p0]), (h, g, cw_R sv))) rfl ?_
    refine rh_Ex.stp (s' := ((14, [some (.ref 6), some (.int p0), some (.int p1), some (.int p2), some (.int p3), none, none, none, none, none], [.int ((p0 * p1) / (24 : Int32)), .int p0]), (h, g, cw_R sv))) rfl (st_idiv (by decide)) ?_
    refine rh_Ex.blk 1 (s' := ((15, [some (.ref 6), some (.int p0), some (.int p1), some (.int p2), some (.int p3), none, none, none, none, none], [.int (p0 - ((p0 * p1) / (24 : Int32)))]), (h, g, cw_R sv))) rfl ?_
    obtain rfl := Option.some.inj hf
    exact rh_Ex.ret rfl rfl
  · rw [if_neg q1] at hf
    refine rh_Ex.stp (s' := ((16, [some (.ref 6), some (.int p0), some (.int p1), some (.int p2), some (.int p3), none, none, none, none, none], []), (h, g, cw_R sv))) rfl (st_ifne_n q1) ?_
    refine rh_Ex.blk 4 (s' := ((22, [some (.ref 6), some (.int p0), some (.int p1), some (.int p2), some (.int p3), some (.int (0 : Int32)), some (.int (0 : Int32)), none, none, none], []), (h, g, cw_R sv))) rfl ?_
    obtain ⟨r21, hr21, hf⟩ := rh_bq hf
    refine rh_Ex.fgt [some (.ref 6), some (.int p0), some (.int p1), some (.int p2), some (.int p3), some (.int (0 : Int32)), some (.int (0 : Int32)), none, none, none] ⟨rfl, rfl, rfl, rfl, rfl, rfl, rfl, trivial⟩ ?_
    refine rh_Ex.loop _ _ _ (lb_Ha_weigh_22 d xx sv p0 p1 p2 p3  g _ _) rh_N _ r21 hr21 ?_
    refine rh_Ex.blk 5 (s' := ((259, [some (.ref 6), none, none, none, none, none, none, none, none, none], [.int (0 : Int32), .ref 8, .int (9999 : Int32), .int (0 : Int32)]), (r21, g, cw_R sv))) rfl ?_
    refine rh_Ex.stp (s' := ((260, [some (.ref 6), none, none, none, none, none, none, none, none, none], [.int (r21 8 (0 : Int32).toNatClampNeg), .int (9999 : Int32), .int (0 : Int32)]), (r21, g, cw_R sv))) rfl (st_iald (n := 48) rfl (by decide)) ?_
    refine rh_Ex.stp (s' := ((263, [some (.ref 6), none, none, none, none, none, none, none, none, none], [.int (if (r21 8 (0 : Int32).toNatClampNeg) < (9999 : Int32) then (r21 8 (0 : Int32).toNatClampNeg) else (9999 : Int32)), .int (0 : Int32)]), (r21, g, cw_R sv))) rfl (st_mmin (Nat.le_of_ble_eq_true rfl)) ?_
    refine rh_Ex.stp (s' := ((266, [some (.ref 6), none, none, none, none, none, none, none, none, none], [.int (if (0 : Int32) < (if (r21 8 (0 : Int32).toNatClampNeg) < (9999 : Int32) then (r21 8 (0 : Int32).toNatClampNeg) else (9999 : Int32)) then (if (r21 8 (0 : Int32).toNatClampNeg) < (9999 : Int32) then (r21 8 (0 : Int32).toNatClampNeg) else (9999 : Int32)) else (0 : Int32))]), (r21, g, cw_R sv))) rfl (st_mmax (Nat.le_of_ble_eq_true rfl)) ?_
    obtain rfl := Option.some.inj hf
    exact rh_Ex.ret rfl rfl
def f_Cr_weightAt (h : Nat → Nat → Int32) (p0 : Int32) (p1 : Int32) : Option (Int32 × (Nat → Nat → Int32)) :=
  if (f_Cr_isPerson h p0) = 0 then
    rh_g (0 ≤ p0.toInt ∧ p0.toInt < ((9 : Nat) : Int)) (
      some ((h 5 p0.toNatClampNeg, h))
    )
  else
    rh_g (0 ≤ p0.toInt ∧ p0.toInt < ((9 : Nat) : Int)) (
      (f_Ha_weigh h (h 5 p0.toNatClampNeg) (p1 - p1 / (9 : Int32) * (9 : Int32)) (p1 / (9 : Int32)) p0).bind (fun x4 =>
        some ((x4.1, x4.2))
      )
    )
set_option maxRecDepth 20000 in
set_option maxHeartbeats 4000000 in
theorem R_Cr_weightAt (d : Nat) (xx : rh_L) (sv : Option Nat) (h : Nat → Nat → Int32) (g : Nat → Nat → Int64) (p0 : Int32) (p1 : Int32) {z9 : Int32 × (Nat → Nat → Int32)} (hf : f_Cr_weightAt h p0 p1 = some z9) : rh_M rh_PT (cw_L ++ xx) (d + 3) 5 [.ref 4, .int p0, .int p1] (h, g, cw_R sv) (some (.int z9.1)) (z9.2, g, cw_R sv) := by
  unfold f_Cr_weightAt at hf
  refine rh_go pt_5 (Nat.le_of_ble_eq_true rfl) (lv := [some (.ref 4), some (.int p0), some (.int p1)]) rfl ?_
  refine rh_Ex.blk 2 (s' := ((2, [some (.ref 4), some (.int p0), some (.int p1)], [.int p0, .ref 4]), (h, g, cw_R sv))) rfl ?_
  refine rh_Ex.call (j := 3) (rc := some 0) [.ref 4, .int p0] [] (some (.int (f_Cr_isPerson h p0))) rfl rfl rfl (Nat.le_of_ble_eq_true rfl) (R_Cr_isPerson (d + 1) xx sv h g p0 rfl) ?_
  show rh_Ex _ _ _ ((5, [some (.ref 4), some (.int p0), some (.int p1)], [.int (f_Cr_isPerson h p0)]), (h, g, cw_R sv)) _ _
  by_cases q1 : (f_Cr_isPerson h p0) = 0
  · rw [if_pos q1] at hf
    refine rh_Ex.stp (s' := ((33, [some (.ref 4), some (.int p0), some (.int p1)], []), (h, g, cw_R sv))) rfl (st_ifeq_p q1) ?_
    refine rh_Ex.blk 3 (s' := ((38, [some (.ref 4), some (.int p0), some (.int p1)], [.int p0, .ref 5]), (h, g, cw_R sv))) rfl ?_
    obtain ⟨q2, hf⟩ := rh_gq hf
    refine rh_Ex.stp (s' := ((39, [some (.ref 4), some (.int p0), some (.int p1)], [.int (h 5 p0.toNatClampNeg)]), (h, g, cw_R sv))) rfl (st_iald (n := 9) rfl q2) ?_
    obtain rfl := Option.some.inj hf
    exact rh_Ex.ret rfl rfl
  · rw [if_neg q1] at hf
    refine rh_Ex.stp (s' := ((8, [some (.ref 4), some (.int p0), some (.int p1)], []), (h, g, cw_R sv))) rfl (st_ifeq_n q1) ?_
    refine rh_Ex.blk 5 (s' := ((17, [some (.ref 4), some (.int p0), some (.int p1)], [.int p0, .ref 5, .ref 6]), (h, g, cw_R sv))) rfl ?_
    obtain ⟨q3, hf⟩ := rh_gq hf
    refine rh_Ex.stp (s' := ((18, [some (.ref 4), some (.int p0), some (.int p1)], [.int (h 5 p0.toNatClampNeg), .ref 6]), (h, g, cw_R sv))) rfl (st_iald (n := 9) rfl q3) ?_
    refine rh_Ex.blk 2 (s' := ((21, [some (.ref 4), some (.int p0), some (.int p1)], [.int (9 : Int32), .int p1, .int (h 5 p0.toNatClampNeg), .ref 6]), (h, g, cw_R sv))) rfl ?_
    refine rh_Ex.stp (s' := ((22, [some (.ref 4), some (.int p0), some (.int p1)], [.int (p1 - p1 / (9 : Int32) * (9 : Int32)), .int (h 5 p0.toNatClampNeg), .ref 6]), (h, g, cw_R sv))) rfl (st_irem (by decide)) ?_
    refine rh_Ex.blk 2 (s' := ((25, [some (.ref 4), some (.int p0), some (.int p1)], [.int (9 : Int32), .int p1, .int (p1 - p1 / (9 : Int32) * (9 : Int32)), .int (h 5 p0.toNatClampNeg), .ref 6]), (h, g, cw_R sv))) rfl ?_
    refine rh_Ex.stp (s' := ((26, [some (.ref 4), some (.int p0), some (.int p1)], [.int (p1 / (9 : Int32)), .int (p1 - p1 / (9 : Int32) * (9 : Int32)), .int (h 5 p0.toNatClampNeg), .ref 6]), (h, g, cw_R sv))) rfl (st_idiv (by decide)) ?_
    refine rh_Ex.blk 1 (s' := ((27, [some (.ref 4), some (.int p0), some (.int p1)], [.int p0, .int (p1 / (9 : Int32)), .int (p1 - p1 / (9 : Int32) * (9 : Int32)), .int (h 5 p0.toNatClampNeg), .ref 6]), (h, g, cw_R sv))) rfl ?_
    obtain ⟨x4, hx4, hf⟩ := rh_bq hf
    refine rh_Ex.call (j := 38) (rc := some 4) [.ref 6, .int (h 5 p0.toNatClampNeg), .int (p1 - p1 / (9 : Int32) * (9 : Int32)), .int (p1 / (9 : Int32)), .int p0] [] (some (.int x4.1)) rfl rfl rfl (Nat.le_of_ble_eq_true rfl) (R_Ha_weigh d xx sv h g (h 5 p0.toNatClampNeg) (p1 - p1 / (9 : Int32) * (9 : Int32)) (p1 / (9 : Int32)) p0 hx4) ?_
    show rh_Ex _ _ _ ((30, [some (.ref 4), some (.int p0), some (.int p1)], [.int x4.1]), (x4.2, g, cw_R sv)) _ _
    refine rh_Ex.blk 1 (s' := ((39, [some (.ref 4), some (.int p0), some (.int p1)], [.int x4.1]), (x4.2, g, cw_R sv))) rfl ?_
    obtain rfl := Option.some.inj hf
    exact rh_Ex.ret rfl rfl
def f_Cr_weightWith (h : Nat → Nat → Int32) (p0 : Int32) (p1 : Int32) (p2 : Int32) : Option (Int32 × (Nat → Nat → Int32)) :=
  if (f_Cr_isPerson h p0) = 0 then
    some ((p1, h))
  else
    (f_Ha_weigh h p1 (p2 - p2 / (9 : Int32) * (9 : Int32)) (p2 / (9 : Int32)) p0).bind (fun x2 =>
      some ((x2.1, x2.2))
    )
set_option maxRecDepth 20000 in
set_option maxHeartbeats 4000000 in
theorem R_Cr_weightWith (d : Nat) (xx : rh_L) (sv : Option Nat) (h : Nat → Nat → Int32) (g : Nat → Nat → Int64) (p0 : Int32) (p1 : Int32) (p2 : Int32) {z9 : Int32 × (Nat → Nat → Int32)} (hf : f_Cr_weightWith h p0 p1 p2 = some z9) : rh_M rh_PT (cw_L ++ xx) (d + 3) 6 [.ref 4, .int p0, .int p1, .int p2] (h, g, cw_R sv) (some (.int z9.1)) (z9.2, g, cw_R sv) := by
  unfold f_Cr_weightWith at hf
  refine rh_go pt_6 (Nat.le_of_ble_eq_true rfl) (lv := [some (.ref 4), some (.int p0), some (.int p1), some (.int p2)]) rfl ?_
  refine rh_Ex.blk 2 (s' := ((2, [some (.ref 4), some (.int p0), some (.int p1), some (.int p2)], [.int p0, .ref 4]), (h, g, cw_R sv))) rfl ?_
  refine rh_Ex.call (j := 3) (rc := some 0) [.ref 4, .int p0] [] (some (.int (f_Cr_isPerson h p0))) rfl rfl rfl (Nat.le_of_ble_eq_true rfl) (R_Cr_isPerson (d + 1) xx sv h g p0 rfl) ?_
  show rh_Ex _ _ _ ((5, [some (.ref 4), some (.int p0), some (.int p1), some (.int p2)], [.int (f_Cr_isPerson h p0)]), (h, g, cw_R sv)) _ _
  by_cases q1 : (f_Cr_isPerson h p0) = 0
  · rw [if_pos q1] at hf
    refine rh_Ex.stp (s' := ((28, [some (.ref 4), some (.int p0), some (.int p1), some (.int p2)], []), (h, g, cw_R sv))) rfl (st_ifeq_p q1) ?_
    refine rh_Ex.blk 1 (s' := ((29, [some (.ref 4), some (.int p0), some (.int p1), some (.int p2)], [.int p1]), (h, g, cw_R sv))) rfl ?_
    obtain rfl := Option.some.inj hf
    exact rh_Ex.ret rfl rfl
  · rw [if_neg q1] at hf
    refine rh_Ex.stp (s' := ((8, [some (.ref 4), some (.int p0), some (.int p1), some (.int p2)], []), (h, g, cw_R sv))) rfl (st_ifeq_n q1) ?_
    refine rh_Ex.blk 5 (s' := ((16, [some (.ref 4), some (.int p0), some (.int p1), some (.int p2)], [.int (9 : Int32), .int p2, .int p1, .ref 6]), (h, g, cw_R sv))) rfl ?_
    refine rh_Ex.stp (s' := ((17, [some (.ref 4), some (.int p0), some (.int p1), some (.int p2)], [.int (p2 - p2 / (9 : Int32) * (9 : Int32)), .int p1, .ref 6]), (h, g, cw_R sv))) rfl (st_irem (by decide)) ?_
    refine rh_Ex.blk 2 (s' := ((20, [some (.ref 4), some (.int p0), some (.int p1), some (.int p2)], [.int (9 : Int32), .int p2, .int (p2 - p2 / (9 : Int32) * (9 : Int32)), .int p1, .ref 6]), (h, g, cw_R sv))) rfl ?_
    refine rh_Ex.stp (s' := ((21, [some (.ref 4), some (.int p0), some (.int p1), some (.int p2)], [.int (p2 / (9 : Int32)), .int (p2 - p2 / (9 : Int32) * (9 : Int32)), .int p1, .ref 6]), (h, g, cw_R sv))) rfl (st_idiv (by decide)) ?_
    refine rh_Ex.blk 1 (s' := ((22, [some (.ref 4), some (.int p0), some (.int p1), some (.int p2)], [.int p0, .int (p2 / (9 : Int32)), .int (p2 - p2 / (9 : Int32) * (9 : Int32)), .int p1, .ref 6]), (h, g, cw_R sv))) rfl ?_
    obtain ⟨x2, hx2, hf⟩ := rh_bq hf
    refine rh_Ex.call (j := 38) (rc := some 4) [.ref 6, .int p1, .int (p2 - p2 / (9 : Int32) * (9 : Int32)), .int (p2 / (9 : Int32)), .int p0] [] (some (.int x2.1)) rfl rfl rfl (Nat.le_of_ble_eq_true rfl) (R_Ha_weigh d xx sv h g p1 (p2 - p2 / (9 : Int32) * (9 : Int32)) (p2 / (9 : Int32)) p0 hx2) ?_
    show rh_Ex _ _ _ ((25, [some (.ref 4), some (.int p0), some (.int p1), some (.int p2)], [.int x2.1]), (x2.2, g, cw_R sv)) _ _
    refine rh_Ex.blk 1 (s' := ((29, [some (.ref 4), some (.int p0), some (.int p1), some (.int p2)], [.int x2.1]), (x2.2, g, cw_R sv))) rfl ?_
    obtain rfl := Option.some.inj hf
    exact rh_Ex.ret rfl rfl
def b_Cr_together_5 (u1 : Int32) (u2 : Int32) : (Int32 × Int32 × (Nat → Nat → Int32)) → Option ((Int32 × Int32 × (Nat → Nat → Int32)) ⊕ (Int32 × (Nat → Nat → Int32))) := fun s5 =>
  if (s5.2.2 4 0) ≤ s5.2.1 then
    some (.inr (s5.1, s5.2.2))
  else
    if ((u1 >>> (s5.2.1 &&& 31)) &&& (1 : Int32)) = 0 then
      some (.inl (s5.1, s5.2.1 + (1 : Int32), s5.2.2))
    else
      (f_Cr_weightAt s5.2.2 s5.2.1 u2).bind (fun x4 =>
        some (.inl (s5.1 + x4.1, s5.2.1 + (1 : Int32), x4.2))
      )
def f_Cr_together (h : Nat → Nat → Int32) (p0 : Int32) (p1 : Int32) : Option (Int32 × (Nat → Nat → Int32)) :=
  (rh_loop (b_Cr_together_5 p0 p1) rh_N ((0 : Int32), (0 : Int32), h)).bind (fun r5 =>
    some ((r5.1, r5.2))
  )
set_option maxRecDepth 20000 in
set_option maxHeartbeats 4000000 in
theorem lb_Cr_together_5 (d : Nat) (xx : rh_L) (sv : Option Nat) (u1 : Int32) (u2 : Int32) (g : Nat → Nat → Int64) (v9 : Option Value) (h9 : rh_H) : ∀ s5 x9, b_Cr_together_5 u1 u2 s5 = some x9 → Sum.elim (fun s5 => rh_Ex (rh_M rh_PT (cw_L ++ xx) (d + 3)) (cw_L ++ xx) pg_X0_together ((5, [some (.ref 4), some (.int u1), some (.int u2), some (.int s5.1), some (.int s5.2.1)], []), (s5.2.2, g, cw_R sv)) v9 h9) (fun e9 => rh_Ex (rh_M rh_PT (cw_L ++ xx) (d + 3)) (cw_L ++ xx) pg_X0_together ((39, [none, none, none, some (.int e9.1), none], []), (e9.2, g, cw_R sv)) v9 h9) x9 → rh_Ex (rh_M rh_PT (cw_L ++ xx) (d + 3)) (cw_L ++ xx) pg_X0_together ((5, [some (.ref 4), some (.int u1), some (.int u2), some (.int s5.1), some (.int s5.2.1)], []), (s5.2.2, g, cw_R sv)) v9 h9 := by
  intro s5 x9 hf hk
  unfold b_Cr_together_5 at hf
  refine rh_Ex.blk 3 (s' := ((11, [some (.ref 4), some (.int u1), some (.int u2), some (.int s5.1), some (.int s5.2.1)], [.int (s5.2.2 4 0), .int s5.2.1]), (s5.2.2, g, cw_R sv))) rfl ?_
  by_cases q2 : (s5.2.2 4 0) ≤ s5.2.1
  · rw [if_pos q2] at hf
    refine rh_Ex.stp (s' := ((39, [some (.ref 4), some (.int u1), some (.int u2), some (.int s5.1), some (.int s5.2.1)], []), (s5.2.2, g, cw_R sv))) rfl (st_icge_p q2) ?_
    obtain rfl := Option.some.inj hf
    refine rh_Ex.fgt [none, none, none, some (.int s5.1), none] ⟨rfl, trivial⟩ ?_
    exact hk
  · rw [if_neg q2] at hf
    refine rh_Ex.stp (s' := ((14, [some (.ref 4), some (.int u1), some (.int u2), some (.int s5.1), some (.int s5.2.1)], []), (s5.2.2, g, cw_R sv))) rfl (st_icge_n q2) ?_
    refine rh_Ex.blk 5 (s' := ((20, [some (.ref 4), some (.int u1), some (.int u2), some (.int s5.1), some (.int s5.2.1)], [.int ((u1 >>> (s5.2.1 &&& 31)) &&& (1 : Int32))]), (s5.2.2, g, cw_R sv))) rfl ?_
    by_cases q3 : ((u1 >>> (s5.2.1 &&& 31)) &&& (1 : Int32)) = 0
    · rw [if_pos q3] at hf
      refine rh_Ex.stp (s' := ((33, [some (.ref 4), some (.int u1), some (.int u2), some (.int s5.1), some (.int s5.2.1)], []), (s5.2.2, g, cw_R sv))) rfl (st_ifeq_p q3) ?_
      refine rh_Ex.blk 2 (s' := ((5, [some (.ref 4), some (.int u1), some (.int u2), some (.int s5.1), some (.int (s5.2.1 + (1 : Int32)))], []), (s5.2.2, g, cw_R sv))) rfl ?_
      obtain rfl := Option.some.inj hf
      refine rh_Ex.fgt [some (.ref 4), some (.int u1), some (.int u2), some (.int s5.1), some (.int (s5.2.1 + (1 : Int32)))] ⟨rfl, rfl, rfl, rfl, rfl, trivial⟩ ?_
      exact hk
    · rw [if_neg q3] at hf
      refine rh_Ex.stp (s' := ((23, [some (.ref 4), some (.int u1), some (.int u2), some (.int s5.1), some (.int s5.2.1)], []), (s5.2.2, g, cw_R sv))) rfl (st_ifeq_n q3) ?_
      refine rh_Ex.blk 4 (s' := ((28, [some (.ref 4), some (.int u1), some (.int u2), some (.int s5.1), some (.int s5.2.1)], [.int u2, .int s5.2.1, .ref 4, .int s5.1]), (s5.2.2, g, cw_R sv))) rfl ?_
      obtain ⟨x4, hx4, hf⟩ := rh_bq hf
      refine rh_Ex.call (j := 5) (rc := some 0) [.ref 4, .int s5.2.1, .int u2] [.int s5.1] (some (.int x4.1)) rfl rfl rfl (Nat.le_of_ble_eq_true rfl) (R_Cr_weightAt d xx sv s5.2.2 g s5.2.1 u2 hx4) ?_
      show rh_Ex _ _ _ ((31, [some (.ref 4), some (.int u1), some (.int u2), some (.int s5.1), some (.int s5.2.1)], [.int x4.1, .int s5.1]), (x4.2, g, cw_R sv)) _ _
      refine rh_Ex.blk 4 (s' := ((5, [some (.ref 4), some (.int u1), some (.int u2), some (.int (s5.1 + x4.1)), some (.int (s5.2.1 + (1 : Int32)))], []), (x4.2, g, cw_R sv))) rfl ?_
      obtain rfl := Option.some.inj hf
      refine rh_Ex.fgt [some (.ref 4), some (.int u1), some (.int u2), some (.int (s5.1 + x4.1)), some (.int (s5.2.1 + (1 : Int32)))] ⟨rfl, rfl, rfl, rfl, rfl, trivial⟩ ?_
      exact hk
set_option maxRecDepth 20000 in
set_option maxHeartbeats 4000000 in
theorem R_Cr_together (d : Nat) (xx : rh_L) (sv : Option Nat) (h : Nat → Nat → Int32) (g : Nat → Nat → Int64) (p0 : Int32) (p1 : Int32) {z9 : Int32 × (Nat → Nat → Int32)} (hf : f_Cr_together h p0 p1 = some z9) : rh_M rh_PT (cw_L ++ xx) (d + 4) 7 [.ref 4, .int p0, .int p1] (h, g, cw_R sv) (some (.int z9.1)) (z9.2, g, cw_R sv) := by
  unfold f_Cr_together at hf
  refine rh_go pt_7 (Nat.le_of_ble_eq_true rfl) (lv := [some (.ref 4), some (.int p0), some (.int p1), none, none]) rfl ?_
  refine rh_Ex.blk 4 (s' := ((5, [some (.ref 4), some (.int p0), some (.int p1), some (.int (0 : Int32)), some (.int (0 : Int32))], []), (h, g, cw_R sv))) rfl ?_
  obtain ⟨r5, hr5, hf⟩ := rh_bq hf
  refine rh_Ex.fgt [some (.ref 4), some (.int p0), some (.int p1), some (.int (0 : Int32)), some (.int (0 : Int32))] ⟨rfl, rfl, rfl, rfl, rfl, trivial⟩ ?_
  refine rh_Ex.loop _ _ _ (lb_Cr_together_5 d xx sv p0 p1  g _ _) rh_N _ r5 hr5 ?_
  refine rh_Ex.blk 1 (s' := ((40, [none, none, none, some (.int r5.1), none], [.int r5.1]), (r5.2, g, cw_R sv))) rfl ?_
  obtain rfl := Option.some.inj hf
  exact rh_Ex.ret rfl rfl
def b_Cr_sumAll_32 (u1 : Int32) (u2 : Int32) (u3 : Int32) (u4 : Int32) : (Int32 × (Nat → Nat → Int32)) → Option ((Int32 × (Nat → Nat → Int32)) ⊕ ((Nat → Nat → Int32))) := fun s32 =>
  if u3 ≤ s32.1 then
    some (.inr s32.2)
  else
    rh_g (0 ≤ s32.1.toInt ∧ s32.1.toInt < ((512 : Nat) : Int)) (
      rh_g (0 ≤ (u3 ||| s32.1).toInt ∧ (u3 ||| s32.1).toInt < ((512 : Nat) : Int)) (
        some (.inl (s32.1 + (1 : Int32), rh_up s32.2 12 (u3 ||| s32.1).toNatClampNeg ((s32.2 12 s32.1.toNatClampNeg) + u4)))
      )
    )
def b_Cr_sumAll_9 (u1 : Int32) : (Int32 × (Nat → Nat → Int32)) → Option ((Int32 × (Nat → Nat → Int32)) ⊕ ((Nat → Nat → Int32))) := fun s9 =>
  if (s9.2 4 0) ≤ s9.1 then
    some (.inr s9.2)
  else
    (f_Cr_weightAt s9.2 s9.1 u1).bind (fun x3 =>
      (rh_loop (b_Cr_sumAll_32 u1 s9.1 ((1 : Int32) <<< (s9.1 &&& 31)) x3.1) rh_N ((0 : Int32), x3.2)).bind (fun r8 =>
        some (.inl (s9.1 + (1 : Int32), r8))
      )
    )
def f_Cr_sumAll (h : Nat → Nat → Int32) (p0 : Int32) : Option ((Nat → Nat → Int32)) :=
  (rh_loop (b_Cr_sumAll_9 p0) rh_N ((0 : Int32), rh_up h 12 (0 : Int32).toNatClampNeg (0 : Int32))).bind (fun r9 =>
    some (r9)
  )
set_option maxRecDepth 20000 in
set_option maxHeartbeats 4000000 in
theorem lb_Cr_sumAll_32 (d : Nat) (xx : rh_L) (sv : Option Nat) (u1 : Int32) (u2 : Int32) (u3 : Int32) (u4 : Int32) (g : Nat → Nat → Int64) (v9 : Option Value) (h9 : rh_H) : ∀ s32 x9, b_Cr_sumAll_32 u1 u2 u3 u4 s32 = some x9 → Sum.elim (fun s32 => rh_Ex (rh_M rh_PT (cw_L ++ xx) (d + 3)) (cw_L ++ xx) pg_X0_sumAll ((32, [some (.ref 4), some (.int u1), some (.int u2), some (.int u3), some (.int u4), some (.int s32.1)], []), (s32.2, g, cw_R sv)) v9 h9) (fun e9 => rh_Ex (rh_M rh_PT (cw_L ++ xx) (d + 3)) (cw_L ++ xx) pg_X0_sumAll ((63, [some (.ref 4), some (.int u1), some (.int u2), none, none, none], []), (e9, g, cw_R sv)) v9 h9) x9 → rh_Ex (rh_M rh_PT (cw_L ++ xx) (d + 3)) (cw_L ++ xx) pg_X0_sumAll ((32, [some (.ref 4), some (.int u1), some (.int u2), some (.int u3), some (.int u4), some (.int s32.1)], []), (s32.2, g, cw_R sv)) v9 h9 := by
  intro s32 x9 hf hk
  unfold b_Cr_sumAll_32 at hf
  refine rh_Ex.blk 2 (s' := ((35, [some (.ref 4), some (.int u1), some (.int u2), some (.int u3), some (.int u4), some (.int s32.1)], [.int u3, .int s32.1]), (s32.2, g, cw_R sv))) rfl ?_
  by_cases q5 : u3 ≤ s32.1
  · rw [if_pos q5] at hf
    refine rh_Ex.stp (s' := ((63, [some (.ref 4), some (.int u1), some (.int u2), some (.int u3), some (.int u4), some (.int s32.1)], []), (s32.2, g, cw_R sv))) rfl (st_icge_p q5) ?_
    obtain rfl := Option.some.inj hf
    refine rh_Ex.fgt [some (.ref 4), some (.int u1), some (.int u2), none, none, none] ⟨rfl, rfl, rfl, trivial⟩ ?_
    exact hk
  · rw [if_neg q5] at hf
    refine rh_Ex.stp (s' := ((38, [some (.ref 4), some (.int u1), some (.int u2), some (.int u3), some (.int u4), some (.int s32.1)], []), (s32.2, g, cw_R sv))) rfl (st_icge_n q5) ?_
    refine rh_Ex.blk 8 (s' := ((52, [some (.ref 4), some (.int u1), some (.int u2), some (.int u3), some (.int u4), some (.int s32.1)], [.int s32.1, .ref 12, .int (u3 ||| s32.1), .ref 12]), (s32.2, g, cw_R sv))) rfl ?_
    obtain ⟨q6, hf⟩ := rh_gq hf
    refine rh_Ex.stp (s' := ((53, [some (.ref 4), some (.int u1), some (.int u2), some (.int u3), some (.int u4), some (.int s32.1)], [.int (s32.2 12 s32.1.toNatClampNeg), .int (u3 ||| s32.1), .ref 12]), (s32.2, g, cw_R sv))) rfl (st_iald (n := 512) rfl q6) ?_
    refine rh_Ex.blk 2 (s' := ((56, [some (.ref 4), some (.int u1), some (.int u2), some (.int u3), some (.int u4), some (.int s32.1)], [.int ((s32.2 12 s32.1.toNatClampNeg) + u4), .int (u3 ||| s32.1), .ref 12]), (s32.2, g, cw_R sv))) rfl ?_
    obtain ⟨q7, hf⟩ := rh_gq hf
    refine rh_Ex.stp (s' := ((57, [some (.ref 4), some (.int u1), some (.int u2), some (.int u3), some (.int u4), some (.int s32.1)], []), (rh_up s32.2 12 (u3 ||| s32.1).toNatClampNeg ((s32.2 12 s32.1.toNatClampNeg) + u4), g, cw_R sv))) rfl (st_iast (n := 512) rfl q7) ?_
    refine rh_Ex.blk 2 (s' := ((32, [some (.ref 4), some (.int u1), some (.int u2), some (.int u3), some (.int u4), some (.int (s32.1 + (1 : Int32)))], []), (rh_up s32.2 12 (u3 ||| s32.1).toNatClampNeg ((s32.2 12 s32.1.toNatClampNeg) + u4), g, cw_R sv))) rfl ?_
    obtain rfl := Option.some.inj hf
    refine rh_Ex.fgt [some (.ref 4), some (.int u1), some (.int u2), some (.int u3), some (.int u4), some (.int (s32.1 + (1 : Int32)))] ⟨rfl, rfl, rfl, rfl, rfl, rfl, trivial⟩ ?_
    exact hk
set_option maxRecDepth 20000 in
set_option maxHeartbeats 4000000 in
theorem lb_Cr_sumAll_9 (d : Nat) (xx : rh_L) (sv : Option Nat) (u1 : Int32) (g : Nat → Nat → Int64) (v9 : Option Value) (h9 : rh_H) : ∀ s9 x9, b_Cr_sumAll_9 u1 s9 = some x9 → Sum.elim (fun s9 => rh_Ex (rh_M rh_PT (cw_L ++ xx) (d + 3)) (cw_L ++ xx) pg_X0_sumAll ((9, [some (.ref 4), some (.int u1), some (.int s9.1), none, none, none], []), (s9.2, g, cw_R sv)) v9 h9) (fun e9 => rh_Ex (rh_M rh_PT (cw_L ++ xx) (d + 3)) (cw_L ++ xx) pg_X0_sumAll ((69, [none, none, none, none, none, none], []), (e9, g, cw_R sv)) v9 h9) x9 → rh_Ex (rh_M rh_PT (cw_L ++ xx) (d + 3)) (cw_L ++ xx) pg_X0_sumAll ((9, [some (.ref 4), some (.int u1), some (.int s9.1), none, none, none], []), (s9.2, g, cw_R sv)) v9 h9 := by
  intro s9 x9 hf hk
  unfold b_Cr_sumAll_9 at hf
  refine rh_Ex.blk 3 (s' := ((14, [some (.ref 4), some (.int u1), some (.int s9.1), none, none, none], [.int (s9.2 4 0), .int s9.1]), (s9.2, g, cw_R sv))) rfl ?_
  by_cases q2 : (s9.2 4 0) ≤ s9.1
  · rw [if_pos q2] at hf
    refine rh_Ex.stp (s' := ((69, [some (.ref 4), some (.int u1), some (.int s9.1), none, none, none], []), (s9.2, g, cw_R sv))) rfl (st_icge_p q2) ?_
    obtain rfl := Option.some.inj hf
    refine rh_Ex.fgt [none, none, none, none, none, none] trivial ?_
    exact hk
  · rw [if_neg q2] at hf
    refine rh_Ex.stp (s' := ((17, [some (.ref 4), some (.int u1), some (.int s9.1), none, none, none], []), (s9.2, g, cw_R sv))) rfl (st_icge_n q2) ?_
    refine rh_Ex.blk 7 (s' := ((24, [some (.ref 4), some (.int u1), some (.int s9.1), some (.int ((1 : Int32) <<< (s9.1 &&& 31))), none, none], [.int u1, .int s9.1, .ref 4]), (s9.2, g, cw_R sv))) rfl ?_
    obtain ⟨x3, hx3, hf⟩ := rh_bq hf
    refine rh_Ex.call (j := 5) (rc := some 0) [.ref 4, .int s9.1, .int u1] [] (some (.int x3.1)) rfl rfl rfl (Nat.le_of_ble_eq_true rfl) (R_Cr_weightAt d xx sv s9.2 g s9.1 u1 hx3) ?_
    show rh_Ex _ _ _ ((27, [some (.ref 4), some (.int u1), some (.int s9.1), some (.int ((1 : Int32) <<< (s9.1 &&& 31))), none, none], [.int x3.1]), (x3.2, g, cw_R sv)) _ _
    refine rh_Ex.blk 3 (s' := ((32, [some (.ref 4), some (.int u1), some (.int s9.1), some (.int ((1 : Int32) <<< (s9.1 &&& 31))), some (.int x3.1), some (.int (0 : Int32))], []), (x3.2, g, cw_R sv))) rfl ?_
    obtain ⟨r8, hr8, hf⟩ := rh_bq hf
    refine rh_Ex.fgt [some (.ref 4), some (.int u1), some (.int s9.1), some (.int ((1 : Int32) <<< (s9.1 &&& 31))), some (.int x3.1), some (.int (0 : Int32))] ⟨rfl, rfl, rfl, rfl, rfl, rfl, trivial⟩ ?_
    refine rh_Ex.loop _ _ _ (lb_Cr_sumAll_32 d xx sv u1 s9.1 ((1 : Int32) <<< (s9.1 &&& 31)) x3.1  g _ _) rh_N _ r8 hr8 ?_
    refine rh_Ex.blk 2 (s' := ((9, [some (.ref 4), some (.int u1), some (.int (s9.1 + (1 : Int32))), none, none, none], []), (r8, g, cw_R sv))) rfl ?_
    obtain rfl := Option.some.inj hf
    refine rh_Ex.fgt [some (.ref 4), some (.int u1), some (.int (s9.1 + (1 : Int32))), none, none, none] ⟨rfl, rfl, rfl, trivial⟩ ?_
    exact hk
set_option maxRecDepth 20000 in
set_option maxHeartbeats 4000000 in
theorem R_Cr_sumAll (d : Nat) (xx : rh_L) (sv : Option Nat) (h : Nat → Nat → Int32) (g : Nat → Nat → Int64) (p0 : Int32) {z9 : (Nat → Nat → Int32)} (hf : f_Cr_sumAll h p0 = some z9) : rh_M rh_PT (cw_L ++ xx) (d + 4) 8 [.ref 4, .int p0] (h, g, cw_R sv) none (z9, g, cw_R sv) := by
  unfold f_Cr_sumAll at hf
  refine rh_go pt_8 (Nat.le_of_ble_eq_true rfl) (lv := [some (.ref 4), some (.int p0), none, none, none, none]) rfl ?_
  refine rh_Ex.blk 4 (s' := ((6, [some (.ref 4), some (.int p0), none, none, none, none], [.int (0 : Int32), .int (0 : Int32), .ref 12]), (h, g, cw_R sv))) rfl ?_
  refine rh_Ex.stp (s' := ((7, [some (.ref 4), some (.int p0), none, none, none, none], []), (rh_up h 12 (0 : Int32).toNatClampNeg (0 : Int32), g, cw_R sv))) rfl (st_iast (n := 512) rfl (by decide)) ?_
  refine rh_Ex.blk 2 (s' := ((9, [some (.ref 4), some (.int p0), some (.int (0 : Int32)), none, none, none], []), (rh_up h 12 (0 : Int32).toNatClampNeg (0 : Int32), g, cw_R sv))) rfl ?_
  obtain ⟨r9, hr9, hf⟩ := rh_bq hf
  refine rh_Ex.fgt [some (.ref 4), some (.int p0), some (.int (0 : Int32)), none, none, none] ⟨rfl, rfl, rfl, trivial⟩ ?_
  refine rh_Ex.loop _ _ _ (lb_Cr_sumAll_9 d xx sv p0  g _ _) rh_N _ r9 hr9 ?_
  obtain rfl := Option.some.inj hf
  exact rh_Ex.ret rfl trivial
def f_Cr_narrowed (p0 : Int32) (p1 : Int32) : Int32 :=
  if ((0 : Int) = p0.toInt) then
    p1.toInt8.toInt32
  else
    if ((1 : Int) = p0.toInt) then
      p1.toInt16.toInt32
    else
      p1
set_option maxRecDepth 20000 in
set_option maxHeartbeats 4000000 in
theorem R_Cr_narrowed (d : Nat) (LL : rh_L) (rr : Nat → Nat → Option Nat) (h : Nat → Nat → Int32) (g : Nat → Nat → Int64) (p0 : Int32) (p1 : Int32) {z9 : Int32} (hf : f_Cr_narrowed p0 p1 = z9) : rh_M rh_PT LL (d + 1) 10 [.int p0, .int p1] (h, g, rr) (some (.int z9)) (h, g, rr) := by
  unfold f_Cr_narrowed at hf
  refine rh_go pt_10 (Nat.le_of_ble_eq_true rfl) (lv := [some (.int p0), some (.int p1)]) rfl ?_
  refine rh_Ex.blk 1 (s' := ((1, [some (.int p0), some (.int p1)], [.int p0]), (h, g, rr))) rfl ?_
  refine rh_Ex.stp (s' := ((rh_sw [(0, 28), (1, 31)] 34 p0, [some (.int p0), some (.int p1)], []), (h, g, rr))) rfl rfl ?_
  by_cases q1 : ((0 : Int) = p0.toInt)
  · rw [if_pos q1] at hf
    rw [rh_sw, if_pos (show (0 : Int) = p0.toInt from q1)]
    refine rh_Ex.blk 2 (s' := ((30, [some (.int p0), some (.int p1)], [.int p1.toInt8.toInt32]), (h, g, rr))) rfl ?_
    subst hf
    exact rh_Ex.ret rfl rfl
  · rw [if_neg q1] at hf
    rw [rh_sw, if_neg (show ¬ (0 : Int) = p0.toInt from q1)]
    by_cases q2 : ((1 : Int) = p0.toInt)
    · rw [if_pos q2] at hf
      rw [rh_sw, if_pos (show (1 : Int) = p0.toInt from q2)]
      refine rh_Ex.blk 2 (s' := ((33, [some (.int p0), some (.int p1)], [.int p1.toInt16.toInt32]), (h, g, rr))) rfl ?_
      subst hf
      exact rh_Ex.ret rfl rfl
    · rw [if_neg q2] at hf
      rw [rh_sw, if_neg (show ¬ (1 : Int) = p0.toInt from q2)]
      rw [rh_sw]
      refine rh_Ex.blk 1 (s' := ((35, [some (.int p0), some (.int p1)], [.int p1]), (h, g, rr))) rfl ?_
      subst hf
      exact rh_Ex.ret rfl rfl
def j_Cr_rebase_34 (h : Nat → Nat → Int32) (u1 : Int32) (u2 : Int32) (u4 : Int32) (j5 : Int32) (j6 : Int32) (j7 : Int32) (k0 : Int32) : Option ((Int32 × Int32 × Int32 × (Nat → Nat → Int32)) ⊕ (Int32 × (Nat → Nat → Int32))) :=
  rh_g (0 ≤ j7.toInt ∧ j7.toInt < ((9 : Nat) : Int)) (
    rh_g (0 ≤ j7.toInt ∧ j7.toInt < ((9 : Nat) : Int)) (
      some (.inl (j5 + ((rh_up h 5 j7.toNatClampNeg (if (1 : Int32) < (if k0 < (999 : Int32) then k0 else (999 : Int32)) then (if k0 < (999 : Int32) then k0 else (999 : Int32)) else (1 : Int32))) 5 j7.toNatClampNeg), j6 + u4, j7 + (1 : Int32), rh_up h 5 j7.toNatClampNeg (if (1 : Int32) < (if k0 < (999 : Int32) then k0 else (999 : Int32)) then (if k0 < (999 : Int32) then k0 else (999 : Int32)) else (1 : Int32))))
    )
  )
def b_Cr_rebase_9 (u1 : Int32) (u2 : Int32) (u4 : Int32) : (Int32 × Int32 × Int32 × (Nat → Nat → Int32)) → Option ((Int32 × Int32 × Int32 × (Nat → Nat → Int32)) ⊕ (Int32 × (Nat → Nat → Int32))) := fun s9 =>
  if (s9.2.2.2 4 0) ≤ s9.2.2.1 then
    some (.inr (s9.1, s9.2.2.2))
  else
    if u2 ≤ s9.2.2.1 then
      j_Cr_rebase_34 s9.2.2.2 u1 u2 u4 s9.1 s9.2.1 s9.2.2.1 (1 : Int32)
    else
      j_Cr_rebase_34 s9.2.2.2 u1 u2 u4 s9.1 s9.2.1 s9.2.2.1 (f_Cr_narrowed u1 s9.2.1)
def f_Cr_rebase (h : Nat → Nat → Int32) (p0 : Int32) (p1 : Int32) (p2 : Int32) (p3 : Int32) : Option (Int32 × (Nat → Nat → Int32)) :=
  (rh_loop (b_Cr_rebase_9 p0 p1 p3) rh_N ((0 : Int32), p2, (0 : Int32), h)).bind (fun r6 =>
    some ((r6.1, r6.2))
  )
set_option maxRecDepth 20000 in
set_option maxHeartbeats 4000000 in
theorem lj_Cr_rebase_34 (d : Nat) (xx : rh_L) (sv : Option Nat) (h : Nat → Nat → Int32) (u1 : Int32) (u2 : Int32) (u4 : Int32) (j5 : Int32) (j6 : Int32) (j7 : Int32) (k0 : Int32) (g : Nat → Nat → Int64) (v9 : Option Value) (h9 : rh_H) (x9 : (Int32 × Int32 × Int32 × (Nat → Nat → Int32)) ⊕ (Int32 × (Nat → Nat → Int32))) (hf : j_Cr_rebase_34 h u1 u2 u4 j5 j6 j7 k0 = some x9) (hk : Sum.elim (fun s9 => rh_Ex (rh_M rh_PT (cw_L ++ xx) (d + 1)) (cw_L ++ xx) pg_X0_rebase ((9, [some (.ref 4), some (.int u1), some (.int u2), none, some (.int u4), some (.int s9.1), some (.int s9.2.1), some (.int s9.2.2.1), none], []), (s9.2.2.2, g, cw_R sv)) v9 h9) (fun e9 => rh_Ex (rh_M rh_PT (cw_L ++ xx) (d + 1)) (cw_L ++ xx) pg_X0_rebase ((80, [none, none, none, none, none, some (.int e9.1), none, none, none], []), (e9.2, g, cw_R sv)) v9 h9) x9) : rh_Ex (rh_M rh_PT (cw_L ++ xx) (d + 1)) (cw_L ++ xx) pg_X0_rebase ((34, [some (.ref 4), some (.int u1), some (.int u2), none, some (.int u4), some (.int j5), some (.int j6), some (.int j7), none], [.int k0]), (h, g, cw_R sv)) v9 h9 := by
  unfold j_Cr_rebase_34 at hf
  refine rh_Ex.blk 7 (s' := ((48, [some (.ref 4), some (.int u1), some (.int u2), none, some (.int u4), some (.int j5), some (.int j6), some (.int j7), some (.int k0)], [.int k0, .int (999 : Int32), .int (1 : Int32), .int j7, .ref 5]), (h, g, cw_R sv))) rfl ?_
  refine rh_Ex.stp (s' := ((51, [some (.ref 4), some (.int u1), some (.int u2), none, some (.int u4), some (.int j5), some (.int j6), some (.int j7), some (.int k0)], [.int (if k0 < (999 : Int32) then k0 else (999 : Int32)), .int (1 : Int32), .int j7, .ref 5]), (h, g, cw_R sv))) rfl (st_mmin (Nat.le_of_ble_eq_true rfl)) ?_
  refine rh_Ex.stp (s' := ((54, [some (.ref 4), some (.int u1), some (.int u2), none, some (.int u4), some (.int j5), some (.int j6), some (.int j7), some (.int k0)], [.int (if (1 : Int32) < (if k0 < (999 : Int32) then k0 else (999 : Int32)) then (if k0 < (999 : Int32) then k0 else (999 : Int32)) else (1 : Int32)), .int j7, .ref 5]), (h, g, cw_R sv))) rfl (st_mmax (Nat.le_of_ble_eq_true rfl)) ?_
  obtain ⟨q4, hf⟩ := rh_gq hf
  refine rh_Ex.stp (s' := ((55, [some (.ref 4), some (.int u1), some (.int u2), none, some (.int u4), some (.int j5), some (.int j6), some (.int j7), some (.int k0)], []), (rh_up h 5 j7.toNatClampNeg (if (1 : Int32) < (if k0 < (999 : Int32) then k0 else (999 : Int32)) then (if k0 < (999 : Int32) then k0 else (999 : Int32)) else (1 : Int32)), g, cw_R sv))) rfl (st_iast (n := 9) rfl q4) ?_
  refine rh_Ex.blk 4 (s' := ((63, [some (.ref 4), some (.int u1), some (.int u2), none, some (.int u4), some (.int j5), some (.int j6), some (.int j7), some (.int k0)], [.int j7, .ref 5, .int j5]), (rh_up h 5 j7.toNatClampNeg (if (1 : Int32) < (if k0 < (999 : Int32) then k0 else (999 : Int32)) then (if k0 < (999 : Int32) then k0 else (999 : Int32)) else (1 : Int32)), g, cw_R sv))) rfl ?_
  obtain ⟨q5, hf⟩ := rh_gq hf
  refine rh_Ex.stp (s' := ((64, [some (.ref 4), some (.int u1), some (.int u2), none, some (.int u4), some (.int j5), some (.int j6), some (.int j7), some (.int k0)], [.int ((rh_up h 5 j7.toNatClampNeg (if (1 : Int32) < (if k0 < (999 : Int32) then k0 else (999 : Int32)) then (if k0 < (999 : Int32) then k0 else (999 : Int32)) else (1 : Int32))) 5 j7.toNatClampNeg), .int j5]), (rh_up h 5 j7.toNatClampNeg (if (1 : Int32) < (if k0 < (999 : Int32) then k0 else (999 : Int32)) then (if k0 < (999 : Int32) then k0 else (999 : Int32)) else (1 : Int32)), g, cw_R sv))) rfl (st_iald (n := 9) rfl q5) ?_
  refine rh_Ex.blk 8 (s' := ((9, [some (.ref 4), some (.int u1), some (.int u2), none, some (.int u4), some (.int (j5 + ((rh_up h 5 j7.toNatClampNeg (if (1 : Int32) < (if k0 < (999 : Int32) then k0 else (999 : Int32)) then (if k0 < (999 : Int32) then k0 else (999 : Int32)) else (1 : Int32))) 5 j7.toNatClampNeg))), some (.int (j6 + u4)), some (.int (j7 + (1 : Int32))), some (.int k0)], []), (rh_up h 5 j7.toNatClampNeg (if (1 : Int32) < (if k0 < (999 : Int32) then k0 else (999 : Int32)) then (if k0 < (999 : Int32) then k0 else (999 : Int32)) else (1 : Int32)), g, cw_R sv))) rfl ?_
  obtain rfl := Option.some.inj hf
  refine rh_Ex.fgt [some (.ref 4), some (.int u1), some (.int u2), none, some (.int u4), some (.int (j5 + ((rh_up h 5 j7.toNatClampNeg (if (1 : Int32) < (if k0 < (999 : Int32) then k0 else (999 : Int32)) then (if k0 < (999 : Int32) then k0 else (999 : Int32)) else (1 : Int32))) 5 j7.toNatClampNeg))), some (.int (j6 + u4)), some (.int (j7 + (1 : Int32))), none] ⟨rfl, rfl, rfl, rfl, rfl, rfl, rfl, trivial⟩ ?_
  exact hk
set_option maxRecDepth 20000 in
set_option maxHeartbeats 4000000 in
theorem lb_Cr_rebase_9 (d : Nat) (xx : rh_L) (sv : Option Nat) (u1 : Int32) (u2 : Int32) (u4 : Int32) (g : Nat → Nat → Int64) (v9 : Option Value) (h9 : rh_H) : ∀ s9 x9, b_Cr_rebase_9 u1 u2 u4 s9 = some x9 → Sum.elim (fun s9 => rh_Ex (rh_M rh_PT (cw_L ++ xx) (d + 1)) (cw_L ++ xx) pg_X0_rebase ((9, [some (.ref 4), some (.int u1), some (.int u2), none, some (.int u4), some (.int s9.1), some (.int s9.2.1), some (.int s9.2.2.1), none], []), (s9.2.2.2, g, cw_R sv)) v9 h9) (fun e9 => rh_Ex (rh_M rh_PT (cw_L ++ xx) (d + 1)) (cw_L ++ xx) pg_X0_rebase ((80, [none, none, none, none, none, some (.int e9.1), none, none, none], []), (e9.2, g, cw_R sv)) v9 h9) x9 → rh_Ex (rh_M rh_PT (cw_L ++ xx) (d + 1)) (cw_L ++ xx) pg_X0_rebase ((9, [some (.ref 4), some (.int u1), some (.int u2), none, some (.int u4), some (.int s9.1), some (.int s9.2.1), some (.int s9.2.2.1), none], []), (s9.2.2.2, g, cw_R sv)) v9 h9 := by
  intro s9 x9 hf hk
  unfold b_Cr_rebase_9 at hf
  refine rh_Ex.blk 3 (s' := ((15, [some (.ref 4), some (.int u1), some (.int u2), none, some (.int u4), some (.int s9.1), some (.int s9.2.1), some (.int s9.2.2.1), none], [.int (s9.2.2.2 4 0), .int s9.2.2.1]), (s9.2.2.2, g, cw_R sv))) rfl ?_
  by_cases q2 : (s9.2.2.2 4 0) ≤ s9.2.2.1
  · rw [if_pos q2] at hf
    refine rh_Ex.stp (s' := ((80, [some (.ref 4), some (.int u1), some (.int u2), none, some (.int u4), some (.int s9.1), some (.int s9.2.1), some (.int s9.2.2.1), none], []), (s9.2.2.2, g, cw_R sv))) rfl (st_icge_p q2) ?_
    obtain rfl := Option.some.inj hf
    refine rh_Ex.fgt [none, none, none, none, none, some (.int s9.1), none, none, none] ⟨rfl, trivial⟩ ?_
    exact hk
  · rw [if_neg q2] at hf
    refine rh_Ex.stp (s' := ((18, [some (.ref 4), some (.int u1), some (.int u2), none, some (.int u4), some (.int s9.1), some (.int s9.2.1), some (.int s9.2.2.1), none], []), (s9.2.2.2, g, cw_R sv))) rfl (st_icge_n q2) ?_
    refine rh_Ex.blk 2 (s' := ((21, [some (.ref 4), some (.int u1), some (.int u2), none, some (.int u4), some (.int s9.1), some (.int s9.2.1), some (.int s9.2.2.1), none], [.int u2, .int s9.2.2.1]), (s9.2.2.2, g, cw_R sv))) rfl ?_
    by_cases q3 : u2 ≤ s9.2.2.1
    · rw [if_pos q3] at hf
      refine rh_Ex.stp (s' := ((33, [some (.ref 4), some (.int u1), some (.int u2), none, some (.int u4), some (.int s9.1), some (.int s9.2.1), some (.int s9.2.2.1), none], []), (s9.2.2.2, g, cw_R sv))) rfl (st_icge_p q3) ?_
      refine rh_Ex.blk 1 (s' := ((34, [some (.ref 4), some (.int u1), some (.int u2), none, some (.int u4), some (.int s9.1), some (.int s9.2.1), some (.int s9.2.2.1), none], [.int (1 : Int32)]), (s9.2.2.2, g, cw_R sv))) rfl ?_
      refine rh_Ex.fgt [some (.ref 4), some (.int u1), some (.int u2), none, some (.int u4), some (.int s9.1), some (.int s9.2.1), some (.int s9.2.2.1), none] ⟨rfl, rfl, rfl, rfl, rfl, rfl, rfl, trivial⟩ ?_
      exact lj_Cr_rebase_34 d xx sv s9.2.2.2 u1 u2 u4 s9.1 s9.2.1 s9.2.2.1 (1 : Int32) g _ _ _ hf hk
    · rw [if_neg q3] at hf
      refine rh_Ex.stp (s' := ((24, [some (.ref 4), some (.int u1), some (.int u2), none, some (.int u4), some (.int s9.1), some (.int s9.2.1), some (.int s9.2.2.1), none], []), (s9.2.2.2, g, cw_R sv))) rfl (st_icge_n q3) ?_
      refine rh_Ex.blk 2 (s' := ((27, [some (.ref 4), some (.int u1), some (.int u2), none, some (.int u4), some (.int s9.1), some (.int s9.2.1), some (.int s9.2.2.1), none], [.int s9.2.1, .int u1]), (s9.2.2.2, g, cw_R sv))) rfl ?_
      refine rh_Ex.call (j := 10) (rc := none) [.int u1, .int s9.2.1] [] (some (.int (f_Cr_narrowed u1 s9.2.1))) rfl rfl trivial (Nat.le_of_ble_eq_true rfl) (R_Cr_narrowed d (cw_L ++ xx) (cw_R sv) s9.2.2.2 g u1 s9.2.1 rfl) ?_
      show rh_Ex _ _ _ ((30, [some (.ref 4), some (.int u1), some (.int u2), none, some (.int u4), some (.int s9.1), some (.int s9.2.1), some (.int s9.2.2.1), none], [.int (f_Cr_narrowed u1 s9.2.1)]), (s9.2.2.2, g, cw_R sv)) _ _
      refine rh_Ex.blk 1 (s' := ((34, [some (.ref 4), some (.int u1), some (.int u2), none, some (.int u4), some (.int s9.1), some (.int s9.2.1), some (.int s9.2.2.1), none], [.int (f_Cr_narrowed u1 s9.2.1)]), (s9.2.2.2, g, cw_R sv))) rfl ?_
      refine rh_Ex.fgt [some (.ref 4), some (.int u1), some (.int u2), none, some (.int u4), some (.int s9.1), some (.int s9.2.1), some (.int s9.2.2.1), none] ⟨rfl, rfl, rfl, rfl, rfl, rfl, rfl, trivial⟩ ?_
      exact lj_Cr_rebase_34 d xx sv s9.2.2.2 u1 u2 u4 s9.1 s9.2.1 s9.2.2.1 (f_Cr_narrowed u1 s9.2.1) g _ _ _ hf hk
set_option maxRecDepth 20000 in
set_option maxHeartbeats 4000000 in
theorem R_Cr_rebase (d : Nat) (xx : rh_L) (sv : Option Nat) (h : Nat → Nat → Int32) (g : Nat → Nat → Int64) (p0 : Int32) (p1 : Int32) (p2 : Int32) (p3 : Int32) {z9 : Int32 × (Nat → Nat → Int32)} (hf : f_Cr_rebase h p0 p1 p2 p3 = some z9) : rh_M rh_PT (cw_L ++ xx) (d + 2) 9 [.ref 4, .int p0, .int p1, .int p2, .int p3] (h, g, cw_R sv) (some (.int z9.1)) (z9.2, g, cw_R sv) := by
  unfold f_Cr_rebase at hf
  refine rh_go pt_9 (Nat.le_of_ble_eq_true rfl) (lv := [some (.ref 4), some (.int p0), some (.int p1), some (.int p2), some (.int p3), none, none, none, none]) rfl ?_
  refine rh_Ex.blk 6 (s' := ((9, [some (.ref 4), some (.int p0), some (.int p1), some (.int p2), some (.int p3), some (.int (0 : Int32)), some (.int p2), some (.int (0 : Int32)), none], []), (h, g, cw_R sv))) rfl ?_
  obtain ⟨r6, hr6, hf⟩ := rh_bq hf
  refine rh_Ex.fgt [some (.ref 4), some (.int p0), some (.int p1), none, some (.int p3), some (.int (0 : Int32)), some (.int p2), some (.int (0 : Int32)), none] ⟨rfl, rfl, rfl, rfl, rfl, rfl, rfl, trivial⟩ ?_
  refine rh_Ex.loop _ _ _ (lb_Cr_rebase_9 d xx sv p0 p1 p3  g _ _) rh_N _ r6 hr6 ?_
  refine rh_Ex.blk 1 (s' := ((82, [none, none, none, none, none, some (.int r6.1), none, none, none], [.int r6.1]), (r6.2, g, cw_R sv))) rfl ?_
  obtain rfl := Option.some.inj hf
  exact rh_Ex.ret rfl rfl
def f_Dr_begin (h : Nat → Nat → Int32) : (Nat → Nat → Int32) :=
  (rh_up (rh_up h 21 3 (0 : Int32)) 21 4 (0 : Int32))
set_option maxRecDepth 20000 in
set_option maxHeartbeats 4000000 in
theorem R_Dr_begin (d : Nat) (xx : rh_L) (sv : Option Nat) (h : Nat → Nat → Int32) (g : Nat → Nat → Int64)  {z9 : (Nat → Nat → Int32)} (hf : f_Dr_begin h = z9) : rh_M rh_PT (cw_L ++ xx) (d + 1) 11 [.ref 21] (h, g, cw_R sv) none (z9, g, cw_R sv) := by
  unfold f_Dr_begin at hf
  refine rh_go pt_11 (Nat.le_of_ble_eq_true rfl) (lv := [some (.ref 21)]) rfl ?_
  refine rh_Ex.blk 6 (s' := ((10, [some (.ref 21)], []), (rh_up (rh_up h 21 3 (0 : Int32)) 21 4 (0 : Int32), g, cw_R sv))) rfl ?_
  subst hf
  exact rh_Ex.ret rfl trivial
def f_Dr_canEnd (h : Nat → Nat → Int32) : Int32 :=
  if (h 21 4) = (5 : Int32) then
    (1 : Int32)
  else
    if (h 21 4) = (1 : Int32) then
      if (h 21 5) ≤ 0 then
        (0 : Int32)
      else
        (1 : Int32)
    else
      (0 : Int32)
set_option maxRecDepth 20000 in
set_option maxHeartbeats 4000000 in
theorem R_Dr_canEnd (d : Nat) (xx : rh_L) (sv : Option Nat) (h : Nat → Nat → Int32) (g : Nat → Nat → Int64)  {z9 : Int32} (hf : f_Dr_canEnd h = z9) : rh_M rh_PT (cw_L ++ xx) (d + 1) 12 [.ref 21] (h, g, cw_R sv) (some (.int z9)) (h, g, cw_R sv) := by
  unfold f_Dr_canEnd at hf
  refine rh_go pt_12 (Nat.le_of_ble_eq_true rfl) (lv := [some (.ref 21)]) rfl ?_
  refine rh_Ex.blk 3 (s' := ((5, [some (.ref 21)], [.int (5 : Int32), .int (h 21 4)]), (h, g, cw_R sv))) rfl ?_
  by_cases q1 : (h 21 4) = (5 : Int32)
  · rw [if_pos q1] at hf
    refine rh_Ex.stp (s' := ((23, [some (.ref 21)], []), (h, g, cw_R sv))) rfl (st_iceq_p q1) ?_
    refine rh_Ex.blk 2 (s' := ((28, [some (.ref 21)], [.int (1 : Int32)]), (h, g, cw_R sv))) rfl ?_
    subst hf
    exact rh_Ex.ret rfl ⟨rfl, Or.inr rfl⟩
  · rw [if_neg q1] at hf
    refine rh_Ex.stp (s' := ((8, [some (.ref 21)], []), (h, g, cw_R sv))) rfl (st_iceq_n q1) ?_
    refine rh_Ex.blk 3 (s' := ((13, [some (.ref 21)], [.int (1 : Int32), .int (h 21 4)]), (h, g, cw_R sv))) rfl ?_
    by_cases q2 : (h 21 4) = (1 : Int32)
    · rw [if_pos q2] at hf
      refine rh_Ex.stp (s' := ((16, [some (.ref 21)], []), (h, g, cw_R sv))) rfl (st_icne_p q2) ?_
      refine rh_Ex.blk 2 (s' := ((20, [some (.ref 21)], [.int (h 21 5)]), (h, g, cw_R sv))) rfl ?_
      by_cases q3 : (h 21 5) ≤ 0
      · rw [if_pos q3] at hf
        refine rh_Ex.stp (s' := ((27, [some (.ref 21)], []), (h, g, cw_R sv))) rfl (st_ifle_p q3) ?_
        refine rh_Ex.blk 1 (s' := ((28, [some (.ref 21)], [.int (0 : Int32)]), (h, g, cw_R sv))) rfl ?_
        subst hf
        exact rh_Ex.ret rfl ⟨rfl, Or.inl rfl⟩
      · rw [if_neg q3] at hf
        refine rh_Ex.stp (s' := ((23, [some (.ref 21)], []), (h, g, cw_R sv))) rfl (st_ifle_n q3) ?_
        refine rh_Ex.blk 2 (s' := ((28, [some (.ref 21)], [.int (1 : Int32)]), (h, g, cw_R sv))) rfl ?_
        subst hf
        exact rh_Ex.ret rfl ⟨rfl, Or.inr rfl⟩
    · rw [if_neg q2] at hf
      refine rh_Ex.stp (s' := ((27, [some (.ref 21)], []), (h, g, cw_R sv))) rfl (st_icne_n q2) ?_
      refine rh_Ex.blk 1 (s' := ((28, [some (.ref 21)], [.int (0 : Int32)]), (h, g, cw_R sv))) rfl ?_
      subst hf
      exact rh_Ex.ret rfl ⟨rfl, Or.inl rfl⟩
def j_Dr_takesKind_29 (h : Nat → Nat → Int32) (p0 : Int32) (k0 : Int32) : Option (Int32 × (Nat → Nat → Int32)) :=
  if k0 = 0 then
    some (((0 : Int32), h))
  else
    if (h 21 3) < (24 : Int32) then
      rh_g (0 ≤ (h 21 3).toInt ∧ (h 21 3).toInt < ((24 : Nat) : Int)) (
        rh_g (0 ≤ (h 21 3).toInt ∧ (h 21 3).toInt < ((24 : Nat) : Int)) (
          rh_g (0 ≤ (h 21 3).toInt ∧ (h 21 3).toInt < ((24 : Nat) : Int)) (
            if p0 = (114 : Int32) then
              some (((1 : Int32), rh_up (rh_up (rh_up (rh_up (rh_up (rh_up (rh_up h 22 (h 21 3).toNatClampNeg p0) 23 (h 21 3).toNatClampNeg (0 : Int32)) 24 (h 21 3).toNatClampNeg (0 : Int32)) 21 3 ((h 21 3) + (1 : Int32))) 21 5 (0 : Int32)) 21 6 (0 : Int32)) 21 4 (1 : Int32)))
            else
              some (((1 : Int32), rh_up (rh_up (rh_up (rh_up (rh_up (rh_up (rh_up h 22 (h 21 3).toNatClampNeg p0) 23 (h 21 3).toNatClampNeg (0 : Int32)) 24 (h 21 3).toNatClampNeg (0 : Int32)) 21 3 ((h 21 3) + (1 : Int32))) 21 5 (0 : Int32)) 21 6 (0 : Int32)) 21 4 (2 : Int32)))
          )
        )
      )
    else
      some (((0 : Int32), h))
def j_Dr_takesKind_24 (h : Nat → Nat → Int32) (p0 : Int32) : Option (Int32 × (Nat → Nat → Int32)) :=
  j_Dr_takesKind_29 h p0 (1 : Int32)
def f_Dr_takesKind (h : Nat → Nat → Int32) (p0 : Int32) : Option (Int32 × (Nat → Nat → Int32)) :=
  if p0 = (114 : Int32) then
    j_Dr_takesKind_24 h p0
  else
    if p0 = (98 : Int32) then
      j_Dr_takesKind_24 h p0
    else
      if p0 = (111 : Int32) then
        j_Dr_takesKind_24 h p0
      else
        if p0 = (115 : Int32) then
          j_Dr_takesKind_24 h p0
        else
          j_Dr_takesKind_29 h p0 (0 : Int32)
set_option maxRecDepth 20000 in
set_option maxHeartbeats 4000000 in
theorem lj_Dr_takesKind_29 (d : Nat) (xx : rh_L) (sv : Option Nat) (h : Nat → Nat → Int32) (p0 : Int32) (k0 : Int32) (g : Nat → Nat → Int64) {z9 : Int32 × (Nat → Nat → Int32)} (hf : j_Dr_takesKind_29 h p0 k0 = some z9) : rh_Ex (rh_M rh_PT (cw_L ++ xx) (d + 0)) (cw_L ++ xx) pg_X1_takesKind ((29, [some (.ref 21), some (.int p0), none], [.int k0]), (h, g, cw_R sv)) (some (.int z9.1)) (z9.2, g, cw_R sv) := by
  unfold j_Dr_takesKind_29 at hf
  refine rh_Ex.blk 2 (s' := ((31, [some (.ref 21), some (.int p0), some (.int k0)], [.int k0]), (h, g, cw_R sv))) rfl ?_
  by_cases q2 : k0 = 0
  · rw [if_pos q2] at hf
    refine rh_Ex.stp (s' := ((43, [some (.ref 21), some (.int p0), some (.int k0)], []), (h, g, cw_R sv))) rfl (st_ifeq_p q2) ?_
    refine rh_Ex.blk 1 (s' := ((44, [some (.ref 21), some (.int p0), some (.int k0)], [.int (0 : Int32)]), (h, g, cw_R sv))) rfl ?_
    obtain rfl := Option.some.inj hf
    exact rh_Ex.ret rfl ⟨rfl, Or.inl rfl⟩
  · rw [if_neg q2] at hf
    refine rh_Ex.stp (s' := ((34, [some (.ref 21), some (.int p0), some (.int k0)], []), (h, g, cw_R sv))) rfl (st_ifeq_n q2) ?_
    refine rh_Ex.blk 3 (s' := ((40, [some (.ref 21), some (.int p0), some (.int k0)], [.int (24 : Int32), .int (h 21 3)]), (h, g, cw_R sv))) rfl ?_
    by_cases q3 : (h 21 3) < (24 : Int32)
    · rw [if_pos q3] at hf
      refine rh_Ex.stp (s' := ((45, [some (.ref 21), some (.int p0), some (.int k0)], []), (h, g, cw_R sv))) rfl (st_iclt_p q3) ?_
      refine rh_Ex.blk 5 (s' := ((54, [some (.ref 21), some (.int p0), some (.int k0)], [.int p0, .int (h 21 3), .ref 22]), (h, g, cw_R sv))) rfl ?_
      obtain ⟨q4, hf⟩ := rh_gq hf
      refine rh_Ex.stp (s' := ((55, [some (.ref 21), some (.int p0), some (.int k0)], []), (rh_up h 22 (h 21 3).toNatClampNeg p0, g, cw_R sv))) rfl (st_iast (n := 24) rfl q4) ?_
      refine rh_Ex.blk 5 (s' := ((64, [some (.ref 21), some (.int p0), some (.int k0)], [.int (0 : Int32), .int (h 21 3), .ref 23]), (rh_up h 22 (h 21 3).toNatClampNeg p0, g, cw_R sv))) rfl ?_
      obtain ⟨q5, hf⟩ := rh_gq hf
      refine rh_Ex.stp (s' := ((65, [some (.ref 21), some (.int p0), some (.int k0)], []), (rh_up (rh_up h 22 (h 21 3).toNatClampNeg p0) 23 (h 21 3).toNatClampNeg (0 : Int32), g, cw_R sv))) rfl (st_iast (n := 24) rfl q5) ?_
      refine rh_Ex.blk 5 (s' := ((74, [some (.ref 21), some (.int p0), some (.int k0)], [.int (0 : Int32), .int (h 21 3), .ref 24]), (rh_up (rh_up h 22 (h 21 3).toNatClampNeg p0) 23 (h 21 3).toNatClampNeg (0 : Int32), g, cw_R sv))) rfl ?_
      obtain ⟨q6, hf⟩ := rh_gq hf
      refine rh_Ex.stp (s' := ((75, [some (.ref 21), some (.int p0), some (.int k0)], []), (rh_up (rh_up (rh_up h 22 (h 21 3).toNatClampNeg p0) 23 (h 21 3).toNatClampNeg (0 : Int32)) 24 (h 21 3).toNatClampNeg (0 : Int32), g, cw_R sv))) rfl (st_iast (n := 24) rfl q6) ?_
      refine rh_Ex.blk 11 (s' := ((92, [some (.ref 21), some (.int p0), some (.int k0)], [.int (0 : Int32), .ref 21]), (rh_up (rh_up (rh_up (rh_up (rh_up h 22 (h 21 3).toNatClampNeg p0) 23 (h 21 3).toNatClampNeg (0 : Int32)) 24 (h 21 3).toNatClampNeg (0 : Int32)) 21 3 ((h 21 3) + (1 : Int32))) 21 5 (0 : Int32), g, cw_R sv))) rfl ?_
      refine rh_Ex.stp (s' := ((95, [some (.ref 21), some (.int p0), some (.int k0)], []), (rh_up (rh_up (rh_up (rh_up (rh_up (rh_up h 22 (h 21 3).toNatClampNeg p0) 23 (h 21 3).toNatClampNeg (0 : Int32)) 24 (h 21 3).toNatClampNeg (0 : Int32)) 21 3 ((h 21 3) + (1 : Int32))) 21 5 (0 : Int32)) 21 6 (0 : Int32), g, cw_R sv))) rfl (st_putZ rfl (Or.inl rfl)) ?_
      refine rh_Ex.blk 3 (s' := ((99, [some (.ref 21), some (.int p0), some (.int k0)], [.int (114 : Int32), .int p0, .ref 21]), (rh_up (rh_up (rh_up (rh_up (rh_up (rh_up h 22 (h 21 3).toNatClampNeg p0) 23 (h 21 3).toNatClampNeg (0 : Int32)) 24 (h 21 3).toNatClampNeg (0 : Int32)) 21 3 ((h 21 3) + (1 : Int32))) 21 5 (0 : Int32)) 21 6 (0 : Int32), g, cw_R sv))) rfl ?_
      by_cases q7 : p0 = (114 : Int32)
      · rw [if_pos q7] at hf
        refine rh_Ex.stp (s' := ((102, [some (.ref 21), some (.int p0), some (.int k0)], [.ref 21]), (rh_up (rh_up (rh_up (rh_up (rh_up (rh_up h 22 (h 21 3).toNatClampNeg p0) 23 (h 21 3).toNatClampNeg (0 : Int32)) 24 (h 21 3).toNatClampNeg (0 : Int32)) 21 3 ((h 21 3) + (1 : Int32))) 21 5 (0 : Int32)) 21 6 (0 : Int32), g, cw_R sv))) rfl (st_icne_p q7) ?_
        refine rh_Ex.blk 4 (s' := ((111, [some (.ref 21), some (.int p0), some (.int k0)], [.int (1 : Int32)]), (rh_up (rh_up (rh_up (rh_up (rh_up (rh_up (rh_up h 22 (h 21 3).toNatClampNeg p0) 23 (h 21 3).toNatClampNeg (0 : Int32)) 24 (h 21 3).toNatClampNeg (0 : Int32)) 21 3 ((h 21 3) + (1 : Int32))) 21 5 (0 : Int32)) 21 6 (0 : Int32)) 21 4 (1 : Int32), g, cw_R sv))) rfl ?_
        obtain rfl := Option.some.inj hf
        exact rh_Ex.ret rfl ⟨rfl, Or.inr rfl⟩
      · rw [if_neg q7] at hf
        refine rh_Ex.stp (s' := ((106, [some (.ref 21), some (.int p0), some (.int k0)], [.ref 21]), (rh_up (rh_up (rh_up (rh_up (rh_up (rh_up h 22 (h 21 3).toNatClampNeg p0) 23 (h 21 3).toNatClampNeg (0 : Int32)) 24 (h 21 3).toNatClampNeg (0 : Int32)) 21 3 ((h 21 3) + (1 : Int32))) 21 5 (0 : Int32)) 21 6 (0 : Int32), g, cw_R sv))) rfl (st_icne_n q7) ?_
        refine rh_Ex.blk 3 (s' := ((111, [some (.ref 21), some (.int p0), some (.int k0)], [.int (1 : Int32)]), (rh_up (rh_up (rh_up (rh_up (rh_up (rh_up (rh_up h 22 (h 21 3).toNatClampNeg p0) 23 (h 21 3).toNatClampNeg (0 : Int32)) 24 (h 21 3).toNatClampNeg (0 : Int32)) 21 3 ((h 21 3) + (1 : Int32))) 21 5 (0 : Int32)) 21 6 (0 : Int32)) 21 4 (2 : Int32), g, cw_R sv))) rfl ?_
        obtain rfl := Option.some.inj hf
        exact rh_Ex.ret rfl ⟨rfl, Or.inr rfl⟩
    · rw [if_neg q3] at hf
      refine rh_Ex.stp (s' := ((43, [some (.ref 21), some (.int p0), some (.int k0)], []), (h, g, cw_R sv))) rfl (st_iclt_n q3) ?_
      refine rh_Ex.blk 1 (s' := ((44, [some (.ref 21), some (.int p0), some (.int k0)], [.int (0 : Int32)]), (h, g, cw_R sv))) rfl ?_
      obtain rfl := Option.some.inj hf
      exact rh_Ex.ret rfl ⟨rfl, Or.inl rfl⟩
set_option maxRecDepth 20000 in
set_option maxHeartbeats 4000000 in
theorem lj_Dr_takesKind_24 (d : Nat) (xx : rh_L) (sv : Option Nat) (h : Nat → Nat → Int32) (p0 : Int32) (g : Nat → Nat → Int64) {z9 : Int32 × (Nat → Nat → Int32)} (hf : j_Dr_takesKind_24 h p0 = some z9) : rh_Ex (rh_M rh_PT (cw_L ++ xx) (d + 0)) (cw_L ++ xx) pg_X1_takesKind ((24, [some (.ref 21), some (.int p0), none], []), (h, g, cw_R sv)) (some (.int z9.1)) (z9.2, g, cw_R sv) := by
  unfold j_Dr_takesKind_24 at hf
  refine rh_Ex.blk 2 (s' := ((29, [some (.ref 21), some (.int p0), none], [.int (1 : Int32)]), (h, g, cw_R sv))) rfl ?_
  refine rh_Ex.fgt [some (.ref 21), some (.int p0), none] ⟨rfl, rfl, trivial⟩ ?_
  exact lj_Dr_takesKind_29 d xx sv h p0 (1 : Int32) g hf
set_option maxRecDepth 20000 in
set_option maxHeartbeats 4000000 in
theorem R_Dr_takesKind (d : Nat) (xx : rh_L) (sv : Option Nat) (h : Nat → Nat → Int32) (g : Nat → Nat → Int64) (p0 : Int32) {z9 : Int32 × (Nat → Nat → Int32)} (hf : f_Dr_takesKind h p0 = some z9) : rh_M rh_PT (cw_L ++ xx) (d + 1) 14 [.ref 21, .int p0] (h, g, cw_R sv) (some (.int z9.1)) (z9.2, g, cw_R sv) := by
  unfold f_Dr_takesKind at hf
  refine rh_go pt_14 (Nat.le_of_ble_eq_true rfl) (lv := [some (.ref 21), some (.int p0), none]) rfl ?_
  refine rh_Ex.blk 2 (s' := ((3, [some (.ref 21), some (.int p0), none], [.int (114 : Int32), .int p0]), (h, g, cw_R sv))) rfl ?_
  by_cases q1 : p0 = (114 : Int32)
  · rw [if_pos q1] at hf
    refine rh_Ex.stp (s' := ((24, [some (.ref 21), some (.int p0), none], []), (h, g, cw_R sv))) rfl (st_iceq_p q1) ?_
    refine rh_Ex.fgt [some (.ref 21), some (.int p0), none] ⟨rfl, rfl, trivial⟩ ?_
    exact lj_Dr_takesKind_24 d xx sv h p0 g hf
  · rw [if_neg q1] at hf
    refine rh_Ex.stp (s' := ((6, [some (.ref 21), some (.int p0), none], []), (h, g, cw_R sv))) rfl (st_iceq_n q1) ?_
    refine rh_Ex.blk 2 (s' := ((9, [some (.ref 21), some (.int p0), none], [.int (98 : Int32), .int p0]), (h, g, cw_R sv))) rfl ?_
    by_cases q8 : p0 = (98 : Int32)
    · rw [if_pos q8] at hf
      refine rh_Ex.stp (s' := ((24, [some (.ref 21), some (.int p0), none], []), (h, g, cw_R sv))) rfl (st_iceq_p q8) ?_
      refine rh_Ex.fgt [some (.ref 21), some (.int p0), none] ⟨rfl, rfl, trivial⟩ ?_
      exact lj_Dr_takesKind_24 d xx sv h p0 g hf
    · rw [if_neg q8] at hf
      refine rh_Ex.stp (s' := ((12, [some (.ref 21), some (.int p0), none], []), (h, g, cw_R sv))) rfl (st_iceq_n q8) ?_
      refine rh_Ex.blk 2 (s' := ((15, [some (.ref 21), some (.int p0), none], [.int (111 : Int32), .int p0]), (h, g, cw_R sv))) rfl ?_
      by_cases q9 : p0 = (111 : Int32)
      · rw [if_pos q9] at hf
        refine rh_Ex.stp (s' := ((24, [some (.ref 21), some (.int p0), none], []), (h, g, cw_R sv))) rfl (st_iceq_p q9) ?_
        refine rh_Ex.fgt [some (.ref 21), some (.int p0), none] ⟨rfl, rfl, trivial⟩ ?_
        exact lj_Dr_takesKind_24 d xx sv h p0 g hf
      · rw [if_neg q9] at hf
        refine rh_Ex.stp (s' := ((18, [some (.ref 21), some (.int p0), none], []), (h, g, cw_R sv))) rfl (st_iceq_n q9) ?_
        refine rh_Ex.blk 2 (s' := ((21, [some (.ref 21), some (.int p0), none], [.int (115 : Int32), .int p0]), (h, g, cw_R sv))) rfl ?_
        by_cases q10 : p0 = (115 : Int32)
        · rw [if_pos q10] at hf
          refine rh_Ex.stp (s' := ((24, [some (.ref 21), some (.int p0), none], []), (h, g, cw_R sv))) rfl (st_icne_p q10) ?_
          refine rh_Ex.fgt [some (.ref 21), some (.int p0), none] ⟨rfl, rfl, trivial⟩ ?_
          exact lj_Dr_takesKind_24 d xx sv h p0 g hf
        · rw [if_neg q10] at hf
          refine rh_Ex.stp (s' := ((28, [some (.ref 21), some (.int p0), none], []), (h, g, cw_R sv))) rfl (st_icne_n q10) ?_
          refine rh_Ex.blk 1 (s' := ((29, [some (.ref 21), some (.int p0), none], [.int (0 : Int32)]), (h, g, cw_R sv))) rfl ?_
          refine rh_Ex.fgt [some (.ref 21), some (.int p0), none] ⟨rfl, rfl, trivial⟩ ?_
          exact lj_Dr_takesKind_29 d xx sv h p0 (0 : Int32) g hf
def f_Re_isDigit (p0 : Int32) : Int32 :=
  if p0 < (48 : Int32) then
    (0 : Int32)
  else
    if (57 : Int32) < p0 then
      (0 : Int32)
    else
      (1 : Int32)
set_option maxRecDepth 20000 in
set_option maxHeartbeats 4000000 in
theorem R_Re_isDigit (d : Nat) (LL : rh_L) (rr : Nat → Nat → Option Nat) (h : Nat → Nat → Int32) (g : Nat → Nat → Int64) (p0 : Int32) {z9 : Int32} (hf : f_Re_isDigit p0 = z9) : rh_M rh_PT LL (d + 1) 55 [.int p0] (h, g, rr) (some (.int z9)) (h, g, rr) := by
  unfold f_Re_isDigit at hf
  refine rh_go pt_55 (Nat.le_of_ble_eq_true rfl) (lv := [some (.int p0)]) rfl ?_
  refine rh_Ex.blk 2 (s' := ((3, [some (.int p0)], [.int (48 : Int32), .int p0]), (h, g, rr))) rfl ?_
  by_cases q1 : p0 < (48 : Int32)
  · rw [if_pos q1] at hf
    refine rh_Ex.stp (s' := ((16, [some (.int p0)], []), (h, g, rr))) rfl (st_iclt_p q1) ?_
    refine rh_Ex.blk 1 (s' := ((17, [some (.int p0)], [.int (0 : Int32)]), (h, g, rr))) rfl ?_
    subst hf
    exact rh_Ex.ret rfl ⟨rfl, Or.inl rfl⟩
  · rw [if_neg q1] at hf
    refine rh_Ex.stp (s' := ((6, [some (.int p0)], []), (h, g, rr))) rfl (st_iclt_n q1) ?_
    refine rh_Ex.blk 2 (s' := ((9, [some (.int p0)], [.int (57 : Int32), .int p0]), (h, g, rr))) rfl ?_
    by_cases q2 : (57 : Int32) < p0
    · rw [if_pos q2] at hf
      refine rh_Ex.stp (s' := ((16, [some (.int p0)], []), (h, g, rr))) rfl (st_icgt_p q2) ?_
      refine rh_Ex.blk 1 (s' := ((17, [some (.int p0)], [.int (0 : Int32)]), (h, g, rr))) rfl ?_
      subst hf
      exact rh_Ex.ret rfl ⟨rfl, Or.inl rfl⟩
    · rw [if_neg q2] at hf
      refine rh_Ex.stp (s' := ((12, [some (.int p0)], []), (h, g, rr))) rfl (st_icgt_n q2) ?_
      refine rh_Ex.blk 2 (s' := ((17, [some (.int p0)], [.int (1 : Int32)]), (h, g, rr))) rfl ?_
      subst hf
      exact rh_Ex.ret rfl ⟨rfl, Or.inr rfl⟩
def f_Dr_takesNumber (h : Nat → Nat → Int32) (p0 : Int32) (p1 : Int32) : Option (Int32 × (Nat → Nat → Int32)) :=
  if (f_Re_isDigit p0) = 0 then
    some (((0 : Int32), h))
  else
    if (h 21 5) < (2 : Int32) then
      rh_g (0 ≤ p1.toInt ∧ p1.toInt < ((24 : Nat) : Int)) (
        rh_g (0 ≤ p1.toInt ∧ p1.toInt < ((24 : Nat) : Int)) (
          some (((1 : Int32), rh_up (rh_up h 24 p1.toNatClampNeg ((((h 24 p1.toNatClampNeg) * (10 : Int32)) + p0) - (48 : Int32))) 21 5 ((h 21 5) + (1 : Int32))))
        )
      )
    else
      some (((0 : Int32), h))
set_option maxRecDepth 20000 in
set_option maxHeartbeats 4000000 in
theorem R_Dr_takesNumber (d : Nat) (xx : rh_L) (sv : Option Nat) (h : Nat → Nat → Int32) (g : Nat → Nat → Int64) (p0 : Int32) (p1 : Int32) {z9 : Int32 × (Nat → Nat → Int32)} (hf : f_Dr_takesNumber h p0 p1 = some z9) : rh_M rh_PT (cw_L ++ xx) (d + 2) 15 [.ref 21, .int p0, .int p1] (h, g, cw_R sv) (some (.int z9.1)) (z9.2, g, cw_R sv) := by
  unfold f_Dr_takesNumber at hf
  refine rh_go pt_15 (Nat.le_of_ble_eq_true rfl) (lv := [some (.ref 21), some (.int p0), some (.int p1)]) rfl ?_
  refine rh_Ex.blk 1 (s' := ((1, [some (.ref 21), some (.int p0), some (.int p1)], [.int p0]), (h, g, cw_R sv))) rfl ?_
  refine rh_Ex.call (j := 55) (rc := none) [.int p0] [] (some (.int (f_Re_isDigit p0))) rfl rfl trivial (Nat.le_of_ble_eq_true rfl) (R_Re_isDigit d (cw_L ++ xx) (cw_R sv) h g p0 rfl) ?_
  show rh_Ex _ _ _ ((4, [some (.ref 21), some (.int p0), some (.int p1)], [.int (f_Re_isDigit p0)]), (h, g, cw_R sv)) _ _
  by_cases q1 : (f_Re_isDigit p0) = 0
  · rw [if_pos q1] at hf
    refine rh_Ex.stp (s' := ((15, [some (.ref 21), some (.int p0), some (.int p1)], []), (h, g, cw_R sv))) rfl (st_ifeq_p q1) ?_
    refine rh_Ex.blk 1 (s' := ((16, [some (.ref 21), some (.int p0), some (.int p1)], [.int (0 : Int32)]), (h, g, cw_R sv))) rfl ?_
    obtain rfl := Option.some.inj hf
    exact rh_Ex.ret rfl ⟨rfl, Or.inl rfl⟩
  · rw [if_neg q1] at hf
    refine rh_Ex.stp (s' := ((7, [some (.ref 21), some (.int p0), some (.int p1)], []), (h, g, cw_R sv))) rfl (st_ifeq_n q1) ?_
    refine rh_Ex.blk 3 (s' := ((12, [some (.ref 21), some (.int p0), some (.int p1)], [.int (2 : Int32), .int (h 21 5)]), (h, g, cw_R sv))) rfl ?_
    by_cases q2 : (h 21 5) < (2 : Int32)
    · rw [if_pos q2] at hf
      refine rh_Ex.stp (s' := ((17, [some (.ref 21), some (.int p0), some (.int p1)], []), (h, g, cw_R sv))) rfl (st_iclt_p q2) ?_
      refine rh_Ex.blk 6 (s' := ((27, [some (.ref 21), some (.int p0), some (.int p1)], [.int p1, .ref 24, .int p1, .ref 24]), (h, g, cw_R sv))) rfl ?_
      obtain ⟨q3, hf⟩ := rh_gq hf
      refine rh_Ex.stp (s' := ((28, [some (.ref 21), some (.int p0), some (.int p1)], [.int (h 24 p1.toNatClampNeg), .int p1, .ref 24]), (h, g, cw_R sv))) rfl (st_iald (n := 24) rfl q3) ?_
      refine rh_Ex.blk 6 (s' := ((36, [some (.ref 21), some (.int p0), some (.int p1)], [.int ((((h 24 p1.toNatClampNeg) * (10 : Int32)) + p0) - (48 : Int32)), .int p1, .ref 24]), (h, g, cw_R sv))) rfl ?_
      obtain ⟨q4, hf⟩ := rh_gq hf
      refine rh_Ex.stp (s' := ((37, [some (.ref 21), some (.int p0), some (.int p1)], []), (rh_up h 24 p1.toNatClampNeg ((((h 24 p1.toNatClampNeg) * (10 : Int32)) + p0) - (48 : Int32)), g, cw_R sv))) rfl (st_iast (n := 24) rfl q4) ?_
      refine rh_Ex.blk 7 (s' := ((48, [some (.ref 21), some (.int p0), some (.int p1)], [.int (1 : Int32)]), (rh_up (rh_up h 24 p1.toNatClampNeg ((((h 24 p1.toNatClampNeg) * (10 : Int32)) + p0) - (48 : Int32))) 21 5 ((h 21 5) + (1 : Int32)), g, cw_R sv))) rfl ?_
      obtain rfl := Option.some.inj hf
      exact rh_Ex.ret rfl ⟨rfl, Or.inr rfl⟩
    · rw [if_neg q2] at hf
      refine rh_Ex.stp (s' := ((15, [some (.ref 21), some (.int p0), some (.int p1)], []), (h, g, cw_R sv))) rfl (st_iclt_n q2) ?_
      refine rh_Ex.blk 1 (s' := ((16, [some (.ref 21), some (.int p0), some (.int p1)], [.int (0 : Int32)]), (h, g, cw_R sv))) rfl ?_
      obtain rfl := Option.some.inj hf
      exact rh_Ex.ret rfl ⟨rfl, Or.inl rfl⟩
def f_Dr_takesLetter (h : Nat → Nat → Int32) (p0 : Int32) (p1 : Int32) : Option (Int32 × (Nat → Nat → Int32)) :=
  if p0 < (97 : Int32) then
    some (((0 : Int32), h))
  else
    if p0 ≤ (105 : Int32) then
      rh_g (0 ≤ p1.toInt ∧ p1.toInt < ((24 : Nat) : Int)) (
        rh_g (0 ≤ p1.toInt ∧ p1.toInt < ((24 : Nat) : Int)) (
          if ((rh_up h 23 p1.toNatClampNeg (p0 - (97 : Int32))) 22 p1.toNatClampNeg) = (111 : Int32) then
            some (((1 : Int32), rh_up (rh_up h 23 p1.toNatClampNeg (p0 - (97 : Int32))) 21 4 (5 : Int32)))
          else
            rh_g (0 ≤ p1.toInt ∧ p1.toInt < ((24 : Nat) : Int)) (
              if ((rh_up h 23 p1.toNatClampNeg (p0 - (97 : Int32))) 22 p1.toNatClampNeg) = (98 : Int32) then
                some (((1 : Int32), rh_up (rh_up h 23 p1.toNatClampNeg (p0 - (97 : Int32))) 21 4 (3 : Int32)))
              else
                some (((1 : Int32), rh_up (rh_up h 23 p1.toNatClampNeg (p0 - (97 : Int32))) 21 4 (4 : Int32)))
            )
        )
      )
    else
      some (((0 : Int32), h))
set_option maxRecDepth 20000 in
set_option maxHeartbeats 4000000 in
theorem R_Dr_takesLetter (d : Nat) (xx : rh_L) (sv : Option Nat) (h : Nat → Nat → Int32) (g : Nat → Nat → Int64) (p0 : Int32) (p1 : Int32) {z9 : Int32 × (Nat → Nat → Int32)} (hf : f_Dr_takesLetter h p0 p1 = some z9) : rh_M rh_PT (cw_L ++ xx) (d + 1) 16 [.ref 21, .int p0, .int p1] (h, g, cw_R sv) (some (.int z9.1)) (z9.2, g, cw_R sv) := by
  unfold f_Dr_takesLetter at hf
  refine rh_go pt_16 (Nat.le_of_ble_eq_true rfl) (lv := [some (.ref 21), some (.int p0), some (.int p1)]) rfl ?_
  refine rh_Ex.blk 2 (s' := ((3, [some (.ref 21), some (.int p0), some (.int p1)], [.int (97 : Int32), .int p0]), (h, g, cw_R sv))) rfl ?_
  by_cases q1 : p0 < (97 : Int32)
  · rw [if_pos q1] at hf
    refine rh_Ex.stp (s' := ((12, [some (.ref 21), some (.int p0), some (.int p1)], []), (h, g, cw_R sv))) rfl (st_iclt_p q1) ?_
    refine rh_Ex.blk 1 (s' := ((13, [some (.ref 21), some (.int p0), some (.int p1)], [.int (0 : Int32)]), (h, g, cw_R sv))) rfl ?_
    obtain rfl := Option.some.inj hf
    exact rh_Ex.ret rfl ⟨rfl, Or.inl rfl⟩
  · rw [if_neg q1] at hf
    refine rh_Ex.stp (s' := ((6, [some (.ref 21), some (.int p0), some (.int p1)], []), (h, g, cw_R sv))) rfl (st_iclt_n q1) ?_
    refine rh_Ex.blk 2 (s' := ((9, [some (.ref 21), some (.int p0), some (.int p1)], [.int (105 : Int32), .int p0]), (h, g, cw_R sv))) rfl ?_
    by_cases q2 : p0 ≤ (105 : Int32)
    · rw [if_pos q2] at hf
      refine rh_Ex.stp (s' := ((14, [some (.ref 21), some (.int p0), some (.int p1)], []), (h, g, cw_R sv))) rfl (st_icle_p q2) ?_
      refine rh_Ex.blk 6 (s' := ((23, [some (.ref 21), some (.int p0), some (.int p1)], [.int (p0 - (97 : Int32)), .int p1, .ref 23]), (h, g, cw_R sv))) rfl ?_
      obtain ⟨q3, hf⟩ := rh_gq hf
      refine rh_Ex.stp (s' := ((24, [some (.ref 21), some (.int p0), some (.int p1)], []), (rh_up h 23 p1.toNatClampNeg (p0 - (97 : Int32)), g, cw_R sv))) rfl (st_iast (n := 24) rfl q3) ?_
      refine rh_Ex.blk 3 (s' := ((29, [some (.ref 21), some (.int p0), some (.int p1)], [.int p1, .ref 22]), (rh_up h 23 p1.toNatClampNeg (p0 - (97 : Int32)), g, cw_R sv))) rfl ?_
      obtain ⟨q4, hf⟩ := rh_gq hf
      refine rh_Ex.stp (s' := ((30, [some (.ref 21), some (.int p0), some (.int p1)], [.int ((rh_up h 23 p1.toNatClampNeg (p0 - (97 : Int32))) 22 p1.toNatClampNeg)]), (rh_up h 23 p1.toNatClampNeg (p0 - (97 : Int32)), g, cw_R sv))) rfl (st_iald (n := 24) rfl q4) ?_
      refine rh_Ex.blk 1 (s' := ((32, [some (.ref 21), some (.int p0), some (.int p1)], [.int (111 : Int32), .int ((rh_up h 23 p1.toNatClampNeg (p0 - (97 : Int32))) 22 p1.toNatClampNeg)]), (rh_up h 23 p1.toNatClampNeg (p0 - (97 : Int32)), g, cw_R sv))) rfl ?_
      by_cases q5 : ((rh_up h 23 p1.toNatClampNeg (p0 - (97 : Int32))) 22 p1.toNatClampNeg) = (111 : Int32)
      · rw [if_pos q5] at hf
        refine rh_Ex.stp (s' := ((35, [some (.ref 21), some (.int p0), some (.int p1)], []), (rh_up h 23 p1.toNatClampNeg (p0 - (97 : Int32)), g, cw_R sv))) rfl (st_icne_p q5) ?_
        refine rh_Ex.blk 5 (s' := ((64, [some (.ref 21), some (.int p0), some (.int p1)], [.int (1 : Int32)]), (rh_up (rh_up h 23 p1.toNatClampNeg (p0 - (97 : Int32))) 21 4 (5 : Int32), g, cw_R sv))) rfl ?_
        obtain rfl := Option.some.inj hf
        exact rh_Ex.ret rfl ⟨rfl, Or.inr rfl⟩
      · rw [if_neg q5] at hf
        refine rh_Ex.stp (s' := ((43, [some (.ref 21), some (.int p0), some (.int p1)], []), (rh_up h 23 p1.toNatClampNeg (p0 - (97 : Int32)), g, cw_R sv))) rfl (st_icne_n q5) ?_
        refine rh_Ex.blk 4 (s' := ((49, [some (.ref 21), some (.int p0), some (.int p1)], [.int p1, .ref 22, .ref 21]), (rh_up h 23 p1.toNatClampNeg (p0 - (97 : Int32)), g, cw_R sv))) rfl ?_
        obtain ⟨q6, hf⟩ := rh_gq hf
        refine rh_Ex.stp (s' := ((50, [some (.ref 21), some (.int p0), some (.int p1)], [.int ((rh_up h 23 p1.toNatClampNeg (p0 - (97 : Int32))) 22 p1.toNatClampNeg), .ref 21]), (rh_up h 23 p1.toNatClampNeg (p0 - (97 : Int32)), g, cw_R sv))) rfl (st_iald (n := 24) rfl q6) ?_
        refine rh_Ex.blk 1 (s' := ((52, [some (.ref 21), some (.int p0), some (.int p1)], [.int (98 : Int32), .int ((rh_up h 23 p1.toNatClampNeg (p0 - (97 : Int32))) 22 p1.toNatClampNeg), .ref 21]), (rh_up h 23 p1.toNatClampNeg (p0 - (97 : Int32)), g, cw_R sv))) rfl ?_
        by_cases q7 : ((rh_up h 23 p1.toNatClampNeg (p0 - (97 : Int32))) 22 p1.toNatClampNeg) = (98 : Int32)
        · rw [if_pos q7] at hf
          refine rh_Ex.stp (s' := ((55, [some (.ref 21), some (.int p0), some (.int p1)], [.ref 21]), (rh_up h 23 p1.toNatClampNeg (p0 - (97 : Int32)), g, cw_R sv))) rfl (st_icne_p q7) ?_
          refine rh_Ex.blk 4 (s' := ((64, [some (.ref 21), some (.int p0), some (.int p1)], [.int (1 : Int32)]), (rh_up (rh_up h 23 p1.toNatClampNeg (p0 - (97 : Int32))) 21 4 (3 : Int32), g, cw_R sv))) rfl ?_
          obtain rfl := Option.some.inj hf
          exact rh_Ex.ret rfl ⟨rfl, Or.inr rfl⟩
        · rw [if_neg q7] at hf
          refine rh_Ex.stp (s' := ((59, [some (.ref 21), some (.int p0), some (.int p1)], [.ref 21]), (rh_up h 23 p1.toNatClampNeg (p0 - (97 : Int32)), g, cw_R sv))) rfl (st_icne_n q7) ?_
          refine rh_Ex.blk 3 (s' := ((64, [some (.ref 21), some (.int p0), some (.int p1)], [.int (1 : Int32)]), (rh_up (rh_up h 23 p1.toNatClampNeg (p0 - (97 : Int32))) 21 4 (4 : Int32), g, cw_R sv))) rfl ?_
          obtain rfl := Option.some.inj hf
          exact rh_Ex.ret rfl ⟨rfl, Or.inr rfl⟩
    · rw [if_neg q2] at hf
      refine rh_Ex.stp (s' := ((12, [some (.ref 21), some (.int p0), some (.int p1)], []), (h, g, cw_R sv))) rfl (st_icle_n q2) ?_
      refine rh_Ex.blk 1 (s' := ((13, [some (.ref 21), some (.int p0), some (.int p1)], [.int (0 : Int32)]), (h, g, cw_R sv))) rfl ?_
      obtain rfl := Option.some.inj hf
      exact rh_Ex.ret rfl ⟨rfl, Or.inl rfl⟩
def j_Dr_takesPlace_20 (h : Nat → Nat → Int32) (p0 : Int32) (p1 : Int32) : Option (Int32 × (Nat → Nat → Int32)) :=
  if (f_Re_isDigit p0) = 0 then
    some (((0 : Int32), h))
  else
    if (h 21 6) = 0 then
      rh_g (0 ≤ p1.toInt ∧ p1.toInt < ((24 : Nat) : Int)) (
        some (((1 : Int32), rh_up (rh_up h 24 p1.toNatClampNeg (p0 - (48 : Int32))) 21 4 (5 : Int32)))
      )
    else
      rh_g (0 ≤ p1.toInt ∧ p1.toInt < ((24 : Nat) : Int)) (
        some (((1 : Int32), rh_up (rh_up h 24 p1.toNatClampNeg ((48 : Int32) - p0)) 21 4 (5 : Int32)))
      )
def f_Dr_takesPlace (h : Nat → Nat → Int32) (p0 : Int32) (p1 : Int32) : Option (Int32 × (Nat → Nat → Int32)) :=
  if p0 = (45 : Int32) then
    if (h 21 6) = 0 then
      some (((1 : Int32), rh_up h 21 6 (1 : Int32)))
    else
      j_Dr_takesPlace_20 h p0 p1
  else
    j_Dr_takesPlace_20 h p0 p1
set_option maxRecDepth 20000 in
set_option maxHeartbeats 4000000 in
theorem lj_Dr_takesPlace_20 (d : Nat) (xx : rh_L) (sv : Option Nat) (h : Nat → Nat → Int32) (p0 : Int32) (p1 : Int32) (g : Nat → Nat → Int64) {z9 : Int32 × (Nat → Nat → Int32)} (hf : j_Dr_takesPlace_20 h p0 p1 = some z9) : rh_Ex (rh_M rh_PT (cw_L ++ xx) (d + 1)) (cw_L ++ xx) pg_X1_takesPlace ((20, [some (.ref 21), some (.int p0), some (.int p1)], []), (h, g, cw_R sv)) (some (.int z9.1)) (z9.2, g, cw_R sv) := by
  unfold j_Dr_takesPlace_20 at hf
  refine rh_Ex.blk 1 (s' := ((21, [some (.ref 21), some (.int p0), some (.int p1)], [.int p0]), (h, g, cw_R sv))) rfl ?_
  refine rh_Ex.call (j := 55) (rc := none) [.int p0] [] (some (.int (f_Re_isDigit p0))) rfl rfl trivial (Nat.le_of_ble_eq_true rfl) (R_Re_isDigit d (cw_L ++ xx) (cw_R sv) h g p0 rfl) ?_
  show rh_Ex _ _ _ ((24, [some (.ref 21), some (.int p0), some (.int p1)], [.int (f_Re_isDigit p0)]), (h, g, cw_R sv)) _ _
  by_cases q3 : (f_Re_isDigit p0) = 0
  · rw [if_pos q3] at hf
    refine rh_Ex.stp (s' := ((27, [some (.ref 21), some (.int p0), some (.int p1)], []), (h, g, cw_R sv))) rfl (st_ifne_p q3) ?_
    refine rh_Ex.blk 1 (s' := ((28, [some (.ref 21), some (.int p0), some (.int p1)], [.int (0 : Int32)]), (h, g, cw_R sv))) rfl ?_
    obtain rfl := Option.some.inj hf
    exact rh_Ex.ret rfl ⟨rfl, Or.inl rfl⟩
  · rw [if_neg q3] at hf
    refine rh_Ex.stp (s' := ((29, [some (.ref 21), some (.int p0), some (.int p1)], []), (h, g, cw_R sv))) rfl (st_ifne_n q3) ?_
    refine rh_Ex.blk 5 (s' := ((38, [some (.ref 21), some (.int p0), some (.int p1)], [.int (h 21 6), .int p1, .ref 24]), (h, g, cw_R sv))) rfl ?_
    by_cases q4 : (h 21 6) = 0
    · rw [if_pos q4] at hf
      refine rh_Ex.stp (s' := ((48, [some (.ref 21), some (.int p0), some (.int p1)], [.int p1, .ref 24]), (h, g, cw_R sv))) rfl (st_ifeq_p q4) ?_
      refine rh_Ex.blk 3 (s' := ((52, [some (.ref 21), some (.int p0), some (.int p1)], [.int (p0 - (48 : Int32)), .int p1, .ref 24]), (h, g, cw_R sv))) rfl ?_
      obtain ⟨q5, hf⟩ := rh_gq hf
      refine rh_Ex.stp (s' := ((53, [some (.ref 21), some (.int p0), some (.int p1)], []), (rh_up h 24 p1.toNatClampNeg (p0 - (48 : Int32)), g, cw_R sv))) rfl (st_iast (n := 24) rfl q5) ?_
      refine rh_Ex.blk 4 (s' := ((59, [some (.ref 21), some (.int p0), some (.int p1)], [.int (1 : Int32)]), (rh_up (rh_up h 24 p1.toNatClampNeg (p0 - (48 : Int32))) 21 4 (5 : Int32), g, cw_R sv))) rfl ?_
      obtain rfl := Option.some.inj hf
      exact rh_Ex.ret rfl ⟨rfl, Or.inr rfl⟩
    · rw [if_neg q4] at hf
      refine rh_Ex.stp (s' := ((41, [some (.ref 21), some (.int p0), some (.int p1)], [.int p1, .ref 24]), (h, g, cw_R sv))) rfl (st_ifeq_n q4) ?_
      refine rh_Ex.blk 4 (s' := ((52, [some (.ref 21), some (.int p0), some (.int p1)], [.int ((48 : Int32) - p0), .int p1, .ref 24]), (h, g, cw_R sv))) rfl ?_
      obtain ⟨q6, hf⟩ := rh_gq hf
      refine rh_Ex.stp (s' := ((53, [some (.ref 21), some (.int p0), some (.int p1)], []), (rh_up h 24 p1.toNatClampNeg ((48 : Int32) - p0), g, cw_R sv))) rfl (st_iast (n := 24) rfl q6) ?_
      refine rh_Ex.blk 4 (s' := ((59, [some (.ref 21), some (.int p0), some (.int p1)], [.int (1 : Int32)]), (rh_up (rh_up h 24 p1.toNatClampNeg ((48 : Int32) - p0)) 21 4 (5 : Int32), g, cw_R sv))) rfl ?_
      obtain rfl := Option.some.inj hf
      exact rh_Ex.ret rfl ⟨rfl, Or.inr rfl⟩
set_option maxRecDepth 20000 in
set_option maxHeartbeats 4000000 in
theorem R_Dr_takesPlace (d : Nat) (xx : rh_L) (sv : Option Nat) (h : Nat → Nat → Int32) (g : Nat → Nat → Int64) (p0 : Int32) (p1 : Int32) {z9 : Int32 × (Nat → Nat → Int32)} (hf : f_Dr_takesPlace h p0 p1 = some z9) : rh_M rh_PT (cw_L ++ xx) (d + 2) 17 [.ref 21, .int p0, .int p1] (h, g, cw_R sv) (some (.int z9.1)) (z9.2, g, cw_R sv) := by
  unfold f_Dr_takesPlace at hf
  refine rh_go pt_17 (Nat.le_of_ble_eq_true rfl) (lv := [some (.ref 21), some (.int p0), some (.int p1)]) rfl ?_
  refine rh_Ex.blk 2 (s' := ((3, [some (.ref 21), some (.int p0), some (.int p1)], [.int (45 : Int32), .int p0]), (h, g, cw_R sv))) rfl ?_
  by_cases q1 : p0 = (45 : Int32)
  · rw [if_pos q1] at hf
    refine rh_Ex.stp (s' := ((6, [some (.ref 21), some (.int p0), some (.int p1)], []), (h, g, cw_R sv))) rfl (st_icne_p q1) ?_
    refine rh_Ex.blk 2 (s' := ((10, [some (.ref 21), some (.int p0), some (.int p1)], [.int (h 21 6)]), (h, g, cw_R sv))) rfl ?_
    by_cases q2 : (h 21 6) = 0
    · rw [if_pos q2] at hf
      refine rh_Ex.stp (s' := ((13, [some (.ref 21), some (.int p0), some (.int p1)], []), (h, g, cw_R sv))) rfl (st_ifne_p q2) ?_
      refine rh_Ex.blk 2 (s' := ((15, [some (.ref 21), some (.int p0), some (.int p1)], [.int (1 : Int32), .ref 21]), (h, g, cw_R sv))) rfl ?_
      refine rh_Ex.stp (s' := ((18, [some (.ref 21), some (.int p0), some (.int p1)], []), (rh_up h 21 6 (1 : Int32), g, cw_R sv))) rfl (st_putZ rfl (Or.inr rfl)) ?_
      refine rh_Ex.blk 1 (s' := ((19, [some (.ref 21), some (.int p0), some (.int p1)], [.int (1 : Int32)]), (rh_up h 21 6 (1 : Int32), g, cw_R sv))) rfl ?_
      obtain rfl := Option.some.inj hf
      exact rh_Ex.ret rfl ⟨rfl, Or.inr rfl⟩
    · rw [if_neg q2] at hf
      refine rh_Ex.stp (s' := ((20, [some (.ref 21), some (.int p0), some (.int p1)], []), (h, g, cw_R sv))) rfl (st_ifne_n q2) ?_
      refine rh_Ex.fgt [some (.ref 21), some (.int p0), some (.int p1)] ⟨rfl, rfl, rfl, trivial⟩ ?_
      exact lj_Dr_takesPlace_20 d xx sv h p0 p1 g hf
  · rw [if_neg q1] at hf
    refine rh_Ex.stp (s' := ((20, [some (.ref 21), some (.int p0), some (.int p1)], []), (h, g, cw_R sv))) rfl (st_icne_n q1) ?_
    refine rh_Ex.fgt [some (.ref 21), some (.int p0), some (.int p1)] ⟨rfl, rfl, rfl, trivial⟩ ?_
    exact lj_Dr_takesPlace_20 d xx sv h p0 p1 g hf
def f_Dr_takesWay (h : Nat → Nat → Int32) (p0 : Int32) (p1 : Int32) : Option (Int32 × (Nat → Nat → Int32)) :=
  if p0 = (43 : Int32) then
    if p0 = (43 : Int32) then
      rh_g (0 ≤ p1.toInt ∧ p1.toInt < ((24 : Nat) : Int)) (
        some (((1 : Int32), rh_up (rh_up h 24 p1.toNatClampNeg (1 : Int32)) 21 4 (5 : Int32)))
      )
    else
      rh_g (0 ≤ p1.toInt ∧ p1.toInt < ((24 : Nat) : Int)) (
        some (((1 : Int32), rh_up (rh_up h 24 p1.toNatClampNeg (-1 : Int32)) 21 4 (5 : Int32)))
      )
  else
    if p0 = (45 : Int32) then
      if p0 = (43 : Int32) then
        rh_g (0 ≤ p1.toInt ∧ p1.toInt < ((24 : Nat) : Int)) (
          some (((1 : Int32), rh_up (rh_up h 24 p1.toNatClampNeg (1 : Int32)) 21 4 (5 : Int32)))
        )
      else
        rh_g (0 ≤ p1.toInt ∧ p1.toInt < ((24 : Nat) : Int)) (
          some (((1 : Int32), rh_up (rh_up h 24 p1.toNatClampNeg (-1 : Int32)) 21 4 (5 : Int32)))
        )
    else
      some (((0 : Int32), h))
set_option maxRecDepth 20000 in
set_option maxHeartbeats 4000000 in
theorem R_Dr_takesWay (d : Nat) (xx : rh_L) (sv : Option Nat) (h : Nat → Nat → Int32) (g : Nat → Nat → Int64) (p0 : Int32) (p1 : Int32) {z9 : Int32 × (Nat → Nat → Int32)} (hf : f_Dr_takesWay h p0 p1 = some z9) : rh_M rh_PT (cw_L ++ xx) (d + 1) 18 [.ref 21, .int p0, .int p1] (h, g, cw_R sv) (some (.int z9.1)) (z9.2, g, cw_R sv) := by
  unfold f_Dr_takesWay at hf
  refine rh_go pt_18 (Nat.le_of_ble_eq_true rfl) (lv := [some (.ref 21), some (.int p0), some (.int p1)]) rfl ?_
  refine rh_Ex.blk 2 (s' := ((3, [some (.ref 21), some (.int p0), some (.int p1)], [.int (43 : Int32), .int p0]), (h, g, cw_R sv))) rfl ?_
  by_cases q1 : p0 = (43 : Int32)
  · rw [if_pos q1] at hf
    refine rh_Ex.stp (s' := ((14, [some (.ref 21), some (.int p0), some (.int p1)], []), (h, g, cw_R sv))) rfl (st_iceq_p q1) ?_
    refine rh_Ex.blk 5 (s' := ((22, [some (.ref 21), some (.int p0), some (.int p1)], [.int (43 : Int32), .int p0, .int p1, .ref 24]), (h, g, cw_R sv))) rfl ?_
    by_cases q2 : p0 = (43 : Int32)
    · rw [if_pos q2] at hf
      refine rh_Ex.stp (s' := ((25, [some (.ref 21), some (.int p0), some (.int p1)], [.int p1, .ref 24]), (h, g, cw_R sv))) rfl (st_icne_p q2) ?_
      refine rh_Ex.blk 2 (s' := ((30, [some (.ref 21), some (.int p0), some (.int p1)], [.int (1 : Int32), .int p1, .ref 24]), (h, g, cw_R sv))) rfl ?_
      obtain ⟨q3, hf⟩ := rh_gq hf
      refine rh_Ex.stp (s' := ((31, [some (.ref 21), some (.int p0), some (.int p1)], []), (rh_up h 24 p1.toNatClampNeg (1 : Int32), g, cw_R sv))) rfl (st_iast (n := 24) rfl q3) ?_
      refine rh_Ex.blk 4 (s' := ((37, [some (.ref 21), some (.int p0), some (.int p1)], [.int (1 : Int32)]), (rh_up (rh_up h 24 p1.toNatClampNeg (1 : Int32)) 21 4 (5 : Int32), g, cw_R sv))) rfl ?_
      obtain rfl := Option.some.inj hf
      exact rh_Ex.ret rfl ⟨rfl, Or.inr rfl⟩
    · rw [if_neg q2] at hf
      refine rh_Ex.stp (s' := ((29, [some (.ref 21), some (.int p0), some (.int p1)], [.int p1, .ref 24]), (h, g, cw_R sv))) rfl (st_icne_n q2) ?_
      refine rh_Ex.blk 1 (s' := ((30, [some (.ref 21), some (.int p0), some (.int p1)], [.int (-1 : Int32), .int p1, .ref 24]), (h, g, cw_R sv))) rfl ?_
      obtain ⟨q4, hf⟩ := rh_gq hf
      refine rh_Ex.stp (s' := ((31, [some (.ref 21), some (.int p0), some (.int p1)], []), (rh_up h 24 p1.toNatClampNeg (-1 : Int32), g, cw_R sv))) rfl (st_iast (n := 24) rfl q4) ?_
      refine rh_Ex.blk 4 (s' := ((37, [some (.ref 21), some (.int p0), some (.int p1)], [.int (1 : Int32)]), (rh_up (rh_up h 24 p1.toNatClampNeg (-1 : Int32)) 21 4 (5 : Int32), g, cw_R sv))) rfl ?_
      obtain rfl := Option.some.inj hf
      exact rh_Ex.ret rfl ⟨rfl, Or.inr rfl⟩
  · rw [if_neg q1] at hf
    refine rh_Ex.stp (s' := ((6, [some (.ref 21), some (.int p0), some (.int p1)], []), (h, g, cw_R sv))) rfl (st_iceq_n q1) ?_
    refine rh_Ex.blk 2 (s' := ((9, [some (.ref 21), some (.int p0), some (.int p1)], [.int (45 : Int32), .int p0]), (h, g, cw_R sv))) rfl ?_
    by_cases q5 : p0 = (45 : Int32)
    · rw [if_pos q5] at hf
      refine rh_Ex.stp (s' := ((14, [some (.ref 21), some (.int p0), some (.int p1)], []), (h, g, cw_R sv))) rfl (st_iceq_p q5) ?_
      refine rh_Ex.blk 5 (s' := ((22, [some (.ref 21), some (.int p0), some (.int p1)], [.int (43 : Int32), .int p0, .int p1, .ref 24]), (h, g, cw_R sv))) rfl ?_
      by_cases q6 : p0 = (43 : Int32)
      · rw [if_pos q6] at hf
        refine rh_Ex.stp (s' := ((25, [some (.ref 21), some (.int p0), some (.int p1)], [.int p1, .ref 24]), (h, g, cw_R sv))) rfl (st_icne_p q6) ?_
        refine rh_Ex.blk 2 (s' := ((30, [some (.ref 21), some (.int p0), some (.int p1)], [.int (1 : Int32), .int p1, .ref 24]), (h, g, cw_R sv))) rfl ?_
        obtain ⟨q7, hf⟩ := rh_gq hf
        refine rh_Ex.stp (s' := ((31, [some (.ref 21), some (.int p0), some (.int p1)], []), (rh_up h 24 p1.toNatClampNeg (1 : Int32), g, cw_R sv))) rfl (st_iast (n := 24) rfl q7) ?_
        refine rh_Ex.blk 4 (s' := ((37, [some (.ref 21), some (.int p0), some (.int p1)], [.int (1 : Int32)]), (rh_up (rh_up h 24 p1.toNatClampNeg (1 : Int32)) 21 4 (5 : Int32), g, cw_R sv))) rfl ?_
        obtain rfl := Option.some.inj hf
        exact rh_Ex.ret rfl ⟨rfl, Or.inr rfl⟩
      · rw [if_neg q6] at hf
        refine rh_Ex.stp (s' := ((29, [some (.ref 21), some (.int p0), some (.int p1)], [.int p1, .ref 24]), (h, g, cw_R sv))) rfl (st_icne_n q6) ?_
        refine rh_Ex.blk 1 (s' := ((30, [some (.ref 21), some (.int p0), some (.int p1)], [.int (-1 : Int32), .int p1, .ref 24]), (h, g, cw_R sv))) rfl ?_
        obtain ⟨q8, hf⟩ := rh_gq hf
        refine rh_Ex.stp (s' := ((31, [some (.ref 21), some (.int p0), some (.int p1)], []), (rh_up h 24 p1.toNatClampNeg (-1 : Int32), g, cw_R sv))) rfl (st_iast (n := 24) rfl q8) ?_
        refine rh_Ex.blk 4 (s' := ((37, [some (.ref 21), some (.int p0), some (.int p1)], [.int (1 : Int32)]), (rh_up (rh_up h 24 p1.toNatClampNeg (-1 : Int32)) 21 4 (5 : Int32), g, cw_R sv))) rfl ?_
        obtain rfl := Option.some.inj hf
        exact rh_Ex.ret rfl ⟨rfl, Or.inr rfl⟩
    · rw [if_neg q5] at hf
      refine rh_Ex.stp (s' := ((12, [some (.ref 21), some (.int p0), some (.int p1)], []), (h, g, cw_R sv))) rfl (st_iceq_n q5) ?_
      refine rh_Ex.blk 1 (s' := ((13, [some (.ref 21), some (.int p0), some (.int p1)], [.int (0 : Int32)]), (h, g, cw_R sv))) rfl ?_
      obtain rfl := Option.some.inj hf
      exact rh_Ex.ret rfl ⟨rfl, Or.inl rfl⟩
def j_Dr_takes_33 (h : Nat → Nat → Int32) (p0 : Int32) : Option (Int32 × (Nat → Nat → Int32)) :=
  if 0 ≤ ((h 21 3) - (1 : Int32)) then
    if ((1 : Int) = (h 21 4).toInt) then
      (f_Dr_takesNumber h p0 ((h 21 3) - (1 : Int32))).bind (fun x8 =>
        rh_g (x8.1 = 0 ∨ x8.1 = 1) (
          some ((x8.1, x8.2))
        )
      )
    else
      if ((2 : Int) = (h 21 4).toInt) then
        (f_Dr_takesLetter h p0 ((h 21 3) - (1 : Int32))).bind (fun x11 =>
          rh_g (x11.1 = 0 ∨ x11.1 = 1) (
            some ((x11.1, x11.2))
          )
        )
      else
        if ((3 : Int) = (h 21 4).toInt) then
          (f_Dr_takesPlace h p0 ((h 21 3) - (1 : Int32))).bind (fun x14 =>
            rh_g (x14.1 = 0 ∨ x14.1 = 1) (
              some ((x14.1, x14.2))
            )
          )
        else
          if ((4 : Int) = (h 21 4).toInt) then
            (f_Dr_takesWay h p0 ((h 21 3) - (1 : Int32))).bind (fun x17 =>
              rh_g (x17.1 = 0 ∨ x17.1 = 1) (
                some ((x17.1, x17.2))
              )
            )
          else
            some (((0 : Int32), h))
  else
    some (((0 : Int32), h))
def f_Dr_takes (h : Nat → Nat → Int32) (p0 : Int32) : Option (Int32 × (Nat → Nat → Int32)) :=
  if (h 21 4) = 0 then
    (f_Dr_takesKind h p0).bind (fun x2 =>
      rh_g (x2.1 = 0 ∨ x2.1 = 1) (
        some ((x2.1, x2.2))
      )
    )
  else
    if p0 = (59 : Int32) then
      if (f_Dr_canEnd h) = 0 then
        j_Dr_takes_33 h p0
      else
        some (((1 : Int32), rh_up h 21 4 (0 : Int32)))
    else
      j_Dr_takes_33 h p0
set_option maxRecDepth 20000 in
set_option maxHeartbeats 4000000 in
theorem lj_Dr_takes_33 (d : Nat) (xx : rh_L) (sv : Option Nat) (h : Nat → Nat → Int32) (p0 : Int32) (g : Nat → Nat → Int64) {z9 : Int32 × (Nat → Nat → Int32)} (hf : j_Dr_takes_33 h p0 = some z9) : rh_Ex (rh_M rh_PT (cw_L ++ xx) (d + 2)) (cw_L ++ xx) pg_X1_takes ((33, [some (.ref 21), some (.int p0), none], []), (h, g, cw_R sv)) (some (.int z9.1)) (z9.2, g, cw_R sv) := by
  unfold j_Dr_takes_33 at hf
  refine rh_Ex.blk 6 (s' := ((41, [some (.ref 21), some (.int p0), some (.int ((h 21 3) - (1 : Int32)))], [.int ((h 21 3) - (1 : Int32))]), (h, g, cw_R sv))) rfl ?_
  by_cases q6 : 0 ≤ ((h 21 3) - (1 : Int32))
  · rw [if_pos q6] at hf
    refine rh_Ex.stp (s' := ((46, [some (.ref 21), some (.int p0), some (.int ((h 21 3) - (1 : Int32)))], []), (h, g, cw_R sv))) rfl (st_ifge_p q6) ?_
    refine rh_Ex.blk 2 (s' := ((50, [some (.ref 21), some (.int p0), some (.int ((h 21 3) - (1 : Int32)))], [.int (h 21 4)]), (h, g, cw_R sv))) rfl ?_
    refine rh_Ex.stp (s' := ((rh_tw 1 [80, 87, 94, 101] 108 (h 21 4), [some (.ref 21), some (.int p0), some (.int ((h 21 3) - (1 : Int32)))], []), (h, g, cw_R sv))) rfl rfl ?_
    by_cases q7 : ((1 : Int) = (h 21 4).toInt)
    · rw [if_pos q7] at hf
      rw [rh_tw, if_pos (show (1 : Int) = (h 21 4).toInt from q7)]
      refine rh_Ex.blk 3 (s' := ((83, [some (.ref 21), some (.int p0), some (.int ((h 21 3) - (1 : Int32)))], [.int ((h 21 3) - (1 : Int32)), .int p0, .ref 21]), (h, g, cw_R sv))) rfl ?_
      obtain ⟨x8, hx8, hf⟩ := rh_bq hf
      refine rh_Ex.call (j := 15) (rc := some 1) [.ref 21, .int p0, .int ((h 21 3) - (1 : Int32))] [] (some (.int x8.1)) rfl rfl rfl (Nat.le_of_ble_eq_true rfl) (R_Dr_takesNumber d xx sv h g p0 ((h 21 3) - (1 : Int32)) hx8) ?_
      show rh_Ex _ _ _ ((86, [some (.ref 21), some (.int p0), some (.int ((h 21 3) - (1 : Int32)))], [.int x8.1]), (x8.2, g, cw_R sv)) _ _
      obtain ⟨q9, hf⟩ := rh_gq hf
      obtain rfl := Option.some.inj hf
      exact rh_Ex.ret rfl ⟨rfl, q9⟩
    · rw [if_neg q7] at hf
      rw [rh_tw, if_neg (show ¬ (1 : Int) = (h 21 4).toInt from q7)]
      by_cases q10 : ((2 : Int) = (h 21 4).toInt)
      · rw [if_pos q10] at hf
        rw [rh_tw, if_pos (show (1 + 1 : Int) = (h 21 4).toInt from q10)]
        refine rh_Ex.blk 3 (s' := ((90, [some (.ref 21), some (.int p0), some (.int ((h 21 3) - (1 : Int32)))], [.int ((h 21 3) - (1 : Int32)), .int p0, .ref 21]), (h, g, cw_R sv))) rfl ?_
        obtain ⟨x11, hx11, hf⟩ := rh_bq hf
        refine rh_Ex.call (j := 16) (rc := some 1) [.ref 21, .int p0, .int ((h 21 3) - (1 : Int32))] [] (some (.int x11.1)) rfl rfl rfl (Nat.le_of_ble_eq_true rfl) (R_Dr_takesLetter (d + 1) xx sv h g p0 ((h 21 3) - (1 : Int32)) hx11) ?_
        show rh_Ex _ _ _ ((93, [some (.ref 21), some (.int p0), some (.int ((h 21 3) - (1 : Int32)))], [.int x11.1]), (x11.2, g, cw_R sv)) _ _
        obtain ⟨q12, hf⟩ := rh_gq hf
        obtain rfl := Option.some.inj hf
        exact rh_Ex.ret rfl ⟨rfl, q12⟩
      · rw [if_neg q10] at hf
        rw [rh_tw, if_neg (show ¬ (1 + 1 : Int) = (h 21 4).toInt from q10)]
        by_cases q13 : ((3 : Int) = (h 21 4).toInt)
        · rw [if_pos q13] at hf
          rw [rh_tw, if_pos (show (1 + 1 + 1 : Int) = (h 21 4).toInt from q13)]
          refine rh_Ex.blk 3 (s' := ((97, [some (.ref 21), some (.int p0), some (.int ((h 21 3) - (1 : Int32)))], [.int ((h 21 3) - (1 : Int32)), .int p0, .ref 21]), (h, g, cw_R sv))) rfl ?_
          obtain ⟨x14, hx14, hf⟩ := rh_bq hf
          refine rh_Ex.call (j := 17) (rc := some 1) [.ref 21, .int p0, .int ((h 21 3) - (1 : Int32))] [] (some (.int x14.1)) rfl rfl rfl (Nat.le_of_ble_eq_true rfl) (R_Dr_takesPlace d xx sv h g p0 ((h 21 3) - (1 : Int32)) hx14) ?_
          show rh_Ex _ _ _ ((100, [some (.ref 21), some (.int p0), some (.int ((h 21 3) - (1 : Int32)))], [.int x14.1]), (x14.2, g, cw_R sv)) _ _
          obtain ⟨q15, hf⟩ := rh_gq hf
          obtain rfl := Option.some.inj hf
          exact rh_Ex.ret rfl ⟨rfl, q15⟩
        · rw [if_neg q13] at hf
          rw [rh_tw, if_neg (show ¬ (1 + 1 + 1 : Int) = (h 21 4).toInt from q13)]
          by_cases q16 : ((4 : Int) = (h 21 4).toInt)
          · rw [if_pos q16] at hf
            rw [rh_tw, if_pos (show (1 + 1 + 1 + 1 : Int) = (h 21 4).toInt from q16)]
            refine rh_Ex.blk 3 (s' := ((104, [some (.ref 21), some (.int p0), some (.int ((h 21 3) - (1 : Int32)))], [.int ((h 21 3) - (1 : Int32)), .int p0, .ref 21]), (h, g, cw_R sv))) rfl ?_
            obtain ⟨x17, hx17, hf⟩ := rh_bq hf
            refine rh_Ex.call (j := 18) (rc := some 1) [.ref 21, .int p0, .int ((h 21 3) - (1 : Int32))] [] (some (.int x17.1)) rfl rfl rfl (Nat.le_of_ble_eq_true rfl) (R_Dr_takesWay (d + 1) xx sv h g p0 ((h 21 3) - (1 : Int32)) hx17) ?_
            show rh_Ex _ _ _ ((107, [some (.ref 21), some (.int p0), some (.int ((h 21 3) - (1 : Int32)))], [.int x17.1]), (x17.2, g, cw_R sv)) _ _
            obtain ⟨q18, hf⟩ := rh_gq hf
            obtain rfl := Option.some.inj hf
            exact rh_Ex.ret rfl ⟨rfl, q18⟩
          · rw [if_neg q16] at hf
            rw [rh_tw, if_neg (show ¬ (1 + 1 + 1 + 1 : Int) = (h 21 4).toInt from q16)]
            rw [rh_tw]
            refine rh_Ex.blk 1 (s' := ((109, [some (.ref 21), some (.int p0), some (.int ((h 21 3) - (1 : Int32)))], [.int (0 : Int32)]), (h, g, cw_R sv))) rfl ?_
            obtain rfl := Option.some.inj hf
            exact rh_Ex.ret rfl ⟨rfl, Or.inl rfl⟩
  · rw [if_neg q6] at hf
    refine rh_Ex.stp (s' := ((44, [some (.ref 21), some (.int p0), some (.int ((h 21 3) - (1 : Int32)))], []), (h, g, cw_R sv))) rfl (st_ifge_n q6) ?_
    refine rh_Ex.blk 1 (s' := ((45, [some (.ref 21), some (.int p0), some (.int ((h 21 3) - (1 : Int32)))], [.int (0 : Int32)]), (h, g, cw_R sv))) rfl ?_
    obtain rfl := Option.some.inj hf
    exact rh_Ex.ret rfl ⟨rfl, Or.inl rfl⟩
set_option maxRecDepth 20000 in
set_option maxHeartbeats 4000000 in
theorem R_Dr_takes (d : Nat) (xx : rh_L) (sv : Option Nat) (h : Nat → Nat → Int32) (g : Nat → Nat → Int64) (p0 : Int32) {z9 : Int32 × (Nat → Nat → Int32)} (hf : f_Dr_takes h p0 = some z9) : rh_M rh_PT (cw_L ++ xx) (d + 3) 13 [.ref 21, .int p0] (h, g, cw_R sv) (some (.int z9.1)) (z9.2, g, cw_R sv) := by
  unfold f_Dr_takes at hf
  refine rh_go pt_13 (Nat.le_of_ble_eq_true rfl) (lv := [some (.ref 21), some (.int p0), none]) rfl ?_
  refine rh_Ex.blk 2 (s' := ((4, [some (.ref 21), some (.int p0), none], [.int (h 21 4)]), (h, g, cw_R sv))) rfl ?_
  by_cases q1 : (h 21 4) = 0
  · rw [if_pos q1] at hf
    refine rh_Ex.stp (s' := ((7, [some (.ref 21), some (.int p0), none], []), (h, g, cw_R sv))) rfl (st_ifne_p q1) ?_
    refine rh_Ex.blk 2 (s' := ((9, [some (.ref 21), some (.int p0), none], [.int p0, .ref 21]), (h, g, cw_R sv))) rfl ?_
    obtain ⟨x2, hx2, hf⟩ := rh_bq hf
    refine rh_Ex.call (j := 14) (rc := some 1) [.ref 21, .int p0] [] (some (.int x2.1)) rfl rfl rfl (Nat.le_of_ble_eq_true rfl) (R_Dr_takesKind (d + 1) xx sv h g p0 hx2) ?_
    show rh_Ex _ _ _ ((12, [some (.ref 21), some (.int p0), none], [.int x2.1]), (x2.2, g, cw_R sv)) _ _
    obtain ⟨q3, hf⟩ := rh_gq hf
    obtain rfl := Option.some.inj hf
    exact rh_Ex.ret rfl ⟨rfl, q3⟩
  · rw [if_neg q1] at hf
    refine rh_Ex.stp (s' := ((13, [some (.ref 21), some (.int p0), none], []), (h, g, cw_R sv))) rfl (st_ifne_n q1) ?_
    refine rh_Ex.blk 2 (s' := ((16, [some (.ref 21), some (.int p0), none], [.int (59 : Int32), .int p0]), (h, g, cw_R sv))) rfl ?_
    by_cases q4 : p0 = (59 : Int32)
    · rw [if_pos q4] at hf
      refine rh_Ex.stp (s' := ((19, [some (.ref 21), some (.int p0), none], []), (h, g, cw_R sv))) rfl (st_icne_p q4) ?_
      refine rh_Ex.blk 1 (s' := ((20, [some (.ref 21), some (.int p0), none], [.ref 21]), (h, g, cw_R sv))) rfl ?_
      refine rh_Ex.call (j := 12) (rc := some 1) [.ref 21] [] (some (.int (f_Dr_canEnd h))) rfl rfl rfl (Nat.le_of_ble_eq_true rfl) (R_Dr_canEnd (d + 1) xx sv h g  rfl) ?_
      show rh_Ex _ _ _ ((23, [some (.ref 21), some (.int p0), none], [.int (f_Dr_canEnd h)]), (h, g, cw_R sv)) _ _
      by_cases q5 : (f_Dr_canEnd h) = 0
      · rw [if_pos q5] at hf
        refine rh_Ex.stp (s' := ((33, [some (.ref 21), some (.int p0), none], []), (h, g, cw_R sv))) rfl (st_ifeq_p q5) ?_
        refine rh_Ex.fgt [some (.ref 21), some (.int p0), none] ⟨rfl, rfl, trivial⟩ ?_
        exact lj_Dr_takes_33 d xx sv h p0 g hf
      · rw [if_neg q5] at hf
        refine rh_Ex.stp (s' := ((26, [some (.ref 21), some (.int p0), none], []), (h, g, cw_R sv))) rfl (st_ifeq_n q5) ?_
        refine rh_Ex.blk 4 (s' := ((32, [some (.ref 21), some (.int p0), none], [.int (1 : Int32)]), (rh_up h 21 4 (0 : Int32), g, cw_R sv))) rfl ?_
        obtain rfl := Option.some.inj hf
        exact rh_Ex.ret rfl ⟨rfl, Or.inr rfl⟩
    · rw [if_neg q4] at hf
      refine rh_Ex.stp (s' := ((33, [some (.ref 21), some (.int p0), none], []), (h, g, cw_R sv))) rfl (st_icne_n q4) ?_
      refine rh_Ex.fgt [some (.ref 21), some (.int p0), none] ⟨rfl, rfl, trivial⟩ ?_
      exact lj_Dr_takes_33 d xx sv h p0 g hf
def f_De_isAboard (h : Nat → Nat → Int32) (p0 : Int32) : Int32 :=
  if (((h 13 2) >>> (p0 &&& 31)) &&& (1 : Int32)) = 0 then
    (0 : Int32)
  else
    (1 : Int32)
set_option maxRecDepth 20000 in
set_option maxHeartbeats 4000000 in
theorem R_De_isAboard (d : Nat) (xx : rh_L) (sv : Option Nat) (h : Nat → Nat → Int32) (g : Nat → Nat → Int64) (p0 : Int32) {z9 : Int32} (hf : f_De_isAboard h p0 = z9) : rh_M rh_PT (cw_L ++ xx) (d + 1) 19 [.ref 13, .int p0] (h, g, cw_R sv) (some (.int z9)) (h, g, cw_R sv) := by
  unfold f_De_isAboard at hf
  refine rh_go pt_19 (Nat.le_of_ble_eq_true rfl) (lv := [some (.ref 13), some (.int p0)]) rfl ?_
  refine rh_Ex.blk 6 (s' := ((8, [some (.ref 13), some (.int p0)], [.int (((h 13 2) >>> (p0 &&& 31)) &&& (1 : Int32))]), (h, g, cw_R sv))) rfl ?_
  by_cases q1 : (((h 13 2) >>> (p0 &&& 31)) &&& (1 : Int32)) = 0
  · rw [if_pos q1] at hf
    refine rh_Ex.stp (s' := ((15, [some (.ref 13), some (.int p0)], []), (h, g, cw_R sv))) rfl (st_ifeq_p q1) ?_
    refine rh_Ex.blk 1 (s' := ((16, [some (.ref 13), some (.int p0)], [.int (0 : Int32)]), (h, g, cw_R sv))) rfl ?_
    subst hf
    exact rh_Ex.ret rfl ⟨rfl, Or.inl rfl⟩
  · rw [if_neg q1] at hf
    refine rh_Ex.stp (s' := ((11, [some (.ref 13), some (.int p0)], []), (h, g, cw_R sv))) rfl (st_ifeq_n q1) ?_
    refine rh_Ex.blk 2 (s' := ((16, [some (.ref 13), some (.int p0)], [.int (1 : Int32)]), (h, g, cw_R sv))) rfl ?_
    subst hf
    exact rh_Ex.ret rfl ⟨rfl, Or.inr rfl⟩
