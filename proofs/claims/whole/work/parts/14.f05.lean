def f_La_step (h : Nat → Nat → Int32) (p0 : Int32) (p1 : Int32) : Option (Int32 × (Nat → Nat → Int32)) :=
  (f_De_mark h).bind (fun x1 =>
    (f_La_tread x1 p0 p1).bind (fun x2 =>
      if x2.1 < (-4 : Int32) then
        some ((x2.1, x2.2))
      else
        (f_De_remember x2.2).bind (fun x4 =>
          some ((x2.1, x4))
        )
    )
  )
set_option maxRecDepth 20000 in
set_option maxHeartbeats 4000000 in
theorem R_La_step (d : Nat) (xx : rh_L) (sv : Option Nat) (h : Nat → Nat → Int32) (g : Nat → Nat → Int64) (p0 : Int32) (p1 : Int32) {z9 : Int32 × (Nat → Nat → Int32)} (hf : f_La_step h p0 p1 = some z9) : rh_M rh_PT (cw_L ++ xx) (d + 6) 113 [.ref 0, .int p0, .int p1] (h, g, cw_R sv) (some (.int z9.1)) (z9.2, g, cw_R sv) := by
  unfold f_La_step at hf
  refine rh_go pt_113 (Nat.le_of_ble_eq_true rfl) (lv := [some (.ref 0), some (.int p0), some (.int p1), none]) rfl ?_
  refine rh_Ex.blk 2 (s' := ((4, [some (.ref 0), some (.int p0), some (.int p1), none], [.ref 13]), (h, g, cw_R sv))) rfl ?_
  obtain ⟨x1, hx1, hf⟩ := rh_bq hf
  refine rh_Ex.call (j := 23) (rc := some 2) [.ref 13] [] none rfl rfl rfl (Nat.le_of_ble_eq_true rfl) (R_De_mark (d + 3) xx sv h g  hx1) ?_
  show rh_Ex _ _ _ ((7, [some (.ref 0), some (.int p0), some (.int p1), none], []), (x1, g, cw_R sv)) _ _
  refine rh_Ex.blk 3 (s' := ((10, [some (.ref 0), some (.int p0), some (.int p1), none], [.int p1, .int p0, .ref 0]), (x1, g, cw_R sv))) rfl ?_
  obtain ⟨x2, hx2, hf⟩ := rh_bq hf
  refine rh_Ex.call (j := 168) (rc := some 10) [.ref 0, .int p0, .int p1] [] (some (.int x2.1)) rfl rfl rfl (Nat.le_of_ble_eq_true rfl) (R_La_tread d xx sv x1 g p0 p1 hx2) ?_
  show rh_Ex _ _ _ ((13, [some (.ref 0), some (.int p0), some (.int p1), none], [.int x2.1]), (x2.2, g, cw_R sv)) _ _
  refine rh_Ex.blk 3 (s' := ((17, [some (.ref 0), some (.int p0), some (.int p1), some (.int x2.1)], [.int (-4 : Int32), .int x2.1]), (x2.2, g, cw_R sv))) rfl ?_
  by_cases q3 : x2.1 < (-4 : Int32)
  · rw [if_pos q3] at hf
    refine rh_Ex.stp (s' := ((27, [some (.ref 0), some (.int p0), some (.int p1), some (.int x2.1)], []), (x2.2, g, cw_R sv))) rfl (st_iclt_p q3) ?_
    refine rh_Ex.blk 1 (s' := ((28, [some (.ref 0), some (.int p0), some (.int p1), some (.int x2.1)], [.int x2.1]), (x2.2, g, cw_R sv))) rfl ?_
    obtain rfl := Option.some.inj hf
    exact rh_Ex.ret rfl rfl
  · rw [if_neg q3] at hf
    refine rh_Ex.stp (s' := ((20, [some (.ref 0), some (.int p0), some (.int p1), some (.int x2.1)], []), (x2.2, g, cw_R sv))) rfl (st_iclt_n q3) ?_
    refine rh_Ex.blk 2 (s' := ((24, [some (.ref 0), some (.int p0), some (.int p1), some (.int x2.1)], [.ref 13]), (x2.2, g, cw_R sv))) rfl ?_
    obtain ⟨x4, hx4, hf⟩ := rh_bq hf
    refine rh_Ex.call (j := 24) (rc := some 2) [.ref 13] [] none rfl rfl rfl (Nat.le_of_ble_eq_true rfl) (R_De_remember (d + 4) xx sv x2.2 g  hx4) ?_
    show rh_Ex _ _ _ ((27, [some (.ref 0), some (.int p0), some (.int p1), some (.int x2.1)], []), (x4, g, cw_R sv)) _ _
    refine rh_Ex.blk 1 (s' := ((28, [some (.ref 0), some (.int p0), some (.int p1), some (.int x2.1)], [.int x2.1]), (x4, g, cw_R sv))) rfl ?_
    obtain rfl := Option.some.inj hf
    exact rh_Ex.ret rfl rfl
def f_La_act (h : Nat → Nat → Int32) (p0 : Int32) : Option (Int32 × (Nat → Nat → Int32)) :=
  rh_g (0 ≤ p0.toInt ∧ p0.toInt < ((24 : Nat) : Int)) (
    rh_g (0 ≤ p0.toInt ∧ p0.toInt < ((24 : Nat) : Int)) (
      rh_g (0 ≤ p0.toInt ∧ p0.toInt < ((24 : Nat) : Int)) (
        if ((98 : Int) = (h 22 p0.toNatClampNeg).toInt) then
          (f_La_comeAboard h (h 23 p0.toNatClampNeg) (h 24 p0.toNatClampNeg)).bind (fun x5 =>
            if x5.1 = 0 then
              some (((1 : Int32), x5.2))
            else
              some (((0 : Int32), x5.2))
          )
        else
          if ((111 : Int) = (h 22 p0.toNatClampNeg).toInt) then
            (f_La_goOff h (h 23 p0.toNatClampNeg)).bind (fun x8 =>
              if x8.1 = 0 then
                some (((1 : Int32), x8.2))
              else
                some (((0 : Int32), x8.2))
            )
          else
            if ((114 : Int) = (h 22 p0.toNatClampNeg).toInt) then
              some (((1 : Int32), rh_up h 13 1 ((h 13 1) + (h 24 p0.toNatClampNeg))))
            else
              (f_La_tread h (h 23 p0.toNatClampNeg) (h 24 p0.toNatClampNeg)).bind (fun x11 =>
                if x11.1 < (-4 : Int32) then
                  some (((0 : Int32), x11.2))
                else
                  some (((1 : Int32), x11.2))
              )
      )
    )
  )
set_option maxRecDepth 20000 in
set_option maxHeartbeats 4000000 in
theorem R_La_act (d : Nat) (xx : rh_L) (sv : Option Nat) (h : Nat → Nat → Int32) (g : Nat → Nat → Int64) (p0 : Int32) {z9 : Int32 × (Nat → Nat → Int32)} (hf : f_La_act h p0 = some z9) : rh_M rh_PT (cw_L ++ xx) (d + 6) 169 [.ref 0, .int p0] (h, g, cw_R sv) (some (.int z9.1)) (z9.2, g, cw_R sv) := by
  unfold f_La_act at hf
  refine rh_go pt_169 (Nat.le_of_ble_eq_true rfl) (lv := [some (.ref 0), some (.int p0), none, none]) rfl ?_
  refine rh_Ex.blk 4 (s' := ((8, [some (.ref 0), some (.int p0), none, none], [.int p0, .ref 23]), (h, g, cw_R sv))) rfl ?_
  obtain ⟨q1, hf⟩ := rh_gq hf
  refine rh_Ex.stp (s' := ((9, [some (.ref 0), some (.int p0), none, none], [.int (h 23 p0.toNatClampNeg)]), (h, g, cw_R sv))) rfl (st_iald (n := 24) rfl q1) ?_
  refine rh_Ex.blk 5 (s' := ((18, [some (.ref 0), some (.int p0), some (.int (h 23 p0.toNatClampNeg)), none], [.int p0, .ref 24]), (h, g, cw_R sv))) rfl ?_
  obtain ⟨q2, hf⟩ := rh_gq hf
  refine rh_Ex.stp (s' := ((19, [some (.ref 0), some (.int p0), some (.int (h 23 p0.toNatClampNeg)), none], [.int (h 24 p0.toNatClampNeg)]), (h, g, cw_R sv))) rfl (st_iald (n := 24) rfl q2) ?_
  refine rh_Ex.blk 5 (s' := ((28, [some (.ref 0), some (.int p0), some (.int (h 23 p0.toNatClampNeg)), some (.int (h 24 p0.toNatClampNeg))], [.int p0, .ref 22]), (h, g, cw_R sv))) rfl ?_
  obtain ⟨q3, hf⟩ := rh_gq hf
  refine rh_Ex.stp (s' := ((29, [some (.ref 0), some (.int p0), some (.int (h 23 p0.toNatClampNeg)), some (.int (h 24 p0.toNatClampNeg))], [.int (h 22 p0.toNatClampNeg)]), (h, g, cw_R sv))) rfl (st_iald (n := 24) rfl q3) ?_
  refine rh_Ex.stp (s' := ((rh_sw [(98, 79), (111, 94), (114, 64)] 108 (h 22 p0.toNatClampNeg), [some (.ref 0), some (.int p0), some (.int (h 23 p0.toNatClampNeg)), some (.int (h 24 p0.toNatClampNeg))], []), (h, g, cw_R sv))) rfl rfl ?_
  by_cases q4 : ((98 : Int) = (h 22 p0.toNatClampNeg).toInt)
  · rw [if_pos q4] at hf
    rw [rh_sw, if_pos (show (98 : Int) = (h 22 p0.toNatClampNeg).toInt from q4)]
    refine rh_Ex.blk 3 (s' := ((82, [some (.ref 0), some (.int p0), some (.int (h 23 p0.toNatClampNeg)), some (.int (h 24 p0.toNatClampNeg))], [.int (h 24 p0.toNatClampNeg), .int (h 23 p0.toNatClampNeg), .ref 0]), (h, g, cw_R sv))) rfl ?_
    obtain ⟨x5, hx5, hf⟩ := rh_bq hf
    refine rh_Ex.call (j := 166) (rc := some 10) [.ref 0, .int (h 23 p0.toNatClampNeg), .int (h 24 p0.toNatClampNeg)] [] (some (.int x5.1)) rfl rfl rfl (Nat.le_of_ble_eq_true rfl) (R_La_comeAboard d xx sv h g (h 23 p0.toNatClampNeg) (h 24 p0.toNatClampNeg) hx5) ?_
    show rh_Ex _ _ _ ((85, [some (.ref 0), some (.int p0), some (.int (h 23 p0.toNatClampNeg)), some (.int (h 24 p0.toNatClampNeg))], [.int x5.1]), (x5.2, g, cw_R sv)) _ _
    by_cases q6 : x5.1 = 0
    · rw [if_pos q6] at hf
      refine rh_Ex.stp (s' := ((88, [some (.ref 0), some (.int p0), some (.int (h 23 p0.toNatClampNeg)), some (.int (h 24 p0.toNatClampNeg))], []), (x5.2, g, cw_R sv))) rfl (st_ifne_p q6) ?_
      refine rh_Ex.blk 2 (s' := ((93, [some (.ref 0), some (.int p0), some (.int (h 23 p0.toNatClampNeg)), some (.int (h 24 p0.toNatClampNeg))], [.int (1 : Int32)]), (x5.2, g, cw_R sv))) rfl ?_
      obtain rfl := Option.some.inj hf
      exact rh_Ex.ret rfl ⟨rfl, Or.inr rfl⟩
    · rw [if_neg q6] at hf
      refine rh_Ex.stp (s' := ((92, [some (.ref 0), some (.int p0), some (.int (h 23 p0.toNatClampNeg)), some (.int (h 24 p0.toNatClampNeg))], []), (x5.2, g, cw_R sv))) rfl (st_ifne_n q6) ?_
      refine rh_Ex.blk 1 (s' := ((93, [some (.ref 0), some (.int p0), some (.int (h 23 p0.toNatClampNeg)), some (.int (h 24 p0.toNatClampNeg))], [.int (0 : Int32)]), (x5.2, g, cw_R sv))) rfl ?_
      obtain rfl := Option.some.inj hf
      exact rh_Ex.ret rfl ⟨rfl, Or.inl rfl⟩
  · rw [if_neg q4] at hf
    rw [rh_sw, if_neg (show ¬ (98 : Int) = (h 22 p0.toNatClampNeg).toInt from q4)]
    by_cases q7 : ((111 : Int) = (h 22 p0.toNatClampNeg).toInt)
    · rw [if_pos q7] at hf
      rw [rh_sw, if_pos (show (111 : Int) = (h 22 p0.toNatClampNeg).toInt from q7)]
      refine rh_Ex.blk 2 (s' := ((96, [some (.ref 0), some (.int p0), some (.int (h 23 p0.toNatClampNeg)), some (.int (h 24 p0.toNatClampNeg))], [.int (h 23 p0.toNatClampNeg), .ref 0]), (h, g, cw_R sv))) rfl ?_
      obtain ⟨x8, hx8, hf⟩ := rh_bq hf
      refine rh_Ex.call (j := 167) (rc := some 10) [.ref 0, .int (h 23 p0.toNatClampNeg)] [] (some (.int x8.1)) rfl rfl rfl (Nat.le_of_ble_eq_true rfl) (R_La_goOff d xx sv h g (h 23 p0.toNatClampNeg) hx8) ?_
      show rh_Ex _ _ _ ((99, [some (.ref 0), some (.int p0), some (.int (h 23 p0.toNatClampNeg)), some (.int (h 24 p0.toNatClampNeg))], [.int x8.1]), (x8.2, g, cw_R sv)) _ _
      by_cases q9 : x8.1 = 0
      · rw [if_pos q9] at hf
        refine rh_Ex.stp (s' := ((102, [some (.ref 0), some (.int p0), some (.int (h 23 p0.toNatClampNeg)), some (.int (h 24 p0.toNatClampNeg))], []), (x8.2, g, cw_R sv))) rfl (st_ifne_p q9) ?_
        refine rh_Ex.blk 2 (s' := ((107, [some (.ref 0), some (.int p0), some (.int (h 23 p0.toNatClampNeg)), some (.int (h 24 p0.toNatClampNeg))], [.int (1 : Int32)]), (x8.2, g, cw_R sv))) rfl ?_
        obtain rfl := Option.some.inj hf
        exact rh_Ex.ret rfl ⟨rfl, Or.inr rfl⟩
      · rw [if_neg q9] at hf
        refine rh_Ex.stp (s' := ((106, [some (.ref 0), some (.int p0), some (.int (h 23 p0.toNatClampNeg)), some (.int (h 24 p0.toNatClampNeg))], []), (x8.2, g, cw_R sv))) rfl (st_ifne_n q9) ?_
        refine rh_Ex.blk 1 (s' := ((107, [some (.ref 0), some (.int p0), some (.int (h 23 p0.toNatClampNeg)), some (.int (h 24 p0.toNatClampNeg))], [.int (0 : Int32)]), (x8.2, g, cw_R sv))) rfl ?_
        obtain rfl := Option.some.inj hf
        exact rh_Ex.ret rfl ⟨rfl, Or.inl rfl⟩
    · rw [if_neg q7] at hf
      rw [rh_sw, if_neg (show ¬ (111 : Int) = (h 22 p0.toNatClampNeg).toInt from q7)]
      by_cases q10 : ((114 : Int) = (h 22 p0.toNatClampNeg).toInt)
      · rw [if_pos q10] at hf
        rw [rh_sw, if_pos (show (114 : Int) = (h 22 p0.toNatClampNeg).toInt from q10)]
        refine rh_Ex.blk 8 (s' := ((78, [some (.ref 0), some (.int p0), some (.int (h 23 p0.toNatClampNeg)), some (.int (h 24 p0.toNatClampNeg))], [.int (1 : Int32)]), (rh_up h 13 1 ((h 13 1) + (h 24 p0.toNatClampNeg)), g, cw_R sv))) rfl ?_
        obtain rfl := Option.some.inj hf
        exact rh_Ex.ret rfl ⟨rfl, Or.inr rfl⟩
      · rw [if_neg q10] at hf
        rw [rh_sw, if_neg (show ¬ (114 : Int) = (h 22 p0.toNatClampNeg).toInt from q10)]
        rw [rh_sw]
        refine rh_Ex.blk 3 (s' := ((111, [some (.ref 0), some (.int p0), some (.int (h 23 p0.toNatClampNeg)), some (.int (h 24 p0.toNatClampNeg))], [.int (h 24 p0.toNatClampNeg), .int (h 23 p0.toNatClampNeg), .ref 0]), (h, g, cw_R sv))) rfl ?_
        obtain ⟨x11, hx11, hf⟩ := rh_bq hf
        refine rh_Ex.call (j := 168) (rc := some 10) [.ref 0, .int (h 23 p0.toNatClampNeg), .int (h 24 p0.toNatClampNeg)] [] (some (.int x11.1)) rfl rfl rfl (Nat.le_of_ble_eq_true rfl) (R_La_tread d xx sv h g (h 23 p0.toNatClampNeg) (h 24 p0.toNatClampNeg) hx11) ?_
        show rh_Ex _ _ _ ((114, [some (.ref 0), some (.int p0), some (.int (h 23 p0.toNatClampNeg)), some (.int (h 24 p0.toNatClampNeg))], [.int x11.1]), (x11.2, g, cw_R sv)) _ _
        refine rh_Ex.blk 1 (s' := ((116, [some (.ref 0), some (.int p0), some (.int (h 23 p0.toNatClampNeg)), some (.int (h 24 p0.toNatClampNeg))], [.int (-4 : Int32), .int x11.1]), (x11.2, g, cw_R sv))) rfl ?_
        by_cases q12 : x11.1 < (-4 : Int32)
        · rw [if_pos q12] at hf
          refine rh_Ex.stp (s' := ((123, [some (.ref 0), some (.int p0), some (.int (h 23 p0.toNatClampNeg)), some (.int (h 24 p0.toNatClampNeg))], []), (x11.2, g, cw_R sv))) rfl (st_iclt_p q12) ?_
          refine rh_Ex.blk 1 (s' := ((124, [some (.ref 0), some (.int p0), some (.int (h 23 p0.toNatClampNeg)), some (.int (h 24 p0.toNatClampNeg))], [.int (0 : Int32)]), (x11.2, g, cw_R sv))) rfl ?_
          obtain rfl := Option.some.inj hf
          exact rh_Ex.ret rfl ⟨rfl, Or.inl rfl⟩
        · rw [if_neg q12] at hf
          refine rh_Ex.stp (s' := ((119, [some (.ref 0), some (.int p0), some (.int (h 23 p0.toNatClampNeg)), some (.int (h 24 p0.toNatClampNeg))], []), (x11.2, g, cw_R sv))) rfl (st_iclt_n q12) ?_
          refine rh_Ex.blk 2 (s' := ((124, [some (.ref 0), some (.int p0), some (.int (h 23 p0.toNatClampNeg)), some (.int (h 24 p0.toNatClampNeg))], [.int (1 : Int32)]), (x11.2, g, cw_R sv))) rfl ?_
          obtain rfl := Option.some.inj hf
          exact rh_Ex.ret rfl ⟨rfl, Or.inr rfl⟩
def f_Re_faultAt_21 (p0 : Int32) : Int32 :=
  p0
set_option maxRecDepth 20000 in
set_option maxHeartbeats 4000000 in
theorem R_Re_faultAt_21 (d : Nat) (xx : rh_L) (sv : Option Nat) (h : Nat → Nat → Int32) (g : Nat → Nat → Int64) (p0 : Int32) {z9 : Int32} (hf : f_Re_faultAt_21 p0 = z9) : rh_M rh_PT (cw_L ++ xx) (d + 1) 51 [.ref 21, .int p0] (h, g, cw_R sv) (some (.int z9)) (h, g, cw_R sv) := by
  unfold f_Re_faultAt_21 at hf
  refine rh_go pt_51 (Nat.le_of_ble_eq_true rfl) (lv := [some (.ref 21), some (.int p0)]) rfl ?_
  refine rh_Ex.blk 1 (s' := ((1, [some (.ref 21), some (.int p0)], [.int p0]), (h, g, cw_R sv))) rfl ?_
  subst hf
  exact rh_Ex.ret rfl rfl
def b_Re_readThrough_Dr_21_1_19 (u2 : Int32) (u3 : Int32) (u4 : Int32) : (Int32 × (Nat → Nat → Int32)) → Option ((Int32 × (Nat → Nat → Int32)) ⊕ (((Nat → Nat → Int32)) ⊕ (Int32 × (Nat → Nat → Int32)))) := fun s19 =>
  if u4 ≤ s19.1 then
    some (.inr (.inl s19.2))
  else
    rh_g (0 ≤ s19.1.toInt ∧ s19.1.toInt < ((80 : Nat) : Int)) (
      (f_Dr_takes s19.2 (s19.2 1 s19.1.toNatClampNeg)).bind (fun x4 =>
        if x4.1 = 0 then
          some (.inr (.inr ((-1 : Int32) - (f_Re_faultAt_21 s19.1), x4.2)))
        else
          some (.inl (s19.1 + (1 : Int32), x4.2))
      )
    )
def f_Re_readThrough_Dr_21_1 (h : Nat → Nat → Int32) (p0 : Int32) (p1 : Int32) : Option (Int32 × (Nat → Nat → Int32)) :=
  (rh_loop (b_Re_readThrough_Dr_21_1_19 p0 p1 (if (80 : Int32) < (if p1 < p0 then p1 else p0) then (80 : Int32) else (if p1 < p0 then p1 else p0))) rh_N ((0 : Int32), (f_Dr_begin h))).bind (fun r6 => match r6 with
    | .inl e7 =>
      if p0 ≤ p1 then
        if (f_Dr_canEnd e7) = 0 then
          some (((-1 : Int32) - (f_Re_faultAt_21 p0), e7))
        else
          some (((0 : Int32), e7))
      else
        some (((-1 : Int32) - p1, e7))
    | .inr t8 => some t8)
set_option maxRecDepth 20000 in
set_option maxHeartbeats 4000000 in
theorem lb_Re_readThrough_Dr_21_1_19 (d : Nat) (xx : rh_L) (sv : Option Nat) (u2 : Int32) (u3 : Int32) (u4 : Int32) (g : Nat → Nat → Int64) (v9 : Option Value) (h9 : rh_H) : ∀ s19 x9, b_Re_readThrough_Dr_21_1_19 u2 u3 u4 s19 = some x9 → Sum.elim (fun s19 => rh_Ex (rh_M rh_PT (cw_L ++ xx) (d + 3)) (cw_L ++ xx) pg_X5_readThrough_RX1 ((19, [some (.ref 21), some (.ref 1), some (.int u2), some (.int u3), some (.int u4), some (.int s19.1)], []), (s19.2, g, cw_R sv)) v9 h9) (Sum.elim (fun e9 => rh_Ex (rh_M rh_PT (cw_L ++ xx) (d + 3)) (cw_L ++ xx) pg_X5_readThrough_RX1 ((52, [some (.ref 21), none, some (.int u2), some (.int u3), none, none], []), (e9, g, cw_R sv)) v9 h9) (fun t9 => v9 = (some (.int t9.1)) ∧ h9 = (t9.2, g, cw_R sv))) x9 → rh_Ex (rh_M rh_PT (cw_L ++ xx) (d + 3)) (cw_L ++ xx) pg_X5_readThrough_RX1 ((19, [some (.ref 21), some (.ref 1), some (.int u2), some (.int u3), some (.int u4), some (.int s19.1)], []), (s19.2, g, cw_R sv)) v9 h9 := by
  intro s19 x9 hf hk
  unfold b_Re_readThrough_Dr_21_1_19 at hf
  refine rh_Ex.blk 2 (s' := ((23, [some (.ref 21), some (.ref 1), some (.int u2), some (.int u3), some (.int u4), some (.int s19.1)], [.int u4, .int s19.1]), (s19.2, g, cw_R sv))) rfl ?_
  by_cases q2 : u4 ≤ s19.1
  · rw [if_pos q2] at hf
    refine rh_Ex.stp (s' := ((52, [some (.ref 21), some (.ref 1), some (.int u2), some (.int u3), some (.int u4), some (.int s19.1)], []), (s19.2, g, cw_R sv))) rfl (st_icge_p q2) ?_
    obtain rfl := Option.some.inj hf
    refine rh_Ex.fgt [some (.ref 21), none, some (.int u2), some (.int u3), none, none] ⟨rfl, rfl, rfl, trivial⟩ ?_
    exact hk
  · rw [if_neg q2] at hf
    refine rh_Ex.stp (s' := ((26, [some (.ref 21), some (.ref 1), some (.int u2), some (.int u3), some (.int u4), some (.int s19.1)], []), (s19.2, g, cw_R sv))) rfl (st_icge_n q2) ?_
    refine rh_Ex.blk 3 (s' := ((30, [some (.ref 21), some (.ref 1), some (.int u2), some (.int u3), some (.int u4), some (.int s19.1)], [.int s19.1, .ref 1, .ref 21]), (s19.2, g, cw_R sv))) rfl ?_
    obtain ⟨q3, hf⟩ := rh_gq hf
    refine rh_Ex.stp (s' := ((31, [some (.ref 21), some (.ref 1), some (.int u2), some (.int u3), some (.int u4), some (.int s19.1)], [.int (s19.2 1 s19.1.toNatClampNeg), .ref 21]), (s19.2, g, cw_R sv))) rfl (st_iald (n := 80) rfl q3) ?_
    obtain ⟨x4, hx4, hf⟩ := rh_bq hf
    refine rh_Ex.call (j := 13) (rc := some 1) [.ref 21, .int (s19.2 1 s19.1.toNatClampNeg)] [] (some (.int x4.1)) rfl rfl rfl (Nat.le_of_ble_eq_true rfl) (R_Dr_takes d xx sv s19.2 g (s19.2 1 s19.1.toNatClampNeg) hx4) ?_
    show rh_Ex _ _ _ ((34, [some (.ref 21), some (.ref 1), some (.int u2), some (.int u3), some (.int u4), some (.int s19.1)], [.int x4.1]), (x4.2, g, cw_R sv)) _ _
    by_cases q5 : x4.1 = 0
    · rw [if_pos q5] at hf
      refine rh_Ex.stp (s' := ((37, [some (.ref 21), some (.ref 1), some (.int u2), some (.int u3), some (.int u4), some (.int s19.1)], []), (x4.2, g, cw_R sv))) rfl (st_ifne_p q5) ?_
      refine rh_Ex.blk 3 (s' := ((41, [some (.ref 21), some (.ref 1), some (.int u2), some (.int u3), some (.int u4), some (.int s19.1)], [.int s19.1, .ref 21, .int (-1 : Int32)]), (x4.2, g, cw_R sv))) rfl ?_
      refine rh_Ex.call (j := 51) (rc := some 1) [.ref 21, .int s19.1] [.int (-1 : Int32)] (some (.int (f_Re_faultAt_21 s19.1))) rfl rfl rfl (Nat.le_of_ble_eq_true rfl) (R_Re_faultAt_21 (d + 2) xx sv x4.2 g s19.1 rfl) ?_
      show rh_Ex _ _ _ ((44, [some (.ref 21), some (.ref 1), some (.int u2), some (.int u3), some (.int u4), some (.int s19.1)], [.int (f_Re_faultAt_21 s19.1), .int (-1 : Int32)]), (x4.2, g, cw_R sv)) _ _
      refine rh_Ex.blk 1 (s' := ((45, [some (.ref 21), some (.ref 1), some (.int u2), some (.int u3), some (.int u4), some (.int s19.1)], [.int ((-1 : Int32) - (f_Re_faultAt_21 s19.1))]), (x4.2, g, cw_R sv))) rfl ?_
      obtain rfl := Option.some.inj hf
      obtain ⟨rfl, rfl⟩ := hk
      exact rh_Ex.ret rfl rfl
    · rw [if_neg q5] at hf
      refine rh_Ex.stp (s' := ((46, [some (.ref 21), some (.ref 1), some (.int u2), some (.int u3), some (.int u4), some (.int s19.1)], []), (x4.2, g, cw_R sv))) rfl (st_ifne_n q5) ?_
      refine rh_Ex.blk 2 (s' := ((19, [some (.ref 21), some (.ref 1), some (.int u2), some (.int u3), some (.int u4), some (.int (s19.1 + (1 : Int32)))], []), (x4.2, g, cw_R sv))) rfl ?_
      obtain rfl := Option.some.inj hf
      refine rh_Ex.fgt [some (.ref 21), some (.ref 1), some (.int u2), some (.int u3), some (.int u4), some (.int (s19.1 + (1 : Int32)))] ⟨rfl, rfl, rfl, rfl, rfl, rfl, trivial⟩ ?_
      exact hk
set_option maxRecDepth 20000 in
set_option maxHeartbeats 4000000 in
theorem R_Re_readThrough_Dr_21_1 (d : Nat) (xx : rh_L) (sv : Option Nat) (h : Nat → Nat → Int32) (g : Nat → Nat → Int64) (p0 : Int32) (p1 : Int32) {z9 : Int32 × (Nat → Nat → Int32)} (hf : f_Re_readThrough_Dr_21_1 h p0 p1 = some z9) : rh_M rh_PT (cw_L ++ xx) (d + 4) 52 [.ref 21, .ref 1, .int p0, .int p1] (h, g, cw_R sv) (some (.int z9.1)) (z9.2, g, cw_R sv) := by
  unfold f_Re_readThrough_Dr_21_1 at hf
  refine rh_go pt_52 (Nat.le_of_ble_eq_true rfl) (lv := [some (.ref 21), some (.ref 1), some (.int p0), some (.int p1), none, none]) rfl ?_
  refine rh_Ex.blk 1 (s' := ((1, [some (.ref 21), some (.ref 1), some (.int p0), some (.int p1), none, none], [.ref 21]), (h, g, cw_R sv))) rfl ?_
  refine rh_Ex.call (j := 11) (rc := some 1) [.ref 21] [] none rfl rfl rfl (Nat.le_of_ble_eq_true rfl) (R_Dr_begin (d + 2) xx sv h g  rfl) ?_
  show rh_Ex _ _ _ ((4, [some (.ref 21), some (.ref 1), some (.int p0), some (.int p1), none, none], []), ((f_Dr_begin h), g, cw_R sv)) _ _
  refine rh_Ex.blk 2 (s' := ((6, [some (.ref 21), some (.ref 1), some (.int p0), some (.int p1), none, none], [.int p1, .int p0]), ((f_Dr_begin h), g, cw_R sv))) rfl ?_
  refine rh_Ex.stp (s' := ((9, [some (.ref 21), some (.ref 1), some (.int p0), some (.int p1), none, none], [.int (if p1 < p0 then p1 else p0)]), ((f_Dr_begin h), g, cw_R sv))) rfl (st_mmin (Nat.le_of_ble_eq_true rfl)) ?_
  refine rh_Ex.blk 2 (s' := ((11, [some (.ref 21), some (.ref 1), some (.int p0), some (.int p1), none, none], [.int (80 : Int32), .int (if p1 < p0 then p1 else p0)]), ((f_Dr_begin h), g, cw_R sv))) rfl ?_
  refine rh_Ex.stp (s' := ((14, [some (.ref 21), some (.ref 1), some (.int p0), some (.int p1), none, none], [.int (if (80 : Int32) < (if p1 < p0 then p1 else p0) then (80 : Int32) else (if p1 < p0 then p1 else p0))]), ((f_Dr_begin h), g, cw_R sv))) rfl (st_mmin (Nat.le_of_ble_eq_true rfl)) ?_
  refine rh_Ex.blk 3 (s' := ((19, [some (.ref 21), some (.ref 1), some (.int p0), some (.int p1), some (.int (if (80 : Int32) < (if p1 < p0 then p1 else p0) then (80 : Int32) else (if p1 < p0 then p1 else p0))), some (.int (0 : Int32))], []), ((f_Dr_begin h), g, cw_R sv))) rfl ?_
  obtain ⟨r6, hr6, hf⟩ := rh_bq hf
  refine rh_Ex.fgt [some (.ref 21), some (.ref 1), some (.int p0), some (.int p1), some (.int (if (80 : Int32) < (if p1 < p0 then p1 else p0) then (80 : Int32) else (if p1 < p0 then p1 else p0))), some (.int (0 : Int32))] ⟨rfl, rfl, rfl, rfl, rfl, rfl, trivial⟩ ?_
  refine rh_Ex.loop _ _ _ (lb_Re_readThrough_Dr_21_1_19 d xx sv p0 p1 (if (80 : Int32) < (if p1 < p0 then p1 else p0) then (80 : Int32) else (if p1 < p0 then p1 else p0))  g _ _) rh_N _ r6 hr6 ?_
  rcases r6 with e7 | t8
  · dsimp only at hf
    refine rh_Ex.blk 2 (s' := ((54, [some (.ref 21), none, some (.int p0), some (.int p1), none, none], [.int p1, .int p0]), (e7, g, cw_R sv))) rfl ?_
    by_cases q9 : p0 ≤ p1
    · rw [if_pos q9] at hf
      refine rh_Ex.stp (s' := ((61, [some (.ref 21), none, some (.int p0), some (.int p1), none, none], []), (e7, g, cw_R sv))) rfl (st_icle_p q9) ?_
      refine rh_Ex.blk 1 (s' := ((62, [some (.ref 21), none, some (.int p0), some (.int p1), none, none], [.ref 21]), (e7, g, cw_R sv))) rfl ?_
      refine rh_Ex.call (j := 12) (rc := some 1) [.ref 21] [] (some (.int (f_Dr_canEnd e7))) rfl rfl rfl (Nat.le_of_ble_eq_true rfl) (R_Dr_canEnd (d + 2) xx sv e7 g  rfl) ?_
      show rh_Ex _ _ _ ((65, [some (.ref 21), none, some (.int p0), some (.int p1), none, none], [.int (f_Dr_canEnd e7)]), (e7, g, cw_R sv)) _ _
      by_cases q10 : (f_Dr_canEnd e7) = 0
      · rw [if_pos q10] at hf
        refine rh_Ex.stp (s' := ((72, [some (.ref 21), none, some (.int p0), some (.int p1), none, none], []), (e7, g, cw_R sv))) rfl (st_ifeq_p q10) ?_
        refine rh_Ex.blk 3 (s' := ((75, [some (.ref 21), none, some (.int p0), some (.int p1), none, none], [.int p0, .ref 21, .int (-1 : Int32)]), (e7, g, cw_R sv))) rfl ?_
        refine rh_Ex.call (j := 51) (rc := some 1) [.ref 21, .int p0] [.int (-1 : Int32)] (some (.int (f_Re_faultAt_21 p0))) rfl rfl rfl (Nat.le_of_ble_eq_true rfl) (R_Re_faultAt_21 (d + 2) xx sv e7 g p0 rfl) ?_
        show rh_Ex _ _ _ ((78, [some (.ref 21), none, some (.int p0), some (.int p1), none, none], [.int (f_Re_faultAt_21 p0), .int (-1 : Int32)]), (e7, g, cw_R sv)) _ _
        refine rh_Ex.blk 1 (s' := ((79, [some (.ref 21), none, some (.int p0), some (.int p1), none, none], [.int ((-1 : Int32) - (f_Re_faultAt_21 p0))]), (e7, g, cw_R sv))) rfl ?_
        obtain rfl := Option.some.inj hf
        exact rh_Ex.ret rfl rfl
      · rw [if_neg q10] at hf
        refine rh_Ex.stp (s' := ((68, [some (.ref 21), none, some (.int p0), some (.int p1), none, none], []), (e7, g, cw_R sv))) rfl (st_ifeq_n q10) ?_
        refine rh_Ex.blk 2 (s' := ((79, [some (.ref 21), none, some (.int p0), some (.int p1), none, none], [.int (0 : Int32)]), (e7, g, cw_R sv))) rfl ?_
        obtain rfl := Option.some.inj hf
        exact rh_Ex.ret rfl rfl
    · rw [if_neg q9] at hf
      refine rh_Ex.stp (s' := ((57, [some (.ref 21), none, some (.int p0), some (.int p1), none, none], []), (e7, g, cw_R sv))) rfl (st_icle_n q9) ?_
      refine rh_Ex.blk 3 (s' := ((60, [some (.ref 21), none, some (.int p0), some (.int p1), none, none], [.int ((-1 : Int32) - p1)]), (e7, g, cw_R sv))) rfl ?_
      obtain rfl := Option.some.inj hf
      exact rh_Ex.ret rfl rfl
  · dsimp only at hf
    obtain rfl := Option.some.inj hf
    exact ⟨rfl, rfl⟩
def b_La_day_51  : (Int32 × (Nat → Nat → Int32)) → Option ((Int32 × (Nat → Nat → Int32)) ⊕ (Int32 × (Nat → Nat → Int32))) := fun s51 =>
  if (s51.2 21 3) ≤ s51.1 then
    some (.inr (s51.1, s51.2))
  else
    (f_La_act s51.2 s51.1).bind (fun x6 =>
      if x6.1 = 0 then
        some (.inr (s51.1, x6.2))
      else
        some (.inl (s51.1 + (1 : Int32), x6.2))
    )
def j_La_day_114 (h : Nat → Nat → Int32) (j3 : Int32) (k1 : Int32) : Option (Int32 × (Nat → Nat → Int32)) :=
  (f_Ro_add h k1).bind (fun x11 =>
    (f_La_load x11).bind (fun x12 =>
      (f_Ro_add x12.2 x12.1).bind (fun x13 =>
        some ((j3, x13))
      )
    )
  )
def j_La_day_87 (h : Nat → Nat → Int32) (j3 : Int32) : Option (Int32 × (Nat → Nat → Int32)) :=
  if ((f_Ro_begin h) 21 3) ≤ j3 then
    j_La_day_114 (f_Ro_begin h) j3 (0 : Int32)
  else
    j_La_day_114 (f_Ro_begin h) j3 (1 : Int32)
def j_La_day_76 (h : Nat → Nat → Int32) (j3 : Int32) : Option (Int32 × (Nat → Nat → Int32)) :=
  if j3 ≤ 0 then
    j_La_day_87 h j3
  else
    (f_De_remember h).bind (fun x14 =>
      j_La_day_87 x14 j3
    )
def j_La_day_35 (h : Nat → Nat → Int32) (k0 : Int32) : Option (Int32 × (Nat → Nat → Int32)) :=
  if k0 = 0 then
    (f_De_mark h).bind (fun x3 =>
      (rh_loop (b_La_day_51 ) rh_N ((0 : Int32), x3)).bind (fun r8 =>
        j_La_day_76 r8.2 r8.1
      )
    )
  else
    some ((k0, h))
def f_La_day (h : Nat → Nat → Int32) : Option (Int32 × (Nat → Nat → Int32)) :=
  if ((f_La_takeText h).1) = 0 then
    j_La_day_35 (rh_up ((f_La_takeText h).2) 21 3 (0 : Int32)) (0 : Int32)
  else
    (f_Re_readThrough_Dr_21_1 (rh_up ((f_La_takeText h).2) 21 3 (0 : Int32)) ((f_La_takeText h).1) (60 : Int32)).bind (fun x15 =>
      j_La_day_35 x15.2 x15.1
    )
set_option maxRecDepth 20000 in
set_option maxHeartbeats 4000000 in
theorem lb_La_day_51 (d : Nat) (xx : rh_L) (sv : Option Nat)  (g : Nat → Nat → Int64) (v9 : Option Value) (h9 : rh_H) : ∀ s51 x9, b_La_day_51  s51 = some x9 → Sum.elim (fun s51 => rh_Ex (rh_M rh_PT (cw_L ++ xx) (d + 6)) (cw_L ++ xx) pg_X11_day ((51, [some (.ref 0), none, none, some (.int s51.1)], []), (s51.2, g, cw_R sv)) v9 h9) (fun e9 => rh_Ex (rh_M rh_PT (cw_L ++ xx) (d + 6)) (cw_L ++ xx) pg_X11_day ((76, [some (.ref 0), none, none, some (.int e9.1)], []), (e9.2, g, cw_R sv)) v9 h9) x9 → rh_Ex (rh_M rh_PT (cw_L ++ xx) (d + 6)) (cw_L ++ xx) pg_X11_day ((51, [some (.ref 0), none, none, some (.int s51.1)], []), (s51.2, g, cw_R sv)) v9 h9 := by
  intro s51 x9 hf hk
  unfold b_La_day_51 at hf
  refine rh_Ex.blk 4 (s' := ((59, [some (.ref 0), none, none, some (.int s51.1)], [.int (s51.2 21 3), .int s51.1]), (s51.2, g, cw_R sv))) rfl ?_
  by_cases q5 : (s51.2 21 3) ≤ s51.1
  · rw [if_pos q5] at hf
    refine rh_Ex.stp (s' := ((76, [some (.ref 0), none, none, some (.int s51.1)], []), (s51.2, g, cw_R sv))) rfl (st_icge_p q5) ?_
    obtain rfl := Option.some.inj hf
    refine rh_Ex.fgt [some (.ref 0), none, none, some (.int s51.1)] ⟨rfl, rfl, trivial⟩ ?_
    exact hk
  · rw [if_neg q5] at hf
    refine rh_Ex.stp (s' := ((62, [some (.ref 0), none, none, some (.int s51.1)], []), (s51.2, g, cw_R sv))) rfl (st_icge_n q5) ?_
    refine rh_Ex.blk 2 (s' := ((64, [some (.ref 0), none, none, some (.int s51.1)], [.int s51.1, .ref 0]), (s51.2, g, cw_R sv))) rfl ?_
    obtain ⟨x6, hx6, hf⟩ := rh_bq hf
    refine rh_Ex.call (j := 169) (rc := some 10) [.ref 0, .int s51.1] [] (some (.int x6.1)) rfl rfl rfl (Nat.le_of_ble_eq_true rfl) (R_La_act d xx sv s51.2 g s51.1 hx6) ?_
    show rh_Ex _ _ _ ((67, [some (.ref 0), none, none, some (.int s51.1)], [.int x6.1]), (x6.2, g, cw_R sv)) _ _
    by_cases q7 : x6.1 = 0
    · rw [if_pos q7] at hf
      refine rh_Ex.stp (s' := ((76, [some (.ref 0), none, none, some (.int s51.1)], []), (x6.2, g, cw_R sv))) rfl (st_ifeq_p q7) ?_
      obtain rfl := Option.some.inj hf
      refine rh_Ex.fgt [some (.ref 0), none, none, some (.int s51.1)] ⟨rfl, rfl, trivial⟩ ?_
      exact hk
    · rw [if_neg q7] at hf
      refine rh_Ex.stp (s' := ((70, [some (.ref 0), none, none, some (.int s51.1)], []), (x6.2, g, cw_R sv))) rfl (st_ifeq_n q7) ?_
      refine rh_Ex.blk 2 (s' := ((51, [some (.ref 0), none, none, some (.int (s51.1 + (1 : Int32)))], []), (x6.2, g, cw_R sv))) rfl ?_
      obtain rfl := Option.some.inj hf
      refine rh_Ex.fgt [some (.ref 0), none, none, some (.int (s51.1 + (1 : Int32)))] ⟨rfl, rfl, trivial⟩ ?_
      exact hk
set_option maxRecDepth 20000 in
set_option maxHeartbeats 4000000 in
theorem lj_La_day_114 (d : Nat) (xx : rh_L) (sv : Option Nat) (h : Nat → Nat → Int32) (j3 : Int32) (k1 : Int32) (g : Nat → Nat → Int64) {z9 : Int32 × (Nat → Nat → Int32)} (hf : j_La_day_114 h j3 k1 = some z9) : rh_Ex (rh_M rh_PT (cw_L ++ xx) (d + 6)) (cw_L ++ xx) pg_X11_day ((114, [some (.ref 0), none, none, some (.int j3)], [.int k1, .ref 2]), (h, g, cw_R sv)) (some (.int z9.1)) (z9.2, g, cw_R sv) := by
  unfold j_La_day_114 at hf
  obtain ⟨x11, hx11, hf⟩ := rh_bq hf
  refine rh_Ex.call (j := 69) (rc := some 6) [.ref 2, .int k1] [] none rfl rfl rfl (Nat.le_of_ble_eq_true rfl) (R_Ro_add (d + 5) xx sv h g k1 hx11) ?_
  show rh_Ex _ _ _ ((117, [some (.ref 0), none, none, some (.int j3)], []), (x11, g, cw_R sv)) _ _
  refine rh_Ex.blk 3 (s' := ((122, [some (.ref 0), none, none, some (.int j3)], [.ref 0, .ref 2]), (x11, g, cw_R sv))) rfl ?_
  obtain ⟨x12, hx12, hf⟩ := rh_bq hf
  refine rh_Ex.call (j := 160) (rc := some 10) [.ref 0] [.ref 2] (some (.int x12.1)) rfl rfl rfl (Nat.le_of_ble_eq_true rfl) (R_La_load (d + 1) xx sv x11 g  hx12) ?_
  show rh_Ex _ _ _ ((125, [some (.ref 0), none, none, some (.int j3)], [.int x12.1, .ref 2]), (x12.2, g, cw_R sv)) _ _
  obtain ⟨x13, hx13, hf⟩ := rh_bq hf
  refine rh_Ex.call (j := 69) (rc := some 6) [.ref 2, .int x12.1] [] none rfl rfl rfl (Nat.le_of_ble_eq_true rfl) (R_Ro_add (d + 5) xx sv x12.2 g x12.1 hx13) ?_
  show rh_Ex _ _ _ ((128, [some (.ref 0), none, none, some (.int j3)], []), (x13, g, cw_R sv)) _ _
  refine rh_Ex.blk 1 (s' := ((129, [some (.ref 0), none, none, some (.int j3)], [.int j3]), (x13, g, cw_R sv))) rfl ?_
  obtain rfl := Option.some.inj hf
  exact rh_Ex.ret rfl rfl
set_option maxRecDepth 20000 in
set_option maxHeartbeats 4000000 in
theorem lj_La_day_87 (d : Nat) (xx : rh_L) (sv : Option Nat) (h : Nat → Nat → Int32) (j3 : Int32) (g : Nat → Nat → Int64) {z9 : Int32 × (Nat → Nat → Int32)} (hf : j_La_day_87 h j3 = some z9) : rh_Ex (rh_M rh_PT (cw_L ++ xx) (d + 6)) (cw_L ++ xx) pg_X11_day ((87, [some (.ref 0), none, none, some (.int j3)], []), (h, g, cw_R sv)) (some (.int z9.1)) (z9.2, g, cw_R sv) := by
  unfold j_La_day_87 at hf
  refine rh_Ex.blk 2 (s' := ((91, [some (.ref 0), none, none, some (.int j3)], [.ref 2]), (h, g, cw_R sv))) rfl ?_
  refine rh_Ex.call (j := 68) (rc := some 6) [.ref 2] [] none rfl rfl rfl (Nat.le_of_ble_eq_true rfl) (R_Ro_begin (d + 5) xx sv h g  rfl) ?_
  show rh_Ex _ _ _ ((94, [some (.ref 0), none, none, some (.int j3)], []), ((f_Ro_begin h), g, cw_R sv)) _ _
  refine rh_Ex.blk 6 (s' := ((106, [some (.ref 0), none, none, some (.int j3)], [.int ((f_Ro_begin h) 21 3), .int j3, .ref 2]), ((f_Ro_begin h), g, cw_R sv))) rfl ?_
  by_cases q10 : ((f_Ro_begin h) 21 3) ≤ j3
  · rw [if_pos q10] at hf
    refine rh_Ex.stp (s' := ((113, [some (.ref 0), none, none, some (.int j3)], [.ref 2]), ((f_Ro_begin h), g, cw_R sv))) rfl (st_icge_p q10) ?_
    refine rh_Ex.blk 1 (s' := ((114, [some (.ref 0), none, none, some (.int j3)], [.int (0 : Int32), .ref 2]), ((f_Ro_begin h), g, cw_R sv))) rfl ?_
    refine rh_Ex.fgt [some (.ref 0), none, none, some (.int j3)] ⟨rfl, rfl, trivial⟩ ?_
    exact lj_La_day_114 d xx sv (f_Ro_begin h) j3 (0 : Int32) g hf
  · rw [if_neg q10] at hf
    refine rh_Ex.stp (s' := ((109, [some (.ref 0), none, none, some (.int j3)], [.ref 2]), ((f_Ro_begin h), g, cw_R sv))) rfl (st_icge_n q10) ?_
    refine rh_Ex.blk 2 (s' := ((114, [some (.ref 0), none, none, some (.int j3)], [.int (1 : Int32), .ref 2]), ((f_Ro_begin h), g, cw_R sv))) rfl ?_
    refine rh_Ex.fgt [some (.ref 0), none, none, some (.int j3)] ⟨rfl, rfl, trivial⟩ ?_
    exact lj_La_day_114 d xx sv (f_Ro_begin h) j3 (1 : Int32) g hf
set_option maxRecDepth 20000 in
set_option maxHeartbeats 4000000 in
theorem lj_La_day_76 (d : Nat) (xx : rh_L) (sv : Option Nat) (h : Nat → Nat → Int32) (j3 : Int32) (g : Nat → Nat → Int64) {z9 : Int32 × (Nat → Nat → Int32)} (hf : j_La_day_76 h j3 = some z9) : rh_Ex (rh_M rh_PT (cw_L ++ xx) (d + 6)) (cw_L ++ xx) pg_X11_day ((76, [some (.ref 0), none, none, some (.int j3)], []), (h, g, cw_R sv)) (some (.int z9.1)) (z9.2, g, cw_R sv) := by
  unfold j_La_day_76 at hf
  refine rh_Ex.blk 1 (s' := ((77, [some (.ref 0), none, none, some (.int j3)], [.int j3]), (h, g, cw_R sv))) rfl ?_
  by_cases q9 : j3 ≤ 0
  · rw [if_pos q9] at hf
    refine rh_Ex.stp (s' := ((87, [some (.ref 0), none, none, some (.int j3)], []), (h, g, cw_R sv))) rfl (st_ifle_p q9) ?_
    refine rh_Ex.fgt [some (.ref 0), none, none, some (.int j3)] ⟨rfl, rfl, trivial⟩ ?_
    exact lj_La_day_87 d xx sv h j3 g hf
  · rw [if_neg q9] at hf
    refine rh_Ex.stp (s' := ((80, [some (.ref 0), none, none, some (.int j3)], []), (h, g, cw_R sv))) rfl (st_ifle_n q9) ?_
    refine rh_Ex.blk 2 (s' := ((84, [some (.ref 0), none, none, some (.int j3)], [.ref 13]), (h, g, cw_R sv))) rfl ?_
    obtain ⟨x14, hx14, hf⟩ := rh_bq hf
    refine rh_Ex.call (j := 24) (rc := some 2) [.ref 13] [] none rfl rfl rfl (Nat.le_of_ble_eq_true rfl) (R_De_remember (d + 5) xx sv h g  hx14) ?_
    show rh_Ex _ _ _ ((87, [some (.ref 0), none, none, some (.int j3)], []), (x14, g, cw_R sv)) _ _
    refine rh_Ex.fgt [some (.ref 0), none, none, some (.int j3)] ⟨rfl, rfl, trivial⟩ ?_
    exact lj_La_day_87 d xx sv x14 j3 g hf
set_option maxRecDepth 20000 in
set_option maxHeartbeats 4000000 in
theorem lj_La_day_35 (d : Nat) (xx : rh_L) (sv : Option Nat) (h : Nat → Nat → Int32) (k0 : Int32) (g : Nat → Nat → Int64) {z9 : Int32 × (Nat → Nat → Int32)} (hf : j_La_day_35 h k0 = some z9) : rh_Ex (rh_M rh_PT (cw_L ++ xx) (d + 6)) (cw_L ++ xx) pg_X11_day ((35, [some (.ref 0), none, none, none], [.int k0]), (h, g, cw_R sv)) (some (.int z9.1)) (z9.2, g, cw_R sv) := by
  unfold j_La_day_35 at hf
  refine rh_Ex.blk 2 (s' := ((37, [some (.ref 0), none, some (.int k0), none], [.int k0]), (h, g, cw_R sv))) rfl ?_
  by_cases q2 : k0 = 0
  · rw [if_pos q2] at hf
    refine rh_Ex.stp (s' := ((42, [some (.ref 0), none, some (.int k0), none], []), (h, g, cw_R sv))) rfl (st_ifeq_p q2) ?_
    refine rh_Ex.blk 2 (s' := ((46, [some (.ref 0), none, some (.int k0), none], [.ref 13]), (h, g, cw_R sv))) rfl ?_
    obtain ⟨x3, hx3, hf⟩ := rh_bq hf
    refine rh_Ex.call (j := 23) (rc := some 2) [.ref 13] [] none rfl rfl rfl (Nat.le_of_ble_eq_true rfl) (R_De_mark (d + 4) xx sv h g  hx3) ?_
    show rh_Ex _ _ _ ((49, [some (.ref 0), none, some (.int k0), none], []), (x3, g, cw_R sv)) _ _
    refine rh_Ex.blk 2 (s' := ((51, [some (.ref 0), none, some (.int k0), some (.int (0 : Int32))], []), (x3, g, cw_R sv))) rfl ?_
    obtain ⟨r8, hr8, hf⟩ := rh_bq hf
    refine rh_Ex.fgt [some (.ref 0), none, none, some (.int (0 : Int32))] ⟨rfl, rfl, trivial⟩ ?_
    refine rh_Ex.loop _ _ _ (lb_La_day_51 d xx sv   g _ _) rh_N _ r8 hr8 ?_
    refine rh_Ex.fgt [some (.ref 0), none, none, some (.int r8.1)] ⟨rfl, rfl, trivial⟩ ?_
    exact lj_La_day_76 d xx sv r8.2 r8.1 g hf
  · rw [if_neg q2] at hf
    refine rh_Ex.stp (s' := ((40, [some (.ref 0), none, some (.int k0), none], []), (h, g, cw_R sv))) rfl (st_ifeq_n q2) ?_
    refine rh_Ex.blk 1 (s' := ((41, [some (.ref 0), none, some (.int k0), none], [.int k0]), (h, g, cw_R sv))) rfl ?_
    obtain rfl := Option.some.inj hf
    exact rh_Ex.ret rfl rfl
set_option maxRecDepth 20000 in
set_option maxHeartbeats 4000000 in
theorem R_La_day (d : Nat) (xx : rh_L) (sv : Option Nat) (h : Nat → Nat → Int32) (g : Nat → Nat → Int64)  {z9 : Int32 × (Nat → Nat → Int32)} (hf : f_La_day h = some z9) : rh_M rh_PT (cw_L ++ xx) (d + 7) 114 [.ref 0] (h, g, cw_R sv) (some (.int z9.1)) (z9.2, g, cw_R sv) := by
  unfold f_La_day at hf
  refine rh_go pt_114 (Nat.le_of_ble_eq_true rfl) (lv := [some (.ref 0), none, none, none]) rfl ?_
  refine rh_Ex.blk 1 (s' := ((1, [some (.ref 0), none, none, none], [.ref 0]), (h, g, cw_R sv))) rfl ?_
  refine rh_Ex.call (j := 158) (rc := some 10) [.ref 0] [] (some (.int ((f_La_takeText h).1))) rfl rfl rfl (Nat.le_of_ble_eq_true rfl) (R_La_takeText (d + 5) xx sv h g  rfl) ?_
  show rh_Ex _ _ _ ((4, [some (.ref 0), none, none, none], [.int ((f_La_takeText h).1)]), ((f_La_takeText h).2, g, cw_R sv)) _ _
  refine rh_Ex.blk 6 (s' := ((14, [some (.ref 0), some (.int ((f_La_takeText h).1)), none, none], [.int ((f_La_takeText h).1)]), (rh_up ((f_La_takeText h).2) 21 3 (0 : Int32), g, cw_R sv))) rfl ?_
  by_cases q1 : ((f_La_takeText h).1) = 0
  · rw [if_pos q1] at hf
    refine rh_Ex.stp (s' := ((17, [some (.ref 0), some (.int ((f_La_takeText h).1)), none, none], []), (rh_up ((f_La_takeText h).2) 21 3 (0 : Int32), g, cw_R sv))) rfl (st_ifne_p q1) ?_
    refine rh_Ex.blk 2 (s' := ((35, [some (.ref 0), some (.int ((f_La_takeText h).1)), none, none], [.int (0 : Int32)]), (rh_up ((f_La_takeText h).2) 21 3 (0 : Int32), g, cw_R sv))) rfl ?_
    refine rh_Ex.fgt [some (.ref 0), none, none, none] ⟨rfl, trivial⟩ ?_
    exact lj_La_day_35 d xx sv (rh_up ((f_La_takeText h).2) 21 3 (0 : Int32)) (0 : Int32) g hf
  · rw [if_neg q1] at hf
    refine rh_Ex.stp (s' := ((21, [some (.ref 0), some (.int ((f_La_takeText h).1)), none, none], []), (rh_up ((f_La_takeText h).2) 21 3 (0 : Int32), g, cw_R sv))) rfl (st_ifne_n q1) ?_
    refine rh_Ex.blk 6 (s' := ((32, [some (.ref 0), some (.int ((f_La_takeText h).1)), none, none], [.int (60 : Int32), .int ((f_La_takeText h).1), .ref 1, .ref 21]), (rh_up ((f_La_takeText h).2) 21 3 (0 : Int32), g, cw_R sv))) rfl ?_
    obtain ⟨x15, hx15, hf⟩ := rh_bq hf
    refine rh_Ex.call (j := 52) (rc := some 1) [.ref 21, .ref 1, .int ((f_La_takeText h).1), .int (60 : Int32)] [] (some (.int x15.1)) rfl rfl rfl (Nat.le_of_ble_eq_true rfl) (R_Re_readThrough_Dr_21_1 (d + 2) xx sv (rh_up ((f_La_takeText h).2) 21 3 (0 : Int32)) g ((f_La_takeText h).1) (60 : Int32) hx15) ?_
    show rh_Ex _ _ _ ((35, [some (.ref 0), some (.int ((f_La_takeText h).1)), none, none], [.int x15.1]), (x15.2, g, cw_R sv)) _ _
    refine rh_Ex.fgt [some (.ref 0), none, none, none] ⟨rfl, trivial⟩ ?_
    exact lj_La_day_35 d xx sv x15.2 x15.1 g hf
def f_La_undo (h : Nat → Nat → Int32) : Option (Int32 × (Nat → Nat → Int32)) :=
  (f_De_goBack h).bind (fun x1 =>
    some ((x1.1, x1.2))
  )
set_option maxRecDepth 20000 in
set_option maxHeartbeats 4000000 in
theorem R_La_undo (d : Nat) (xx : rh_L) (sv : Option Nat) (h : Nat → Nat → Int32) (g : Nat → Nat → Int64)  {z9 : Int32 × (Nat → Nat → Int32)} (hf : f_La_undo h = some z9) : rh_M rh_PT (cw_L ++ xx) (d + 3) 115 [.ref 0] (h, g, cw_R sv) (some (.int z9.1)) (z9.2, g, cw_R sv) := by
  unfold f_La_undo at hf
  refine rh_go pt_115 (Nat.le_of_ble_eq_true rfl) (lv := [some (.ref 0)]) rfl ?_
  refine rh_Ex.blk 2 (s' := ((4, [some (.ref 0)], [.ref 13]), (h, g, cw_R sv))) rfl ?_
  obtain ⟨x1, hx1, hf⟩ := rh_bq hf
  refine rh_Ex.call (j := 25) (rc := some 2) [.ref 13] [] (some (.int x1.1)) rfl rfl rfl (Nat.le_of_ble_eq_true rfl) (R_De_goBack d xx sv h g  hx1) ?_
  show rh_Ex _ _ _ ((7, [some (.ref 0)], [.int x1.1]), (x1.2, g, cw_R sv)) _ _
  obtain rfl := Option.some.inj hf
  exact rh_Ex.ret rfl rfl
def f_La_lean (h : Nat → Nat → Int32) (p0 : Int32) : Option (Int32 × (Nat → Nat → Int32)) :=
  if (f_La_within p0 (0 : Int32) (99 : Int32)) = 0 then
    none
  else
    (f_De_leanAt h ((h 13 1) + p0)).bind (fun x2 =>
      some ((x2.1, x2.2))
    )
set_option maxRecDepth 20000 in
set_option maxHeartbeats 4000000 in
theorem R_La_lean (d : Nat) (xx : rh_L) (sv : Option Nat) (h : Nat → Nat → Int32) (g : Nat → Nat → Int64) (p0 : Int32) {z9 : Int32 × (Nat → Nat → Int32)} (hf : f_La_lean h p0 = some z9) : rh_M rh_PT (cw_L ++ xx) (d + 5) 116 [.ref 0, .int p0] (h, g, cw_R sv) (some (.int z9.1)) (z9.2, g, cw_R sv) := by
  unfold f_La_lean at hf
  refine rh_go pt_116 (Nat.le_of_ble_eq_true rfl) (lv := [some (.ref 0), some (.int p0)]) rfl ?_
  refine rh_Ex.blk 3 (s' := ((4, [some (.ref 0), some (.int p0)], [.int (99 : Int32), .int (0 : Int32), .int p0]), (h, g, cw_R sv))) rfl ?_
  refine rh_Ex.call (j := 155) (rc := none) [.int p0, .int (0 : Int32), .int (99 : Int32)] [] (some (.int (f_La_within p0 (0 : Int32) (99 : Int32)))) rfl rfl trivial (Nat.le_of_ble_eq_true rfl) (R_La_within (d + 3) (cw_L ++ xx) (cw_R sv) h g p0 (0 : Int32) (99 : Int32) rfl) ?_
  show rh_Ex _ _ _ ((7, [some (.ref 0), some (.int p0)], [.int (f_La_within p0 (0 : Int32) (99 : Int32))]), (h, g, cw_R sv)) _ _
  by_cases q1 : (f_La_within p0 (0 : Int32) (99 : Int32)) = 0
  · rw [if_pos q1] at hf
    refine rh_Ex.stp (s' := ((10, [some (.ref 0), some (.int p0)], []), (h, g, cw_R sv))) rfl (st_ifne_p q1) ?_
    cases hf
  · rw [if_neg q1] at hf
    refine rh_Ex.stp (s' := ((18, [some (.ref 0), some (.int p0)], []), (h, g, cw_R sv))) rfl (st_ifne_n q1) ?_
    refine rh_Ex.blk 7 (s' := ((31, [some (.ref 0), some (.int p0)], [.int ((h 13 1) + p0), .ref 13]), (h, g, cw_R sv))) rfl ?_
    obtain ⟨x2, hx2, hf⟩ := rh_bq hf
    refine rh_Ex.call (j := 20) (rc := some 2) [.ref 13, .int ((h 13 1) + p0)] [] (some (.int x2.1)) rfl rfl rfl (Nat.le_of_ble_eq_true rfl) (R_De_leanAt d xx sv h g ((h 13 1) + p0) hx2) ?_
    show rh_Ex _ _ _ ((34, [some (.ref 0), some (.int p0)], [.int x2.1]), (x2.2, g, cw_R sv)) _ _
    obtain rfl := Option.some.inj hf
    exact rh_Ex.ret rfl rfl
def b_La_tips_2  : (Int32 × (Nat → Nat → Int32)) → Option ((Int32 × (Nat → Nat → Int32)) ⊕ (((Nat → Nat → Int32)) ⊕ (Int32 × (Nat → Nat → Int32)))) := fun s2 =>
  if (99 : Int32) < s2.1 then
    some (.inr (.inl s2.2))
  else
    (f_De_leanAt s2.2 ((s2.2 13 1) + s2.1)).bind (fun x3 =>
      if (f_La_tipsBy x3.2 x3.1) = 0 then
        some (.inl (s2.1 + (1 : Int32), x3.2))
      else
        (f_Ro_tell x3.2 x3.1).bind (fun x5 =>
          some (.inr (.inr (s2.1, x5)))
        )
    )
def f_La_tips (h : Nat → Nat → Int32) : Option (Int32 × (Nat → Nat → Int32)) :=
  (rh_loop (b_La_tips_2 ) rh_N ((0 : Int32), h)).bind (fun r6 => match r6 with
    | .inl e7 =>
      some (((-2 : Int32), e7))
    | .inr t8 => some t8)
set_option maxRecDepth 20000 in
set_option maxHeartbeats 4000000 in
theorem lb_La_tips_2 (d : Nat) (xx : rh_L) (sv : Option Nat)  (g : Nat → Nat → Int64) (v9 : Option Value) (h9 : rh_H) : ∀ s2 x9, b_La_tips_2  s2 = some x9 → Sum.elim (fun s2 => rh_Ex (rh_M rh_PT (cw_L ++ xx) (d + 4)) (cw_L ++ xx) pg_X11_tips ((2, [some (.ref 0), some (.int s2.1), none], []), (s2.2, g, cw_R sv)) v9 h9) (Sum.elim (fun e9 => rh_Ex (rh_M rh_PT (cw_L ++ xx) (d + 4)) (cw_L ++ xx) pg_X11_tips ((49, [none, none, none], []), (e9, g, cw_R sv)) v9 h9) (fun t9 => v9 = (some (.int t9.1)) ∧ h9 = (t9.2, g, cw_R sv))) x9 → rh_Ex (rh_M rh_PT (cw_L ++ xx) (d + 4)) (cw_L ++ xx) pg_X11_tips ((2, [some (.ref 0), some (.int s2.1), none], []), (s2.2, g, cw_R sv)) v9 h9 := by
  intro s2 x9 hf hk
  unfold b_La_tips_2 at hf
  refine rh_Ex.blk 2 (s' := ((5, [some (.ref 0), some (.int s2.1), none], [.int (99 : Int32), .int s2.1]), (s2.2, g, cw_R sv))) rfl ?_
  by_cases q2 : (99 : Int32) < s2.1
  · rw [if_pos q2] at hf
    refine rh_Ex.stp (s' := ((49, [some (.ref 0), some (.int s2.1), none], []), (s2.2, g, cw_R sv))) rfl (st_icgt_p q2) ?_
    obtain rfl := Option.some.inj hf
    refine rh_Ex.fgt [none, none, none] trivial ?_
    exact hk
  · rw [if_neg q2] at hf
    refine rh_Ex.stp (s' := ((8, [some (.ref 0), some (.int s2.1), none], []), (s2.2, g, cw_R sv))) rfl (st_icgt_n q2) ?_
    refine rh_Ex.blk 7 (s' := ((21, [some (.ref 0), some (.int s2.1), none], [.int ((s2.2 13 1) + s2.1), .ref 13]), (s2.2, g, cw_R sv))) rfl ?_
    obtain ⟨x3, hx3, hf⟩ := rh_bq hf
    refine rh_Ex.call (j := 20) (rc := some 2) [.ref 13, .int ((s2.2 13 1) + s2.1)] [] (some (.int x3.1)) rfl rfl rfl (Nat.le_of_ble_eq_true rfl) (R_De_leanAt d xx sv s2.2 g ((s2.2 13 1) + s2.1) hx3) ?_
    show rh_Ex _ _ _ ((24, [some (.ref 0), some (.int s2.1), none], [.int x3.1]), (x3.2, g, cw_R sv)) _ _
    refine rh_Ex.blk 3 (s' := ((27, [some (.ref 0), some (.int s2.1), some (.int x3.1)], [.int x3.1, .ref 0]), (x3.2, g, cw_R sv))) rfl ?_
    refine rh_Ex.call (j := 161) (rc := some 10) [.ref 0, .int x3.1] [] (some (.int (f_La_tipsBy x3.2 x3.1))) rfl rfl rfl (Nat.le_of_ble_eq_true rfl) (R_La_tipsBy (d + 3) xx sv x3.2 g x3.1 rfl) ?_
    show rh_Ex _ _ _ ((30, [some (.ref 0), some (.int s2.1), some (.int x3.1)], [.int (f_La_tipsBy x3.2 x3.1)]), (x3.2, g, cw_R sv)) _ _
    by_cases q4 : (f_La_tipsBy x3.2 x3.1) = 0
    · rw [if_pos q4] at hf
      refine rh_Ex.stp (s' := ((43, [some (.ref 0), some (.int s2.1), some (.int x3.1)], []), (x3.2, g, cw_R sv))) rfl (st_ifeq_p q4) ?_
      refine rh_Ex.blk 2 (s' := ((2, [some (.ref 0), some (.int (s2.1 + (1 : Int32))), some (.int x3.1)], []), (x3.2, g, cw_R sv))) rfl ?_
      obtain rfl := Option.some.inj hf
      refine rh_Ex.fgt [some (.ref 0), some (.int (s2.1 + (1 : Int32))), none] ⟨rfl, rfl, trivial⟩ ?_
      exact hk
    · rw [if_neg q4] at hf
      refine rh_Ex.stp (s' := ((33, [some (.ref 0), some (.int s2.1), some (.int x3.1)], []), (x3.2, g, cw_R sv))) rfl (st_ifeq_n q4) ?_
      refine rh_Ex.blk 3 (s' := ((38, [some (.ref 0), some (.int s2.1), some (.int x3.1)], [.int x3.1, .ref 2]), (x3.2, g, cw_R sv))) rfl ?_
      obtain ⟨x5, hx5, hf⟩ := rh_bq hf
      refine rh_Ex.call (j := 70) (rc := some 6) [.ref 2, .int x3.1] [] none rfl rfl rfl (Nat.le_of_ble_eq_true rfl) (R_Ro_tell (d + 2) xx sv x3.2 g x3.1 hx5) ?_
      show rh_Ex _ _ _ ((41, [some (.ref 0), some (.int s2.1), some (.int x3.1)], []), (x5, g, cw_R sv)) _ _
      refine rh_Ex.blk 1 (s' := ((42, [some (.ref 0), some (.int s2.1), some (.int x3.1)], [.int s2.1]), (x5, g, cw_R sv))) rfl ?_
      obtain rfl := Option.some.inj hf
      obtain ⟨rfl, rfl⟩ := hk
      exact rh_Ex.ret rfl rfl
set_option maxRecDepth 20000 in
set_option maxHeartbeats 4000000 in
theorem R_La_tips (d : Nat) (xx : rh_L) (sv : Option Nat) (h : Nat → Nat → Int32) (g : Nat → Nat → Int64)  {z9 : Int32 × (Nat → Nat → Int32)} (hf : f_La_tips h = some z9) : rh_M rh_PT (cw_L ++ xx) (d + 5) 117 [.ref 0] (h, g, cw_R sv) (some (.int z9.1)) (z9.2, g, cw_R sv) := by
  unfold f_La_tips at hf
  refine rh_go pt_117 (Nat.le_of_ble_eq_true rfl) (lv := [some (.ref 0), none, none]) rfl ?_
  refine rh_Ex.blk 2 (s' := ((2, [some (.ref 0), some (.int (0 : Int32)), none], []), (h, g, cw_R sv))) rfl ?_
  obtain ⟨r6, hr6, hf⟩ := rh_bq hf
  refine rh_Ex.fgt [some (.ref 0), some (.int (0 : Int32)), none] ⟨rfl, rfl, trivial⟩ ?_
  refine rh_Ex.loop _ _ _ (lb_La_tips_2 d xx sv   g _ _) rh_N _ r6 hr6 ?_
  rcases r6 with e7 | t8
  · dsimp only at hf
    refine rh_Ex.blk 1 (s' := ((51, [none, none, none], [.int (-2 : Int32)]), (e7, g, cw_R sv))) rfl ?_
    obtain rfl := Option.some.inj hf
    exact rh_Ex.ret rfl rfl
  · dsimp only at hf
    obtain rfl := Option.some.inj hf
    exact ⟨rfl, rfl⟩
def b_La_lighter_26 (u1 : Int32) (u2 : Int32) : (Int32 × (Nat → Nat → Int32)) → Option ((Int32 × (Nat → Nat → Int32)) ⊕ (((Nat → Nat → Int32)) ⊕ (Int32 × (Nat → Nat → Int32)))) := fun s26 =>
  if (99 : Int32) < s26.1 then
    some (.inr (.inl s26.2))
  else
    (f_Cr_together s26.2 u1 ((s26.2 13 1) + s26.1)).bind (fun x5 =>
      if u2 < x5.1 then
        some (.inl (s26.1 + (1 : Int32), x5.2))
      else
        (f_Ro_tell x5.2 x5.1).bind (fun x7 =>
          some (.inr (.inr (s26.1, x7)))
        )
    )
def f_La_lighter (h : Nat → Nat → Int32) (p0 : Int32) (p1 : Int32) : Option (Int32 × (Nat → Nat → Int32)) :=
  if (f_Cr_holds h p0) = 0 then
    some (((-1 : Int32), h))
  else
    if (f_La_within p1 (0 : Int32) (9999 : Int32)) = 0 then
      some (((-1 : Int32), h))
    else
      (rh_loop (b_La_lighter_26 p0 p1) rh_N ((0 : Int32), h)).bind (fun r8 => match r8 with
        | .inl e9 =>
          some (((-2 : Int32), e9))
        | .inr t10 => some t10)
set_option maxRecDepth 20000 in
set_option maxHeartbeats 4000000 in
theorem lb_La_lighter_26 (d : Nat) (xx : rh_L) (sv : Option Nat) (u1 : Int32) (u2 : Int32) (g : Nat → Nat → Int64) (v9 : Option Value) (h9 : rh_H) : ∀ s26 x9, b_La_lighter_26 u1 u2 s26 = some x9 → Sum.elim (fun s26 => rh_Ex (rh_M rh_PT (cw_L ++ xx) (d + 4)) (cw_L ++ xx) pg_X11_lighter ((26, [some (.ref 0), some (.int u1), some (.int u2), some (.int s26.1), none], []), (s26.2, g, cw_R sv)) v9 h9) (Sum.elim (fun e9 => rh_Ex (rh_M rh_PT (cw_L ++ xx) (d + 4)) (cw_L ++ xx) pg_X11_lighter ((74, [none, none, none, none, none], []), (e9, g, cw_R sv)) v9 h9) (fun t9 => v9 = (some (.int t9.1)) ∧ h9 = (t9.2, g, cw_R sv))) x9 → rh_Ex (rh_M rh_PT (cw_L ++ xx) (d + 4)) (cw_L ++ xx) pg_X11_lighter ((26, [some (.ref 0), some (.int u1), some (.int u2), some (.int s26.1), none], []), (s26.2, g, cw_R sv)) v9 h9 := by
  intro s26 x9 hf hk
  unfold b_La_lighter_26 at hf
  refine rh_Ex.blk 2 (s' := ((29, [some (.ref 0), some (.int u1), some (.int u2), some (.int s26.1), none], [.int (99 : Int32), .int s26.1]), (s26.2, g, cw_R sv))) rfl ?_
  by_cases q4 : (99 : Int32) < s26.1
  · rw [if_pos q4] at hf
    refine rh_Ex.stp (s' := ((74, [some (.ref 0), some (.int u1), some (.int u2), some (.int s26.1), none], []), (s26.2, g, cw_R sv))) rfl (st_icgt_p q4) ?_
    obtain rfl := Option.some.inj hf
    refine rh_Ex.fgt [none, none, none, none, none] trivial ?_
    exact hk
  · rw [if_neg q4] at hf
    refine rh_Ex.stp (s' := ((32, [some (.ref 0), some (.int u1), some (.int u2), some (.int s26.1), none], []), (s26.2, g, cw_R sv))) rfl (st_icgt_n q4) ?_
    refine rh_Ex.blk 8 (s' := ((46, [some (.ref 0), some (.int u1), some (.int u2), some (.int s26.1), none], [.int ((s26.2 13 1) + s26.1), .int u1, .ref 4]), (s26.2, g, cw_R sv))) rfl ?_
    obtain ⟨x5, hx5, hf⟩ := rh_bq hf
    refine rh_Ex.call (j := 7) (rc := some 0) [.ref 4, .int u1, .int ((s26.2 13 1) + s26.1)] [] (some (.int x5.1)) rfl rfl rfl (Nat.le_of_ble_eq_true rfl) (R_Cr_together d xx sv s26.2 g u1 ((s26.2 13 1) + s26.1) hx5) ?_
    show rh_Ex _ _ _ ((49, [some (.ref 0), some (.int u1), some (.int u2), some (.int s26.1), none], [.int x5.1]), (x5.2, g, cw_R sv)) _ _
    refine rh_Ex.blk 3 (s' := ((54, [some (.ref 0), some (.int u1), some (.int u2), some (.int s26.1), some (.int x5.1)], [.int u2, .int x5.1]), (x5.2, g, cw_R sv))) rfl ?_
    by_cases q6 : u2 < x5.1
    · rw [if_pos q6] at hf
      refine rh_Ex.stp (s' := ((68, [some (.ref 0), some (.int u1), some (.int u2), some (.int s26.1), some (.int x5.1)], []), (x5.2, g, cw_R sv))) rfl (st_icgt_p q6) ?_
      refine rh_Ex.blk 2 (s' := ((26, [some (.ref 0), some (.int u1), some (.int u2), some (.int (s26.1 + (1 : Int32))), some (.int x5.1)], []), (x5.2, g, cw_R sv))) rfl ?_
      obtain rfl := Option.some.inj hf
      refine rh_Ex.fgt [some (.ref 0), some (.int u1), some (.int u2), some (.int (s26.1 + (1 : Int32))), none] ⟨rfl, rfl, rfl, rfl, trivial⟩ ?_
      exact hk
    · rw [if_neg q6] at hf
      refine rh_Ex.stp (s' := ((57, [some (.ref 0), some (.int u1), some (.int u2), some (.int s26.1), some (.int x5.1)], []), (x5.2, g, cw_R sv))) rfl (st_icgt_n q6) ?_
      refine rh_Ex.blk 3 (s' := ((63, [some (.ref 0), some (.int u1), some (.int u2), some (.int s26.1), some (.int x5.1)], [.int x5.1, .ref 2]), (x5.2, g, cw_R sv))) rfl ?_
      obtain ⟨x7, hx7, hf⟩ := rh_bq hf
      refine rh_Ex.call (j := 70) (rc := some 6) [.ref 2, .int x5.1] [] none rfl rfl rfl (Nat.le_of_ble_eq_true rfl) (R_Ro_tell (d + 2) xx sv x5.2 g x5.1 hx7) ?_
      show rh_Ex _ _ _ ((66, [some (.ref 0), some (.int u1), some (.int u2), some (.int s26.1), some (.int x5.1)], []), (x7, g, cw_R sv)) _ _
      refine rh_Ex.blk 1 (s' := ((67, [some (.ref 0), some (.int u1), some (.int u2), some (.int s26.1), some (.int x5.1)], [.int s26.1]), (x7, g, cw_R sv))) rfl ?_
      obtain rfl := Option.some.inj hf
      obtain ⟨rfl, rfl⟩ := hk
      exact rh_Ex.ret rfl rfl
set_option maxRecDepth 20000 in
set_option maxHeartbeats 4000000 in
theorem R_La_lighter (d : Nat) (xx : rh_L) (sv : Option Nat) (h : Nat → Nat → Int32) (g : Nat → Nat → Int64) (p0 : Int32) (p1 : Int32) {z9 : Int32 × (Nat → Nat → Int32)} (hf : f_La_lighter h p0 p1 = some z9) : rh_M rh_PT (cw_L ++ xx) (d + 5) 118 [.ref 0, .int p0, .int p1] (h, g, cw_R sv) (some (.int z9.1)) (z9.2, g, cw_R sv) := by
  unfold f_La_lighter at hf
  refine rh_go pt_118 (Nat.le_of_ble_eq_true rfl) (lv := [some (.ref 0), some (.int p0), some (.int p1), none, none]) rfl ?_
  refine rh_Ex.blk 3 (s' := ((5, [some (.ref 0), some (.int p0), some (.int p1), none, none], [.int p0, .ref 4]), (h, g, cw_R sv))) rfl ?_
  refine rh_Ex.call (j := 1) (rc := some 0) [.ref 4, .int p0] [] (some (.int (f_Cr_holds h p0))) rfl rfl rfl (Nat.le_of_ble_eq_true rfl) (R_Cr_holds (d + 2) xx sv h g p0 rfl) ?_
  show rh_Ex _ _ _ ((8, [some (.ref 0), some (.int p0), some (.int p1), none, none], [.int (f_Cr_holds h p0)]), (h, g, cw_R sv)) _ _
  by_cases q1 : (f_Cr_holds h p0) = 0
  · rw [if_pos q1] at hf
    refine rh_Ex.stp (s' := ((22, [some (.ref 0), some (.int p0), some (.int p1), none, none], []), (h, g, cw_R sv))) rfl (st_ifeq_p q1) ?_
    refine rh_Ex.blk 1 (s' := ((23, [some (.ref 0), some (.int p0), some (.int p1), none, none], [.int (-1 : Int32)]), (h, g, cw_R sv))) rfl ?_
    obtain rfl := Option.some.inj hf
    exact rh_Ex.ret rfl rfl
  · rw [if_neg q1] at hf
    refine rh_Ex.stp (s' := ((11, [some (.ref 0), some (.int p0), some (.int p1), none, none], []), (h, g, cw_R sv))) rfl (st_ifeq_n q1) ?_
    refine rh_Ex.blk 3 (s' := ((16, [some (.ref 0), some (.int p0), some (.int p1), none, none], [.int (9999 : Int32), .int (0 : Int32), .int p1]), (h, g, cw_R sv))) rfl ?_
    refine rh_Ex.call (j := 155) (rc := none) [.int p1, .int (0 : Int32), .int (9999 : Int32)] [] (some (.int (f_La_within p1 (0 : Int32) (9999 : Int32)))) rfl rfl trivial (Nat.le_of_ble_eq_true rfl) (R_La_within (d + 3) (cw_L ++ xx) (cw_R sv) h g p1 (0 : Int32) (9999 : Int32) rfl) ?_
    show rh_Ex _ _ _ ((19, [some (.ref 0), some (.int p0), some (.int p1), none, none], [.int (f_La_within p1 (0 : Int32) (9999 : Int32))]), (h, g, cw_R sv)) _ _
    by_cases q2 : (f_La_within p1 (0 : Int32) (9999 : Int32)) = 0
    · rw [if_pos q2] at hf
      refine rh_Ex.stp (s' := ((22, [some (.ref 0), some (.int p0), some (.int p1), none, none], []), (h, g, cw_R sv))) rfl (st_ifne_p q2) ?_
      refine rh_Ex.blk 1 (s' := ((23, [some (.ref 0), some (.int p0), some (.int p1), none, none], [.int (-1 : Int32)]), (h, g, cw_R sv))) rfl ?_
      obtain rfl := Option.some.inj hf
      exact rh_Ex.ret rfl rfl
    · rw [if_neg q2] at hf
      refine rh_Ex.stp (s' := ((24, [some (.ref 0), some (.int p0), some (.int p1), none, none], []), (h, g, cw_R sv))) rfl (st_ifne_n q2) ?_
      refine rh_Ex.blk 2 (s' := ((26, [some (.ref 0), some (.int p0), some (.int p1), some (.int (0 : Int32)), none], []), (h, g, cw_R sv))) rfl ?_
      obtain ⟨r8, hr8, hf⟩ := rh_bq hf
      refine rh_Ex.fgt [some (.ref 0), some (.int p0), some (.int p1), some (.int (0 : Int32)), none] ⟨rfl, rfl, rfl, rfl, trivial⟩ ?_
      refine rh_Ex.loop _ _ _ (lb_La_lighter_26 d xx sv p0 p1  g _ _) rh_N _ r8 hr8 ?_
      rcases r8 with e9 | t10
      · dsimp only at hf
        refine rh_Ex.blk 1 (s' := ((76, [none, none, none, none, none], [.int (-2 : Int32)]), (e9, g, cw_R sv))) rfl ?_
        obtain rfl := Option.some.inj hf
        exact rh_Ex.ret rfl rfl
      · dsimp only at hf
        obtain rfl := Option.some.inj hf
        exact ⟨rfl, rfl⟩
def b_La_bellsWithin_6 (u1 : Int32) (u2 : Int32) (u3 : Int32) : (Int32 × Int32 × (Nat → Nat → Int32)) → Option ((Int32 × Int32 × (Nat → Nat → Int32)) ⊕ (Int32 × (Nat → Nat → Int32))) := fun s6 =>
  if (9 : Int32) ≤ s6.2.1 then
    some (.inr (s6.1, s6.2.2))
  else
    (f_Cr_together s6.2.2 u1 ((f_La_dawn s6.2.2) + s6.2.1)).bind (fun x3 =>
      if (f_La_within x3.1 u2 u3) = 0 then
        some (.inl (s6.1, s6.2.1 + (1 : Int32), x3.2))
      else
        some (.inl (s6.1 ||| ((1 : Int32) <<< (s6.2.1 &&& 31)), s6.2.1 + (1 : Int32), x3.2))
    )
def f_La_bellsWithin (h : Nat → Nat → Int32) (p0 : Int32) (p1 : Int32) (p2 : Int32) : Option (Int32 × (Nat → Nat → Int32)) :=
  (rh_loop (b_La_bellsWithin_6 p0 p1 p2) rh_N ((0 : Int32), (0 : Int32), h)).bind (fun r5 =>
    some ((r5.1, r5.2))
  )
set_option maxRecDepth 20000 in
set_option maxHeartbeats 4000000 in
theorem lb_La_bellsWithin_6 (d : Nat) (xx : rh_L) (sv : Option Nat) (u1 : Int32) (u2 : Int32) (u3 : Int32) (g : Nat → Nat → Int64) (v9 : Option Value) (h9 : rh_H) : ∀ s6 x9, b_La_bellsWithin_6 u1 u2 u3 s6 = some x9 → Sum.elim (fun s6 => rh_Ex (rh_M rh_PT (cw_L ++ xx) (d + 4)) (cw_L ++ xx) pg_X11_bellsWithin ((6, [some (.ref 0), some (.int u1), some (.int u2), some (.int u3), some (.int s6.1), some (.int s6.2.1)], []), (s6.2.2, g, cw_R sv)) v9 h9) (fun e9 => rh_Ex (rh_M rh_PT (cw_L ++ xx) (d + 4)) (cw_L ++ xx) pg_X11_bellsWithin ((51, [none, none, none, none, some (.int e9.1), none], []), (e9.2, g, cw_R sv)) v9 h9) x9 → rh_Ex (rh_M rh_PT (cw_L ++ xx) (d + 4)) (cw_L ++ xx) pg_X11_bellsWithin ((6, [some (.ref 0), some (.int u1), some (.int u2), some (.int u3), some (.int s6.1), some (.int s6.2.1)], []), (s6.2.2, g, cw_R sv)) v9 h9 := by
  intro s6 x9 hf hk
  unfold b_La_bellsWithin_6 at hf
  refine rh_Ex.blk 2 (s' := ((10, [some (.ref 0), some (.int u1), some (.int u2), some (.int u3), some (.int s6.1), some (.int s6.2.1)], [.int (9 : Int32), .int s6.2.1]), (s6.2.2, g, cw_R sv))) rfl ?_
  by_cases q2 : (9 : Int32) ≤ s6.2.1
  · rw [if_pos q2] at hf
    refine rh_Ex.stp (s' := ((51, [some (.ref 0), some (.int u1), some (.int u2), some (.int u3), some (.int s6.1), some (.int s6.2.1)], []), (s6.2.2, g, cw_R sv))) rfl (st_icge_p q2) ?_
    obtain rfl := Option.some.inj hf
    refine rh_Ex.fgt [none, none, none, none, some (.int s6.1), none] ⟨rfl, trivial⟩ ?_
    exact hk
  · rw [if_neg q2] at hf
    refine rh_Ex.stp (s' := ((13, [some (.ref 0), some (.int u1), some (.int u2), some (.int u3), some (.int s6.1), some (.int s6.2.1)], []), (s6.2.2, g, cw_R sv))) rfl (st_icge_n q2) ?_
    refine rh_Ex.blk 4 (s' := ((19, [some (.ref 0), some (.int u1), some (.int u2), some (.int u3), some (.int s6.1), some (.int s6.2.1)], [.ref 0, .int u1, .ref 4]), (s6.2.2, g, cw_R sv))) rfl ?_
    refine rh_Ex.call (j := 159) (rc := some 10) [.ref 0] [.int u1, .ref 4] (some (.int (f_La_dawn s6.2.2))) rfl rfl rfl (Nat.le_of_ble_eq_true rfl) (R_La_dawn (d + 3) xx sv s6.2.2 g  rfl) ?_
    show rh_Ex _ _ _ ((22, [some (.ref 0), some (.int u1), some (.int u2), some (.int u3), some (.int s6.1), some (.int s6.2.1)], [.int (f_La_dawn s6.2.2), .int u1, .ref 4]), (s6.2.2, g, cw_R sv)) _ _
    refine rh_Ex.blk 2 (s' := ((25, [some (.ref 0), some (.int u1), some (.int u2), some (.int u3), some (.int s6.1), some (.int s6.2.1)], [.int ((f_La_dawn s6.2.2) + s6.2.1), .int u1, .ref 4]), (s6.2.2, g, cw_R sv))) rfl ?_
    obtain ⟨x3, hx3, hf⟩ := rh_bq hf
    refine rh_Ex.call (j := 7) (rc := some 0) [.ref 4, .int u1, .int ((f_La_dawn s6.2.2) + s6.2.1)] [] (some (.int x3.1)) rfl rfl rfl (Nat.le_of_ble_eq_true rfl) (R_Cr_together d xx sv s6.2.2 g u1 ((f_La_dawn s6.2.2) + s6.2.1) hx3) ?_
    show rh_Ex _ _ _ ((28, [some (.ref 0), some (.int u1), some (.int u2), some (.int u3), some (.int s6.1), some (.int s6.2.1)], [.int x3.1]), (x3.2, g, cw_R sv)) _ _
    refine rh_Ex.blk 2 (s' := ((30, [some (.ref 0), some (.int u1), some (.int u2), some (.int u3), some (.int s6.1), some (.int s6.2.1)], [.int u3, .int u2, .int x3.1]), (x3.2, g, cw_R sv))) rfl ?_
    refine rh_Ex.call (j := 155) (rc := none) [.int x3.1, .int u2, .int u3] [] (some (.int (f_La_within x3.1 u2 u3))) rfl rfl trivial (Nat.le_of_ble_eq_true rfl) (R_La_within (d + 3) (cw_L ++ xx) (cw_R sv) x3.2 g x3.1 u2 u3 rfl) ?_
    show rh_Ex _ _ _ ((33, [some (.ref 0), some (.int u1), some (.int u2), some (.int u3), some (.int s6.1), some (.int s6.2.1)], [.int (f_La_within x3.1 u2 u3)]), (x3.2, g, cw_R sv)) _ _
    by_cases q4 : (f_La_within x3.1 u2 u3) = 0
    · rw [if_pos q4] at hf
      refine rh_Ex.stp (s' := ((45, [some (.ref 0), some (.int u1), some (.int u2), some (.int u3), some (.int s6.1), some (.int s6.2.1)], []), (x3.2, g, cw_R sv))) rfl (st_ifeq_p q4) ?_
      refine rh_Ex.blk 2 (s' := ((6, [some (.ref 0), some (.int u1), some (.int u2), some (.int u3), some (.int s6.1), some (.int (s6.2.1 + (1 : Int32)))], []), (x3.2, g, cw_R sv))) rfl ?_
      obtain rfl := Option.some.inj hf
      refine rh_Ex.fgt [some (.ref 0), some (.int u1), some (.int u2), some (.int u3), some (.int s6.1), some (.int (s6.2.1 + (1 : Int32)))] ⟨rfl, rfl, rfl, rfl, rfl, rfl, trivial⟩ ?_
      exact hk
    · rw [if_neg q4] at hf
      refine rh_Ex.stp (s' := ((36, [some (.ref 0), some (.int u1), some (.int u2), some (.int u3), some (.int s6.1), some (.int s6.2.1)], []), (x3.2, g, cw_R sv))) rfl (st_ifeq_n q4) ?_
      refine rh_Ex.blk 8 (s' := ((6, [some (.ref 0), some (.int u1), some (.int u2), some (.int u3), some (.int (s6.1 ||| ((1 : Int32) <<< (s6.2.1 &&& 31)))), some (.int (s6.2.1 + (1 : Int32)))], []), (x3.2, g, cw_R sv))) rfl ?_
      obtain rfl := Option.some.inj hf
      refine rh_Ex.fgt [some (.ref 0), some (.int u1), some (.int u2), some (.int u3), some (.int (s6.1 ||| ((1 : Int32) <<< (s6.2.1 &&& 31)))), some (.int (s6.2.1 + (1 : Int32)))] ⟨rfl, rfl, rfl, rfl, rfl, rfl, trivial⟩ ?_
      exact hk
set_option maxRecDepth 20000 in
set_option maxHeartbeats 4000000 in
theorem R_La_bellsWithin (d : Nat) (xx : rh_L) (sv : Option Nat) (h : Nat → Nat → Int32) (g : Nat → Nat → Int64) (p0 : Int32) (p1 : Int32) (p2 : Int32) {z9 : Int32 × (Nat → Nat → Int32)} (hf : f_La_bellsWithin h p0 p1 p2 = some z9) : rh_M rh_PT (cw_L ++ xx) (d + 5) 165 [.ref 0, .int p0, .int p1, .int p2] (h, g, cw_R sv) (some (.int z9.1)) (z9.2, g, cw_R sv) := by
  unfold f_La_bellsWithin at hf
  refine rh_go pt_165 (Nat.le_of_ble_eq_true rfl) (lv := [some (.ref 0), some (.int p0), some (.int p1), some (.int p2), none, none]) rfl ?_
  refine rh_Ex.blk 4 (s' := ((6, [some (.ref 0), some (.int p0), some (.int p1), some (.int p2), some (.int (0 : Int32)), some (.int (0 : Int32))], []), (h, g, cw_R sv))) rfl ?_
  obtain ⟨r5, hr5, hf⟩ := rh_bq hf
  refine rh_Ex.fgt [some (.ref 0), some (.int p0), some (.int p1), some (.int p2), some (.int (0 : Int32)), some (.int (0 : Int32))] ⟨rfl, rfl, rfl, rfl, rfl, rfl, trivial⟩ ?_
  refine rh_Ex.loop _ _ _ (lb_La_bellsWithin_6 d xx sv p0 p1 p2  g _ _) rh_N _ r5 hr5 ?_
  refine rh_Ex.blk 1 (s' := ((53, [none, none, none, none, some (.int r5.1), none], [.int r5.1]), (r5.2, g, cw_R sv))) rfl ?_
  obtain rfl := Option.some.inj hf
  exact rh_Ex.ret rfl rfl
def f_La_between (h : Nat → Nat → Int32) (p0 : Int32) (p1 : Int32) (p2 : Int32) : Option (Int32 × (Nat → Nat → Int32)) :=
  if (f_Cr_holds h p0) = 0 then
    some (((-1 : Int32), h))
  else
    if (f_La_within p1 (0 : Int32) (9999 : Int32)) = 0 then
      some (((-1 : Int32), h))
    else
      if (f_La_within p2 (0 : Int32) (9999 : Int32)) = 0 then
        some (((-1 : Int32), h))
      else
        (f_La_bellsWithin h p0 p1 p2).bind (fun x4 =>
          some ((x4.1, x4.2))
        )
set_option maxRecDepth 20000 in
set_option maxHeartbeats 4000000 in
theorem R_La_between (d : Nat) (xx : rh_L) (sv : Option Nat) (h : Nat → Nat → Int32) (g : Nat → Nat → Int64) (p0 : Int32) (p1 : Int32) (p2 : Int32) {z9 : Int32 × (Nat → Nat → Int32)} (hf : f_La_between h p0 p1 p2 = some z9) : rh_M rh_PT (cw_L ++ xx) (d + 6) 119 [.ref 0, .int p0, .int p1, .int p2] (h, g, cw_R sv) (some (.int z9.1)) (z9.2, g, cw_R sv) := by
  unfold f_La_between at hf
  refine rh_go pt_119 (Nat.le_of_ble_eq_true rfl) (lv := [some (.ref 0), some (.int p0), some (.int p1), some (.int p2)]) rfl ?_
  refine rh_Ex.blk 3 (s' := ((5, [some (.ref 0), some (.int p0), some (.int p1), some (.int p2)], [.int p0, .ref 4]), (h, g, cw_R sv))) rfl ?_
  refine rh_Ex.call (j := 1) (rc := some 0) [.ref 4, .int p0] [] (some (.int (f_Cr_holds h p0))) rfl rfl rfl (Nat.le_of_ble_eq_true rfl) (R_Cr_holds (d + 3) xx sv h g p0 rfl) ?_
  show rh_Ex _ _ _ ((8, [some (.ref 0), some (.int p0), some (.int p1), some (.int p2)], [.int (f_Cr_holds h p0)]), (h, g, cw_R sv)) _ _
  by_cases q1 : (f_Cr_holds h p0) = 0
  · rw [if_pos q1] at hf
    refine rh_Ex.stp (s' := ((33, [some (.ref 0), some (.int p0), some (.int p1), some (.int p2)], []), (h, g, cw_R sv))) rfl (st_ifeq_p q1) ?_
    refine rh_Ex.blk 1 (s' := ((34, [some (.ref 0), some (.int p0), some (.int p1), some (.int p2)], [.int (-1 : Int32)]), (h, g, cw_R sv))) rfl ?_
    obtain rfl := Option.some.inj hf
    exact rh_Ex.ret rfl rfl
  · rw [if_neg q1] at hf
    refine rh_Ex.stp (s' := ((11, [some (.ref 0), some (.int p0), some (.int p1), some (.int p2)], []), (h, g, cw_R sv))) rfl (st_ifeq_n q1) ?_
    refine rh_Ex.blk 3 (s' := ((16, [some (.ref 0), some (.int p0), some (.int p1), some (.int p2)], [.int (9999 : Int32), .int (0 : Int32), .int p1]), (h, g, cw_R sv))) rfl ?_
    refine rh_Ex.call (j := 155) (rc := none) [.int p1, .int (0 : Int32), .int (9999 : Int32)] [] (some (.int (f_La_within p1 (0 : Int32) (9999 : Int32)))) rfl rfl trivial (Nat.le_of_ble_eq_true rfl) (R_La_within (d + 4) (cw_L ++ xx) (cw_R sv) h g p1 (0 : Int32) (9999 : Int32) rfl) ?_
    show rh_Ex _ _ _ ((19, [some (.ref 0), some (.int p0), some (.int p1), some (.int p2)], [.int (f_La_within p1 (0 : Int32) (9999 : Int32))]), (h, g, cw_R sv)) _ _
    by_cases q2 : (f_La_within p1 (0 : Int32) (9999 : Int32)) = 0
    · rw [if_pos q2] at hf
      refine rh_Ex.stp (s' := ((33, [some (.ref 0), some (.int p0), some (.int p1), some (.int p2)], []), (h, g, cw_R sv))) rfl (st_ifeq_p q2) ?_
      refine rh_Ex.blk 1 (s' := ((34, [some (.ref 0), some (.int p0), some (.int p1), some (.int p2)], [.int (-1 : Int32)]), (h, g, cw_R sv))) rfl ?_
      obtain rfl := Option.some.inj hf
      exact rh_Ex.ret rfl rfl
    · rw [if_neg q2] at hf
      refine rh_Ex.stp (s' := ((22, [some (.ref 0), some (.int p0), some (.int p1), some (.int p2)], []), (h, g, cw_R sv))) rfl (st_ifeq_n q2) ?_
      refine rh_Ex.blk 3 (s' := ((27, [some (.ref 0), some (.int p0), some (.int p1), some (.int p2)], [.int (9999 : Int32), .int (0 : Int32), .int p2]), (h, g, cw_R sv))) rfl ?_
      refine rh_Ex.call (j := 155) (rc := none) [.int p2, .int (0 : Int32), .int (9999 : Int32)] [] (some (.int (f_La_within p2 (0 : Int32) (9999 : Int32)))) rfl rfl trivial (Nat.le_of_ble_eq_true rfl) (R_La_within (d + 4) (cw_L ++ xx) (cw_R sv) h g p2 (0 : Int32) (9999 : Int32) rfl) ?_
      show rh_Ex _ _ _ ((30, [some (.ref 0), some (.int p0), some (.int p1), some (.int p2)], [.int (f_La_within p2 (0 : Int32) (9999 : Int32))]), (h, g, cw_R sv)) _ _
      by_cases q3 : (f_La_within p2 (0 : Int32) (9999 : Int32)) = 0
      · rw [if_pos q3] at hf
        refine rh_Ex.stp (s' := ((33, [some (.ref 0), some (.int p0), some (.int p1), some (.int p2)], []), (h, g, cw_R sv))) rfl (st_ifne_p q3) ?_
        refine rh_Ex.blk 1 (s' := ((34, [some (.ref 0), some (.int p0), some (.int p1), some (.int p2)], [.int (-1 : Int32)]), (h, g, cw_R sv))) rfl ?_
        obtain rfl := Option.some.inj hf
        exact rh_Ex.ret rfl rfl
      · rw [if_neg q3] at hf
        refine rh_Ex.stp (s' := ((35, [some (.ref 0), some (.int p0), some (.int p1), some (.int p2)], []), (h, g, cw_R sv))) rfl (st_ifne_n q3) ?_
        refine rh_Ex.blk 4 (s' := ((39, [some (.ref 0), some (.int p0), some (.int p1), some (.int p2)], [.int p2, .int p1, .int p0, .ref 0]), (h, g, cw_R sv))) rfl ?_
        obtain ⟨x4, hx4, hf⟩ := rh_bq hf
        refine rh_Ex.call (j := 165) (rc := some 10) [.ref 0, .int p0, .int p1, .int p2] [] (some (.int x4.1)) rfl rfl rfl (Nat.le_of_ble_eq_true rfl) (R_La_bellsWithin d xx sv h g p0 p1 p2 hx4) ?_
        show rh_Ex _ _ _ ((42, [some (.ref 0), some (.int p0), some (.int p1), some (.int p2)], [.int x4.1]), (x4.2, g, cw_R sv)) _ _
        obtain rfl := Option.some.inj hf
        exact rh_Ex.ret rfl rfl
def b_La_firstClimb_2 (u1 : Int32) (u2 : Int32) : (Int32 × (Nat → Nat → Int32)) → Option ((Int32 × (Nat → Nat → Int32)) ⊕ (((Nat → Nat → Int32)) ⊕ (Int32 × (Nat → Nat → Int32)))) := fun s2 =>
  if (99 : Int32) < s2.1 then
    some (.inr (.inl s2.2))
  else
    (f_Cr_weightAt s2.2 u1 ((s2.2 13 1) + s2.1)).bind (fun x3 =>
      if u2 < x3.1 then
        some (.inl (s2.1 + (1 : Int32), x3.2))
      else
        some (.inr (.inr (s2.1, x3.2)))
    )
def f_La_firstClimb (h : Nat → Nat → Int32) (p0 : Int32) (p1 : Int32) : Option (Int32 × (Nat → Nat → Int32)) :=
  (rh_loop (b_La_firstClimb_2 p0 p1) rh_N ((0 : Int32), h)).bind (fun r5 => match r5 with
    | .inl e6 =>
      some (((-1 : Int32), e6))
    | .inr t7 => some t7)
set_option maxRecDepth 20000 in
set_option maxHeartbeats 4000000 in
theorem lb_La_firstClimb_2 (d : Nat) (xx : rh_L) (sv : Option Nat) (u1 : Int32) (u2 : Int32) (g : Nat → Nat → Int64) (v9 : Option Value) (h9 : rh_H) : ∀ s2 x9, b_La_firstClimb_2 u1 u2 s2 = some x9 → Sum.elim (fun s2 => rh_Ex (rh_M rh_PT (cw_L ++ xx) (d + 3)) (cw_L ++ xx) pg_X11_firstClimb ((2, [some (.ref 0), some (.int u1), some (.int u2), some (.int s2.1)], []), (s2.2, g, cw_R sv)) v9 h9) (Sum.elim (fun e9 => rh_Ex (rh_M rh_PT (cw_L ++ xx) (d + 3)) (cw_L ++ xx) pg_X11_firstClimb ((37, [none, none, none, none], []), (e9, g, cw_R sv)) v9 h9) (fun t9 => v9 = (some (.int t9.1)) ∧ h9 = (t9.2, g, cw_R sv))) x9 → rh_Ex (rh_M rh_PT (cw_L ++ xx) (d + 3)) (cw_L ++ xx) pg_X11_firstClimb ((2, [some (.ref 0), some (.int u1), some (.int u2), some (.int s2.1)], []), (s2.2, g, cw_R sv)) v9 h9 := by
  intro s2 x9 hf hk
  unfold b_La_firstClimb_2 at hf
  refine rh_Ex.blk 2 (s' := ((5, [some (.ref 0), some (.int u1), some (.int u2), some (.int s2.1)], [.int (99 : Int32), .int s2.1]), (s2.2, g, cw_R sv))) rfl ?_
  by_cases q2 : (99 : Int32) < s2.1
  · rw [if_pos q2] at hf
    refine rh_Ex.stp (s' := ((37, [some (.ref 0), some (.int u1), some (.int u2), some (.int s2.1)], []), (s2.2, g, cw_R sv))) rfl (st_icgt_p q2) ?_
    obtain rfl := Option.some.inj hf
    refine rh_Ex.fgt [none, none, none, none] trivial ?_
    exact hk
  · rw [if_neg q2] at hf
    refine rh_Ex.stp (s' := ((8, [some (.ref 0), some (.int u1), some (.int u2), some (.int s2.1)], []), (s2.2, g, cw_R sv))) rfl (st_icgt_n q2) ?_
    refine rh_Ex.blk 8 (s' := ((22, [some (.ref 0), some (.int u1), some (.int u2), some (.int s2.1)], [.int ((s2.2 13 1) + s2.1), .int u1, .ref 4]), (s2.2, g, cw_R sv))) rfl ?_
    obtain ⟨x3, hx3, hf⟩ := rh_bq hf
    refine rh_Ex.call (j := 5) (rc := some 0) [.ref 4, .int u1, .int ((s2.2 13 1) + s2.1)] [] (some (.int x3.1)) rfl rfl rfl (Nat.le_of_ble_eq_true rfl) (R_Cr_weightAt d xx sv s2.2 g u1 ((s2.2 13 1) + s2.1) hx3) ?_
    show rh_Ex _ _ _ ((25, [some (.ref 0), some (.int u1), some (.int u2), some (.int s2.1)], [.int x3.1]), (x3.2, g, cw_R sv)) _ _
    refine rh_Ex.blk 1 (s' := ((26, [some (.ref 0), some (.int u1), some (.int u2), some (.int s2.1)], [.int u2, .int x3.1]), (x3.2, g, cw_R sv))) rfl ?_
    by_cases q4 : u2 < x3.1
    · rw [if_pos q4] at hf
      refine rh_Ex.stp (s' := ((31, [some (.ref 0), some (.int u1), some (.int u2), some (.int s2.1)], []), (x3.2, g, cw_R sv))) rfl (st_icgt_p q4) ?_
      refine rh_Ex.blk 2 (s' := ((2, [some (.ref 0), some (.int u1), some (.int u2), some (.int (s2.1 + (1 : Int32)))], []), (x3.2, g, cw_R sv))) rfl ?_
      obtain rfl := Option.some.inj hf
      refine rh_Ex.fgt [some (.ref 0), some (.int u1), some (.int u2), some (.int (s2.1 + (1 : Int32)))] ⟨rfl, rfl, rfl, rfl, trivial⟩ ?_
      exact hk
    · rw [if_neg q4] at hf
      refine rh_Ex.stp (s' := ((29, [some (.ref 0), some (.int u1), some (.int u2), some (.int s2.1)], []), (x3.2, g, cw_R sv))) rfl (st_icgt_n q4) ?_
      refine rh_Ex.blk 1 (s' := ((30, [some (.ref 0), some (.int u1), some (.int u2), some (.int s2.1)], [.int s2.1]), (x3.2, g, cw_R sv))) rfl ?_
      obtain rfl := Option.some.inj hf
      obtain ⟨rfl, rfl⟩ := hk
      exact rh_Ex.ret rfl rfl
set_option maxRecDepth 20000 in
set_option maxHeartbeats 4000000 in
theorem R_La_firstClimb (d : Nat) (xx : rh_L) (sv : Option Nat) (h : Nat → Nat → Int32) (g : Nat → Nat → Int64) (p0 : Int32) (p1 : Int32) {z9 : Int32 × (Nat → Nat → Int32)} (hf : f_La_firstClimb h p0 p1 = some z9) : rh_M rh_PT (cw_L ++ xx) (d + 4) 170 [.ref 0, .int p0, .int p1] (h, g, cw_R sv) (some (.int z9.1)) (z9.2, g, cw_R sv) := by
  unfold f_La_firstClimb at hf
  refine rh_go pt_170 (Nat.le_of_ble_eq_true rfl) (lv := [some (.ref 0), some (.int p0), some (.int p1), none]) rfl ?_
  refine rh_Ex.blk 2 (s' := ((2, [some (.ref 0), some (.int p0), some (.int p1), some (.int (0 : Int32))], []), (h, g, cw_R sv))) rfl ?_
  obtain ⟨r5, hr5, hf⟩ := rh_bq hf
  refine rh_Ex.fgt [some (.ref 0), some (.int p0), some (.int p1), some (.int (0 : Int32))] ⟨rfl, rfl, rfl, rfl, trivial⟩ ?_
  refine rh_Ex.loop _ _ _ (lb_La_firstClimb_2 d xx sv p0 p1  g _ _) rh_N _ r5 hr5 ?_
  rcases r5 with e6 | t7
  · dsimp only at hf
    refine rh_Ex.blk 1 (s' := ((38, [none, none, none, none], [.int (-1 : Int32)]), (e6, g, cw_R sv))) rfl ?_
    obtain rfl := Option.some.inj hf
    exact rh_Ex.ret rfl rfl
  · dsimp only at hf
    obtain rfl := Option.some.inj hf
    exact ⟨rfl, rfl⟩
def b_La_climbs_35 (u1 : Int32) (u2 : Int32) : (Int32 × Int32 × (Nat → Nat → Int32)) → Option ((Int32 × Int32 × (Nat → Nat → Int32)) ⊕ (Int32 × (Nat → Nat → Int32))) := fun s35 =>
  if (s35.2.2 4 0) ≤ s35.2.1 then
    some (.inr (s35.1, s35.2.2))
  else
    (f_Cr_weightAt s35.2.2 s35.2.1 ((s35.2.2 13 1) + u2)).bind (fun x5 =>
      if u1 < x5.1 then
        (f_La_firstClimb x5.2 s35.2.1 u1).bind (fun x7 =>
          (f_Ro_add x7.2 x7.1).bind (fun x8 =>
            some (.inl (s35.1, s35.2.1 + (1 : Int32), x8))
          )
        )
      else
        (f_La_firstClimb x5.2 s35.2.1 u1).bind (fun x9 =>
          (f_Ro_add x9.2 x9.1).bind (fun x10 =>
            some (.inl (s35.1 ||| ((1 : Int32) <<< (s35.2.1 &&& 31)), s35.2.1 + (1 : Int32), x10))
          )
        )
    )
def f_La_climbs (h : Nat → Nat → Int32) (p0 : Int32) (p1 : Int32) : Option (Int32 × (Nat → Nat → Int32)) :=
  if (f_La_within p0 (0 : Int32) (9999 : Int32)) = 0 then
    some (((-1 : Int32), h))
  else
    if (f_La_within p1 (0 : Int32) (99 : Int32)) = 0 then
      some (((-1 : Int32), h))
    else
      (rh_loop (b_La_climbs_35 p0 p1) rh_N ((0 : Int32), (0 : Int32), (f_Ro_begin h))).bind (fun r11 =>
        some ((r11.1, r11.2))
      )
set_option maxRecDepth 20000 in
set_option maxHeartbeats 4000000 in
theorem lb_La_climbs_35 (d : Nat) (xx : rh_L) (sv : Option Nat) (u1 : Int32) (u2 : Int32) (g : Nat → Nat → Int64) (v9 : Option Value) (h9 : rh_H) : ∀ s35 x9, b_La_climbs_35 u1 u2 s35 = some x9 → Sum.elim (fun s35 => rh_Ex (rh_M rh_PT (cw_L ++ xx) (d + 4)) (cw_L ++ xx) pg_X11_climbs ((35, [some (.ref 0), some (.int u1), some (.int u2), some (.int s35.1), some (.int s35.2.1)], []), (s35.2.2, g, cw_R sv)) v9 h9) (fun e9 => rh_Ex (rh_M rh_PT (cw_L ++ xx) (d + 4)) (cw_L ++ xx) pg_X11_climbs ((96, [none, none, none, some (.int e9.1), none], []), (e9.2, g, cw_R sv)) v9 h9) x9 → rh_Ex (rh_M rh_PT (cw_L ++ xx) (d + 4)) (cw_L ++ xx) pg_X11_climbs ((35, [some (.ref 0), some (.int u1), some (.int u2), some (.int s35.1), some (.int s35.2.1)], []), (s35.2.2, g, cw_R sv)) v9 h9 := by
  intro s35 x9 hf hk
  unfold b_La_climbs_35 at hf
  refine rh_Ex.blk 4 (s' := ((44, [some (.ref 0), some (.int u1), some (.int u2), some (.int s35.1), some (.int s35.2.1)], [.int (s35.2.2 4 0), .int s35.2.1]), (s35.2.2, g, cw_R sv))) rfl ?_
  by_cases q4 : (s35.2.2 4 0) ≤ s35.2.1
  · rw [if_pos q4] at hf
    refine rh_Ex.stp (s' := ((96, [some (.ref 0), some (.int u1), some (.int u2), some (.int s35.1), some (.int s35.2.1)], []), (s35.2.2, g, cw_R sv))) rfl (st_icge_p q4) ?_
    obtain rfl := Option.some.inj hf
    refine rh_Ex.fgt [none, none, none, some (.int s35.1), none] ⟨rfl, trivial⟩ ?_
    exact hk
  · rw [if_neg q4] at hf
    refine rh_Ex.stp (s' := ((47, [some (.ref 0), some (.int u1), some (.int u2), some (.int s35.1), some (.int s35.2.1)], []), (s35.2.2, g, cw_R sv))) rfl (st_icge_n q4) ?_
    refine rh_Ex.blk 8 (s' := ((62, [some (.ref 0), some (.int u1), some (.int u2), some (.int s35.1), some (.int s35.2.1)], [.int ((s35.2.2 13 1) + u2), .int s35.2.1, .ref 4]), (s35.2.2, g, cw_R sv))) rfl ?_
    obtain ⟨x5, hx5, hf⟩ := rh_bq hf
    refine rh_Ex.call (j := 5) (rc := some 0) [.ref 4, .int s35.2.1, .int ((s35.2.2 13 1) + u2)] [] (some (.int x5.1)) rfl rfl rfl (Nat.le_of_ble_eq_true rfl) (R_Cr_weightAt (d + 1) xx sv s35.2.2 g s35.2.1 ((s35.2.2 13 1) + u2) hx5) ?_
    show rh_Ex _ _ _ ((65, [some (.ref 0), some (.int u1), some (.int u2), some (.int s35.1), some (.int s35.2.1)], [.int x5.1]), (x5.2, g, cw_R sv)) _ _
    refine rh_Ex.blk 1 (s' := ((66, [some (.ref 0), some (.int u1), some (.int u2), some (.int s35.1), some (.int s35.2.1)], [.int u1, .int x5.1]), (x5.2, g, cw_R sv))) rfl ?_
    by_cases q6 : u1 < x5.1
    · rw [if_pos q6] at hf
      refine rh_Ex.stp (s' := ((76, [some (.ref 0), some (.int u1), some (.int u2), some (.int s35.1), some (.int s35.2.1)], []), (x5.2, g, cw_R sv))) rfl (st_icgt_p q6) ?_
      refine rh_Ex.blk 5 (s' := ((84, [some (.ref 0), some (.int u1), some (.int u2), some (.int s35.1), some (.int s35.2.1)], [.int u1, .int s35.2.1, .ref 0, .ref 2]), (x5.2, g, cw_R sv))) rfl ?_
      obtain ⟨x7, hx7, hf⟩ := rh_bq hf
      refine rh_Ex.call (j := 170) (rc := some 10) [.ref 0, .int s35.2.1, .int u1] [.ref 2] (some (.int x7.1)) rfl rfl rfl (Nat.le_of_ble_eq_true rfl) (R_La_firstClimb d xx sv x5.2 g s35.2.1 u1 hx7) ?_
      show rh_Ex _ _ _ ((87, [some (.ref 0), some (.int u1), some (.int u2), some (.int s35.1), some (.int s35.2.1)], [.int x7.1, .ref 2]), (x7.2, g, cw_R sv)) _ _
      obtain ⟨x8, hx8, hf⟩ := rh_bq hf
      refine rh_Ex.call (j := 69) (rc := some 6) [.ref 2, .int x7.1] [] none rfl rfl rfl (Nat.le_of_ble_eq_true rfl) (R_Ro_add (d + 3) xx sv x7.2 g x7.1 hx8) ?_
      show rh_Ex _ _ _ ((90, [some (.ref 0), some (.int u1), some (.int u2), some (.int s35.1), some (.int s35.2.1)], []), (x8, g, cw_R sv)) _ _
      refine rh_Ex.blk 2 (s' := ((35, [some (.ref 0), some (.int u1), some (.int u2), some (.int s35.1), some (.int (s35.2.1 + (1 : Int32)))], []), (x8, g, cw_R sv))) rfl ?_
      obtain rfl := Option.some.inj hf
      refine rh_Ex.fgt [some (.ref 0), some (.int u1), some (.int u2), some (.int s35.1), some (.int (s35.2.1 + (1 : Int32)))] ⟨rfl, rfl, rfl, rfl, rfl, trivial⟩ ?_
      exact hk
    · rw [if_neg q6] at hf
      refine rh_Ex.stp (s' := ((69, [some (.ref 0), some (.int u1), some (.int u2), some (.int s35.1), some (.int s35.2.1)], []), (x5.2, g, cw_R sv))) rfl (st_icgt_n q6) ?_
      refine rh_Ex.blk 11 (s' := ((84, [some (.ref 0), some (.int u1), some (.int u2), some (.int (s35.1 ||| ((1 : Int32) <<< (s35.2.1 &&& 31)))), some (.int s35.2.1)], [.int u1, .int s35.2.1, .ref 0, .ref 2]), (x5.2, g, cw_R sv))) rfl ?_
      obtain ⟨x9, hx9, hf⟩ := rh_bq hf
      refine rh_Ex.call (j := 170) (rc := some 10) [.ref 0, .int s35.2.1, .int u1] [.ref 2] (some (.int x9.1)) rfl rfl rfl (Nat.le_of_ble_eq_true rfl) (R_La_firstClimb d xx sv x5.2 g s35.2.1 u1 hx9) ?_
      show rh_Ex _ _ _ ((87, [some (.ref 0), some (.int u1), some (.int u2), some (.int (s35.1 ||| ((1 : Int32) <<< (s35.2.1 &&& 31)))), some (.int s35.2.1)], [.int x9.1, .ref 2]), (x9.2, g, cw_R sv)) _ _
      obtain ⟨x10, hx10, hf⟩ := rh_bq hf
      refine rh_Ex.call (j := 69) (rc := some 6) [.ref 2, .int x9.1] [] none rfl rfl rfl (Nat.le_of_ble_eq_true rfl) (R_Ro_add (d + 3) xx sv x9.2 g x9.1 hx10) ?_
      show rh_Ex _ _ _ ((90, [some (.ref 0), some (.int u1), some (.int u2), some (.int (s35.1 ||| ((1 : Int32) <<< (s35.2.1 &&& 31)))), some (.int s35.2.1)], []), (x10, g, cw_R sv)) _ _
      refine rh_Ex.blk 2 (s' := ((35, [some (.ref 0), some (.int u1), some (.int u2), some (.int (s35.1 ||| ((1 : Int32) <<< (s35.2.1 &&& 31)))), some (.int (s35.2.1 + (1 : Int32)))], []), (x10, g, cw_R sv))) rfl ?_
      obtain rfl := Option.some.inj hf
      refine rh_Ex.fgt [some (.ref 0), some (.int u1), some (.int u2), some (.int (s35.1 ||| ((1 : Int32) <<< (s35.2.1 &&& 31)))), some (.int (s35.2.1 + (1 : Int32)))] ⟨rfl, rfl, rfl, rfl, rfl, trivial⟩ ?_
      exact hk
set_option maxRecDepth 20000 in
set_option maxHeartbeats 4000000 in
theorem R_La_climbs (d : Nat) (xx : rh_L) (sv : Option Nat) (h : Nat → Nat → Int32) (g : Nat → Nat → Int64) (p0 : Int32) (p1 : Int32) {z9 : Int32 × (Nat → Nat → Int32)} (hf : f_La_climbs h p0 p1 = some z9) : rh_M rh_PT (cw_L ++ xx) (d + 5) 120 [.ref 0, .int p0, .int p1] (h, g, cw_R sv) (some (.int z9.1)) (z9.2, g, cw_R sv) := by
  unfold f_La_climbs at hf
  refine rh_go pt_120 (Nat.le_of_ble_eq_true rfl) (lv := [some (.ref 0), some (.int p0), some (.int p1), none, none]) rfl ?_
  refine rh_Ex.blk 3 (s' := ((5, [some (.ref 0), some (.int p0), some (.int p1), none, none], [.int (9999 : Int32), .int (0 : Int32), .int p0]), (h, g, cw_R sv))) rfl ?_
  refine rh_Ex.call (j := 155) (rc := none) [.int p0, .int (0 : Int32), .int (9999 : Int32)] [] (some (.int (f_La_within p0 (0 : Int32) (9999 : Int32)))) rfl rfl trivial (Nat.le_of_ble_eq_true rfl) (R_La_within (d + 3) (cw_L ++ xx) (cw_R sv) h g p0 (0 : Int32) (9999 : Int32) rfl) ?_
  show rh_Ex _ _ _ ((8, [some (.ref 0), some (.int p0), some (.int p1), none, none], [.int (f_La_within p0 (0 : Int32) (9999 : Int32))]), (h, g, cw_R sv)) _ _
  by_cases q1 : (f_La_within p0 (0 : Int32) (9999 : Int32)) = 0
  · rw [if_pos q1] at hf
    refine rh_Ex.stp (s' := ((21, [some (.ref 0), some (.int p0), some (.int p1), none, none], []), (h, g, cw_R sv))) rfl (st_ifeq_p q1) ?_
    refine rh_Ex.blk 1 (s' := ((22, [some (.ref 0), some (.int p0), some (.int p1), none, none], [.int (-1 : Int32)]), (h, g, cw_R sv))) rfl ?_
    obtain rfl := Option.some.inj hf
    exact rh_Ex.ret rfl rfl
  · rw [if_neg q1] at hf
    refine rh_Ex.stp (s' := ((11, [some (.ref 0), some (.int p0), some (.int p1), none, none], []), (h, g, cw_R sv))) rfl (st_ifeq_n q1) ?_
    refine rh_Ex.blk 3 (s' := ((15, [some (.ref 0), some (.int p0), some (.int p1), none, none], [.int (99 : Int32), .int (0 : Int32), .int p1]), (h, g, cw_R sv))) rfl ?_
    refine rh_Ex.call (j := 155) (rc := none) [.int p1, .int (0 : Int32), .int (99 : Int32)] [] (some (.int (f_La_within p1 (0 : Int32) (99 : Int32)))) rfl rfl trivial (Nat.le_of_ble_eq_true rfl) (R_La_within (d + 3) (cw_L ++ xx) (cw_R sv) h g p1 (0 : Int32) (99 : Int32) rfl) ?_
    show rh_Ex _ _ _ ((18, [some (.ref 0), some (.int p0), some (.int p1), none, none], [.int (f_La_within p1 (0 : Int32) (99 : Int32))]), (h, g, cw_R sv)) _ _
    by_cases q2 : (f_La_within p1 (0 : Int32) (99 : Int32)) = 0
    · rw [if_pos q2] at hf
      refine rh_Ex.stp (s' := ((21, [some (.ref 0), some (.int p0), some (.int p1), none, none], []), (h, g, cw_R sv))) rfl (st_ifne_p q2) ?_
      refine rh_Ex.blk 1 (s' := ((22, [some (.ref 0), some (.int p0), some (.int p1), none, none], [.int (-1 : Int32)]), (h, g, cw_R sv))) rfl ?_
      obtain rfl := Option.some.inj hf
      exact rh_Ex.ret rfl rfl
    · rw [if_neg q2] at hf
      refine rh_Ex.stp (s' := ((23, [some (.ref 0), some (.int p0), some (.int p1), none, none], []), (h, g, cw_R sv))) rfl (st_ifne_n q2) ?_
      refine rh_Ex.blk 4 (s' := ((29, [some (.ref 0), some (.int p0), some (.int p1), some (.int (0 : Int32)), none], [.ref 2]), (h, g, cw_R sv))) rfl ?_
      refine rh_Ex.call (j := 68) (rc := some 6) [.ref 2] [] none rfl rfl rfl (Nat.le_of_ble_eq_true rfl) (R_Ro_begin (d + 3) xx sv h g  rfl) ?_
      show rh_Ex _ _ _ ((32, [some (.ref 0), some (.int p0), some (.int p1), some (.int (0 : Int32)), none], []), ((f_Ro_begin h), g, cw_R sv)) _ _
      refine rh_Ex.blk 2 (s' := ((35, [some (.ref 0), some (.int p0), some (.int p1), some (.int (0 : Int32)), some (.int (0 : Int32))], []), ((f_Ro_begin h), g, cw_R sv))) rfl ?_
      obtain ⟨r11, hr11, hf⟩ := rh_bq hf
      refine rh_Ex.fgt [some (.ref 0), some (.int p0), some (.int p1), some (.int (0 : Int32)), some (.int (0 : Int32))] ⟨rfl, rfl, rfl, rfl, rfl, trivial⟩ ?_
      refine rh_Ex.loop _ _ _ (lb_La_climbs_35 d xx sv p0 p1  g _ _) rh_N _ r11 hr11 ?_
      refine rh_Ex.blk 1 (s' := ((97, [none, none, none, some (.int r11.1), none], [.int r11.1]), (r11.2, g, cw_R sv))) rfl ?_
      obtain rfl := Option.some.inj hf
      exact rh_Ex.ret rfl rfl
def b_La_spread_38 (u1 : Int32) : (Int32 × Int32 × Int32 × Int32 × Int32 × (Nat → Nat → Int32)) → Option ((Int32 × Int32 × Int32 × Int32 × Int32 × (Nat → Nat → Int32)) ⊕ (Int32 × Int32 × Int32 × Int32 × (Nat → Nat → Int32))) := fun s38 =>
  if (9 : Int32) ≤ s38.2.2.2.2.1 then
    some (.inr (s38.1, s38.2.1, s38.2.2.1, s38.2.2.2.1, s38.2.2.2.2.2))
  else
    (f_Cr_together s38.2.2.2.2.2 u1 ((f_La_dawn s38.2.2.2.2.2) + s38.2.2.2.2.1)).bind (fun x5 =>
      if s38.2.2.1 ≤ x5.1 then
        if x5.1 ≤ s38.2.2.2.1 then
          some (.inl (s38.1, s38.2.1, s38.2.2.1, s38.2.2.2.1, s38.2.2.2.2.1 + (1 : Int32), x5.2))
        else
          some (.inl (s38.1, s38.2.2.2.2.1, s38.2.2.1, x5.1, s38.2.2.2.2.1 + (1 : Int32), x5.2))
      else
        if x5.1 ≤ s38.2.2.2.1 then
          some (.inl (s38.2.2.2.2.1, s38.2.1, x5.1, s38.2.2.2.1, s38.2.2.2.2.1 + (1 : Int32), x5.2))
        else
          some (.inl (s38.2.2.2.2.1, s38.2.2.2.2.1, x5.1, x5.1, s38.2.2.2.2.1 + (1 : Int32), x5.2))
    )
def f_La_spread (h : Nat → Nat → Int32) (p0 : Int32) : Option (Int32 × (Nat → Nat → Int32)) :=
  if (f_Cr_holds h p0) = 0 then
    some (((-1 : Int32), h))
  else
    (f_Cr_together h p0 (f_La_dawn h)).bind (fun x2 =>
      (rh_loop (b_La_spread_38 p0) rh_N ((0 : Int32), (0 : Int32), x2.1, x2.1, (1 : Int32), x2.2)).bind (fun r9 =>
        (f_Ro_tell r9.2.2.2.2 r9.1).bind (fun x10 =>
          (f_Ro_add x10 r9.2.1).bind (fun x11 =>
            some ((r9.2.2.2.1 - r9.2.2.1, x11))
          )
        )
      )
    )
set_option maxRecDepth 20000 in
set_option maxHeartbeats 4000000 in
theorem lb_La_spread_38 (d : Nat) (xx : rh_L) (sv : Option Nat) (u1 : Int32) (g : Nat → Nat → Int64) (v9 : Option Value) (h9 : rh_H) : ∀ s38 x9, b_La_spread_38 u1 s38 = some x9 → Sum.elim (fun s38 => rh_Ex (rh_M rh_PT (cw_L ++ xx) (d + 4)) (cw_L ++ xx) pg_X11_spread ((38, [some (.ref 0), some (.int u1), some (.int s38.1), some (.int s38.2.1), some (.int s38.2.2.1), some (.int s38.2.2.2.1), some (.int s38.2.2.2.2.1), none], []), (s38.2.2.2.2.2, g, cw_R sv)) v9 h9) (fun e9 => rh_Ex (rh_M rh_PT (cw_L ++ xx) (d + 4)) (cw_L ++ xx) pg_X11_spread ((96, [some (.ref 0), none, some (.int e9.1), some (.int e9.2.1), some (.int e9.2.2.1), some (.int e9.2.2.2.1), none, none], []), (e9.2.2.2.2, g, cw_R sv)) v9 h9) x9 → rh_Ex (rh_M rh_PT (cw_L ++ xx) (d + 4)) (cw_L ++ xx) pg_X11_spread ((38, [some (.ref 0), some (.int u1), some (.int s38.1), some (.int s38.2.1), some (.int s38.2.2.1), some (.int s38.2.2.2.1), some (.int s38.2.2.2.2.1), none], []), (s38.2.2.2.2.2, g, cw_R sv)) v9 h9 := by
  intro s38 x9 hf hk
  unfold b_La_spread_38 at hf
  refine rh_Ex.blk 2 (s' := ((42, [some (.ref 0), some (.int u1), some (.int s38.1), some (.int s38.2.1), some (.int s38.2.2.1), some (.int s38.2.2.2.1), some (.int s38.2.2.2.2.1), none], [.int (9 : Int32), .int s38.2.2.2.2.1]), (s38.2.2.2.2.2, g, cw_R sv))) rfl ?_
  by_cases q4 : (9 : Int32) ≤ s38.2.2.2.2.1
  · rw [if_pos q4] at hf
    refine rh_Ex.stp (s' := ((96, [some (.ref 0), some (.int u1), some (.int s38.1), some (.int s38.2.1), some (.int s38.2.2.1), some (.int s38.2.2.2.1), some (.int s38.2.2.2.2.1), none], []), (s38.2.2.2.2.2, g, cw_R sv))) rfl (st_icge_p q4) ?_
    obtain rfl := Option.some.inj hf
    refine rh_Ex.fgt [some (.ref 0), none, some (.int s38.1), some (.int s38.2.1), some (.int s38.2.2.1), some (.int s38.2.2.2.1), none, none] ⟨rfl, rfl, rfl, rfl, rfl, trivial⟩ ?_
    exact hk
  · rw [if_neg q4] at hf
    refine rh_Ex.stp (s' := ((45, [some (.ref 0), some (.int u1), some (.int s38.1), some (.int s38.2.1), some (.int s38.2.2.1), some (.int s38.2.2.2.1), some (.int s38.2.2.2.2.1), none], []), (s38.2.2.2.2.2, g, cw_R sv))) rfl (st_icge_n q4) ?_
    refine rh_Ex.blk 4 (s' := ((51, [some (.ref 0), some (.int u1), some (.int s38.1), some (.int s38.2.1), some (.int s38.2.2.1), some (.int s38.2.2.2.1), some (.int s38.2.2.2.2.1), none], [.ref 0, .int u1, .ref 4]), (s38.2.2.2.2.2, g, cw_R sv))) rfl ?_
    refine rh_Ex.call (j := 159) (rc := some 10) [.ref 0] [.int u1, .ref 4] (some (.int (f_La_dawn s38.2.2.2.2.2))) rfl rfl rfl (Nat.le_of_ble_eq_true rfl) (R_La_dawn (d + 3) xx sv s38.2.2.2.2.2 g  rfl) ?_
    show rh_Ex _ _ _ ((54, [some (.ref 0), some (.int u1), some (.int s38.1), some (.int s38.2.1), some (.int s38.2.2.1), some (.int s38.2.2.2.1), some (.int s38.2.2.2.2.1), none], [.int (f_La_dawn s38.2.2.2.2.2), .int u1, .ref 4]), (s38.2.2.2.2.2, g, cw_R sv)) _ _
    refine rh_Ex.blk 2 (s' := ((57, [some (.ref 0), some (.int u1), some (.int s38.1), some (.int s38.2.1), some (.int s38.2.2.1), some (.int s38.2.2.2.1), some (.int s38.2.2.2.2.1), none], [.int ((f_La_dawn s38.2.2.2.2.2) + s38.2.2.2.2.1), .int u1, .ref 4]), (s38.2.2.2.2.2, g, cw_R sv))) rfl ?_
    obtain ⟨x5, hx5, hf⟩ := rh_bq hf
    refine rh_Ex.call (j := 7) (rc := some 0) [.ref 4, .int u1, .int ((f_La_dawn s38.2.2.2.2.2) + s38.2.2.2.2.1)] [] (some (.int x5.1)) rfl rfl rfl (Nat.le_of_ble_eq_true rfl) (R_Cr_together d xx sv s38.2.2.2.2.2 g u1 ((f_La_dawn s38.2.2.2.2.2) + s38.2.2.2.2.1) hx5) ?_
    show rh_Ex _ _ _ ((60, [some (.ref 0), some (.int u1), some (.int s38.1), some (.int s38.2.1), some (.int s38.2.2.1), some (.int s38.2.2.2.1), some (.int s38.2.2.2.2.1), none], [.int x5.1]), (x5.2, g, cw_R sv)) _ _
    refine rh_Ex.blk 3 (s' := ((66, [some (.ref 0), some (.int u1), some (.int s38.1), some (.int s38.2.1), some (.int s38.2.2.1), some (.int s38.2.2.2.1), some (.int s38.2.2.2.2.1), some (.int x5.1)], [.int s38.2.2.1, .int x5.1]), (x5.2, g, cw_R sv))) rfl ?_
    by_cases q6 : s38.2.2.1 ≤ x5.1
    · rw [if_pos q6] at hf
      refine rh_Ex.stp (s' := ((76, [some (.ref 0), some (.int u1), some (.int s38.1), some (.int s38.2.1), some (.int s38.2.2.1), some (.int s38.2.2.2.1), some (.int s38.2.2.2.2.1), some (.int x5.1)], []), (x5.2, g, cw_R sv))) rfl (st_icge_p q6) ?_
      refine rh_Ex.blk 2 (s' := ((80, [some (.ref 0), some (.int u1), some (.int s38.1), some (.int s38.2.1), some (.int s38.2.2.1), some (.int s38.2.2.2.1), some (.int s38.2.2.2.2.1), some (.int x5.1)], [.int s38.2.2.2.1, .int x5.1]), (x5.2, g, cw_R sv))) rfl ?_
      by_cases q7 : x5.1 ≤ s38.2.2.2.1
      · rw [if_pos q7] at hf
        refine rh_Ex.stp (s' := ((90, [some (.ref 0), some (.int u1), some (.int s38.1), some (.int s38.2.1), some (.int s38.2.2.1), some (.int s38.2.2.2.1), some (.int s38.2.2.2.2.1), some (.int x5.1)], []), (x5.2, g, cw_R sv))) rfl (st_icle_p q7) ?_
        refine rh_Ex.blk 2 (s' := ((38, [some (.ref 0), some (.int u1), some (.int s38.1), some (.int s38.2.1), some (.int s38.2.2.1), some (.int s38.2.2.2.1), some (.int (s38.2.2.2.2.1 + (1 : Int32))), some (.int x5.1)], []), (x5.2, g, cw_R sv))) rfl ?_
        obtain rfl := Option.some.inj hf
        refine rh_Ex.fgt [some (.ref 0), some (.int u1), some (.int s38.1), some (.int s38.2.1), some (.int s38.2.2.1), some (.int s38.2.2.2.1), some (.int (s38.2.2.2.2.1 + (1 : Int32))), none] ⟨rfl, rfl, rfl, rfl, rfl, rfl, rfl, trivial⟩ ?_
        exact hk
      · rw [if_neg q7] at hf
        refine rh_Ex.stp (s' := ((83, [some (.ref 0), some (.int u1), some (.int s38.1), some (.int s38.2.1), some (.int s38.2.2.1), some (.int s38.2.2.2.1), some (.int s38.2.2.2.2.1), some (.int x5.1)], []), (x5.2, g, cw_R sv))) rfl (st_icle_n q7) ?_
        refine rh_Ex.blk 6 (s' := ((38, [some (.ref 0), some (.int u1), some (.int s38.1), some (.int s38.2.2.2.2.1), some (.int s38.2.2.1), some (.int x5.1), some (.int (s38.2.2.2.2.1 + (1 : Int32))), some (.int x5.1)], []), (x5.2, g, cw_R sv))) rfl ?_
        obtain rfl := Option.some.inj hf
        refine rh_Ex.fgt [some (.ref 0), some (.int u1), some (.int s38.1), some (.int s38.2.2.2.2.1), some (.int s38.2.2.1), some (.int x5.1), some (.int (s38.2.2.2.2.1 + (1 : Int32))), none] ⟨rfl, rfl, rfl, rfl, rfl, rfl, rfl, trivial⟩ ?_
        exact hk
    · rw [if_neg q6] at hf
      refine rh_Ex.stp (s' := ((69, [some (.ref 0), some (.int u1), some (.int s38.1), some (.int s38.2.1), some (.int s38.2.2.1), some (.int s38.2.2.2.1), some (.int s38.2.2.2.2.1), some (.int x5.1)], []), (x5.2, g, cw_R sv))) rfl (st_icge_n q6) ?_
      refine rh_Ex.blk 6 (s' := ((80, [some (.ref 0), some (.int u1), some (.int s38.2.2.2.2.1), some (.int s38.2.1), some (.int x5.1), some (.int s38.2.2.2.1), some (.int s38.2.2.2.2.1), some (.int x5.1)], [.int s38.2.2.2.1, .int x5.1]), (x5.2, g, cw_R sv))) rfl ?_
      by_cases q8 : x5.1 ≤ s38.2.2.2.1
      · rw [if_pos q8] at hf
        refine rh_Ex.stp (s' := ((90, [some (.ref 0), some (.int u1), some (.int s38.2.2.2.2.1), some (.int s38.2.1), some (.int x5.1), some (.int s38.2.2.2.1), some (.int s38.2.2.2.2.1), some (.int x5.1)], []), (x5.2, g, cw_R sv))) rfl (st_icle_p q8) ?_
        refine rh_Ex.blk 2 (s' := ((38, [some (.ref 0), some (.int u1), some (.int s38.2.2.2.2.1), some (.int s38.2.1), some (.int x5.1), some (.int s38.2.2.2.1), some (.int (s38.2.2.2.2.1 + (1 : Int32))), some (.int x5.1)], []), (x5.2, g, cw_R sv))) rfl ?_
        obtain rfl := Option.some.inj hf
        refine rh_Ex.fgt [some (.ref 0), some (.int u1), some (.int s38.2.2.2.2.1), some (.int s38.2.1), some (.int x5.1), some (.int s38.2.2.2.1), some (.int (s38.2.2.2.2.1 + (1 : Int32))), none] ⟨rfl, rfl, rfl, rfl, rfl, rfl, rfl, trivial⟩ ?_
        exact hk
      · rw [if_neg q8] at hf
        refine rh_Ex.stp (s' := ((83, [some (.ref 0), some (.int u1), some (.int s38.2.2.2.2.1), some (.int s38.2.1), some (.int x5.1), some (.int s38.2.2.2.1), some (.int s38.2.2.2.2.1), some (.int x5.1)], []), (x5.2, g, cw_R sv))) rfl (st_icle_n q8) ?_
        refine rh_Ex.blk 6 (s' := ((38, [some (.ref 0), some (.int u1), some (.int s38.2.2.2.2.1), some (.int s38.2.2.2.2.1), some (.int x5.1), some (.int x5.1), some (.int (s38.2.2.2.2.1 + (1 : Int32))), some (.int x5.1)], []), (x5.2, g, cw_R sv))) rfl ?_
        obtain rfl := Option.some.inj hf
        refine rh_Ex.fgt [some (.ref 0), some (.int u1), some (.int s38.2.2.2.2.1), some (.int s38.2.2.2.2.1), some (.int x5.1), some (.int x5.1), some (.int (s38.2.2.2.2.1 + (1 : Int32))), none] ⟨rfl, rfl, rfl, rfl, rfl, rfl, rfl, trivial⟩ ?_
        exact hk
set_option maxRecDepth 20000 in
set_option maxHeartbeats 4000000 in
theorem R_La_spread (d : Nat) (xx : rh_L) (sv : Option Nat) (h : Nat → Nat → Int32) (g : Nat → Nat → Int64) (p0 : Int32) {z9 : Int32 × (Nat → Nat → Int32)} (hf : f_La_spread h p0 = some z9) : rh_M rh_PT (cw_L ++ xx) (d + 5) 121 [.ref 0, .int p0] (h, g, cw_R sv) (some (.int z9.1)) (z9.2, g, cw_R sv) := by
  unfold f_La_spread at hf
  refine rh_go pt_121 (Nat.le_of_ble_eq_true rfl) (lv := [some (.ref 0), some (.int p0), none, none, none, none, none, none]) rfl ?_
  refine rh_Ex.blk 3 (s' := ((5, [some (.ref 0), some (.int p0), none, none, none, none, none, none], [.int p0, .ref 4]), (h, g, cw_R sv))) rfl ?_
  refine rh_Ex.call (j := 1) (rc := some 0) [.ref 4, .int p0] [] (some (.int (f_Cr_holds h p0))) rfl rfl rfl (Nat.le_of_ble_eq_true rfl) (R_Cr_holds (d + 2) xx sv h g p0 rfl) ?_
  show rh_Ex _ _ _ ((8, [some (.ref 0), some (.int p0), none, none, none, none, none, none], [.int (f_Cr_holds h p0)]), (h, g, cw_R sv)) _ _
  by_cases q1 : (f_Cr_holds h p0) = 0
  · rw [if_pos q1] at hf
    refine rh_Ex.stp (s' := ((11, [some (.ref 0), some (.int p0), none, none, none, none, none, none], []), (h, g, cw_R sv))) rfl (st_ifne_p q1) ?_
    refine rh_Ex.blk 1 (s' := ((12, [some (.ref 0), some (.int p0), none, none, none, none, none, none], [.int (-1 : Int32)]), (h, g, cw_R sv))) rfl ?_
    obtain rfl := Option.some.inj hf
    exact rh_Ex.ret rfl rfl
  · rw [if_neg q1] at hf
    refine rh_Ex.stp (s' := ((13, [some (.ref 0), some (.int p0), none, none, none, none, none, none], []), (h, g, cw_R sv))) rfl (st_ifne_n q1) ?_
    refine rh_Ex.blk 8 (s' := ((23, [some (.ref 0), some (.int p0), some (.int (0 : Int32)), some (.int (0 : Int32)), none, none, none, none], [.ref 0, .int p0, .ref 4]), (h, g, cw_R sv))) rfl ?_
    refine rh_Ex.call (j := 159) (rc := some 10) [.ref 0] [.int p0, .ref 4] (some (.int (f_La_dawn h))) rfl rfl rfl (Nat.le_of_ble_eq_true rfl) (R_La_dawn (d + 3) xx sv h g  rfl) ?_
    show rh_Ex _ _ _ ((26, [some (.ref 0), some (.int p0), some (.int (0 : Int32)), some (.int (0 : Int32)), none, none, none, none], [.int (f_La_dawn h), .int p0, .ref 4]), (h, g, cw_R sv)) _ _
    obtain ⟨x2, hx2, hf⟩ := rh_bq hf
    refine rh_Ex.call (j := 7) (rc := some 0) [.ref 4, .int p0, .int (f_La_dawn h)] [] (some (.int x2.1)) rfl rfl rfl (Nat.le_of_ble_eq_true rfl) (R_Cr_together d xx sv h g p0 (f_La_dawn h) hx2) ?_
    show rh_Ex _ _ _ ((29, [some (.ref 0), some (.int p0), some (.int (0 : Int32)), some (.int (0 : Int32)), none, none, none, none], [.int x2.1]), (x2.2, g, cw_R sv)) _ _
    refine rh_Ex.blk 5 (s' := ((38, [some (.ref 0), some (.int p0), some (.int (0 : Int32)), some (.int (0 : Int32)), some (.int x2.1), some (.int x2.1), some (.int (1 : Int32)), none], []), (x2.2, g, cw_R sv))) rfl ?_
    obtain ⟨r9, hr9, hf⟩ := rh_bq hf
    refine rh_Ex.fgt [some (.ref 0), some (.int p0), some (.int (0 : Int32)), some (.int (0 : Int32)), some (.int x2.1), some (.int x2.1), some (.int (1 : Int32)), none] ⟨rfl, rfl, rfl, rfl, rfl, rfl, rfl, trivial⟩ ?_
    refine rh_Ex.loop _ _ _ (lb_La_spread_38 d xx sv p0  g _ _) rh_N _ r9 hr9 ?_
    refine rh_Ex.blk 3 (s' := ((101, [some (.ref 0), none, some (.int r9.1), some (.int r9.2.1), some (.int r9.2.2.1), some (.int r9.2.2.2.1), none, none], [.int r9.1, .ref 2]), (r9.2.2.2.2, g, cw_R sv))) rfl ?_
    obtain ⟨x10, hx10, hf⟩ := rh_bq hf
    refine rh_Ex.call (j := 70) (rc := some 6) [.ref 2, .int r9.1] [] none rfl rfl rfl (Nat.le_of_ble_eq_true rfl) (R_Ro_tell (d + 2) xx sv r9.2.2.2.2 g r9.1 hx10) ?_
    show rh_Ex _ _ _ ((104, [some (.ref 0), none, some (.int r9.1), some (.int r9.2.1), some (.int r9.2.2.1), some (.int r9.2.2.2.1), none, none], []), (x10, g, cw_R sv)) _ _
    refine rh_Ex.blk 3 (s' := ((109, [some (.ref 0), none, some (.int r9.1), some (.int r9.2.1), some (.int r9.2.2.1), some (.int r9.2.2.2.1), none, none], [.int r9.2.1, .ref 2]), (x10, g, cw_R sv))) rfl ?_
    obtain ⟨x11, hx11, hf⟩ := rh_bq hf
    refine rh_Ex.call (j := 69) (rc := some 6) [.ref 2, .int r9.2.1] [] none rfl rfl rfl (Nat.le_of_ble_eq_true rfl) (R_Ro_add (d + 3) xx sv x10 g r9.2.1 hx11) ?_
    show rh_Ex _ _ _ ((112, [some (.ref 0), none, some (.int r9.1), some (.int r9.2.1), some (.int r9.2.2.1), some (.int r9.2.2.2.1), none, none], []), (x11, g, cw_R sv)) _ _
    refine rh_Ex.blk 3 (s' := ((117, [some (.ref 0), none, some (.int r9.1), some (.int r9.2.1), some (.int r9.2.2.1), some (.int r9.2.2.2.1), none, none], [.int (r9.2.2.2.1 - r9.2.2.1)]), (x11, g, cw_R sv))) rfl ?_
    obtain rfl := Option.some.inj hf
    exact rh_Ex.ret rfl rfl
def f_La_isBell (p0 : Int32) : Option (Int32) :=
  rh_g ((f_La_within p0 (0 : Int32) (8 : Int32)) = 0 ∨ (f_La_within p0 (0 : Int32) (8 : Int32)) = 1) (
    some ((f_La_within p0 (0 : Int32) (8 : Int32)))
  )
set_option maxRecDepth 20000 in
set_option maxHeartbeats 4000000 in
theorem R_La_isBell (d : Nat) (LL : rh_L) (rr : Nat → Nat → Option Nat) (h : Nat → Nat → Int32) (g : Nat → Nat → Int64) (p0 : Int32) {z9 : Int32} (hf : f_La_isBell p0 = some z9) : rh_M rh_PT LL (d + 2) 156 [.int p0] (h, g, rr) (some (.int z9)) (h, g, rr) := by
  unfold f_La_isBell at hf
  refine rh_go pt_156 (Nat.le_of_ble_eq_true rfl) (lv := [some (.int p0)]) rfl ?_
  refine rh_Ex.blk 3 (s' := ((4, [some (.int p0)], [.int (8 : Int32), .int (0 : Int32), .int p0]), (h, g, rr))) rfl ?_
  refine rh_Ex.call (j := 155) (rc := none) [.int p0, .int (0 : Int32), .int (8 : Int32)] [] (some (.int (f_La_within p0 (0 : Int32) (8 : Int32)))) rfl rfl trivial (Nat.le_of_ble_eq_true rfl) (R_La_within d LL (rr) h g p0 (0 : Int32) (8 : Int32) rfl) ?_
  show rh_Ex _ _ _ ((7, [some (.int p0)], [.int (f_La_within p0 (0 : Int32) (8 : Int32))]), (h, g, rr)) _ _
  obtain ⟨q1, hf⟩ := rh_gq hf
  obtain rfl := Option.some.inj hf
  exact rh_Ex.ret rfl ⟨rfl, q1⟩
def f_La_isFuller (h : Nat → Nat → Int32) (p0 : Int32) (p1 : Int32) : Option (Int32) :=
  if 0 < ((f_In_bitCount p0) - (f_In_bitCount p1)) then
    some ((1 : Int32))
  else
    if ((f_In_bitCount p0) - (f_In_bitCount p1)) = 0 then
      rh_g (0 ≤ p0.toInt ∧ p0.toInt < ((512 : Nat) : Int)) (
        rh_g (0 ≤ p1.toInt ∧ p1.toInt < ((512 : Nat) : Int)) (
          if (h 12 p1.toNatClampNeg) ≤ (h 12 p0.toNatClampNeg) then
            some ((0 : Int32))
          else
            some ((1 : Int32))
        )
      )
    else
      some ((0 : Int32))
set_option maxRecDepth 20000 in
set_option maxHeartbeats 4000000 in
theorem R_La_isFuller (d : Nat) (xx : rh_L) (sv : Option Nat) (h : Nat → Nat → Int32) (g : Nat → Nat → Int64) (p0 : Int32) (p1 : Int32) {z9 : Int32} (hf : f_La_isFuller h p0 p1 = some z9) : rh_M rh_PT (cw_L ++ xx) (d + 2) 171 [.ref 0, .int p0, .int p1] (h, g, cw_R sv) (some (.int z9)) (h, g, cw_R sv) := by
  unfold f_La_isFuller at hf
  refine rh_go pt_171 (Nat.le_of_ble_eq_true rfl) (lv := [some (.ref 0), some (.int p0), some (.int p1), none]) rfl ?_
  refine rh_Ex.blk 1 (s' := ((1, [some (.ref 0), some (.int p0), some (.int p1), none], [.int p0]), (h, g, cw_R sv))) rfl ?_
  refine rh_Ex.call (j := 298) (rc := none) [.int p0] [] (some (.int (f_In_bitCount p0))) rfl rfl trivial (Nat.le_of_ble_eq_true rfl) (R_In_bitCount d (cw_L ++ xx) (cw_R sv) h g p0 rfl) ?_
  show rh_Ex _ _ _ ((4, [some (.ref 0), some (.int p0), some (.int p1), none], [.int (f_In_bitCount p0)]), (h, g, cw_R sv)) _ _
  refine rh_Ex.blk 1 (s' := ((5, [some (.ref 0), some (.int p0), some (.int p1), none], [.int p1, .int (f_In_bitCount p0)]), (h, g, cw_R sv))) rfl ?_
  refine rh_Ex.call (j := 298) (rc := none) [.int p1] [.int (f_In_bitCount p0)] (some (.int (f_In_bitCount p1))) rfl rfl trivial (Nat.le_of_ble_eq_true rfl) (R_In_bitCount d (cw_L ++ xx) (cw_R sv) h g p1 rfl) ?_
  show rh_Ex _ _ _ ((8, [some (.ref 0), some (.int p0), some (.int p1), none], [.int (f_In_bitCount p1), .int (f_In_bitCount p0)]), (h, g, cw_R sv)) _ _
  refine rh_Ex.blk 3 (s' := ((11, [some (.ref 0), some (.int p0), some (.int p1), some (.int ((f_In_bitCount p0) - (f_In_bitCount p1)))], [.int ((f_In_bitCount p0) - (f_In_bitCount p1))]), (h, g, cw_R sv))) rfl ?_
  by_cases q1 : 0 < ((f_In_bitCount p0) - (f_In_bitCount p1))
  · rw [if_pos q1] at hf
    refine rh_Ex.stp (s' := ((39, [some (.ref 0), some (.int p0), some (.int p1), some (.int ((f_In_bitCount p0) - (f_In_bitCount p1)))], []), (h, g, cw_R sv))) rfl (st_ifgt_p q1) ?_
    refine rh_Ex.blk 2 (s' := ((44, [some (.ref 0), some (.int p0), some (.int p1), some (.int ((f_In_bitCount p0) - (f_In_bitCount p1)))], [.int (1 : Int32)]), (h, g, cw_R sv))) rfl ?_
    obtain rfl := Option.some.inj hf
    exact rh_Ex.ret rfl ⟨rfl, Or.inr rfl⟩
  · rw [if_neg q1] at hf
    refine rh_Ex.stp (s' := ((14, [some (.ref 0), some (.int p0), some (.int p1), some (.int ((f_In_bitCount p0) - (f_In_bitCount p1)))], []), (h, g, cw_R sv))) rfl (st_ifgt_n q1) ?_
    refine rh_Ex.blk 1 (s' := ((15, [some (.ref 0), some (.int p0), some (.int p1), some (.int ((f_In_bitCount p0) - (f_In_bitCount p1)))], [.int ((f_In_bitCount p0) - (f_In_bitCount p1))]), (h, g, cw_R sv))) rfl ?_
    by_cases q2 : ((f_In_bitCount p0) - (f_In_bitCount p1)) = 0
    · rw [if_pos q2] at hf
      refine rh_Ex.stp (s' := ((18, [some (.ref 0), some (.int p0), some (.int p1), some (.int ((f_In_bitCount p0) - (f_In_bitCount p1)))], []), (h, g, cw_R sv))) rfl (st_ifne_p q2) ?_
      refine rh_Ex.blk 4 (s' := ((26, [some (.ref 0), some (.int p0), some (.int p1), some (.int ((f_In_bitCount p0) - (f_In_bitCount p1)))], [.int p0, .ref 12]), (h, g, cw_R sv))) rfl ?_
      obtain ⟨q3, hf⟩ := rh_gq hf
      refine rh_Ex.stp (s' := ((27, [some (.ref 0), some (.int p0), some (.int p1), some (.int ((f_In_bitCount p0) - (f_In_bitCount p1)))], [.int (h 12 p0.toNatClampNeg)]), (h, g, cw_R sv))) rfl (st_iald (n := 512) rfl q3) ?_
      refine rh_Ex.blk 4 (s' := ((35, [some (.ref 0), some (.int p0), some (.int p1), some (.int ((f_In_bitCount p0) - (f_In_bitCount p1)))], [.int p1, .ref 12, .int (h 12 p0.toNatClampNeg)]), (h, g, cw_R sv))) rfl ?_
      obtain ⟨q4, hf⟩ := rh_gq hf
      refine rh_Ex.stp (s' := ((36, [some (.ref 0), some (.int p0), some (.int p1), some (.int ((f_In_bitCount p0) - (f_In_bitCount p1)))], [.int (h 12 p1.toNatClampNeg), .int (h 12 p0.toNatClampNeg)]), (h, g, cw_R sv))) rfl (st_iald (n := 512) rfl q4) ?_
      by_cases q5 : (h 12 p1.toNatClampNeg) ≤ (h 12 p0.toNatClampNeg)
      · rw [if_pos q5] at hf
        refine rh_Ex.stp (s' := ((43, [some (.ref 0), some (.int p0), some (.int p1), some (.int ((f_In_bitCount p0) - (f_In_bitCount p1)))], []), (h, g, cw_R sv))) rfl (st_icge_p q5) ?_
        refine rh_Ex.blk 1 (s' := ((44, [some (.ref 0), some (.int p0), some (.int p1), some (.int ((f_In_bitCount p0) - (f_In_bitCount p1)))], [.int (0 : Int32)]), (h, g, cw_R sv))) rfl ?_
        obtain rfl := Option.some.inj hf
        exact rh_Ex.ret rfl ⟨rfl, Or.inl rfl⟩
      · rw [if_neg q5] at hf
        refine rh_Ex.stp (s' := ((39, [some (.ref 0), some (.int p0), some (.int p1), some (.int ((f_In_bitCount p0) - (f_In_bitCount p1)))], []), (h, g, cw_R sv))) rfl (st_icge_n q5) ?_
        refine rh_Ex.blk 2 (s' := ((44, [some (.ref 0), some (.int p0), some (.int p1), some (.int ((f_In_bitCount p0) - (f_In_bitCount p1)))], [.int (1 : Int32)]), (h, g, cw_R sv))) rfl ?_
        obtain rfl := Option.some.inj hf
        exact rh_Ex.ret rfl ⟨rfl, Or.inr rfl⟩
    · rw [if_neg q2] at hf
      refine rh_Ex.stp (s' := ((43, [some (.ref 0), some (.int p0), some (.int p1), some (.int ((f_In_bitCount p0) - (f_In_bitCount p1)))], []), (h, g, cw_R sv))) rfl (st_ifne_n q2) ?_
      refine rh_Ex.blk 1 (s' := ((44, [some (.ref 0), some (.int p0), some (.int p1), some (.int ((f_In_bitCount p0) - (f_In_bitCount p1)))], [.int (0 : Int32)]), (h, g, cw_R sv))) rfl ?_
      obtain rfl := Option.some.inj hf
      exact rh_Ex.ret rfl ⟨rfl, Or.inl rfl⟩
def b_La_floor_26 (h : Nat → Nat → Int32) : (Int32 × Int32) → Option ((Int32 × Int32) ⊕ (Int32)) := fun s26 =>
  if (f_Cr_sets h) ≤ s26.2 then
    some (.inr s26.1)
  else
    rh_g (0 ≤ s26.2.toInt ∧ s26.2.toInt < ((512 : Nat) : Int)) (
      if (h 40 (2 : Int32).toNatClampNeg) < (h 12 s26.2.toNatClampNeg) then
        some (.inl (s26.1, s26.2 + (1 : Int32)))
      else
        (f_La_isFuller h s26.2 s26.1).bind (fun x8 =>
          if x8 = 0 then
            some (.inl (s26.1, s26.2 + (1 : Int32)))
          else
            some (.inl (s26.2, s26.2 + (1 : Int32)))
        )
    )
def f_La_floor (h : Nat → Nat → Int32) (p0 : Int32) : Option (Int32 × (Nat → Nat → Int32)) :=
  (f_La_isBell p0).bind (fun x1 =>
    if x1 = 0 then
      some (((-1 : Int32), h))
    else
      (f_Cr_sumAll h ((f_La_dawn h) + p0)).bind (fun x3 =>
        (rh_loop (b_La_floor_26 x3) rh_N ((0 : Int32), (1 : Int32))).bind (fun r10 =>
          (f_Ro_tell x3 r10).bind (fun x11 =>
            some (((f_In_bitCount r10), x11))
          )
        )
      )
  )
set_option maxRecDepth 20000 in
set_option maxHeartbeats 4000000 in
theorem lb_La_floor_26 (d : Nat) (xx : rh_L) (sv : Option Nat) (h : Nat → Nat → Int32) (g : Nat → Nat → Int64) (v9 : Option Value) (h9 : rh_H) : ∀ s26 x9, b_La_floor_26 h s26 = some x9 → Sum.elim (fun s26 => rh_Ex (rh_M rh_PT (cw_L ++ xx) (d + 4)) (cw_L ++ xx) pg_X11_floor ((26, [some (.ref 0), none, some (.int s26.1), some (.int s26.2)], []), (h, g, cw_R sv)) v9 h9) (fun e9 => rh_Ex (rh_M rh_PT (cw_L ++ xx) (d + 4)) (cw_L ++ xx) pg_X11_floor ((72, [some (.ref 0), none, some (.int e9), none], []), (h, g, cw_R sv)) v9 h9) x9 → rh_Ex (rh_M rh_PT (cw_L ++ xx) (d + 4)) (cw_L ++ xx) pg_X11_floor ((26, [some (.ref 0), none, some (.int s26.1), some (.int s26.2)], []), (h, g, cw_R sv)) v9 h9 := by
  intro s26 x9 hf hk
  unfold b_La_floor_26 at hf
  refine rh_Ex.blk 3 (s' := ((31, [some (.ref 0), none, some (.int s26.1), some (.int s26.2)], [.ref 4, .int s26.2]), (h, g, cw_R sv))) rfl ?_
  refine rh_Ex.call (j := 2) (rc := some 0) [.ref 4] [.int s26.2] (some (.int (f_Cr_sets h))) rfl rfl rfl (Nat.le_of_ble_eq_true rfl) (R_Cr_sets (d + 3) xx sv h g  rfl) ?_
  show rh_Ex _ _ _ ((34, [some (.ref 0), none, some (.int s26.1), some (.int s26.2)], [.int (f_Cr_sets h), .int s26.2]), (h, g, cw_R sv)) _ _
  by_cases q5 : (f_Cr_sets h) ≤ s26.2
  · rw [if_pos q5] at hf
    refine rh_Ex.stp (s' := ((72, [some (.ref 0), none, some (.int s26.1), some (.int s26.2)], []), (h, g, cw_R sv))) rfl (st_icge_p q5) ?_
    obtain rfl := Option.some.inj hf
    refine rh_Ex.fgt [some (.ref 0), none, some (.int s26.1), none] ⟨rfl, rfl, trivial⟩ ?_
    exact hk
  · rw [if_neg q5] at hf
    refine rh_Ex.stp (s' := ((37, [some (.ref 0), none, some (.int s26.1), some (.int s26.2)], []), (h, g, cw_R sv))) rfl (st_icge_n q5) ?_
    refine rh_Ex.blk 4 (s' := ((45, [some (.ref 0), none, some (.int s26.1), some (.int s26.2)], [.int s26.2, .ref 12]), (h, g, cw_R sv))) rfl ?_
    obtain ⟨q6, hf⟩ := rh_gq hf
    refine rh_Ex.stp (s' := ((46, [some (.ref 0), none, some (.int s26.1), some (.int s26.2)], [.int (h 12 s26.2.toNatClampNeg)]), (h, g, cw_R sv))) rfl (st_iald (n := 512) rfl q6) ?_
    refine rh_Ex.blk 3 (s' := ((51, [some (.ref 0), none, some (.int s26.1), some (.int s26.2)], [.int (2 : Int32), .ref 40, .int (h 12 s26.2.toNatClampNeg)]), (h, g, cw_R sv))) rfl ?_
    refine rh_Ex.stp (s' := ((52, [some (.ref 0), none, some (.int s26.1), some (.int s26.2)], [.int (h 40 (2 : Int32).toNatClampNeg), .int (h 12 s26.2.toNatClampNeg)]), (h, g, cw_R sv))) rfl (st_iald (n := 3) rfl (by decide)) ?_
    by_cases q7 : (h 40 (2 : Int32).toNatClampNeg) < (h 12 s26.2.toNatClampNeg)
    · rw [if_pos q7] at hf
      refine rh_Ex.stp (s' := ((66, [some (.ref 0), none, some (.int s26.1), some (.int s26.2)], []), (h, g, cw_R sv))) rfl (st_icgt_p q7) ?_
      refine rh_Ex.blk 2 (s' := ((26, [some (.ref 0), none, some (.int s26.1), some (.int (s26.2 + (1 : Int32)))], []), (h, g, cw_R sv))) rfl ?_
      obtain rfl := Option.some.inj hf
      refine rh_Ex.fgt [some (.ref 0), none, some (.int s26.1), some (.int (s26.2 + (1 : Int32)))] ⟨rfl, rfl, rfl, trivial⟩ ?_
      exact hk
    · rw [if_neg q7] at hf
      refine rh_Ex.stp (s' := ((55, [some (.ref 0), none, some (.int s26.1), some (.int s26.2)], []), (h, g, cw_R sv))) rfl (st_icgt_n q7) ?_
      refine rh_Ex.blk 3 (s' := ((58, [some (.ref 0), none, some (.int s26.1), some (.int s26.2)], [.int s26.1, .int s26.2, .ref 0]), (h, g, cw_R sv))) rfl ?_
      obtain ⟨x8, hx8, hf⟩ := rh_bq hf
      refine rh_Ex.call (j := 171) (rc := some 10) [.ref 0, .int s26.2, .int s26.1] [] (some (.int x8)) rfl rfl rfl (Nat.le_of_ble_eq_true rfl) (R_La_isFuller (d + 2) xx sv h g s26.2 s26.1 hx8) ?_
      show rh_Ex _ _ _ ((61, [some (.ref 0), none, some (.int s26.1), some (.int s26.2)], [.int x8]), (h, g, cw_R sv)) _ _
      by_cases q9 : x8 = 0
      · rw [if_pos q9] at hf
        refine rh_Ex.stp (s' := ((66, [some (.ref 0), none, some (.int s26.1), some (.int s26.2)], []), (h, g, cw_R sv))) rfl (st_ifeq_p q9) ?_
        refine rh_Ex.blk 2 (s' := ((26, [some (.ref 0), none, some (.int s26.1), some (.int (s26.2 + (1 : Int32)))], []), (h, g, cw_R sv))) rfl ?_
        obtain rfl := Option.some.inj hf
        refine rh_Ex.fgt [some (.ref 0), none, some (.int s26.1), some (.int (s26.2 + (1 : Int32)))] ⟨rfl, rfl, rfl, trivial⟩ ?_
        exact hk
      · rw [if_neg q9] at hf
        refine rh_Ex.stp (s' := ((64, [some (.ref 0), none, some (.int s26.1), some (.int s26.2)], []), (h, g, cw_R sv))) rfl (st_ifeq_n q9) ?_
        refine rh_Ex.blk 4 (s' := ((26, [some (.ref 0), none, some (.int s26.2), some (.int (s26.2 + (1 : Int32)))], []), (h, g, cw_R sv))) rfl ?_
        obtain rfl := Option.some.inj hf
        refine rh_Ex.fgt [some (.ref 0), none, some (.int s26.2), some (.int (s26.2 + (1 : Int32)))] ⟨rfl, rfl, rfl, trivial⟩ ?_
        exact hk
set_option maxRecDepth 20000 in
set_option maxHeartbeats 4000000 in
theorem R_La_floor (d : Nat) (xx : rh_L) (sv : Option Nat) (h : Nat → Nat → Int32) (g : Nat → Nat → Int64) (p0 : Int32) {z9 : Int32 × (Nat → Nat → Int32)} (hf : f_La_floor h p0 = some z9) : rh_M rh_PT (cw_L ++ xx) (d + 5) 122 [.ref 0, .int p0] (h, g, cw_R sv) (some (.int z9.1)) (z9.2, g, cw_R sv) := by
  unfold f_La_floor at hf
  refine rh_go pt_122 (Nat.le_of_ble_eq_true rfl) (lv := [some (.ref 0), some (.int p0), none, none]) rfl ?_
  refine rh_Ex.blk 1 (s' := ((1, [some (.ref 0), some (.int p0), none, none], [.int p0]), (h, g, cw_R sv))) rfl ?_
  obtain ⟨x1, hx1, hf⟩ := rh_bq hf
  refine rh_Ex.call (j := 156) (rc := none) [.int p0] [] (some (.int x1)) rfl rfl trivial (Nat.le_of_ble_eq_true rfl) (R_La_isBell (d + 2) (cw_L ++ xx) (cw_R sv) h g p0 hx1) ?_
  show rh_Ex _ _ _ ((4, [some (.ref 0), some (.int p0), none, none], [.int x1]), (h, g, cw_R sv)) _ _
  by_cases q2 : x1 = 0
  · rw [if_pos q2] at hf
    refine rh_Ex.stp (s' := ((7, [some (.ref 0), some (.int p0), none, none], []), (h, g, cw_R sv))) rfl (st_ifne_p q2) ?_
    refine rh_Ex.blk 1 (s' := ((8, [some (.ref 0), some (.int p0), none, none], [.int (-1 : Int32)]), (h, g, cw_R sv))) rfl ?_
    obtain rfl := Option.some.inj hf
    exact rh_Ex.ret rfl rfl
  · rw [if_neg q2] at hf
    refine rh_Ex.stp (s' := ((9, [some (.ref 0), some (.int p0), none, none], []), (h, g, cw_R sv))) rfl (st_ifne_n q2) ?_
    refine rh_Ex.blk 3 (s' := ((14, [some (.ref 0), some (.int p0), none, none], [.ref 0, .ref 4]), (h, g, cw_R sv))) rfl ?_
    refine rh_Ex.call (j := 159) (rc := some 10) [.ref 0] [.ref 4] (some (.int (f_La_dawn h))) rfl rfl rfl (Nat.le_of_ble_eq_true rfl) (R_La_dawn (d + 3) xx sv h g  rfl) ?_
    show rh_Ex _ _ _ ((17, [some (.ref 0), some (.int p0), none, none], [.int (f_La_dawn h), .ref 4]), (h, g, cw_R sv)) _ _
    refine rh_Ex.blk 2 (s' := ((19, [some (.ref 0), some (.int p0), none, none], [.int ((f_La_dawn h) + p0), .ref 4]), (h, g, cw_R sv))) rfl ?_
    obtain ⟨x3, hx3, hf⟩ := rh_bq hf
    refine rh_Ex.call (j := 8) (rc := some 0) [.ref 4, .int ((f_La_dawn h) + p0)] [] none rfl rfl rfl (Nat.le_of_ble_eq_true rfl) (R_Cr_sumAll d xx sv h g ((f_La_dawn h) + p0) hx3) ?_
    show rh_Ex _ _ _ ((22, [some (.ref 0), some (.int p0), none, none], []), (x3, g, cw_R sv)) _ _
    refine rh_Ex.blk 4 (s' := ((26, [some (.ref 0), some (.int p0), some (.int (0 : Int32)), some (.int (1 : Int32))], []), (x3, g, cw_R sv))) rfl ?_
    obtain ⟨r10, hr10, hf⟩ := rh_bq hf
    refine rh_Ex.fgt [some (.ref 0), none, some (.int (0 : Int32)), some (.int (1 : Int32))] ⟨rfl, rfl, rfl, trivial⟩ ?_
    refine rh_Ex.loop _ _ _ (lb_La_floor_26 d xx sv x3  g _ _) rh_N _ r10 hr10 ?_
    refine rh_Ex.blk 3 (s' := ((77, [some (.ref 0), none, some (.int r10), none], [.int r10, .ref 2]), (x3, g, cw_R sv))) rfl ?_
    obtain ⟨x11, hx11, hf⟩ := rh_bq hf
    refine rh_Ex.call (j := 70) (rc := some 6) [.ref 2, .int r10] [] none rfl rfl rfl (Nat.le_of_ble_eq_true rfl) (R_Ro_tell (d + 2) xx sv x3 g r10 hx11) ?_
    show rh_Ex _ _ _ ((80, [some (.ref 0), none, some (.int r10), none], []), (x11, g, cw_R sv)) _ _
    refine rh_Ex.blk 1 (s' := ((81, [some (.ref 0), none, some (.int r10), none], [.int r10]), (x11, g, cw_R sv))) rfl ?_
    refine rh_Ex.call (j := 298) (rc := none) [.int r10] [] (some (.int (f_In_bitCount r10))) rfl rfl trivial (Nat.le_of_ble_eq_true rfl) (R_In_bitCount (d + 3) (cw_L ++ xx) (cw_R sv) x11 g r10 rfl) ?_
    show rh_Ex _ _ _ ((84, [some (.ref 0), none, some (.int r10), none], [.int (f_In_bitCount r10)]), (x11, g, cw_R sv)) _ _
    obtain rfl := Option.some.inj hf
    exact rh_Ex.ret rfl rfl
def b_La_heaviest_26 (h : Nat → Nat → Int32) : (Int32 × Int32) → Option ((Int32 × Int32) ⊕ (Int32)) := fun s26 =>
  if (f_Cr_sets h) ≤ s26.2 then
    some (.inr s26.1)
  else
    rh_g (0 ≤ s26.2.toInt ∧ s26.2.toInt < ((512 : Nat) : Int)) (
      if (h 40 (2 : Int32).toNatClampNeg) < (h 12 s26.2.toNatClampNeg) then
        some (.inl (s26.1, s26.2 + (1 : Int32)))
      else
        rh_g (0 ≤ s26.2.toInt ∧ s26.2.toInt < ((512 : Nat) : Int)) (
          rh_g (0 ≤ s26.1.toInt ∧ s26.1.toInt < ((512 : Nat) : Int)) (
            if (h 12 s26.2.toNatClampNeg) ≤ (h 12 s26.1.toNatClampNeg) then
              some (.inl (s26.1, s26.2 + (1 : Int32)))
            else
              some (.inl (s26.2, s26.2 + (1 : Int32)))
          )
        )
    )
def f_La_heaviest (h : Nat → Nat → Int32) (p0 : Int32) : Option (Int32 × (Nat → Nat → Int32)) :=
  (f_La_isBell p0).bind (fun x1 =>
    if x1 = 0 then
      some (((-1 : Int32), h))
    else
      (f_Cr_sumAll h ((f_La_dawn h) + p0)).bind (fun x3 =>
        (rh_loop (b_La_heaviest_26 x3) rh_N ((0 : Int32), (1 : Int32))).bind (fun r11 =>
          (f_Ro_tell x3 r11).bind (fun x12 =>
            rh_g (0 ≤ r11.toInt ∧ r11.toInt < ((512 : Nat) : Int)) (
              some ((x12 12 r11.toNatClampNeg, x12))
            )
          )
        )
      )
  )
set_option maxRecDepth 20000 in
set_option maxHeartbeats 4000000 in
theorem lb_La_heaviest_26 (d : Nat) (xx : rh_L) (sv : Option Nat) (h : Nat → Nat → Int32) (g : Nat → Nat → Int64) (v9 : Option Value) (h9 : rh_H) : ∀ s26 x9, b_La_heaviest_26 h s26 = some x9 → Sum.elim (fun s26 => rh_Ex (rh_M rh_PT (cw_L ++ xx) (d + 4)) (cw_L ++ xx) pg_X11_heaviest ((26, [some (.ref 0), none, some (.int s26.1), some (.int s26.2)], []), (h, g, cw_R sv)) v9 h9) (fun e9 => rh_Ex (rh_M rh_PT (cw_L ++ xx) (d + 4)) (cw_L ++ xx) pg_X11_heaviest ((84, [some (.ref 0), none, some (.int e9), none], []), (h, g, cw_R sv)) v9 h9) x9 → rh_Ex (rh_M rh_PT (cw_L ++ xx) (d + 4)) (cw_L ++ xx) pg_X11_heaviest ((26, [some (.ref 0), none, some (.int s26.1), some (.int s26.2)], []), (h, g, cw_R sv)) v9 h9 := by
  intro s26 x9 hf hk
  unfold b_La_heaviest_26 at hf
  refine rh_Ex.blk 3 (s' := ((31, [some (.ref 0), none, some (.int s26.1), some (.int s26.2)], [.ref 4, .int s26.2]), (h, g, cw_R sv))) rfl ?_
  refine rh_Ex.call (j := 2) (rc := some 0) [.ref 4] [.int s26.2] (some (.int (f_Cr_sets h))) rfl rfl rfl (Nat.le_of_ble_eq_true rfl) (R_Cr_sets (d + 3) xx sv h g  rfl) ?_
  show rh_Ex _ _ _ ((34, [some (.ref 0), none, some (.int s26.1), some (.int s26.2)], [.int (f_Cr_sets h), .int s26.2]), (h, g, cw_R sv)) _ _
  by_cases q5 : (f_Cr_sets h) ≤ s26.2
  · rw [if_pos q5] at hf
    refine rh_Ex.stp (s' := ((84, [some (.ref 0), none, some (.int s26.1), some (.int s26.2)], []), (h, g, cw_R sv))) rfl (st_icge_p q5) ?_
    obtain rfl := Option.some.inj hf
    refine rh_Ex.fgt [some (.ref 0), none, some (.int s26.1), none] ⟨rfl, rfl, trivial⟩ ?_
    exact hk
  · rw [if_neg q5] at hf
    refine rh_Ex.stp (s' := ((37, [some (.ref 0), none, some (.int s26.1), some (.int s26.2)], []), (h, g, cw_R sv))) rfl (st_icge_n q5) ?_
    refine rh_Ex.blk 4 (s' := ((45, [some (.ref 0), none, some (.int s26.1), some (.int s26.2)], [.int s26.2, .ref 12]), (h, g, cw_R sv))) rfl ?_
    obtain ⟨q6, hf⟩ := rh_gq hf
    refine rh_Ex.stp (s' := ((46, [some (.ref 0), none, some (.int s26.1), some (.int s26.2)], [.int (h 12 s26.2.toNatClampNeg)]), (h, g, cw_R sv))) rfl (st_iald (n := 512) rfl q6) ?_
    refine rh_Ex.blk 3 (s' := ((51, [some (.ref 0), none, some (.int s26.1), some (.int s26.2)], [.int (2 : Int32), .ref 40, .int (h 12 s26.2.toNatClampNeg)]), (h, g, cw_R sv))) rfl ?_
    refine rh_Ex.stp (s' := ((52, [some (.ref 0), none, some (.int s26.1), some (.int s26.2)], [.int (h 40 (2 : Int32).toNatClampNeg), .int (h 12 s26.2.toNatClampNeg)]), (h, g, cw_R sv))) rfl (st_iald (n := 3) rfl (by decide)) ?_
    by_cases q7 : (h 40 (2 : Int32).toNatClampNeg) < (h 12 s26.2.toNatClampNeg)
    · rw [if_pos q7] at hf
      refine rh_Ex.stp (s' := ((78, [some (.ref 0), none, some (.int s26.1), some (.int s26.2)], []), (h, g, cw_R sv))) rfl (st_icgt_p q7) ?_
      refine rh_Ex.blk 2 (s' := ((26, [some (.ref 0), none, some (.int s26.1), some (.int (s26.2 + (1 : Int32)))], []), (h, g, cw_R sv))) rfl ?_
      obtain rfl := Option.some.inj hf
      refine rh_Ex.fgt [some (.ref 0), none, some (.int s26.1), some (.int (s26.2 + (1 : Int32)))] ⟨rfl, rfl, rfl, trivial⟩ ?_
      exact hk
    · rw [if_neg q7] at hf
      refine rh_Ex.stp (s' := ((55, [some (.ref 0), none, some (.int s26.1), some (.int s26.2)], []), (h, g, cw_R sv))) rfl (st_icgt_n q7) ?_
      refine rh_Ex.blk 4 (s' := ((63, [some (.ref 0), none, some (.int s26.1), some (.int s26.2)], [.int s26.2, .ref 12]), (h, g, cw_R sv))) rfl ?_
      obtain ⟨q8, hf⟩ := rh_gq hf
      refine rh_Ex.stp (s' := ((64, [some (.ref 0), none, some (.int s26.1), some (.int s26.2)], [.int (h 12 s26.2.toNatClampNeg)]), (h, g, cw_R sv))) rfl (st_iald (n := 512) rfl q8) ?_
      refine rh_Ex.blk 4 (s' := ((72, [some (.ref 0), none, some (.int s26.1), some (.int s26.2)], [.int s26.1, .ref 12, .int (h 12 s26.2.toNatClampNeg)]), (h, g, cw_R sv))) rfl ?_
      obtain ⟨q9, hf⟩ := rh_gq hf
      refine rh_Ex.stp (s' := ((73, [some (.ref 0), none, some (.int s26.1), some (.int s26.2)], [.int (h 12 s26.1.toNatClampNeg), .int (h 12 s26.2.toNatClampNeg)]), (h, g, cw_R sv))) rfl (st_iald (n := 512) rfl q9) ?_
      by_cases q10 : (h 12 s26.2.toNatClampNeg) ≤ (h 12 s26.1.toNatClampNeg)
      · rw [if_pos q10] at hf
        refine rh_Ex.stp (s' := ((78, [some (.ref 0), none, some (.int s26.1), some (.int s26.2)], []), (h, g, cw_R sv))) rfl (st_icle_p q10) ?_
        refine rh_Ex.blk 2 (s' := ((26, [some (.ref 0), none, some (.int s26.1), some (.int (s26.2 + (1 : Int32)))], []), (h, g, cw_R sv))) rfl ?_
        obtain rfl := Option.some.inj hf
        refine rh_Ex.fgt [some (.ref 0), none, some (.int s26.1), some (.int (s26.2 + (1 : Int32)))] ⟨rfl, rfl, rfl, trivial⟩ ?_
        exact hk
      · rw [if_neg q10] at hf
        refine rh_Ex.stp (s' := ((76, [some (.ref 0), none, some (.int s26.1), some (.int s26.2)], []), (h, g, cw_R sv))) rfl (st_icle_n q10) ?_
        refine rh_Ex.blk 4 (s' := ((26, [some (.ref 0), none, some (.int s26.2), some (.int (s26.2 + (1 : Int32)))], []), (h, g, cw_R sv))) rfl ?_
        obtain rfl := Option.some.inj hf
        refine rh_Ex.fgt [some (.ref 0), none, some (.int s26.2), some (.int (s26.2 + (1 : Int32)))] ⟨rfl, rfl, rfl, trivial⟩ ?_
        exact hk
set_option maxRecDepth 20000 in
set_option maxHeartbeats 4000000 in
theorem R_La_heaviest (d : Nat) (xx : rh_L) (sv : Option Nat) (h : Nat → Nat → Int32) (g : Nat → Nat → Int64) (p0 : Int32) {z9 : Int32 × (Nat → Nat → Int32)} (hf : f_La_heaviest h p0 = some z9) : rh_M rh_PT (cw_L ++ xx) (d + 5) 123 [.ref 0, .int p0] (h, g, cw_R sv) (some (.int z9.1)) (z9.2, g, cw_R sv) := by
  unfold f_La_heaviest at hf
  refine rh_go pt_123 (Nat.le_of_ble_eq_true rfl) (lv := [some (.ref 0), some (.int p0), none, none]) rfl ?_
  refine rh_Ex.blk 1 (s' := ((1, [some (.ref 0), some (.int p0), none, none], [.int p0]), (h, g, cw_R sv))) rfl ?_
  obtain ⟨x1, hx1, hf⟩ := rh_bq hf
  refine rh_Ex.call (j := 156) (rc := none) [.int p0] [] (some (.int x1)) rfl rfl trivial (Nat.le_of_ble_eq_true rfl) (R_La_isBell (d + 2) (cw_L ++ xx) (cw_R sv) h g p0 hx1) ?_
  show rh_Ex _ _ _ ((4, [some (.ref 0), some (.int p0), none, none], [.int x1]), (h, g, cw_R sv)) _ _
  by_cases q2 : x1 = 0
  · rw [if_pos q2] at hf
    refine rh_Ex.stp (s' := ((7, [some (.ref 0), some (.int p0), none, none], []), (h, g, cw_R sv))) rfl (st_ifne_p q2) ?_
    refine rh_Ex.blk 1 (s' := ((8, [some (.ref 0), some (.int p0), none, none], [.int (-1 : Int32)]), (h, g, cw_R sv))) rfl ?_
    obtain rfl := Option.some.inj hf
    exact rh_Ex.ret rfl rfl
  · rw [if_neg q2] at hf
    refine rh_Ex.stp (s' := ((9, [some (.ref 0), some (.int p0), none, none], []), (h, g, cw_R sv))) rfl (st_ifne_n q2) ?_
    refine rh_Ex.blk 3 (s' := ((14, [some (.ref 0), some (.int p0), none, none], [.ref 0, .ref 4]), (h, g, cw_R sv))) rfl ?_
    refine rh_Ex.call (j := 159) (rc := some 10) [.ref 0] [.ref 4] (some (.int (f_La_dawn h))) rfl rfl rfl (Nat.le_of_ble_eq_true rfl) (R_La_dawn (d + 3) xx sv h g  rfl) ?_
    show rh_Ex _ _ _ ((17, [some (.ref 0), some (.int p0), none, none], [.int (f_La_dawn h), .ref 4]), (h, g, cw_R sv)) _ _
    refine rh_Ex.blk 2 (s' := ((19, [some (.ref 0), some (.int p0), none, none], [.int ((f_La_dawn h) + p0), .ref 4]), (h, g, cw_R sv))) rfl ?_
    obtain ⟨x3, hx3, hf⟩ := rh_bq hf
    refine rh_Ex.call (j := 8) (rc := some 0) [.ref 4, .int ((f_La_dawn h) + p0)] [] none rfl rfl rfl (Nat.le_of_ble_eq_true rfl) (R_Cr_sumAll d xx sv h g ((f_La_dawn h) + p0) hx3) ?_
    show rh_Ex _ _ _ ((22, [some (.ref 0), some (.int p0), none, none], []), (x3, g, cw_R sv)) _ _
    refine rh_Ex.blk 4 (s' := ((26, [some (.ref 0), some (.int p0), some (.int (0 : Int32)), some (.int (1 : Int32))], []), (x3, g, cw_R sv))) rfl ?_
    obtain ⟨r11, hr11, hf⟩ := rh_bq hf
    refine rh_Ex.fgt [some (.ref 0), none, some (.int (0 : Int32)), some (.int (1 : Int32))] ⟨rfl, rfl, rfl, trivial⟩ ?_
    refine rh_Ex.loop _ _ _ (lb_La_heaviest_26 d xx sv x3  g _ _) rh_N _ r11 hr11 ?_
    refine rh_Ex.blk 3 (s' := ((89, [some (.ref 0), none, some (.int r11), none], [.int r11, .ref 2]), (x3, g, cw_R sv))) rfl ?_
    obtain ⟨x12, hx12, hf⟩ := rh_bq hf
    refine rh_Ex.call (j := 70) (rc := some 6) [.ref 2, .int r11] [] none rfl rfl rfl (Nat.le_of_ble_eq_true rfl) (R_Ro_tell (d + 2) xx sv x3 g r11 hx12) ?_
    show rh_Ex _ _ _ ((92, [some (.ref 0), none, some (.int r11), none], []), (x12, g, cw_R sv)) _ _
    refine rh_Ex.blk 4 (s' := ((100, [some (.ref 0), none, some (.int r11), none], [.int r11, .ref 12]), (x12, g, cw_R sv))) rfl ?_
    obtain ⟨q13, hf⟩ := rh_gq hf
    refine rh_Ex.stp (s' := ((101, [some (.ref 0), none, some (.int r11), none], [.int (x12 12 r11.toNatClampNeg)]), (x12, g, cw_R sv))) rfl (st_iald (n := 512) rfl q13) ?_
    obtain rfl := Option.some.inj hf
    exact rh_Ex.ret rfl rfl
def b_La_timber_32 (u1 : Int32) (u2 : Int32) : (Int32 × Int32 × Int32 × (Nat → Nat → Int32)) → Option ((Int32 × Int32 × Int32 × (Nat → Nat → Int32)) ⊕ (Int32 × Int32 × (Nat → Nat → Int32))) := fun s32 =>
  if (9 : Int32) ≤ s32.2.2.1 then
    some (.inr (s32.1, s32.2.1, s32.2.2.2))
  else
    (f_Cr_together s32.2.2.2 u1 ((f_La_dawn s32.2.2.2) + s32.2.2.1)).bind (fun x5 =>
      if x5.1 ≤ s32.1 then
        some (.inl (s32.1, s32.2.1, s32.2.2.1 + (1 : Int32), x5.2))
      else
        some (.inl (x5.1, s32.2.2.1, s32.2.2.1 + (1 : Int32), x5.2))
    )
def f_La_timber (h : Nat → Nat → Int32) (p0 : Int32) (p1 : Int32) : Option (Int32 × (Nat → Nat → Int32)) :=
  if (f_Cr_holds h p0) = 0 then
    some (((-1 : Int32), h))
  else
    if (f_La_within p1 (1 : Int32) (999 : Int32)) = 0 then
      some (((-1 : Int32), h))
    else
      (rh_loop (b_La_timber_32 p0 p1) rh_N ((-1 : Int32), (0 : Int32), (0 : Int32), h)).bind (fun r7 =>
        (f_Ro_tell r7.2.2 r7.2.1).bind (fun x8 =>
          rh_g (¬ p1 = 0) (
            (f_Ro_add x8 (((r7.1 + p1) - (1 : Int32)) / p1)).bind (fun x10 =>
              some ((r7.1, x10))
            )
          )
        )
      )
set_option maxRecDepth 20000 in
set_option maxHeartbeats 4000000 in
theorem lb_La_timber_32 (d : Nat) (xx : rh_L) (sv : Option Nat) (u1 : Int32) (u2 : Int32) (g : Nat → Nat → Int64) (v9 : Option Value) (h9 : rh_H) : ∀ s32 x9, b_La_timber_32 u1 u2 s32 = some x9 → Sum.elim (fun s32 => rh_Ex (rh_M rh_PT (cw_L ++ xx) (d + 4)) (cw_L ++ xx) pg_X11_timber ((32, [some (.ref 0), some (.int u1), some (.int u2), some (.int s32.1), some (.int s32.2.1), some (.int s32.2.2.1), none], []), (s32.2.2.2, g, cw_R sv)) v9 h9) (fun e9 => rh_Ex (rh_M rh_PT (cw_L ++ xx) (d + 4)) (cw_L ++ xx) pg_X11_timber ((75, [some (.ref 0), none, some (.int u2), some (.int e9.1), some (.int e9.2.1), none, none], []), (e9.2.2, g, cw_R sv)) v9 h9) x9 → rh_Ex (rh_M rh_PT (cw_L ++ xx) (d + 4)) (cw_L ++ xx) pg_X11_timber ((32, [some (.ref 0), some (.int u1), some (.int u2), some (.int s32.1), some (.int s32.2.1), some (.int s32.2.2.1), none], []), (s32.2.2.2, g, cw_R sv)) v9 h9 := by
  intro s32 x9 hf hk
  unfold b_La_timber_32 at hf
  refine rh_Ex.blk 2 (s' := ((36, [some (.ref 0), some (.int u1), some (.int u2), some (.int s32.1), some (.int s32.2.1), some (.int s32.2.2.1), none], [.int (9 : Int32), .int s32.2.2.1]), (s32.2.2.2, g, cw_R sv))) rfl ?_
  by_cases q4 : (9 : Int32) ≤ s32.2.2.1
  · rw [if_pos q4] at hf
    refine rh_Ex.stp (s' := ((75, [some (.ref 0), some (.int u1), some (.int u2), some (.int s32.1), some (.int s32.2.1), some (.int s32.2.2.1), none], []), (s32.2.2.2, g, cw_R sv))) rfl (st_icge_p q4) ?_
    obtain rfl := Option.some.inj hf
    refine rh_Ex.fgt [some (.ref 0), none, some (.int u2), some (.int s32.1), some (.int s32.2.1), none, none] ⟨rfl, rfl, rfl, rfl, trivial⟩ ?_
    exact hk
  · rw [if_neg q4] at hf
    refine rh_Ex.stp (s' := ((39, [some (.ref 0), some (.int u1), some (.int u2), some (.int s32.1), some (.int s32.2.1), some (.int s32.2.2.1), none], []), (s32.2.2.2, g, cw_R sv))) rfl (st_icge_n q4) ?_
    refine rh_Ex.blk 4 (s' := ((45, [some (.ref 0), some (.int u1), some (.int u2), some (.int s32.1), some (.int s32.2.1), some (.int s32.2.2.1), none], [.ref 0, .int u1, .ref 4]), (s32.2.2.2, g, cw_R sv))) rfl ?_
    refine rh_Ex.call (j := 159) (rc := some 10) [.ref 0] [.int u1, .ref 4] (some (.int (f_La_dawn s32.2.2.2))) rfl rfl rfl (Nat.le_of_ble_eq_true rfl) (R_La_dawn (d + 3) xx sv s32.2.2.2 g  rfl) ?_
    show rh_Ex _ _ _ ((48, [some (.ref 0), some (.int u1), some (.int u2), some (.int s32.1), some (.int s32.2.1), some (.int s32.2.2.1), none], [.int (f_La_dawn s32.2.2.2), .int u1, .ref 4]), (s32.2.2.2, g, cw_R sv)) _ _
    refine rh_Ex.blk 2 (s' := ((51, [some (.ref 0), some (.int u1), some (.int u2), some (.int s32.1), some (.int s32.2.1), some (.int s32.2.2.1), none], [.int ((f_La_dawn s32.2.2.2) + s32.2.2.1), .int u1, .ref 4]), (s32.2.2.2, g, cw_R sv))) rfl ?_
    obtain ⟨x5, hx5, hf⟩ := rh_bq hf
    refine rh_Ex.call (j := 7) (rc := some 0) [.ref 4, .int u1, .int ((f_La_dawn s32.2.2.2) + s32.2.2.1)] [] (some (.int x5.1)) rfl rfl rfl (Nat.le_of_ble_eq_true rfl) (R_Cr_together d xx sv s32.2.2.2 g u1 ((f_La_dawn s32.2.2.2) + s32.2.2.1) hx5) ?_
    show rh_Ex _ _ _ ((54, [some (.ref 0), some (.int u1), some (.int u2), some (.int s32.1), some (.int s32.2.1), some (.int s32.2.2.1), none], [.int x5.1]), (x5.2, g, cw_R sv)) _ _
    refine rh_Ex.blk 3 (s' := ((59, [some (.ref 0), some (.int u1), some (.int u2), some (.int s32.1), some (.int s32.2.1), some (.int s32.2.2.1), some (.int x5.1)], [.int s32.1, .int x5.1]), (x5.2, g, cw_R sv))) rfl ?_
    by_cases q6 : x5.1 ≤ s32.1
    · rw [if_pos q6] at hf
      refine rh_Ex.stp (s' := ((69, [some (.ref 0), some (.int u1), some (.int u2), some (.int s32.1), some (.int s32.2.1), some (.int s32.2.2.1), some (.int x5.1)], []), (x5.2, g, cw_R sv))) rfl (st_icle_p q6) ?_
      refine rh_Ex.blk 2 (s' := ((32, [some (.ref 0), some (.int u1), some (.int u2), some (.int s32.1), some (.int s32.2.1), some (.int (s32.2.2.1 + (1 : Int32))), some (.int x5.1)], []), (x5.2, g, cw_R sv))) rfl ?_
      obtain rfl := Option.some.inj hf
      refine rh_Ex.fgt [some (.ref 0), some (.int u1), some (.int u2), some (.int s32.1), some (.int s32.2.1), some (.int (s32.2.2.1 + (1 : Int32))), none] ⟨rfl, rfl, rfl, rfl, rfl, rfl, trivial⟩ ?_
      exact hk
    · rw [if_neg q6] at hf
      refine rh_Ex.stp (s' := ((62, [some (.ref 0), some (.int u1), some (.int u2), some (.int s32.1), some (.int s32.2.1), some (.int s32.2.2.1), some (.int x5.1)], []), (x5.2, g, cw_R sv))) rfl (st_icle_n q6) ?_
      refine rh_Ex.blk 6 (s' := ((32, [some (.ref 0), some (.int u1), some (.int u2), some (.int x5.1), some (.int s32.2.2.1), some (.int (s32.2.2.1 + (1 : Int32))), some (.int x5.1)], []), (x5.2, g, cw_R sv))) rfl ?_
      obtain rfl := Option.some.inj hf
      refine rh_Ex.fgt [some (.ref 0), some (.int u1), some (.int u2), some (.int x5.1), some (.int s32.2.2.1), some (.int (s32.2.2.1 + (1 : Int32))), none] ⟨rfl, rfl, rfl, rfl, rfl, rfl, trivial⟩ ?_
      exact hk
set_option maxRecDepth 20000 in
set_option maxHeartbeats 4000000 in
theorem R_La_timber (d : Nat) (xx : rh_L) (sv : Option Nat) (h : Nat → Nat → Int32) (g : Nat → Nat → Int64) (p0 : Int32) (p1 : Int32) {z9 : Int32 × (Nat → Nat → Int32)} (hf : f_La_timber h p0 p1 = some z9) : rh_M rh_PT (cw_L ++ xx) (d + 5) 124 [.ref 0, .int p0, .int p1] (h, g, cw_R sv) (some (.int z9.1)) (z9.2, g, cw_R sv) := by
  unfold f_La_timber at hf
  refine rh_go pt_124 (Nat.le_of_ble_eq_true rfl) (lv := [some (.ref 0), some (.int p0), some (.int p1), none, none, none, none]) rfl ?_
  refine rh_Ex.blk 3 (s' := ((5, [some (.ref 0), some (.int p0), some (.int p1), none, none, none, none], [.int p0, .ref 4]), (h, g, cw_R sv))) rfl ?_
  refine rh_Ex.call (j := 1) (rc := some 0) [.ref 4, .int p0] [] (some (.int (f_Cr_holds h p0))) rfl rfl rfl (Nat.le_of_ble_eq_true rfl) (R_Cr_holds (d + 2) xx sv h g p0 rfl) ?_
  show rh_Ex _ _ _ ((8, [some (.ref 0), some (.int p0), some (.int p1), none, none, none, none], [.int (f_Cr_holds h p0)]), (h, g, cw_R sv)) _ _
  by_cases q1 : (f_Cr_holds h p0) = 0
  · rw [if_pos q1] at hf
    refine rh_Ex.stp (s' := ((22, [some (.ref 0), some (.int p0), some (.int p1), none, none, none, none], []), (h, g, cw_R sv))) rfl (st_ifeq_p q1) ?_
    refine rh_Ex.blk 1 (s' := ((23, [some (.ref 0), some (.int p0), some (.int p1), none, none, none, none], [.int (-1 : Int32)]), (h, g, cw_R sv))) rfl ?_
    obtain rfl := Option.some.inj hf
    exact rh_Ex.ret rfl rfl
  · rw [if_neg q1] at hf
    refine rh_Ex.stp (s' := ((11, [some (.ref 0), some (.int p0), some (.int p1), none, none, none, none], []), (h, g, cw_R sv))) rfl (st_ifeq_n q1) ?_
    refine rh_Ex.blk 3 (s' := ((16, [some (.ref 0), some (.int p0), some (.int p1), none, none, none, none], [.int (999 : Int32), .int (1 : Int32), .int p1]), (h, g, cw_R sv))) rfl ?_
    refine rh_Ex.call (j := 155) (rc := none) [.int p1, .int (1 : Int32), .int (999 : Int32)] [] (some (.int (f_La_within p1 (1 : Int32) (999 : Int32)))) rfl rfl trivial (Nat.le_of_ble_eq_true rfl) (R_La_within (d + 3) (cw_L ++ xx) (cw_R sv) h g p1 (1 : Int32) (999 : Int32) rfl) ?_
    show rh_Ex _ _ _ ((19, [some (.ref 0), some (.int p0), some (.int p1), none, none, none, none], [.int (f_La_within p1 (1 : Int32) (999 : Int32))]), (h, g, cw_R sv)) _ _
    by_cases q2 : (f_La_within p1 (1 : Int32) (999 : Int32)) = 0
    · rw [if_pos q2] at hf
      refine rh_Ex.stp (s' := ((22, [some (.ref 0), some (.int p0), some (.int p1), none, none, none, none], []), (h, g, cw_R sv))) rfl (st_ifne_p q2) ?_
      refine rh_Ex.blk 1 (s' := ((23, [some (.ref 0), some (.int p0), some (.int p1), none, none, none, none], [.int (-1 : Int32)]), (h, g, cw_R sv))) rfl ?_
      obtain rfl := Option.some.inj hf
      exact rh_Ex.ret rfl rfl
    · rw [if_neg q2] at hf
      refine rh_Ex.stp (s' := ((24, [some (.ref 0), some (.int p0), some (.int p1), none, none, none, none], []), (h, g, cw_R sv))) rfl (st_ifne_n q2) ?_
      refine rh_Ex.blk 6 (s' := ((32, [some (.ref 0), some (.int p0), some (.int p1), some (.int (-1 : Int32)), some (.int (0 : Int32)), some (.int (0 : Int32)), none], []), (h, g, cw_R sv))) rfl ?_
      obtain ⟨r7, hr7, hf⟩ := rh_bq hf
      refine rh_Ex.fgt [some (.ref 0), some (.int p0), some (.int p1), some (.int (-1 : Int32)), some (.int (0 : Int32)), some (.int (0 : Int32)), none] ⟨rfl, rfl, rfl, rfl, rfl, rfl, trivial⟩ ?_
      refine rh_Ex.loop _ _ _ (lb_La_timber_32 d xx sv p0 p1  g _ _) rh_N _ r7 hr7 ?_
      refine rh_Ex.blk 3 (s' := ((81, [some (.ref 0), none, some (.int p1), some (.int r7.1), some (.int r7.2.1), none, none], [.int r7.2.1, .ref 2]), (r7.2.2, g, cw_R sv))) rfl ?_
      obtain ⟨x8, hx8, hf⟩ := rh_bq hf
      refine rh_Ex.call (j := 70) (rc := some 6) [.ref 2, .int r7.2.1] [] none rfl rfl rfl (Nat.le_of_ble_eq_true rfl) (R_Ro_tell (d + 2) xx sv r7.2.2 g r7.2.1 hx8) ?_
      show rh_Ex _ _ _ ((84, [some (.ref 0), none, some (.int p1), some (.int r7.1), some (.int r7.2.1), none, none], []), (x8, g, cw_R sv)) _ _
      refine rh_Ex.blk 8 (s' := ((94, [some (.ref 0), none, some (.int p1), some (.int r7.1), some (.int r7.2.1), none, none], [.int p1, .int ((r7.1 + p1) - (1 : Int32)), .ref 2]), (x8, g, cw_R sv))) rfl ?_
      obtain ⟨q9, hf⟩ := rh_gq hf
      refine rh_Ex.stp (s' := ((95, [some (.ref 0), none, some (.int p1), some (.int r7.1), some (.int r7.2.1), none, none], [.int (((r7.1 + p1) - (1 : Int32)) / p1), .ref 2]), (x8, g, cw_R sv))) rfl (st_idiv q9) ?_
      obtain ⟨x10, hx10, hf⟩ := rh_bq hf
      refine rh_Ex.call (j := 69) (rc := some 6) [.ref 2, .int (((r7.1 + p1) - (1 : Int32)) / p1)] [] none rfl rfl rfl (Nat.le_of_ble_eq_true rfl) (R_Ro_add (d + 3) xx sv x8 g (((r7.1 + p1) - (1 : Int32)) / p1) hx10) ?_
      show rh_Ex _ _ _ ((98, [some (.ref 0), none, some (.int p1), some (.int r7.1), some (.int r7.2.1), none, none], []), (x10, g, cw_R sv)) _ _
      refine rh_Ex.blk 1 (s' := ((99, [some (.ref 0), none, some (.int p1), some (.int r7.1), some (.int r7.2.1), none, none], [.int r7.1]), (x10, g, cw_R sv))) rfl ?_
      obtain rfl := Option.some.inj hf
      exact rh_Ex.ret rfl rfl
def f_La_task (h : Nat → Nat → Int32) (p0 : Int32) (p1 : Int32) : Option (Int32 × (Nat → Nat → Int32)) :=
  if (f_La_within p0 (0 : Int32) (9999 : Int32)) = 0 then
    some (((-1 : Int32), h))
  else
    if (f_La_within p1 p0 (9999 : Int32)) = 0 then
      some (((-1 : Int32), h))
    else
      if (h 25 0) = (6 : Int32) then
        some (((-2 : Int32), h))
      else
        rh_g (0 ≤ (h 25 0).toInt ∧ (h 25 0).toInt < ((6 : Nat) : Int)) (
          rh_g (0 ≤ (h 25 0).toInt ∧ (h 25 0).toInt < ((6 : Nat) : Int)) (
            some ((((h 25 0) + (1 : Int32)) - (1 : Int32), rh_up (rh_up (rh_up h 26 (h 25 0).toNatClampNeg p0) 27 (h 25 0).toNatClampNeg p1) 25 0 ((h 25 0) + (1 : Int32))))
          )
        )
set_option maxRecDepth 20000 in
set_option maxHeartbeats 4000000 in
theorem R_La_task (d : Nat) (xx : rh_L) (sv : Option Nat) (h : Nat → Nat → Int32) (g : Nat → Nat → Int64) (p0 : Int32) (p1 : Int32) {z9 : Int32 × (Nat → Nat → Int32)} (hf : f_La_task h p0 p1 = some z9) : rh_M rh_PT (cw_L ++ xx) (d + 2) 125 [.ref 0, .int p0, .int p1] (h, g, cw_R sv) (some (.int z9.1)) (z9.2, g, cw_R sv) := by
  unfold f_La_task at hf
  refine rh_go pt_125 (Nat.le_of_ble_eq_true rfl) (lv := [some (.ref 0), some (.int p0), some (.int p1)]) rfl ?_
  refine rh_Ex.blk 3 (s' := ((5, [some (.ref 0), some (.int p0), some (.int p1)], [.int (9999 : Int32), .int (0 : Int32), .int p0]), (h, g, cw_R sv))) rfl ?_
  refine rh_Ex.call (j := 155) (rc := none) [.int p0, .int (0 : Int32), .int (9999 : Int32)] [] (some (.int (f_La_within p0 (0 : Int32) (9999 : Int32)))) rfl rfl trivial (Nat.le_of_ble_eq_true rfl) (R_La_within d (cw_L ++ xx) (cw_R sv) h g p0 (0 : Int32) (9999 : Int32) rfl) ?_
  show rh_Ex _ _ _ ((8, [some (.ref 0), some (.int p0), some (.int p1)], [.int (f_La_within p0 (0 : Int32) (9999 : Int32))]), (h, g, cw_R sv)) _ _
  by_cases q1 : (f_La_within p0 (0 : Int32) (9999 : Int32)) = 0
  · rw [if_pos q1] at hf
    refine rh_Ex.stp (s' := ((22, [some (.ref 0), some (.int p0), some (.int p1)], []), (h, g, cw_R sv))) rfl (st_ifeq_p q1) ?_
    refine rh_Ex.blk 1 (s' := ((23, [some (.ref 0), some (.int p0), some (.int p1)], [.int (-1 : Int32)]), (h, g, cw_R sv))) rfl ?_
    obtain rfl := Option.some.inj hf
    exact rh_Ex.ret rfl rfl
  · rw [if_neg q1] at hf
    refine rh_Ex.stp (s' := ((11, [some (.ref 0), some (.int p0), some (.int p1)], []), (h, g, cw_R sv))) rfl (st_ifeq_n q1) ?_
    refine rh_Ex.blk 3 (s' := ((16, [some (.ref 0), some (.int p0), some (.int p1)], [.int (9999 : Int32), .int p0, .int p1]), (h, g, cw_R sv))) rfl ?_
    refine rh_Ex.call (j := 155) (rc := none) [.int p1, .int p0, .int (9999 : Int32)] [] (some (.int (f_La_within p1 p0 (9999 : Int32)))) rfl rfl trivial (Nat.le_of_ble_eq_true rfl) (R_La_within d (cw_L ++ xx) (cw_R sv) h g p1 p0 (9999 : Int32) rfl) ?_
    show rh_Ex _ _ _ ((19, [some (.ref 0), some (.int p0), some (.int p1)], [.int (f_La_within p1 p0 (9999 : Int32))]), (h, g, cw_R sv)) _ _
    by_cases q2 : (f_La_within p1 p0 (9999 : Int32)) = 0
    · rw [if_pos q2] at hf
      refine rh_Ex.stp (s' := ((22, [some (.ref 0), some (.int p0), some (.int p1)], []), (h, g, cw_R sv))) rfl (st_ifne_p q2) ?_
      refine rh_Ex.blk 1 (s' := ((23, [some (.ref 0), some (.int p0), some (.int p1)], [.int (-1 : Int32)]), (h, g, cw_R sv))) rfl ?_
      obtain rfl := Option.some.inj hf
      exact rh_Ex.ret rfl rfl
    · rw [if_neg q2] at hf
      refine rh_Ex.stp (s' := ((24, [some (.ref 0), some (.int p0), some (.int p1)], []), (h, g, cw_R sv))) rfl (st_ifne_n q2) ?_
      refine rh_Ex.blk 4 (s' := ((33, [some (.ref 0), some (.int p0), some (.int p1)], [.int (6 : Int32), .int (h 25 0)]), (h, g, cw_R sv))) rfl ?_
      by_cases q3 : (h 25 0) = (6 : Int32)
      · rw [if_pos q3] at hf
        refine rh_Ex.stp (s' := ((36, [some (.ref 0), some (.int p0), some (.int p1)], []), (h, g, cw_R sv))) rfl (st_icne_p q3) ?_
        refine rh_Ex.blk 1 (s' := ((38, [some (.ref 0), some (.int p0), some (.int p1)], [.int (-2 : Int32)]), (h, g, cw_R sv))) rfl ?_
        obtain rfl := Option.some.inj hf
        exact rh_Ex.ret rfl rfl
      · rw [if_neg q3] at hf
        refine rh_Ex.stp (s' := ((39, [some (.ref 0), some (.int p0), some (.int p1)], []), (h, g, cw_R sv))) rfl (st_icne_n q3) ?_
        refine rh_Ex.blk 7 (s' := ((54, [some (.ref 0), some (.int p0), some (.int p1)], [.int p0, .int (h 25 0), .ref 26]), (h, g, cw_R sv))) rfl ?_
        obtain ⟨q4, hf⟩ := rh_gq hf
        refine rh_Ex.stp (s' := ((55, [some (.ref 0), some (.int p0), some (.int p1)], []), (rh_up h 26 (h 25 0).toNatClampNeg p0, g, cw_R sv))) rfl (st_iast (n := 6) rfl q4) ?_
        refine rh_Ex.blk 7 (s' := ((70, [some (.ref 0), some (.int p0), some (.int p1)], [.int p1, .int (h 25 0), .ref 27]), (rh_up h 26 (h 25 0).toNatClampNeg p0, g, cw_R sv))) rfl ?_
        obtain ⟨q5, hf⟩ := rh_gq hf
        refine rh_Ex.stp (s' := ((71, [some (.ref 0), some (.int p0), some (.int p1)], []), (rh_up (rh_up h 26 (h 25 0).toNatClampNeg p0) 27 (h 25 0).toNatClampNeg p1, g, cw_R sv))) rfl (st_iast (n := 6) rfl q5) ?_
        refine rh_Ex.blk 12 (s' := ((93, [some (.ref 0), some (.int p0), some (.int p1)], [.int (((h 25 0) + (1 : Int32)) - (1 : Int32))]), (rh_up (rh_up (rh_up h 26 (h 25 0).toNatClampNeg p0) 27 (h 25 0).toNatClampNeg p1) 25 0 ((h 25 0) + (1 : Int32)), g, cw_R sv))) rfl ?_
        obtain rfl := Option.some.inj hf
        exact rh_Ex.ret rfl rfl
