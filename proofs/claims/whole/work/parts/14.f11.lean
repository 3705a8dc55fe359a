def b_Mo_doTried_2  : (Int32 × (Nat → Nat → Int32)) → Option ((Int32 × (Nat → Nat → Int32)) ⊕ ((Nat → Nat → Int32))) := fun s2 =>
  if (11 : Int32) ≤ s2.1 then
    some (.inr s2.2)
  else
    rh_g (0 ≤ s2.1.toInt ∧ s2.1.toInt < ((11 : Nat) : Int)) (
      rh_g (0 ≤ s2.1.toInt ∧ s2.1.toInt < ((11 : Nat) : Int)) (
        some (.inl (s2.1 + (1 : Int32), rh_up s2.2 1 s2.1.toNatClampNeg (s2.2 12 s2.1.toNatClampNeg)))
      )
    )
def f_Mo_doTried (h : Nat → Nat → Int32) : Option ((Nat → Nat → Int32)) :=
  (rh_loop (b_Mo_doTried_2 ) rh_N ((0 : Int32), h)).bind (fun r5 =>
    some (r5)
  )
set_option maxRecDepth 20000 in
set_option maxHeartbeats 4000000 in
theorem lb_Mo_doTried_2 (d : Nat) (rd : Option Nat)  (g : Nat → Nat → Int64) (v9 : Option Value) (h9 : rh_H) : ∀ s2 x9, b_Mo_doTried_2  s2 = some x9 → Sum.elim (fun s2 => rh_Ex (rh_M rh_PT mw_L (d + 0)) mw_L pg_X12_doTried ((2, [some (.ref 0), some (.int s2.1)], []), (s2.2, g, mw_R rd)) v9 h9) (fun e9 => rh_Ex (rh_M rh_PT mw_L (d + 0)) mw_L pg_X12_doTried ((26, [none, none], []), (e9, g, mw_R rd)) v9 h9) x9 → rh_Ex (rh_M rh_PT mw_L (d + 0)) mw_L pg_X12_doTried ((2, [some (.ref 0), some (.int s2.1)], []), (s2.2, g, mw_R rd)) v9 h9 := by
  intro s2 x9 hf hk
  unfold b_Mo_doTried_2 at hf
  refine rh_Ex.blk 2 (s' := ((5, [some (.ref 0), some (.int s2.1)], [.int (11 : Int32), .int s2.1]), (s2.2, g, mw_R rd))) rfl ?_
  by_cases q2 : (11 : Int32) ≤ s2.1
  · rw [if_pos q2] at hf
    refine rh_Ex.stp (s' := ((26, [some (.ref 0), some (.int s2.1)], []), (s2.2, g, mw_R rd))) rfl (st_icge_p q2) ?_
    obtain rfl := Option.some.inj hf
    refine rh_Ex.fgt [none, none] trivial ?_
    exact hk
  · rw [if_neg q2] at hf
    refine rh_Ex.stp (s' := ((8, [some (.ref 0), some (.int s2.1)], []), (s2.2, g, mw_R rd))) rfl (st_icge_n q2) ?_
    refine rh_Ex.blk 6 (s' := ((18, [some (.ref 0), some (.int s2.1)], [.int s2.1, .ref 12, .int s2.1, .ref 1]), (s2.2, g, mw_R rd))) rfl ?_
    obtain ⟨q3, hf⟩ := rh_gq hf
    refine rh_Ex.stp (s' := ((19, [some (.ref 0), some (.int s2.1)], [.int (s2.2 12 s2.1.toNatClampNeg), .int s2.1, .ref 1]), (s2.2, g, mw_R rd))) rfl (st_iald (n := 11) rfl q3) ?_
    obtain ⟨q4, hf⟩ := rh_gq hf
    refine rh_Ex.stp (s' := ((20, [some (.ref 0), some (.int s2.1)], []), (rh_up s2.2 1 s2.1.toNatClampNeg (s2.2 12 s2.1.toNatClampNeg), g, mw_R rd))) rfl (st_iast (n := 11) rfl q4) ?_
    refine rh_Ex.blk 2 (s' := ((2, [some (.ref 0), some (.int (s2.1 + (1 : Int32)))], []), (rh_up s2.2 1 s2.1.toNatClampNeg (s2.2 12 s2.1.toNatClampNeg), g, mw_R rd))) rfl ?_
    obtain rfl := Option.some.inj hf
    refine rh_Ex.fgt [some (.ref 0), some (.int (s2.1 + (1 : Int32)))] ⟨rfl, rfl, trivial⟩ ?_
    exact hk
set_option maxRecDepth 20000 in
set_option maxHeartbeats 4000000 in
theorem R_Mo_doTried (d : Nat) (rd : Option Nat) (h : Nat → Nat → Int32) (g : Nat → Nat → Int64)  {z9 : (Nat → Nat → Int32)} (hf : f_Mo_doTried h = some z9) : rh_M rh_PT mw_L (d + 1) 224 [.ref 0] (h, g, mw_R rd) none (z9, g, mw_R rd) := by
  unfold f_Mo_doTried at hf
  refine rh_go pt_224 (Nat.le_of_ble_eq_true rfl) (lv := [some (.ref 0), none]) rfl ?_
  refine rh_Ex.blk 2 (s' := ((2, [some (.ref 0), some (.int (0 : Int32))], []), (h, g, mw_R rd))) rfl ?_
  obtain ⟨r5, hr5, hf⟩ := rh_bq hf
  refine rh_Ex.fgt [some (.ref 0), some (.int (0 : Int32))] ⟨rfl, rfl, trivial⟩ ?_
  refine rh_Ex.loop _ _ _ (lb_Mo_doTried_2 d rd   g _ _) rh_N _ r5 hr5 ?_
  obtain rfl := Option.some.inj hf
  exact rh_Ex.ret rfl trivial
def f_Mo_board (h : Nat → Nat → Int32) (rd : Option Nat) (p0 : Int32) (p1 : Int32) : Option (Int32 × (Nat → Nat → Int32) × (Option Nat)) :=
  (f_Mo_tryBoard (rh_up h 0 9 (0 : Int32)) rd p0 p1).bind (fun x1 =>
    if 0 ≤ x1.1 then
      (f_Mo_remember_1 x1.2.1).bind (fun x3 =>
        (f_Mo_doTried x3).bind (fun x4 =>
          (f_Mo_weightOfAll x4 x1.2.2 (x4 1 (9 : Int32).toNatClampNeg) (x4 1 (10 : Int32).toNatClampNeg)).bind (fun x5 =>
            some ((x5.1, x5.2.1, x5.2.2))
          )
        )
      )
    else
      some ((x1.1, x1.2.1, x1.2.2))
  )
set_option maxRecDepth 20000 in
set_option maxHeartbeats 4000000 in
theorem R_Mo_board (d : Nat) (rd : Option Nat) (h : Nat → Nat → Int32) (g : Nat → Nat → Int64) (p0 : Int32) (p1 : Int32) {z9 : Int32 × (Nat → Nat → Int32) × (Option Nat)} (hf : f_Mo_board h rd p0 p1 = some z9) : rh_M rh_PT mw_L (d + 271) 225 [.ref 0, .int p0, .int p1] (h, g, mw_R rd) (some (.int z9.1)) (z9.2.1, g, mw_R z9.2.2) := by
  unfold f_Mo_board at hf
  refine rh_go pt_225 (Nat.le_of_ble_eq_true rfl) (lv := [some (.ref 0), some (.int p0), some (.int p1), none]) rfl ?_
  refine rh_Ex.blk 6 (s' := ((8, [some (.ref 0), some (.int p0), some (.int p1), none], [.int p1, .int p0, .ref 0]), (rh_up h 0 9 (0 : Int32), g, mw_R rd))) rfl ?_
  obtain ⟨x1, hx1, hf⟩ := rh_bq hf
  refine rh_Ex.call (j := 221) (rc := some 11) [.ref 0, .int p0, .int p1] [] (some (.int x1.1)) rfl rfl rfl (Nat.le_of_ble_eq_true rfl) (R_Mo_tryBoard d rd (rh_up h 0 9 (0 : Int32)) g p0 p1 hx1) ?_
  show rh_Ex _ _ _ ((11, [some (.ref 0), some (.int p0), some (.int p1), none], [.int x1.1]), (x1.2.1, g, mw_R x1.2.2)) _ _
  refine rh_Ex.blk 2 (s' := ((13, [some (.ref 0), some (.int p0), some (.int p1), some (.int x1.1)], [.int x1.1]), (x1.2.1, g, mw_R x1.2.2))) rfl ?_
  by_cases q2 : 0 ≤ x1.1
  · rw [if_pos q2] at hf
    refine rh_Ex.stp (s' := ((18, [some (.ref 0), some (.int p0), some (.int p1), some (.int x1.1)], []), (x1.2.1, g, mw_R x1.2.2))) rfl (st_ifge_p q2) ?_
    refine rh_Ex.blk 3 (s' := ((23, [some (.ref 0), some (.int p0), some (.int p1), some (.int x1.1)], [.ref 1, .ref 0]), (x1.2.1, g, mw_R x1.2.2))) rfl ?_
    obtain ⟨x3, hx3, hf⟩ := rh_bq hf
    refine rh_Ex.call (j := 219) (rc := some 11) [.ref 0, .ref 1] [] none rfl rfl rfl (Nat.le_of_ble_eq_true rfl) (R_Mo_remember_1 (d + 268) x1.2.2 x1.2.1 g  hx3) ?_
    show rh_Ex _ _ _ ((26, [some (.ref 0), some (.int p0), some (.int p1), some (.int x1.1)], []), (x3, g, mw_R x1.2.2)) _ _
    refine rh_Ex.blk 1 (s' := ((27, [some (.ref 0), some (.int p0), some (.int p1), some (.int x1.1)], [.ref 0]), (x3, g, mw_R x1.2.2))) rfl ?_
    obtain ⟨x4, hx4, hf⟩ := rh_bq hf
    refine rh_Ex.call (j := 224) (rc := some 11) [.ref 0] [] none rfl rfl rfl (Nat.le_of_ble_eq_true rfl) (R_Mo_doTried (d + 269) x1.2.2 x3 g  hx4) ?_
    show rh_Ex _ _ _ ((30, [some (.ref 0), some (.int p0), some (.int p1), some (.int x1.1)], []), (x4, g, mw_R x1.2.2)) _ _
    refine rh_Ex.blk 4 (s' := ((37, [some (.ref 0), some (.int p0), some (.int p1), some (.int x1.1)], [.int (9 : Int32), .ref 1, .ref 0]), (x4, g, mw_R x1.2.2))) rfl ?_
    refine rh_Ex.stp (s' := ((38, [some (.ref 0), some (.int p0), some (.int p1), some (.int x1.1)], [.int (x4 1 (9 : Int32).toNatClampNeg), .ref 0]), (x4, g, mw_R x1.2.2))) rfl (st_iald (n := 11) rfl (by decide)) ?_
    refine rh_Ex.blk 3 (s' := ((44, [some (.ref 0), some (.int p0), some (.int p1), some (.int x1.1)], [.int (10 : Int32), .ref 1, .int (x4 1 (9 : Int32).toNatClampNeg), .ref 0]), (x4, g, mw_R x1.2.2))) rfl ?_
    refine rh_Ex.stp (s' := ((45, [some (.ref 0), some (.int p0), some (.int p1), some (.int x1.1)], [.int (x4 1 (10 : Int32).toNatClampNeg), .int (x4 1 (9 : Int32).toNatClampNeg), .ref 0]), (x4, g, mw_R x1.2.2))) rfl (st_iald (n := 11) rfl (by decide)) ?_
    obtain ⟨x5, hx5, hf⟩ := rh_bq hf
    refine rh_Ex.call (j := 207) (rc := some 11) [.ref 0, .int (x4 1 (9 : Int32).toNatClampNeg), .int (x4 1 (10 : Int32).toNatClampNeg)] [] (some (.int x5.1)) rfl rfl rfl (Nat.le_of_ble_eq_true rfl) (R_Mo_weightOfAll (d + 2) x1.2.2 x4 g (x4 1 (9 : Int32).toNatClampNeg) (x4 1 (10 : Int32).toNatClampNeg) hx5) ?_
    show rh_Ex _ _ _ ((48, [some (.ref 0), some (.int p0), some (.int p1), some (.int x1.1)], [.int x5.1]), (x5.2.1, g, mw_R x5.2.2)) _ _
    obtain rfl := Option.some.inj hf
    exact rh_Ex.ret rfl rfl
  · rw [if_neg q2] at hf
    refine rh_Ex.stp (s' := ((16, [some (.ref 0), some (.int p0), some (.int p1), some (.int x1.1)], []), (x1.2.1, g, mw_R x1.2.2))) rfl (st_ifge_n q2) ?_
    refine rh_Ex.blk 1 (s' := ((17, [some (.ref 0), some (.int p0), some (.int p1), some (.int x1.1)], [.int x1.1]), (x1.2.1, g, mw_R x1.2.2))) rfl ?_
    obtain rfl := Option.some.inj hf
    exact rh_Ex.ret rfl rfl
def f_Mo_off (h : Nat → Nat → Int32) (rd : Option Nat) (p0 : Int32) : Option (Int32 × (Nat → Nat → Int32) × (Option Nat)) :=
  (f_Mo_tryOff (rh_up h 0 9 (0 : Int32)) rd p0).bind (fun x1 =>
    if 0 ≤ x1.1 then
      (f_Mo_remember_1 x1.2.1).bind (fun x3 =>
        (f_Mo_doTried x3).bind (fun x4 =>
          (f_Mo_weightOfAll x4 x1.2.2 (x4 1 (9 : Int32).toNatClampNeg) (x4 1 (10 : Int32).toNatClampNeg)).bind (fun x5 =>
            some ((x5.1, x5.2.1, x5.2.2))
          )
        )
      )
    else
      some ((x1.1, x1.2.1, x1.2.2))
  )
set_option maxRecDepth 20000 in
set_option maxHeartbeats 4000000 in
theorem R_Mo_off (d : Nat) (rd : Option Nat) (h : Nat → Nat → Int32) (g : Nat → Nat → Int64) (p0 : Int32) {z9 : Int32 × (Nat → Nat → Int32) × (Option Nat)} (hf : f_Mo_off h rd p0 = some z9) : rh_M rh_PT mw_L (d + 271) 226 [.ref 0, .int p0] (h, g, mw_R rd) (some (.int z9.1)) (z9.2.1, g, mw_R z9.2.2) := by
  unfold f_Mo_off at hf
  refine rh_go pt_226 (Nat.le_of_ble_eq_true rfl) (lv := [some (.ref 0), some (.int p0), none]) rfl ?_
  refine rh_Ex.blk 5 (s' := ((7, [some (.ref 0), some (.int p0), none], [.int p0, .ref 0]), (rh_up h 0 9 (0 : Int32), g, mw_R rd))) rfl ?_
  obtain ⟨x1, hx1, hf⟩ := rh_bq hf
  refine rh_Ex.call (j := 222) (rc := some 11) [.ref 0, .int p0] [] (some (.int x1.1)) rfl rfl rfl (Nat.le_of_ble_eq_true rfl) (R_Mo_tryOff d rd (rh_up h 0 9 (0 : Int32)) g p0 hx1) ?_
  show rh_Ex _ _ _ ((10, [some (.ref 0), some (.int p0), none], [.int x1.1]), (x1.2.1, g, mw_R x1.2.2)) _ _
  refine rh_Ex.blk 2 (s' := ((12, [some (.ref 0), some (.int p0), some (.int x1.1)], [.int x1.1]), (x1.2.1, g, mw_R x1.2.2))) rfl ?_
  by_cases q2 : 0 ≤ x1.1
  · rw [if_pos q2] at hf
    refine rh_Ex.stp (s' := ((17, [some (.ref 0), some (.int p0), some (.int x1.1)], []), (x1.2.1, g, mw_R x1.2.2))) rfl (st_ifge_p q2) ?_
    refine rh_Ex.blk 3 (s' := ((22, [some (.ref 0), some (.int p0), some (.int x1.1)], [.ref 1, .ref 0]), (x1.2.1, g, mw_R x1.2.2))) rfl ?_
    obtain ⟨x3, hx3, hf⟩ := rh_bq hf
    refine rh_Ex.call (j := 219) (rc := some 11) [.ref 0, .ref 1] [] none rfl rfl rfl (Nat.le_of_ble_eq_true rfl) (R_Mo_remember_1 (d + 268) x1.2.2 x1.2.1 g  hx3) ?_
    show rh_Ex _ _ _ ((25, [some (.ref 0), some (.int p0), some (.int x1.1)], []), (x3, g, mw_R x1.2.2)) _ _
    refine rh_Ex.blk 1 (s' := ((26, [some (.ref 0), some (.int p0), some (.int x1.1)], [.ref 0]), (x3, g, mw_R x1.2.2))) rfl ?_
    obtain ⟨x4, hx4, hf⟩ := rh_bq hf
    refine rh_Ex.call (j := 224) (rc := some 11) [.ref 0] [] none rfl rfl rfl (Nat.le_of_ble_eq_true rfl) (R_Mo_doTried (d + 269) x1.2.2 x3 g  hx4) ?_
    show rh_Ex _ _ _ ((29, [some (.ref 0), some (.int p0), some (.int x1.1)], []), (x4, g, mw_R x1.2.2)) _ _
    refine rh_Ex.blk 4 (s' := ((36, [some (.ref 0), some (.int p0), some (.int x1.1)], [.int (9 : Int32), .ref 1, .ref 0]), (x4, g, mw_R x1.2.2))) rfl ?_
    refine rh_Ex.stp (s' := ((37, [some (.ref 0), some (.int p0), some (.int x1.1)], [.int (x4 1 (9 : Int32).toNatClampNeg), .ref 0]), (x4, g, mw_R x1.2.2))) rfl (st_iald (n := 11) rfl (by decide)) ?_
    refine rh_Ex.blk 3 (s' := ((43, [some (.ref 0), some (.int p0), some (.int x1.1)], [.int (10 : Int32), .ref 1, .int (x4 1 (9 : Int32).toNatClampNeg), .ref 0]), (x4, g, mw_R x1.2.2))) rfl ?_
    refine rh_Ex.stp (s' := ((44, [some (.ref 0), some (.int p0), some (.int x1.1)], [.int (x4 1 (10 : Int32).toNatClampNeg), .int (x4 1 (9 : Int32).toNatClampNeg), .ref 0]), (x4, g, mw_R x1.2.2))) rfl (st_iald (n := 11) rfl (by decide)) ?_
    obtain ⟨x5, hx5, hf⟩ := rh_bq hf
    refine rh_Ex.call (j := 207) (rc := some 11) [.ref 0, .int (x4 1 (9 : Int32).toNatClampNeg), .int (x4 1 (10 : Int32).toNatClampNeg)] [] (some (.int x5.1)) rfl rfl rfl (Nat.le_of_ble_eq_true rfl) (R_Mo_weightOfAll (d + 2) x1.2.2 x4 g (x4 1 (9 : Int32).toNatClampNeg) (x4 1 (10 : Int32).toNatClampNeg) hx5) ?_
    show rh_Ex _ _ _ ((47, [some (.ref 0), some (.int p0), some (.int x1.1)], [.int x5.1]), (x5.2.1, g, mw_R x5.2.2)) _ _
    obtain rfl := Option.some.inj hf
    exact rh_Ex.ret rfl rfl
  · rw [if_neg q2] at hf
    refine rh_Ex.stp (s' := ((15, [some (.ref 0), some (.int p0), some (.int x1.1)], []), (x1.2.1, g, mw_R x1.2.2))) rfl (st_ifge_n q2) ?_
    refine rh_Ex.blk 1 (s' := ((16, [some (.ref 0), some (.int p0), some (.int x1.1)], [.int x1.1]), (x1.2.1, g, mw_R x1.2.2))) rfl ?_
    obtain rfl := Option.some.inj hf
    exact rh_Ex.ret rfl rfl
def f_Mo_step (h : Nat → Nat → Int32) (rd : Option Nat) (p0 : Int32) (p1 : Int32) : Option (Int32 × (Nat → Nat → Int32) × (Option Nat)) :=
  (f_Mo_tryStep (rh_up h 0 9 (0 : Int32)) rd p0 p1).bind (fun x1 =>
    if 0 ≤ x1.1 then
      (f_Mo_remember_1 x1.2.1).bind (fun x3 =>
        (f_Mo_doTried x3).bind (fun x4 =>
          rh_g (0 ≤ p0.toInt ∧ p0.toInt < ((11 : Nat) : Int)) (
            some ((x4 1 p0.toNatClampNeg, x4, x1.2.2))
          )
        )
      )
    else
      if x1.1 = (-2 : Int32) then
        some (((-8 : Int32), x1.2.1, x1.2.2))
      else
        some (((-9 : Int32), x1.2.1, x1.2.2))
  )
set_option maxRecDepth 20000 in
set_option maxHeartbeats 4000000 in
theorem R_Mo_step (d : Nat) (rd : Option Nat) (h : Nat → Nat → Int32) (g : Nat → Nat → Int64) (p0 : Int32) (p1 : Int32) {z9 : Int32 × (Nat → Nat → Int32) × (Option Nat)} (hf : f_Mo_step h rd p0 p1 = some z9) : rh_M rh_PT mw_L (d + 271) 227 [.ref 0, .int p0, .int p1] (h, g, mw_R rd) (some (.int z9.1)) (z9.2.1, g, mw_R z9.2.2) := by
  unfold f_Mo_step at hf
  refine rh_go pt_227 (Nat.le_of_ble_eq_true rfl) (lv := [some (.ref 0), some (.int p0), some (.int p1), none]) rfl ?_
  refine rh_Ex.blk 6 (s' := ((8, [some (.ref 0), some (.int p0), some (.int p1), none], [.int p1, .int p0, .ref 0]), (rh_up h 0 9 (0 : Int32), g, mw_R rd))) rfl ?_
  obtain ⟨x1, hx1, hf⟩ := rh_bq hf
  refine rh_Ex.call (j := 223) (rc := some 11) [.ref 0, .int p0, .int p1] [] (some (.int x1.1)) rfl rfl rfl (Nat.le_of_ble_eq_true rfl) (R_Mo_tryStep d rd (rh_up h 0 9 (0 : Int32)) g p0 p1 hx1) ?_
  show rh_Ex _ _ _ ((11, [some (.ref 0), some (.int p0), some (.int p1), none], [.int x1.1]), (x1.2.1, g, mw_R x1.2.2)) _ _
  refine rh_Ex.blk 2 (s' := ((13, [some (.ref 0), some (.int p0), some (.int p1), some (.int x1.1)], [.int x1.1]), (x1.2.1, g, mw_R x1.2.2))) rfl ?_
  by_cases q2 : 0 ≤ x1.1
  · rw [if_pos q2] at hf
    refine rh_Ex.stp (s' := ((30, [some (.ref 0), some (.int p0), some (.int p1), some (.int x1.1)], []), (x1.2.1, g, mw_R x1.2.2))) rfl (st_ifge_p q2) ?_
    refine rh_Ex.blk 3 (s' := ((35, [some (.ref 0), some (.int p0), some (.int p1), some (.int x1.1)], [.ref 1, .ref 0]), (x1.2.1, g, mw_R x1.2.2))) rfl ?_
    obtain ⟨x3, hx3, hf⟩ := rh_bq hf
    refine rh_Ex.call (j := 219) (rc := some 11) [.ref 0, .ref 1] [] none rfl rfl rfl (Nat.le_of_ble_eq_true rfl) (R_Mo_remember_1 (d + 268) x1.2.2 x1.2.1 g  hx3) ?_
    show rh_Ex _ _ _ ((38, [some (.ref 0), some (.int p0), some (.int p1), some (.int x1.1)], []), (x3, g, mw_R x1.2.2)) _ _
    refine rh_Ex.blk 1 (s' := ((39, [some (.ref 0), some (.int p0), some (.int p1), some (.int x1.1)], [.ref 0]), (x3, g, mw_R x1.2.2))) rfl ?_
    obtain ⟨x4, hx4, hf⟩ := rh_bq hf
    refine rh_Ex.call (j := 224) (rc := some 11) [.ref 0] [] none rfl rfl rfl (Nat.le_of_ble_eq_true rfl) (R_Mo_doTried (d + 269) x1.2.2 x3 g  hx4) ?_
    show rh_Ex _ _ _ ((42, [some (.ref 0), some (.int p0), some (.int p1), some (.int x1.1)], []), (x4, g, mw_R x1.2.2)) _ _
    refine rh_Ex.blk 3 (s' := ((47, [some (.ref 0), some (.int p0), some (.int p1), some (.int x1.1)], [.int p0, .ref 1]), (x4, g, mw_R x1.2.2))) rfl ?_
    obtain ⟨q5, hf⟩ := rh_gq hf
    refine rh_Ex.stp (s' := ((48, [some (.ref 0), some (.int p0), some (.int p1), some (.int x1.1)], [.int (x4 1 p0.toNatClampNeg)]), (x4, g, mw_R x1.2.2))) rfl (st_iald (n := 11) rfl q5) ?_
    obtain rfl := Option.some.inj hf
    exact rh_Ex.ret rfl rfl
  · rw [if_neg q2] at hf
    refine rh_Ex.stp (s' := ((16, [some (.ref 0), some (.int p0), some (.int p1), some (.int x1.1)], []), (x1.2.1, g, mw_R x1.2.2))) rfl (st_ifge_n q2) ?_
    refine rh_Ex.blk 2 (s' := ((19, [some (.ref 0), some (.int p0), some (.int p1), some (.int x1.1)], [.int (-2 : Int32), .int x1.1]), (x1.2.1, g, mw_R x1.2.2))) rfl ?_
    by_cases q6 : x1.1 = (-2 : Int32)
    · rw [if_pos q6] at hf
      refine rh_Ex.stp (s' := ((22, [some (.ref 0), some (.int p0), some (.int p1), some (.int x1.1)], []), (x1.2.1, g, mw_R x1.2.2))) rfl (st_icne_p q6) ?_
      refine rh_Ex.blk 2 (s' := ((29, [some (.ref 0), some (.int p0), some (.int p1), some (.int x1.1)], [.int (-8 : Int32)]), (x1.2.1, g, mw_R x1.2.2))) rfl ?_
      obtain rfl := Option.some.inj hf
      exact rh_Ex.ret rfl rfl
    · rw [if_neg q6] at hf
      refine rh_Ex.stp (s' := ((27, [some (.ref 0), some (.int p0), some (.int p1), some (.int x1.1)], []), (x1.2.1, g, mw_R x1.2.2))) rfl (st_icne_n q6) ?_
      refine rh_Ex.blk 1 (s' := ((29, [some (.ref 0), some (.int p0), some (.int p1), some (.int x1.1)], [.int (-9 : Int32)]), (x1.2.1, g, mw_R x1.2.2))) rfl ?_
      obtain rfl := Option.some.inj hf
      exact rh_Ex.ret rfl rfl
def f_Mo_letter_r4 (h : Nat → Nat → Int32) : Option (Int32 × (Nat → Nat → Int32)) :=
  if (f_Mo_fine h) = 0 then
    some (((0 : Int32), h))
  else
    (f_Mo_here_r4 h).bind (fun x2 =>
      if (f_Mo_in x2 (97 : Int32) (105 : Int32)) = 0 then
        some (((0 : Int32), (f_Mo_fault h (h 0 13))))
      else
        rh_g (0 ≤ (((h 0 13) + (1 : Int32)) - (1 : Int32)).toInt ∧ (((h 0 13) + (1 : Int32)) - (1 : Int32)).toInt < ((80 : Nat) : Int)) (
          some ((((rh_up h 0 13 ((h 0 13) + (1 : Int32))) 4 (((h 0 13) + (1 : Int32)) - (1 : Int32)).toNatClampNeg) - (97 : Int32), rh_up h 0 13 ((h 0 13) + (1 : Int32))))
        )
    )
set_option maxRecDepth 20000 in
set_option maxHeartbeats 4000000 in
theorem R_Mo_letter_r4 (d : Nat) (h : Nat → Nat → Int32) (g : Nat → Nat → Int64)  {z9 : Int32 × (Nat → Nat → Int32)} (hf : f_Mo_letter_r4 h = some z9) : rh_M rh_PT mw_L (d + 3) 197 [.ref 0] (h, g, mw_R (some 4)) (some (.int z9.1)) (z9.2, g, mw_R (some 4)) := by
  unfold f_Mo_letter_r4 at hf
  refine rh_go pt_197 (Nat.le_of_ble_eq_true rfl) (lv := [some (.ref 0)]) rfl ?_
  refine rh_Ex.blk 1 (s' := ((1, [some (.ref 0)], [.ref 0]), (h, g, mw_R (some 4)))) rfl ?_
  refine rh_Ex.call (j := 192) (rc := some 11) [.ref 0] [] (some (.int (f_Mo_fine h))) rfl rfl rfl (Nat.le_of_ble_eq_true rfl) (R_Mo_fine (d + 1) (some 4) h g  rfl) ?_
  show rh_Ex _ _ _ ((4, [some (.ref 0)], [.int (f_Mo_fine h)]), (h, g, mw_R (some 4))) _ _
  by_cases q1 : (f_Mo_fine h) = 0
  · rw [if_pos q1] at hf
    refine rh_Ex.stp (s' := ((7, [some (.ref 0)], []), (h, g, mw_R (some 4)))) rfl (st_ifne_p q1) ?_
    refine rh_Ex.blk 1 (s' := ((8, [some (.ref 0)], [.int (0 : Int32)]), (h, g, mw_R (some 4)))) rfl ?_
    obtain rfl := Option.some.inj hf
    exact rh_Ex.ret rfl rfl
  · rw [if_neg q1] at hf
    refine rh_Ex.stp (s' := ((9, [some (.ref 0)], []), (h, g, mw_R (some 4)))) rfl (st_ifne_n q1) ?_
    refine rh_Ex.blk 1 (s' := ((10, [some (.ref 0)], [.ref 0]), (h, g, mw_R (some 4)))) rfl ?_
    obtain ⟨x2, hx2, hf⟩ := rh_bq hf
    refine rh_Ex.call (j := 191) (rc := some 11) [.ref 0] [] (some (.int x2)) rfl rfl rfl (Nat.le_of_ble_eq_true rfl) (R_Mo_here_r4 (d + 1) h g  hx2) ?_
    show rh_Ex _ _ _ ((13, [some (.ref 0)], [.int x2]), (h, g, mw_R (some 4))) _ _
    refine rh_Ex.blk 2 (s' := ((17, [some (.ref 0)], [.int (105 : Int32), .int (97 : Int32), .int x2]), (h, g, mw_R (some 4)))) rfl ?_
    refine rh_Ex.call (j := 179) (rc := none) [.int x2, .int (97 : Int32), .int (105 : Int32)] [] (some (.int (f_Mo_in x2 (97 : Int32) (105 : Int32)))) rfl rfl trivial (Nat.le_of_ble_eq_true rfl) (R_Mo_in (d + 1) mw_L (mw_R (some 4)) h g x2 (97 : Int32) (105 : Int32) rfl) ?_
    show rh_Ex _ _ _ ((20, [some (.ref 0)], [.int (f_Mo_in x2 (97 : Int32) (105 : Int32))]), (h, g, mw_R (some 4))) _ _
    by_cases q3 : (f_Mo_in x2 (97 : Int32) (105 : Int32)) = 0
    · rw [if_pos q3] at hf
      refine rh_Ex.stp (s' := ((23, [some (.ref 0)], []), (h, g, mw_R (some 4)))) rfl (st_ifne_p q3) ?_
      refine rh_Ex.blk 3 (s' := ((28, [some (.ref 0)], [.int (h 0 13), .ref 0]), (h, g, mw_R (some 4)))) rfl ?_
      refine rh_Ex.call (j := 193) (rc := some 11) [.ref 0, .int (h 0 13)] [] none rfl rfl rfl (Nat.le_of_ble_eq_true rfl) (R_Mo_fault d (some 4) h g (h 0 13) rfl) ?_
      show rh_Ex _ _ _ ((31, [some (.ref 0)], []), ((f_Mo_fault h (h 0 13)), g, mw_R (some 4))) _ _
      refine rh_Ex.blk 1 (s' := ((32, [some (.ref 0)], [.int (0 : Int32)]), ((f_Mo_fault h (h 0 13)), g, mw_R (some 4)))) rfl ?_
      obtain rfl := Option.some.inj hf
      exact rh_Ex.ret rfl rfl
    · rw [if_neg q3] at hf
      refine rh_Ex.stp (s' := ((33, [some (.ref 0)], []), (h, g, mw_R (some 4)))) rfl (st_ifne_n q3) ?_
      refine rh_Ex.blk 12 (s' := ((53, [some (.ref 0)], [.int (((h 0 13) + (1 : Int32)) - (1 : Int32)), .ref 4]), (rh_up h 0 13 ((h 0 13) + (1 : Int32)), g, mw_R (some 4)))) rfl ?_
      obtain ⟨q4, hf⟩ := rh_gq hf
      refine rh_Ex.stp (s' := ((54, [some (.ref 0)], [.int ((rh_up h 0 13 ((h 0 13) + (1 : Int32))) 4 (((h 0 13) + (1 : Int32)) - (1 : Int32)).toNatClampNeg)]), (rh_up h 0 13 ((h 0 13) + (1 : Int32)), g, mw_R (some 4)))) rfl (st_bald (n := 80) rfl q4) ?_
      refine rh_Ex.blk 2 (s' := ((57, [some (.ref 0)], [.int (((rh_up h 0 13 ((h 0 13) + (1 : Int32))) 4 (((h 0 13) + (1 : Int32)) - (1 : Int32)).toNatClampNeg) - (97 : Int32))]), (rh_up h 0 13 ((h 0 13) + (1 : Int32)), g, mw_R (some 4)))) rfl ?_
      obtain rfl := Option.some.inj hf
      exact rh_Ex.ret rfl rfl
def j_Mo_readAct_r4_153 (h : Nat → Nat → Int32) (k1 : Int32) (k2 : Int32) : Option ((Nat → Nat → Int32)) :=
  rh_g (0 ≤ k1.toInt ∧ k1.toInt < ((240 : Nat) : Int)) (
    (f_Mo_here_r4 (rh_up h 13 k1.toNatClampNeg k2)).bind (fun x18 =>
      if x18 = (45 : Int32) then
        some ((rh_up (rh_up h 13 k1.toNatClampNeg k2) 0 13 ((h 0 13) + (1 : Int32))))
      else
        (f_Mo_here_r4 (rh_up h 13 k1.toNatClampNeg k2)).bind (fun x20 =>
          if x20 = (43 : Int32) then
            some ((rh_up (rh_up h 13 k1.toNatClampNeg k2) 0 13 ((h 0 13) + (1 : Int32))))
          else
            some ((rh_up (f_Mo_fault (rh_up h 13 k1.toNatClampNeg k2) (h 0 13)) 0 13 (((f_Mo_fault (rh_up h 13 k1.toNatClampNeg k2) (h 0 13)) 0 13) + (1 : Int32))))
        )
    )
  )
def j_Mo_readAct_r4_126 (h : Nat → Nat → Int32) (p0 : Int32) (j2 : Int32) : Option ((Nat → Nat → Int32)) :=
  if j2 = (115 : Int32) then
    (f_Mo_here_r4 h).bind (fun x15 =>
      if x15 = (45 : Int32) then
        j_Mo_readAct_r4_153 h (p0 + (2 : Int32)) (-1 : Int32)
      else
        j_Mo_readAct_r4_153 h (p0 + (2 : Int32)) (1 : Int32)
    )
  else
    some (h)
def j_Mo_readAct_r4_125 (h : Nat → Nat → Int32) (p0 : Int32) (j2 : Int32) (k1 : Int32) (k2 : Int32) : Option ((Nat → Nat → Int32)) :=
  rh_g (0 ≤ k1.toInt ∧ k1.toInt < ((240 : Nat) : Int)) (
    j_Mo_readAct_r4_126 (rh_up h 13 k1.toNatClampNeg k2) p0 j2
  )
def j_Mo_readAct_r4_37 (h : Nat → Nat → Int32) (p0 : Int32) (j2 : Int32) : Option ((Nat → Nat → Int32)) :=
  rh_g (0 ≤ p0.toInt ∧ p0.toInt < ((240 : Nat) : Int)) (
    if j2 = (114 : Int32) then
      (f_Mo_number_r4 (rh_up (rh_up h 0 13 ((h 0 13) + (1 : Int32))) 13 p0.toNatClampNeg j2) (2 : Int32)).bind (fun x5 =>
        rh_g (0 ≤ (p0 + (1 : Int32)).toInt ∧ (p0 + (1 : Int32)).toInt < ((240 : Nat) : Int)) (
          some ((rh_up x5.2 13 (p0 + (1 : Int32)).toNatClampNeg x5.1))
        )
      )
    else
      (f_Mo_letter_r4 (rh_up (rh_up h 0 13 ((h 0 13) + (1 : Int32))) 13 p0.toNatClampNeg j2)).bind (fun x7 =>
        rh_g (0 ≤ (p0 + (1 : Int32)).toInt ∧ (p0 + (1 : Int32)).toInt < ((240 : Nat) : Int)) (
          if j2 = (98 : Int32) then
            (f_Mo_passes_r4 (rh_up x7.2 13 (p0 + (1 : Int32)).toNatClampNeg x7.1) (45 : Int32)).bind (fun x10 =>
              (f_Mo_number_r4 x10.2 (1 : Int32)).bind (fun x11 =>
                if x10.1 = 0 then
                  j_Mo_readAct_r4_125 x11.2 p0 j2 (p0 + (2 : Int32)) x11.1
                else
                  j_Mo_readAct_r4_125 x11.2 p0 j2 (p0 + (2 : Int32)) (-x11.1)
              )
            )
          else
            j_Mo_readAct_r4_126 (rh_up x7.2 13 (p0 + (1 : Int32)).toNatClampNeg x7.1) p0 j2
        )
      )
  )
def f_Mo_readAct_r4 (h : Nat → Nat → Int32) (p0 : Int32) : Option ((Nat → Nat → Int32)) :=
  (f_Mo_here_r4 h).bind (fun x1 =>
    if x1 = (114 : Int32) then
      j_Mo_readAct_r4_37 h p0 x1
    else
      if x1 = (98 : Int32) then
        j_Mo_readAct_r4_37 h p0 x1
      else
        if x1 = (111 : Int32) then
          j_Mo_readAct_r4_37 h p0 x1
        else
          if x1 = (115 : Int32) then
            j_Mo_readAct_r4_37 h p0 x1
          else
            j_Mo_readAct_r4_37 (f_Mo_fault h (h 0 13)) p0 x1
  )
set_option maxRecDepth 20000 in
set_option maxHeartbeats 4000000 in
theorem lj_Mo_readAct_r4_153 (d : Nat) (h : Nat → Nat → Int32) (k1 : Int32) (k2 : Int32) (g : Nat → Nat → Int64) {z9 : (Nat → Nat → Int32)} (hf : j_Mo_readAct_r4_153 h k1 k2 = some z9) : rh_Ex (rh_M rh_PT mw_L (d + 3)) mw_L pg_X12_readAct ((153, [some (.ref 0), none, none, none, none], [.int k2, .int k1, .ref 13]), (h, g, mw_R (some 4))) none (z9, g, mw_R (some 4)) := by
  unfold j_Mo_readAct_r4_153 at hf
  obtain ⟨q17, hf⟩ := rh_gq hf
  refine rh_Ex.stp (s' := ((154, [some (.ref 0), none, none, none, none], []), (rh_up h 13 k1.toNatClampNeg k2, g, mw_R (some 4)))) rfl (st_iast (n := 240) rfl q17) ?_
  refine rh_Ex.blk 1 (s' := ((155, [some (.ref 0), none, none, none, none], [.ref 0]), (rh_up h 13 k1.toNatClampNeg k2, g, mw_R (some 4)))) rfl ?_
  obtain ⟨x18, hx18, hf⟩ := rh_bq hf
  refine rh_Ex.call (j := 191) (rc := some 11) [.ref 0] [] (some (.int x18)) rfl rfl rfl (Nat.le_of_ble_eq_true rfl) (R_Mo_here_r4 (d + 2) (rh_up h 13 k1.toNatClampNeg k2) g  hx18) ?_
  show rh_Ex _ _ _ ((158, [some (.ref 0), none, none, none, none], [.int x18]), (rh_up h 13 k1.toNatClampNeg k2, g, mw_R (some 4))) _ _
  refine rh_Ex.blk 1 (s' := ((160, [some (.ref 0), none, none, none, none], [.int (45 : Int32), .int x18]), (rh_up h 13 k1.toNatClampNeg k2, g, mw_R (some 4)))) rfl ?_
  by_cases q19 : x18 = (45 : Int32)
  · rw [if_pos q19] at hf
    refine rh_Ex.stp (s' := ((180, [some (.ref 0), none, none, none, none], []), (rh_up h 13 k1.toNatClampNeg k2, g, mw_R (some 4)))) rfl (st_iceq_p q19) ?_
    refine rh_Ex.blk 6 (s' := ((190, [some (.ref 0), none, none, none, none], []), (rh_up (rh_up h 13 k1.toNatClampNeg k2) 0 13 ((h 0 13) + (1 : Int32)), g, mw_R (some 4)))) rfl ?_
    obtain rfl := Option.some.inj hf
    exact rh_Ex.ret rfl trivial
  · rw [if_neg q19] at hf
    refine rh_Ex.stp (s' := ((163, [some (.ref 0), none, none, none, none], []), (rh_up h 13 k1.toNatClampNeg k2, g, mw_R (some 4)))) rfl (st_iceq_n q19) ?_
    refine rh_Ex.blk 1 (s' := ((164, [some (.ref 0), none, none, none, none], [.ref 0]), (rh_up h 13 k1.toNatClampNeg k2, g, mw_R (some 4)))) rfl ?_
    obtain ⟨x20, hx20, hf⟩ := rh_bq hf
    refine rh_Ex.call (j := 191) (rc := some 11) [.ref 0] [] (some (.int x20)) rfl rfl rfl (Nat.le_of_ble_eq_true rfl) (R_Mo_here_r4 (d + 2) (rh_up h 13 k1.toNatClampNeg k2) g  hx20) ?_
    show rh_Ex _ _ _ ((167, [some (.ref 0), none, none, none, none], [.int x20]), (rh_up h 13 k1.toNatClampNeg k2, g, mw_R (some 4))) _ _
    refine rh_Ex.blk 1 (s' := ((169, [some (.ref 0), none, none, none, none], [.int (43 : Int32), .int x20]), (rh_up h 13 k1.toNatClampNeg k2, g, mw_R (some 4)))) rfl ?_
    by_cases q21 : x20 = (43 : Int32)
    · rw [if_pos q21] at hf
      refine rh_Ex.stp (s' := ((180, [some (.ref 0), none, none, none, none], []), (rh_up h 13 k1.toNatClampNeg k2, g, mw_R (some 4)))) rfl (st_iceq_p q21) ?_
      refine rh_Ex.blk 6 (s' := ((190, [some (.ref 0), none, none, none, none], []), (rh_up (rh_up h 13 k1.toNatClampNeg k2) 0 13 ((h 0 13) + (1 : Int32)), g, mw_R (some 4)))) rfl ?_
      obtain rfl := Option.some.inj hf
      exact rh_Ex.ret rfl trivial
    · rw [if_neg q21] at hf
      refine rh_Ex.stp (s' := ((172, [some (.ref 0), none, none, none, none], []), (rh_up h 13 k1.toNatClampNeg k2, g, mw_R (some 4)))) rfl (st_iceq_n q21) ?_
      refine rh_Ex.blk 3 (s' := ((177, [some (.ref 0), none, none, none, none], [.int (h 0 13), .ref 0]), (rh_up h 13 k1.toNatClampNeg k2, g, mw_R (some 4)))) rfl ?_
      refine rh_Ex.call (j := 193) (rc := some 11) [.ref 0, .int (h 0 13)] [] none rfl rfl rfl (Nat.le_of_ble_eq_true rfl) (R_Mo_fault (d + 1) (some 4) (rh_up h 13 k1.toNatClampNeg k2) g (h 0 13) rfl) ?_
      show rh_Ex _ _ _ ((180, [some (.ref 0), none, none, none, none], []), ((f_Mo_fault (rh_up h 13 k1.toNatClampNeg k2) (h 0 13)), g, mw_R (some 4))) _ _
      refine rh_Ex.blk 6 (s' := ((190, [some (.ref 0), none, none, none, none], []), (rh_up (f_Mo_fault (rh_up h 13 k1.toNatClampNeg k2) (h 0 13)) 0 13 (((f_Mo_fault (rh_up h 13 k1.toNatClampNeg k2) (h 0 13)) 0 13) + (1 : Int32)), g, mw_R (some 4)))) rfl ?_
      obtain rfl := Option.some.inj hf
      exact rh_Ex.ret rfl trivial
set_option maxRecDepth 20000 in
set_option maxHeartbeats 4000000 in
theorem lj_Mo_readAct_r4_126 (d : Nat) (h : Nat → Nat → Int32) (p0 : Int32) (j2 : Int32) (g : Nat → Nat → Int64) {z9 : (Nat → Nat → Int32)} (hf : j_Mo_readAct_r4_126 h p0 j2 = some z9) : rh_Ex (rh_M rh_PT mw_L (d + 3)) mw_L pg_X12_readAct ((126, [some (.ref 0), some (.int p0), some (.int j2), none, none], []), (h, g, mw_R (some 4))) none (z9, g, mw_R (some 4)) := by
  unfold j_Mo_readAct_r4_126 at hf
  refine rh_Ex.blk 2 (s' := ((129, [some (.ref 0), some (.int p0), some (.int j2), none, none], [.int (115 : Int32), .int j2]), (h, g, mw_R (some 4)))) rfl ?_
  by_cases q14 : j2 = (115 : Int32)
  · rw [if_pos q14] at hf
    refine rh_Ex.stp (s' := ((132, [some (.ref 0), some (.int p0), some (.int j2), none, none], []), (h, g, mw_R (some 4)))) rfl (st_icne_p q14) ?_
    refine rh_Ex.blk 6 (s' := ((140, [some (.ref 0), some (.int p0), some (.int j2), none, none], [.ref 0, .int (p0 + (2 : Int32)), .ref 13]), (h, g, mw_R (some 4)))) rfl ?_
    obtain ⟨x15, hx15, hf⟩ := rh_bq hf
    refine rh_Ex.call (j := 191) (rc := some 11) [.ref 0] [.int (p0 + (2 : Int32)), .ref 13] (some (.int x15)) rfl rfl rfl (Nat.le_of_ble_eq_true rfl) (R_Mo_here_r4 (d + 2) h g  hx15) ?_
    show rh_Ex _ _ _ ((143, [some (.ref 0), some (.int p0), some (.int j2), none, none], [.int x15, .int (p0 + (2 : Int32)), .ref 13]), (h, g, mw_R (some 4))) _ _
    refine rh_Ex.blk 1 (s' := ((145, [some (.ref 0), some (.int p0), some (.int j2), none, none], [.int (45 : Int32), .int x15, .int (p0 + (2 : Int32)), .ref 13]), (h, g, mw_R (some 4)))) rfl ?_
    by_cases q16 : x15 = (45 : Int32)
    · rw [if_pos q16] at hf
      refine rh_Ex.stp (s' := ((148, [some (.ref 0), some (.int p0), some (.int j2), none, none], [.int (p0 + (2 : Int32)), .ref 13]), (h, g, mw_R (some 4)))) rfl (st_icne_p q16) ?_
      refine rh_Ex.blk 2 (s' := ((153, [some (.ref 0), some (.int p0), some (.int j2), none, none], [.int (-1 : Int32), .int (p0 + (2 : Int32)), .ref 13]), (h, g, mw_R (some 4)))) rfl ?_
      refine rh_Ex.fgt [some (.ref 0), none, none, none, none] ⟨rfl, trivial⟩ ?_
      exact lj_Mo_readAct_r4_153 d h (p0 + (2 : Int32)) (-1 : Int32) g hf
    · rw [if_neg q16] at hf
      refine rh_Ex.stp (s' := ((152, [some (.ref 0), some (.int p0), some (.int j2), none, none], [.int (p0 + (2 : Int32)), .ref 13]), (h, g, mw_R (some 4)))) rfl (st_icne_n q16) ?_
      refine rh_Ex.blk 1 (s' := ((153, [some (.ref 0), some (.int p0), some (.int j2), none, none], [.int (1 : Int32), .int (p0 + (2 : Int32)), .ref 13]), (h, g, mw_R (some 4)))) rfl ?_
      refine rh_Ex.fgt [some (.ref 0), none, none, none, none] ⟨rfl, trivial⟩ ?_
      exact lj_Mo_readAct_r4_153 d h (p0 + (2 : Int32)) (1 : Int32) g hf
  · rw [if_neg q14] at hf
    refine rh_Ex.stp (s' := ((190, [some (.ref 0), some (.int p0), some (.int j2), none, none], []), (h, g, mw_R (some 4)))) rfl (st_icne_n q14) ?_
    obtain rfl := Option.some.inj hf
    exact rh_Ex.ret rfl trivial
set_option maxRecDepth 20000 in
set_option maxHeartbeats 4000000 in
theorem lj_Mo_readAct_r4_125 (d : Nat) (h : Nat → Nat → Int32) (p0 : Int32) (j2 : Int32) (k1 : Int32) (k2 : Int32) (g : Nat → Nat → Int64) {z9 : (Nat → Nat → Int32)} (hf : j_Mo_readAct_r4_125 h p0 j2 k1 k2 = some z9) : rh_Ex (rh_M rh_PT mw_L (d + 3)) mw_L pg_X12_readAct ((125, [some (.ref 0), some (.int p0), some (.int j2), none, none], [.int k2, .int k1, .ref 13]), (h, g, mw_R (some 4))) none (z9, g, mw_R (some 4)) := by
  unfold j_Mo_readAct_r4_125 at hf
  obtain ⟨q13, hf⟩ := rh_gq hf
  refine rh_Ex.stp (s' := ((126, [some (.ref 0), some (.int p0), some (.int j2), none, none], []), (rh_up h 13 k1.toNatClampNeg k2, g, mw_R (some 4)))) rfl (st_iast (n := 240) rfl q13) ?_
  refine rh_Ex.fgt [some (.ref 0), some (.int p0), some (.int j2), none, none] ⟨rfl, rfl, rfl, trivial⟩ ?_
  exact lj_Mo_readAct_r4_126 d (rh_up h 13 k1.toNatClampNeg k2) p0 j2 g hf
set_option maxRecDepth 20000 in
set_option maxHeartbeats 4000000 in
theorem lj_Mo_readAct_r4_37 (d : Nat) (h : Nat → Nat → Int32) (p0 : Int32) (j2 : Int32) (g : Nat → Nat → Int64) {z9 : (Nat → Nat → Int32)} (hf : j_Mo_readAct_r4_37 h p0 j2 = some z9) : rh_Ex (rh_M rh_PT mw_L (d + 3)) mw_L pg_X12_readAct ((37, [some (.ref 0), some (.int p0), some (.int j2), none, none], []), (h, g, mw_R (some 4))) none (z9, g, mw_R (some 4)) := by
  unfold j_Mo_readAct_r4_37 at hf
  refine rh_Ex.blk 10 (s' := ((53, [some (.ref 0), some (.int p0), some (.int j2), none, none], [.int j2, .int p0, .ref 13]), (rh_up h 0 13 ((h 0 13) + (1 : Int32)), g, mw_R (some 4)))) rfl ?_
  obtain ⟨q3, hf⟩ := rh_gq hf
  refine rh_Ex.stp (s' := ((54, [some (.ref 0), some (.int p0), some (.int j2), none, none], []), (rh_up (rh_up h 0 13 ((h 0 13) + (1 : Int32))) 13 p0.toNatClampNeg j2, g, mw_R (some 4)))) rfl (st_iast (n := 240) rfl q3) ?_
  refine rh_Ex.blk 2 (s' := ((57, [some (.ref 0), some (.int p0), some (.int j2), none, none], [.int (114 : Int32), .int j2]), (rh_up (rh_up h 0 13 ((h 0 13) + (1 : Int32))) 13 p0.toNatClampNeg j2, g, mw_R (some 4)))) rfl ?_
  by_cases q4 : j2 = (114 : Int32)
  · rw [if_pos q4] at hf
    refine rh_Ex.stp (s' := ((60, [some (.ref 0), some (.int p0), some (.int j2), none, none], []), (rh_up (rh_up h 0 13 ((h 0 13) + (1 : Int32))) 13 p0.toNatClampNeg j2, g, mw_R (some 4)))) rfl (st_icne_p q4) ?_
    refine rh_Ex.blk 7 (s' := ((69, [some (.ref 0), some (.int p0), some (.int j2), none, none], [.int (2 : Int32), .ref 0, .int (p0 + (1 : Int32)), .ref 13]), (rh_up (rh_up h 0 13 ((h 0 13) + (1 : Int32))) 13 p0.toNatClampNeg j2, g, mw_R (some 4)))) rfl ?_
    obtain ⟨x5, hx5, hf⟩ := rh_bq hf
    refine rh_Ex.call (j := 196) (rc := some 11) [.ref 0, .int (2 : Int32)] [.int (p0 + (1 : Int32)), .ref 13] (some (.int x5.1)) rfl rfl rfl (Nat.le_of_ble_eq_true rfl) (R_Mo_number_r4 d (rh_up (rh_up h 0 13 ((h 0 13) + (1 : Int32))) 13 p0.toNatClampNeg j2) g (2 : Int32) hx5) ?_
    show rh_Ex _ _ _ ((72, [some (.ref 0), some (.int p0), some (.int j2), none, none], [.int x5.1, .int (p0 + (1 : Int32)), .ref 13]), (x5.2, g, mw_R (some 4))) _ _
    obtain ⟨q6, hf⟩ := rh_gq hf
    refine rh_Ex.stp (s' := ((73, [some (.ref 0), some (.int p0), some (.int j2), none, none], []), (rh_up x5.2 13 (p0 + (1 : Int32)).toNatClampNeg x5.1, g, mw_R (some 4)))) rfl (st_iast (n := 240) rfl q6) ?_
    obtain rfl := Option.some.inj hf
    exact rh_Ex.ret rfl trivial
  · rw [if_neg q4] at hf
    refine rh_Ex.stp (s' := ((74, [some (.ref 0), some (.int p0), some (.int j2), none, none], []), (rh_up (rh_up h 0 13 ((h 0 13) + (1 : Int32))) 13 p0.toNatClampNeg j2, g, mw_R (some 4)))) rfl (st_icne_n q4) ?_
    refine rh_Ex.blk 6 (s' := ((82, [some (.ref 0), some (.int p0), some (.int j2), none, none], [.ref 0, .int (p0 + (1 : Int32)), .ref 13]), (rh_up (rh_up h 0 13 ((h 0 13) + (1 : Int32))) 13 p0.toNatClampNeg j2, g, mw_R (some 4)))) rfl ?_
    obtain ⟨x7, hx7, hf⟩ := rh_bq hf
    refine rh_Ex.call (j := 197) (rc := some 11) [.ref 0] [.int (p0 + (1 : Int32)), .ref 13] (some (.int x7.1)) rfl rfl rfl (Nat.le_of_ble_eq_true rfl) (R_Mo_letter_r4 d (rh_up (rh_up h 0 13 ((h 0 13) + (1 : Int32))) 13 p0.toNatClampNeg j2) g  hx7) ?_
    show rh_Ex _ _ _ ((85, [some (.ref 0), some (.int p0), some (.int j2), none, none], [.int x7.1, .int (p0 + (1 : Int32)), .ref 13]), (x7.2, g, mw_R (some 4))) _ _
    obtain ⟨q8, hf⟩ := rh_gq hf
    refine rh_Ex.stp (s' := ((86, [some (.ref 0), some (.int p0), some (.int j2), none, none], []), (rh_up x7.2 13 (p0 + (1 : Int32)).toNatClampNeg x7.1, g, mw_R (some 4)))) rfl (st_iast (n := 240) rfl q8) ?_
    refine rh_Ex.blk 2 (s' := ((89, [some (.ref 0), some (.int p0), some (.int j2), none, none], [.int (98 : Int32), .int j2]), (rh_up x7.2 13 (p0 + (1 : Int32)).toNatClampNeg x7.1, g, mw_R (some 4)))) rfl ?_
    by_cases q9 : j2 = (98 : Int32)
    · rw [if_pos q9] at hf
      refine rh_Ex.stp (s' := ((92, [some (.ref 0), some (.int p0), some (.int j2), none, none], []), (rh_up x7.2 13 (p0 + (1 : Int32)).toNatClampNeg x7.1, g, mw_R (some 4)))) rfl (st_icne_p q9) ?_
      refine rh_Ex.blk 2 (s' := ((95, [some (.ref 0), some (.int p0), some (.int j2), none, none], [.int (45 : Int32), .ref 0]), (rh_up x7.2 13 (p0 + (1 : Int32)).toNatClampNeg x7.1, g, mw_R (some 4)))) rfl ?_
      obtain ⟨x10, hx10, hf⟩ := rh_bq hf
      refine rh_Ex.call (j := 194) (rc := some 11) [.ref 0, .int (45 : Int32)] [] (some (.int x10.1)) rfl rfl rfl (Nat.le_of_ble_eq_true rfl) (R_Mo_passes_r4 (d + 1) (rh_up x7.2 13 (p0 + (1 : Int32)).toNatClampNeg x7.1) g (45 : Int32) hx10) ?_
      show rh_Ex _ _ _ ((98, [some (.ref 0), some (.int p0), some (.int j2), none, none], [.int x10.1]), (x10.2, g, mw_R (some 4))) _ _
      refine rh_Ex.blk 3 (s' := ((101, [some (.ref 0), some (.int p0), some (.int j2), some (.int x10.1), none], [.int (1 : Int32), .ref 0]), (x10.2, g, mw_R (some 4)))) rfl ?_
      obtain ⟨x11, hx11, hf⟩ := rh_bq hf
      refine rh_Ex.call (j := 196) (rc := some 11) [.ref 0, .int (1 : Int32)] [] (some (.int x11.1)) rfl rfl rfl (Nat.le_of_ble_eq_true rfl) (R_Mo_number_r4 d x10.2 g (1 : Int32) hx11) ?_
      show rh_Ex _ _ _ ((104, [some (.ref 0), some (.int p0), some (.int j2), some (.int x10.1), none], [.int x11.1]), (x11.2, g, mw_R (some 4))) _ _
      refine rh_Ex.blk 7 (s' := ((114, [some (.ref 0), some (.int p0), some (.int j2), some (.int x10.1), some (.int x11.1)], [.int x10.1, .int (p0 + (2 : Int32)), .ref 13]), (x11.2, g, mw_R (some 4)))) rfl ?_
      by_cases q12 : x10.1 = 0
      · rw [if_pos q12] at hf
        refine rh_Ex.stp (s' := ((123, [some (.ref 0), some (.int p0), some (.int j2), some (.int x10.1), some (.int x11.1)], [.int (p0 + (2 : Int32)), .ref 13]), (x11.2, g, mw_R (some 4)))) rfl (st_ifeq_p q12) ?_
        refine rh_Ex.blk 1 (s' := ((125, [some (.ref 0), some (.int p0), some (.int j2), some (.int x10.1), some (.int x11.1)], [.int x11.1, .int (p0 + (2 : Int32)), .ref 13]), (x11.2, g, mw_R (some 4)))) rfl ?_
        refine rh_Ex.fgt [some (.ref 0), some (.int p0), some (.int j2), none, none] ⟨rfl, rfl, rfl, trivial⟩ ?_
        exact lj_Mo_readAct_r4_125 d x11.2 p0 j2 (p0 + (2 : Int32)) x11.1 g hf
      · rw [if_neg q12] at hf
        refine rh_Ex.stp (s' := ((117, [some (.ref 0), some (.int p0), some (.int j2), some (.int x10.1), some (.int x11.1)], [.int (p0 + (2 : Int32)), .ref 13]), (x11.2, g, mw_R (some 4)))) rfl (st_ifeq_n q12) ?_
        refine rh_Ex.blk 3 (s' := ((125, [some (.ref 0), some (.int p0), some (.int j2), some (.int x10.1), some (.int x11.1)], [.int (-x11.1), .int (p0 + (2 : Int32)), .ref 13]), (x11.2, g, mw_R (some 4)))) rfl ?_
        refine rh_Ex.fgt [some (.ref 0), some (.int p0), some (.int j2), none, none] ⟨rfl, rfl, rfl, trivial⟩ ?_
        exact lj_Mo_readAct_r4_125 d x11.2 p0 j2 (p0 + (2 : Int32)) (-x11.1) g hf
    · rw [if_neg q9] at hf
      refine rh_Ex.stp (s' := ((126, [some (.ref 0), some (.int p0), some (.int j2), none, none], []), (rh_up x7.2 13 (p0 + (1 : Int32)).toNatClampNeg x7.1, g, mw_R (some 4)))) rfl (st_icne_n q9) ?_
      refine rh_Ex.fgt [some (.ref 0), some (.int p0), some (.int j2), none, none] ⟨rfl, rfl, rfl, trivial⟩ ?_
      exact lj_Mo_readAct_r4_126 d (rh_up x7.2 13 (p0 + (1 : Int32)).toNatClampNeg x7.1) p0 j2 g hf
set_option maxRecDepth 20000 in
set_option maxHeartbeats 4000000 in
theorem R_Mo_readAct_r4 (d : Nat) (h : Nat → Nat → Int32) (g : Nat → Nat → Int64) (p0 : Int32) {z9 : (Nat → Nat → Int32)} (hf : f_Mo_readAct_r4 h p0 = some z9) : rh_M rh_PT mw_L (d + 4) 229 [.ref 0, .int p0] (h, g, mw_R (some 4)) none (z9, g, mw_R (some 4)) := by
  unfold f_Mo_readAct_r4 at hf
  refine rh_go pt_229 (Nat.le_of_ble_eq_true rfl) (lv := [some (.ref 0), some (.int p0), none, none, none]) rfl ?_
  refine rh_Ex.blk 1 (s' := ((1, [some (.ref 0), some (.int p0), none, none, none], [.ref 0]), (h, g, mw_R (some 4)))) rfl ?_
  obtain ⟨x1, hx1, hf⟩ := rh_bq hf
  refine rh_Ex.call (j := 191) (rc := some 11) [.ref 0] [] (some (.int x1)) rfl rfl rfl (Nat.le_of_ble_eq_true rfl) (R_Mo_here_r4 (d + 2) h g  hx1) ?_
  show rh_Ex _ _ _ ((4, [some (.ref 0), some (.int p0), none, none, none], [.int x1]), (h, g, mw_R (some 4))) _ _
  refine rh_Ex.blk 3 (s' := ((8, [some (.ref 0), some (.int p0), some (.int x1), none, none], [.int (114 : Int32), .int x1]), (h, g, mw_R (some 4)))) rfl ?_
  by_cases q2 : x1 = (114 : Int32)
  · rw [if_pos q2] at hf
    refine rh_Ex.stp (s' := ((37, [some (.ref 0), some (.int p0), some (.int x1), none, none], []), (h, g, mw_R (some 4)))) rfl (st_iceq_p q2) ?_
    refine rh_Ex.fgt [some (.ref 0), some (.int p0), some (.int x1), none, none] ⟨rfl, rfl, rfl, trivial⟩ ?_
    exact lj_Mo_readAct_r4_37 d h p0 x1 g hf
  · rw [if_neg q2] at hf
    refine rh_Ex.stp (s' := ((11, [some (.ref 0), some (.int p0), some (.int x1), none, none], []), (h, g, mw_R (some 4)))) rfl (st_iceq_n q2) ?_
    refine rh_Ex.blk 2 (s' := ((14, [some (.ref 0), some (.int p0), some (.int x1), none, none], [.int (98 : Int32), .int x1]), (h, g, mw_R (some 4)))) rfl ?_
    by_cases q22 : x1 = (98 : Int32)
    · rw [if_pos q22] at hf
      refine rh_Ex.stp (s' := ((37, [some (.ref 0), some (.int p0), some (.int x1), none, none], []), (h, g, mw_R (some 4)))) rfl (st_iceq_p q22) ?_
      refine rh_Ex.fgt [some (.ref 0), some (.int p0), some (.int x1), none, none] ⟨rfl, rfl, rfl, trivial⟩ ?_
      exact lj_Mo_readAct_r4_37 d h p0 x1 g hf
    · rw [if_neg q22] at hf
      refine rh_Ex.stp (s' := ((17, [some (.ref 0), some (.int p0), some (.int x1), none, none], []), (h, g, mw_R (some 4)))) rfl (st_iceq_n q22) ?_
      refine rh_Ex.blk 2 (s' := ((20, [some (.ref 0), some (.int p0), some (.int x1), none, none], [.int (111 : Int32), .int x1]), (h, g, mw_R (some 4)))) rfl ?_
      by_cases q23 : x1 = (111 : Int32)
      · rw [if_pos q23] at hf
        refine rh_Ex.stp (s' := ((37, [some (.ref 0), some (.int p0), some (.int x1), none, none], []), (h, g, mw_R (some 4)))) rfl (st_iceq_p q23) ?_
        refine rh_Ex.fgt [some (.ref 0), some (.int p0), some (.int x1), none, none] ⟨rfl, rfl, rfl, trivial⟩ ?_
        exact lj_Mo_readAct_r4_37 d h p0 x1 g hf
      · rw [if_neg q23] at hf
        refine rh_Ex.stp (s' := ((23, [some (.ref 0), some (.int p0), some (.int x1), none, none], []), (h, g, mw_R (some 4)))) rfl (st_iceq_n q23) ?_
        refine rh_Ex.blk 2 (s' := ((26, [some (.ref 0), some (.int p0), some (.int x1), none, none], [.int (115 : Int32), .int x1]), (h, g, mw_R (some 4)))) rfl ?_
        by_cases q24 : x1 = (115 : Int32)
        · rw [if_pos q24] at hf
          refine rh_Ex.stp (s' := ((37, [some (.ref 0), some (.int p0), some (.int x1), none, none], []), (h, g, mw_R (some 4)))) rfl (st_iceq_p q24) ?_
          refine rh_Ex.fgt [some (.ref 0), some (.int p0), some (.int x1), none, none] ⟨rfl, rfl, rfl, trivial⟩ ?_
          exact lj_Mo_readAct_r4_37 d h p0 x1 g hf
        · rw [if_neg q24] at hf
          refine rh_Ex.stp (s' := ((29, [some (.ref 0), some (.int p0), some (.int x1), none, none], []), (h, g, mw_R (some 4)))) rfl (st_iceq_n q24) ?_
          refine rh_Ex.blk 3 (s' := ((34, [some (.ref 0), some (.int p0), some (.int x1), none, none], [.int (h 0 13), .ref 0]), (h, g, mw_R (some 4)))) rfl ?_
          refine rh_Ex.call (j := 193) (rc := some 11) [.ref 0, .int (h 0 13)] [] none rfl rfl rfl (Nat.le_of_ble_eq_true rfl) (R_Mo_fault (d + 1) (some 4) h g (h 0 13) rfl) ?_
          show rh_Ex _ _ _ ((37, [some (.ref 0), some (.int p0), some (.int x1), none, none], []), ((f_Mo_fault h (h 0 13)), g, mw_R (some 4))) _ _
          refine rh_Ex.fgt [some (.ref 0), some (.int p0), some (.int x1), none, none] ⟨rfl, rfl, rfl, trivial⟩ ?_
          exact lj_Mo_readAct_r4_37 d (f_Mo_fault h (h 0 13)) p0 x1 g hf
def b_Mo_lay_1_11_2 (u2 : Int32) : (Int32 × (Nat → Nat → Int32)) → Option ((Int32 × (Nat → Nat → Int32)) ⊕ ((Nat → Nat → Int32))) := fun s2 =>
  if (11 : Int32) ≤ s2.1 then
    some (.inr s2.2)
  else
    rh_g (0 ≤ s2.1.toInt ∧ s2.1.toInt < ((11 : Nat) : Int)) (
      rh_g (0 ≤ (u2 + s2.1).toInt ∧ (u2 + s2.1).toInt < ((11 : Nat) : Int)) (
        some (.inl (s2.1 + (1 : Int32), rh_up s2.2 11 (u2 + s2.1).toNatClampNeg (s2.2 1 s2.1.toNatClampNeg)))
      )
    )
def f_Mo_lay_1_11 (h : Nat → Nat → Int32) (p0 : Int32) : Option ((Nat → Nat → Int32)) :=
  (rh_loop (b_Mo_lay_1_11_2 p0) rh_N ((0 : Int32), h)).bind (fun r5 =>
    some (r5)
  )
set_option maxRecDepth 20000 in
set_option maxHeartbeats 4000000 in
theorem lb_Mo_lay_1_11_2 (d : Nat) (rd : Option Nat) (u2 : Int32) (g : Nat → Nat → Int64) (v9 : Option Value) (h9 : rh_H) : ∀ s2 x9, b_Mo_lay_1_11_2 u2 s2 = some x9 → Sum.elim (fun s2 => rh_Ex (rh_M rh_PT mw_L (d + 0)) mw_L pg_X12_lay ((2, [some (.ref 1), some (.ref 11), some (.int u2), some (.int s2.1)], []), (s2.2, g, mw_R rd)) v9 h9) (fun e9 => rh_Ex (rh_M rh_PT mw_L (d + 0)) mw_L pg_X12_lay ((22, [none, none, none, none], []), (e9, g, mw_R rd)) v9 h9) x9 → rh_Ex (rh_M rh_PT mw_L (d + 0)) mw_L pg_X12_lay ((2, [some (.ref 1), some (.ref 11), some (.int u2), some (.int s2.1)], []), (s2.2, g, mw_R rd)) v9 h9 := by
  intro s2 x9 hf hk
  unfold b_Mo_lay_1_11_2 at hf
  refine rh_Ex.blk 2 (s' := ((5, [some (.ref 1), some (.ref 11), some (.int u2), some (.int s2.1)], [.int (11 : Int32), .int s2.1]), (s2.2, g, mw_R rd))) rfl ?_
  by_cases q2 : (11 : Int32) ≤ s2.1
  · rw [if_pos q2] at hf
    refine rh_Ex.stp (s' := ((22, [some (.ref 1), some (.ref 11), some (.int u2), some (.int s2.1)], []), (s2.2, g, mw_R rd))) rfl (st_icge_p q2) ?_
    obtain rfl := Option.some.inj hf
    refine rh_Ex.fgt [none, none, none, none] trivial ?_
    exact hk
  · rw [if_neg q2] at hf
    refine rh_Ex.stp (s' := ((8, [some (.ref 1), some (.ref 11), some (.int u2), some (.int s2.1)], []), (s2.2, g, mw_R rd))) rfl (st_icge_n q2) ?_
    refine rh_Ex.blk 6 (s' := ((14, [some (.ref 1), some (.ref 11), some (.int u2), some (.int s2.1)], [.int s2.1, .ref 1, .int (u2 + s2.1), .ref 11]), (s2.2, g, mw_R rd))) rfl ?_
    obtain ⟨q3, hf⟩ := rh_gq hf
    refine rh_Ex.stp (s' := ((15, [some (.ref 1), some (.ref 11), some (.int u2), some (.int s2.1)], [.int (s2.2 1 s2.1.toNatClampNeg), .int (u2 + s2.1), .ref 11]), (s2.2, g, mw_R rd))) rfl (st_iald (n := 11) rfl q3) ?_
    obtain ⟨q4, hf⟩ := rh_gq hf
    refine rh_Ex.stp (s' := ((16, [some (.ref 1), some (.ref 11), some (.int u2), some (.int s2.1)], []), (rh_up s2.2 11 (u2 + s2.1).toNatClampNeg (s2.2 1 s2.1.toNatClampNeg), g, mw_R rd))) rfl (st_iast (n := 11) rfl q4) ?_
    refine rh_Ex.blk 2 (s' := ((2, [some (.ref 1), some (.ref 11), some (.int u2), some (.int (s2.1 + (1 : Int32)))], []), (rh_up s2.2 11 (u2 + s2.1).toNatClampNeg (s2.2 1 s2.1.toNatClampNeg), g, mw_R rd))) rfl ?_
    obtain rfl := Option.some.inj hf
    refine rh_Ex.fgt [some (.ref 1), some (.ref 11), some (.int u2), some (.int (s2.1 + (1 : Int32)))] ⟨rfl, rfl, rfl, rfl, trivial⟩ ?_
    exact hk
set_option maxRecDepth 20000 in
set_option maxHeartbeats 4000000 in
theorem R_Mo_lay_1_11 (d : Nat) (rd : Option Nat) (h : Nat → Nat → Int32) (g : Nat → Nat → Int64) (p0 : Int32) {z9 : (Nat → Nat → Int32)} (hf : f_Mo_lay_1_11 h p0 = some z9) : rh_M rh_PT mw_L (d + 1) 218 [.ref 1, .ref 11, .int p0] (h, g, mw_R rd) none (z9, g, mw_R rd) := by
  unfold f_Mo_lay_1_11 at hf
  refine rh_go pt_218 (Nat.le_of_ble_eq_true rfl) (lv := [some (.ref 1), some (.ref 11), some (.int p0), none]) rfl ?_
  refine rh_Ex.blk 2 (s' := ((2, [some (.ref 1), some (.ref 11), some (.int p0), some (.int (0 : Int32))], []), (h, g, mw_R rd))) rfl ?_
  obtain ⟨r5, hr5, hf⟩ := rh_bq hf
  refine rh_Ex.fgt [some (.ref 1), some (.ref 11), some (.int p0), some (.int (0 : Int32))] ⟨rfl, rfl, rfl, rfl, trivial⟩ ?_
  refine rh_Ex.loop _ _ _ (lb_Mo_lay_1_11_2 d rd p0  g _ _) rh_N _ r5 hr5 ?_
  obtain rfl := Option.some.inj hf
  exact rh_Ex.ret rfl trivial
def f_Mo_act (h : Nat → Nat → Int32) (rd : Option Nat) (p0 : Int32) : Option (Int32 × (Nat → Nat → Int32) × (Option Nat)) :=
  rh_g (0 ≤ (p0 + (1 : Int32)).toInt ∧ (p0 + (1 : Int32)).toInt < ((240 : Nat) : Int)) (
    rh_g (0 ≤ p0.toInt ∧ p0.toInt < ((240 : Nat) : Int)) (
      if (h 13 p0.toNatClampNeg) = (114 : Int32) then
        some (((1 : Int32), rh_up h 1 (10 : Int32).toNatClampNeg ((h 1 (10 : Int32).toNatClampNeg) + (h 13 (p0 + (1 : Int32)).toNatClampNeg)), rd))
      else
        rh_g (0 ≤ p0.toInt ∧ p0.toInt < ((240 : Nat) : Int)) (
          if (h 13 p0.toNatClampNeg) = (98 : Int32) then
            rh_g (0 ≤ (p0 + (2 : Int32)).toInt ∧ (p0 + (2 : Int32)).toInt < ((240 : Nat) : Int)) (
              (f_Mo_tryBoard h rd (h 13 (p0 + (1 : Int32)).toNatClampNeg) (h 13 (p0 + (2 : Int32)).toNatClampNeg)).bind (fun x7 =>
                if 0 ≤ x7.1 then
                  (f_Mo_doTried x7.2.1).bind (fun x9 =>
                    some (((1 : Int32), x9, x7.2.2))
                  )
                else
                  some (((0 : Int32), x7.2.1, x7.2.2))
              )
            )
          else
            rh_g (0 ≤ p0.toInt ∧ p0.toInt < ((240 : Nat) : Int)) (
              if (h 13 p0.toNatClampNeg) = (111 : Int32) then
                (f_Mo_tryOff h rd (h 13 (p0 + (1 : Int32)).toNatClampNeg)).bind (fun x12 =>
                  if 0 ≤ x12.1 then
                    (f_Mo_doTried x12.2.1).bind (fun x14 =>
                      some (((1 : Int32), x14, x12.2.2))
                    )
                  else
                    some (((0 : Int32), x12.2.1, x12.2.2))
                )
              else
                rh_g (0 ≤ (p0 + (2 : Int32)).toInt ∧ (p0 + (2 : Int32)).toInt < ((240 : Nat) : Int)) (
                  (f_Mo_tryStep h rd (h 13 (p0 + (1 : Int32)).toNatClampNeg) (h 13 (p0 + (2 : Int32)).toNatClampNeg)).bind (fun x16 =>
                    if 0 ≤ x16.1 then
                      (f_Mo_doTried x16.2.1).bind (fun x18 =>
                        some (((1 : Int32), x18, x16.2.2))
                      )
                    else
                      some (((0 : Int32), x16.2.1, x16.2.2))
                  )
                )
            )
        )
    )
  )
set_option maxRecDepth 20000 in
set_option maxHeartbeats 4000000 in
theorem R_Mo_act (d : Nat) (rd : Option Nat) (h : Nat → Nat → Int32) (g : Nat → Nat → Int64) (p0 : Int32) {z9 : Int32 × (Nat → Nat → Int32) × (Option Nat)} (hf : f_Mo_act h rd p0 = some z9) : rh_M rh_PT mw_L (d + 271) 230 [.ref 0, .int p0] (h, g, mw_R rd) (some (.int z9.1)) (z9.2.1, g, mw_R z9.2.2) := by
  unfold f_Mo_act at hf
  refine rh_go pt_230 (Nat.le_of_ble_eq_true rfl) (lv := [some (.ref 0), some (.int p0), none, none]) rfl ?_
  refine rh_Ex.blk 5 (s' := ((7, [some (.ref 0), some (.int p0), none, none], [.int (p0 + (1 : Int32)), .ref 13]), (h, g, mw_R rd))) rfl ?_
  obtain ⟨q1, hf⟩ := rh_gq hf
  refine rh_Ex.stp (s' := ((8, [some (.ref 0), some (.int p0), none, none], [.int (h 13 (p0 + (1 : Int32)).toNatClampNeg)]), (h, g, mw_R rd))) rfl (st_iald (n := 240) rfl q1) ?_
  refine rh_Ex.blk 4 (s' := ((14, [some (.ref 0), some (.int p0), some (.int (h 13 (p0 + (1 : Int32)).toNatClampNeg)), none], [.int p0, .ref 13]), (h, g, mw_R rd))) rfl ?_
  obtain ⟨q2, hf⟩ := rh_gq hf
  refine rh_Ex.stp (s' := ((15, [some (.ref 0), some (.int p0), some (.int (h 13 (p0 + (1 : Int32)).toNatClampNeg)), none], [.int (h 13 p0.toNatClampNeg)]), (h, g, mw_R rd))) rfl (st_iald (n := 240) rfl q2) ?_
  refine rh_Ex.blk 1 (s' := ((17, [some (.ref 0), some (.int p0), some (.int (h 13 (p0 + (1 : Int32)).toNatClampNeg)), none], [.int (114 : Int32), .int (h 13 p0.toNatClampNeg)]), (h, g, mw_R rd))) rfl ?_
  by_cases q3 : (h 13 p0.toNatClampNeg) = (114 : Int32)
  · rw [if_pos q3] at hf
    refine rh_Ex.stp (s' := ((20, [some (.ref 0), some (.int p0), some (.int (h 13 (p0 + (1 : Int32)).toNatClampNeg)), none], []), (h, g, mw_R rd))) rfl (st_icne_p q3) ?_
    refine rh_Ex.blk 4 (s' := ((27, [some (.ref 0), some (.int p0), some (.int (h 13 (p0 + (1 : Int32)).toNatClampNeg)), none], [.int (10 : Int32), .ref 1, .int (10 : Int32), .ref 1]), (h, g, mw_R rd))) rfl ?_
    refine rh_Ex.stp (s' := ((28, [some (.ref 0), some (.int p0), some (.int (h 13 (p0 + (1 : Int32)).toNatClampNeg)), none], [.int (h 1 (10 : Int32).toNatClampNeg), .int (10 : Int32), .ref 1]), (h, g, mw_R rd))) rfl (st_iald (n := 11) rfl (by decide)) ?_
    refine rh_Ex.blk 2 (s' := ((30, [some (.ref 0), some (.int p0), some (.int (h 13 (p0 + (1 : Int32)).toNatClampNeg)), none], [.int ((h 1 (10 : Int32).toNatClampNeg) + (h 13 (p0 + (1 : Int32)).toNatClampNeg)), .int (10 : Int32), .ref 1]), (h, g, mw_R rd))) rfl ?_
    refine rh_Ex.stp (s' := ((31, [some (.ref 0), some (.int p0), some (.int (h 13 (p0 + (1 : Int32)).toNatClampNeg)), none], []), (rh_up h 1 (10 : Int32).toNatClampNeg ((h 1 (10 : Int32).toNatClampNeg) + (h 13 (p0 + (1 : Int32)).toNatClampNeg)), g, mw_R rd))) rfl (st_iast (n := 11) rfl (by decide)) ?_
    refine rh_Ex.blk 1 (s' := ((32, [some (.ref 0), some (.int p0), some (.int (h 13 (p0 + (1 : Int32)).toNatClampNeg)), none], [.int (1 : Int32)]), (rh_up h 1 (10 : Int32).toNatClampNeg ((h 1 (10 : Int32).toNatClampNeg) + (h 13 (p0 + (1 : Int32)).toNatClampNeg)), g, mw_R rd))) rfl ?_
    obtain rfl := Option.some.inj hf
    exact rh_Ex.ret rfl ⟨rfl, Or.inr rfl⟩
  · rw [if_neg q3] at hf
    refine rh_Ex.stp (s' := ((33, [some (.ref 0), some (.int p0), some (.int (h 13 (p0 + (1 : Int32)).toNatClampNeg)), none], []), (h, g, mw_R rd))) rfl (st_icne_n q3) ?_
    refine rh_Ex.blk 3 (s' := ((38, [some (.ref 0), some (.int p0), some (.int (h 13 (p0 + (1 : Int32)).toNatClampNeg)), none], [.int p0, .ref 13]), (h, g, mw_R rd))) rfl ?_
    obtain ⟨q4, hf⟩ := rh_gq hf
    refine rh_Ex.stp (s' := ((39, [some (.ref 0), some (.int p0), some (.int (h 13 (p0 + (1 : Int32)).toNatClampNeg)), none], [.int (h 13 p0.toNatClampNeg)]), (h, g, mw_R rd))) rfl (st_iald (n := 240) rfl q4) ?_
    refine rh_Ex.blk 1 (s' := ((41, [some (.ref 0), some (.int p0), some (.int (h 13 (p0 + (1 : Int32)).toNatClampNeg)), none], [.int (98 : Int32), .int (h 13 p0.toNatClampNeg)]), (h, g, mw_R rd))) rfl ?_
    by_cases q5 : (h 13 p0.toNatClampNeg) = (98 : Int32)
    · rw [if_pos q5] at hf
      refine rh_Ex.stp (s' := ((44, [some (.ref 0), some (.int p0), some (.int (h 13 (p0 + (1 : Int32)).toNatClampNeg)), none], []), (h, g, mw_R rd))) rfl (st_icne_p q5) ?_
      refine rh_Ex.blk 7 (s' := ((53, [some (.ref 0), some (.int p0), some (.int (h 13 (p0 + (1 : Int32)).toNatClampNeg)), none], [.int (p0 + (2 : Int32)), .ref 13, .int (h 13 (p0 + (1 : Int32)).toNatClampNeg), .ref 0]), (h, g, mw_R rd))) rfl ?_
      obtain ⟨q6, hf⟩ := rh_gq hf
      refine rh_Ex.stp (s' := ((54, [some (.ref 0), some (.int p0), some (.int (h 13 (p0 + (1 : Int32)).toNatClampNeg)), none], [.int (h 13 (p0 + (2 : Int32)).toNatClampNeg), .int (h 13 (p0 + (1 : Int32)).toNatClampNeg), .ref 0]), (h, g, mw_R rd))) rfl (st_iald (n := 240) rfl q6) ?_
      obtain ⟨x7, hx7, hf⟩ := rh_bq hf
      refine rh_Ex.call (j := 221) (rc := some 11) [.ref 0, .int (h 13 (p0 + (1 : Int32)).toNatClampNeg), .int (h 13 (p0 + (2 : Int32)).toNatClampNeg)] [] (some (.int x7.1)) rfl rfl rfl (Nat.le_of_ble_eq_true rfl) (R_Mo_tryBoard d rd h g (h 13 (p0 + (1 : Int32)).toNatClampNeg) (h 13 (p0 + (2 : Int32)).toNatClampNeg) hx7) ?_
      show rh_Ex _ _ _ ((57, [some (.ref 0), some (.int p0), some (.int (h 13 (p0 + (1 : Int32)).toNatClampNeg)), none], [.int x7.1]), (x7.2.1, g, mw_R x7.2.2)) _ _
      refine rh_Ex.blk 3 (s' := ((94, [some (.ref 0), some (.int p0), some (.int (h 13 (p0 + (1 : Int32)).toNatClampNeg)), some (.int x7.1)], [.int x7.1]), (x7.2.1, g, mw_R x7.2.2))) rfl ?_
      by_cases q8 : 0 ≤ x7.1
      · rw [if_pos q8] at hf
        refine rh_Ex.stp (s' := ((99, [some (.ref 0), some (.int p0), some (.int (h 13 (p0 + (1 : Int32)).toNatClampNeg)), some (.int x7.1)], []), (x7.2.1, g, mw_R x7.2.2))) rfl (st_ifge_p q8) ?_
        refine rh_Ex.blk 1 (s' := ((100, [some (.ref 0), some (.int p0), some (.int (h 13 (p0 + (1 : Int32)).toNatClampNeg)), some (.int x7.1)], [.ref 0]), (x7.2.1, g, mw_R x7.2.2))) rfl ?_
        obtain ⟨x9, hx9, hf⟩ := rh_bq hf
        refine rh_Ex.call (j := 224) (rc := some 11) [.ref 0] [] none rfl rfl rfl (Nat.le_of_ble_eq_true rfl) (R_Mo_doTried (d + 269) x7.2.2 x7.2.1 g  hx9) ?_
        show rh_Ex _ _ _ ((103, [some (.ref 0), some (.int p0), some (.int (h 13 (p0 + (1 : Int32)).toNatClampNeg)), some (.int x7.1)], []), (x9, g, mw_R x7.2.2)) _ _
        refine rh_Ex.blk 1 (s' := ((104, [some (.ref 0), some (.int p0), some (.int (h 13 (p0 + (1 : Int32)).toNatClampNeg)), some (.int x7.1)], [.int (1 : Int32)]), (x9, g, mw_R x7.2.2))) rfl ?_
        obtain rfl := Option.some.inj hf
        exact rh_Ex.ret rfl ⟨rfl, Or.inr rfl⟩
      · rw [if_neg q8] at hf
        refine rh_Ex.stp (s' := ((97, [some (.ref 0), some (.int p0), some (.int (h 13 (p0 + (1 : Int32)).toNatClampNeg)), some (.int x7.1)], []), (x7.2.1, g, mw_R x7.2.2))) rfl (st_ifge_n q8) ?_
        refine rh_Ex.blk 1 (s' := ((98, [some (.ref 0), some (.int p0), some (.int (h 13 (p0 + (1 : Int32)).toNatClampNeg)), some (.int x7.1)], [.int (0 : Int32)]), (x7.2.1, g, mw_R x7.2.2))) rfl ?_
        obtain rfl := Option.some.inj hf
        exact rh_Ex.ret rfl ⟨rfl, Or.inl rfl⟩
    · rw [if_neg q5] at hf
      refine rh_Ex.stp (s' := ((60, [some (.ref 0), some (.int p0), some (.int (h 13 (p0 + (1 : Int32)).toNatClampNeg)), none], []), (h, g, mw_R rd))) rfl (st_icne_n q5) ?_
      refine rh_Ex.blk 3 (s' := ((65, [some (.ref 0), some (.int p0), some (.int (h 13 (p0 + (1 : Int32)).toNatClampNeg)), none], [.int p0, .ref 13]), (h, g, mw_R rd))) rfl ?_
      obtain ⟨q10, hf⟩ := rh_gq hf
      refine rh_Ex.stp (s' := ((66, [some (.ref 0), some (.int p0), some (.int (h 13 (p0 + (1 : Int32)).toNatClampNeg)), none], [.int (h 13 p0.toNatClampNeg)]), (h, g, mw_R rd))) rfl (st_iald (n := 240) rfl q10) ?_
      refine rh_Ex.blk 1 (s' := ((68, [some (.ref 0), some (.int p0), some (.int (h 13 (p0 + (1 : Int32)).toNatClampNeg)), none], [.int (111 : Int32), .int (h 13 p0.toNatClampNeg)]), (h, g, mw_R rd))) rfl ?_
      by_cases q11 : (h 13 p0.toNatClampNeg) = (111 : Int32)
      · rw [if_pos q11] at hf
        refine rh_Ex.stp (s' := ((71, [some (.ref 0), some (.int p0), some (.int (h 13 (p0 + (1 : Int32)).toNatClampNeg)), none], []), (h, g, mw_R rd))) rfl (st_icne_p q11) ?_
        refine rh_Ex.blk 2 (s' := ((73, [some (.ref 0), some (.int p0), some (.int (h 13 (p0 + (1 : Int32)).toNatClampNeg)), none], [.int (h 13 (p0 + (1 : Int32)).toNatClampNeg), .ref 0]), (h, g, mw_R rd))) rfl ?_
        obtain ⟨x12, hx12, hf⟩ := rh_bq hf
        refine rh_Ex.call (j := 222) (rc := some 11) [.ref 0, .int (h 13 (p0 + (1 : Int32)).toNatClampNeg)] [] (some (.int x12.1)) rfl rfl rfl (Nat.le_of_ble_eq_true rfl) (R_Mo_tryOff d rd h g (h 13 (p0 + (1 : Int32)).toNatClampNeg) hx12) ?_
        show rh_Ex _ _ _ ((76, [some (.ref 0), some (.int p0), some (.int (h 13 (p0 + (1 : Int32)).toNatClampNeg)), none], [.int x12.1]), (x12.2.1, g, mw_R x12.2.2)) _ _
        refine rh_Ex.blk 3 (s' := ((94, [some (.ref 0), some (.int p0), some (.int (h 13 (p0 + (1 : Int32)).toNatClampNeg)), some (.int x12.1)], [.int x12.1]), (x12.2.1, g, mw_R x12.2.2))) rfl ?_
        by_cases q13 : 0 ≤ x12.1
        · rw [if_pos q13] at hf
          refine rh_Ex.stp (s' := ((99, [some (.ref 0), some (.int p0), some (.int (h 13 (p0 + (1 : Int32)).toNatClampNeg)), some (.int x12.1)], []), (x12.2.1, g, mw_R x12.2.2))) rfl (st_ifge_p q13) ?_
          refine rh_Ex.blk 1 (s' := ((100, [some (.ref 0), some (.int p0), some (.int (h 13 (p0 + (1 : Int32)).toNatClampNeg)), some (.int x12.1)], [.ref 0]), (x12.2.1, g, mw_R x12.2.2))) rfl ?_
          obtain ⟨x14, hx14, hf⟩ := rh_bq hf
          refine rh_Ex.call (j := 224) (rc := some 11) [.ref 0] [] none rfl rfl rfl (Nat.le_of_ble_eq_true rfl) (R_Mo_doTried (d + 269) x12.2.2 x12.2.1 g  hx14) ?_
          show rh_Ex _ _ _ ((103, [some (.ref 0), some (.int p0), some (.int (h 13 (p0 + (1 : Int32)).toNatClampNeg)), some (.int x12.1)], []), (x14, g, mw_R x12.2.2)) _ _
          refine rh_Ex.blk 1 (s' := ((104, [some (.ref 0), some (.int p0), some (.int (h 13 (p0 + (1 : Int32)).toNatClampNeg)), some (.int x12.1)], [.int (1 : Int32)]), (x14, g, mw_R x12.2.2))) rfl ?_
          obtain rfl := Option.some.inj hf
          exact rh_Ex.ret rfl ⟨rfl, Or.inr rfl⟩
        · rw [if_neg q13] at hf
          refine rh_Ex.stp (s' := ((97, [some (.ref 0), some (.int p0), some (.int (h 13 (p0 + (1 : Int32)).toNatClampNeg)), some (.int x12.1)], []), (x12.2.1, g, mw_R x12.2.2))) rfl (st_ifge_n q13) ?_
          refine rh_Ex.blk 1 (s' := ((98, [some (.ref 0), some (.int p0), some (.int (h 13 (p0 + (1 : Int32)).toNatClampNeg)), some (.int x12.1)], [.int (0 : Int32)]), (x12.2.1, g, mw_R x12.2.2))) rfl ?_
          obtain rfl := Option.some.inj hf
          exact rh_Ex.ret rfl ⟨rfl, Or.inl rfl⟩
      · rw [if_neg q11] at hf
        refine rh_Ex.stp (s' := ((79, [some (.ref 0), some (.int p0), some (.int (h 13 (p0 + (1 : Int32)).toNatClampNeg)), none], []), (h, g, mw_R rd))) rfl (st_icne_n q11) ?_
        refine rh_Ex.blk 7 (s' := ((88, [some (.ref 0), some (.int p0), some (.int (h 13 (p0 + (1 : Int32)).toNatClampNeg)), none], [.int (p0 + (2 : Int32)), .ref 13, .int (h 13 (p0 + (1 : Int32)).toNatClampNeg), .ref 0]), (h, g, mw_R rd))) rfl ?_
        obtain ⟨q15, hf⟩ := rh_gq hf
        refine rh_Ex.stp (s' := ((89, [some (.ref 0), some (.int p0), some (.int (h 13 (p0 + (1 : Int32)).toNatClampNeg)), none], [.int (h 13 (p0 + (2 : Int32)).toNatClampNeg), .int (h 13 (p0 + (1 : Int32)).toNatClampNeg), .ref 0]), (h, g, mw_R rd))) rfl (st_iald (n := 240) rfl q15) ?_
        obtain ⟨x16, hx16, hf⟩ := rh_bq hf
        refine rh_Ex.call (j := 223) (rc := some 11) [.ref 0, .int (h 13 (p0 + (1 : Int32)).toNatClampNeg), .int (h 13 (p0 + (2 : Int32)).toNatClampNeg)] [] (some (.int x16.1)) rfl rfl rfl (Nat.le_of_ble_eq_true rfl) (R_Mo_tryStep d rd h g (h 13 (p0 + (1 : Int32)).toNatClampNeg) (h 13 (p0 + (2 : Int32)).toNatClampNeg) hx16) ?_
        show rh_Ex _ _ _ ((92, [some (.ref 0), some (.int p0), some (.int (h 13 (p0 + (1 : Int32)).toNatClampNeg)), none], [.int x16.1]), (x16.2.1, g, mw_R x16.2.2)) _ _
        refine rh_Ex.blk 2 (s' := ((94, [some (.ref 0), some (.int p0), some (.int (h 13 (p0 + (1 : Int32)).toNatClampNeg)), some (.int x16.1)], [.int x16.1]), (x16.2.1, g, mw_R x16.2.2))) rfl ?_
        by_cases q17 : 0 ≤ x16.1
        · rw [if_pos q17] at hf
          refine rh_Ex.stp (s' := ((99, [some (.ref 0), some (.int p0), some (.int (h 13 (p0 + (1 : Int32)).toNatClampNeg)), some (.int x16.1)], []), (x16.2.1, g, mw_R x16.2.2))) rfl (st_ifge_p q17) ?_
          refine rh_Ex.blk 1 (s' := ((100, [some (.ref 0), some (.int p0), some (.int (h 13 (p0 + (1 : Int32)).toNatClampNeg)), some (.int x16.1)], [.ref 0]), (x16.2.1, g, mw_R x16.2.2))) rfl ?_
          obtain ⟨x18, hx18, hf⟩ := rh_bq hf
          refine rh_Ex.call (j := 224) (rc := some 11) [.ref 0] [] none rfl rfl rfl (Nat.le_of_ble_eq_true rfl) (R_Mo_doTried (d + 269) x16.2.2 x16.2.1 g  hx18) ?_
          show rh_Ex _ _ _ ((103, [some (.ref 0), some (.int p0), some (.int (h 13 (p0 + (1 : Int32)).toNatClampNeg)), some (.int x16.1)], []), (x18, g, mw_R x16.2.2)) _ _
          refine rh_Ex.blk 1 (s' := ((104, [some (.ref 0), some (.int p0), some (.int (h 13 (p0 + (1 : Int32)).toNatClampNeg)), some (.int x16.1)], [.int (1 : Int32)]), (x18, g, mw_R x16.2.2))) rfl ?_
          obtain rfl := Option.some.inj hf
          exact rh_Ex.ret rfl ⟨rfl, Or.inr rfl⟩
        · rw [if_neg q17] at hf
          refine rh_Ex.stp (s' := ((97, [some (.ref 0), some (.int p0), some (.int (h 13 (p0 + (1 : Int32)).toNatClampNeg)), some (.int x16.1)], []), (x16.2.1, g, mw_R x16.2.2))) rfl (st_ifge_n q17) ?_
          refine rh_Ex.blk 1 (s' := ((98, [some (.ref 0), some (.int p0), some (.int (h 13 (p0 + (1 : Int32)).toNatClampNeg)), some (.int x16.1)], [.int (0 : Int32)]), (x16.2.1, g, mw_R x16.2.2))) rfl ?_
          obtain rfl := Option.some.inj hf
          exact rh_Ex.ret rfl ⟨rfl, Or.inl rfl⟩
def b_Mo_lay_11_10_2 (u2 : Int32) : (Int32 × (Nat → Nat → Int32)) → Option ((Int32 × (Nat → Nat → Int32)) ⊕ ((Nat → Nat → Int32))) := fun s2 =>
  if (11 : Int32) ≤ s2.1 then
    some (.inr s2.2)
  else
    rh_g (0 ≤ s2.1.toInt ∧ s2.1.toInt < ((11 : Nat) : Int)) (
      rh_g (0 ≤ (u2 + s2.1).toInt ∧ (u2 + s2.1).toInt < ((132 : Nat) : Int)) (
        some (.inl (s2.1 + (1 : Int32), rh_up s2.2 10 (u2 + s2.1).toNatClampNeg (s2.2 11 s2.1.toNatClampNeg)))
      )
    )
def f_Mo_lay_11_10 (h : Nat → Nat → Int32) (p0 : Int32) : Option ((Nat → Nat → Int32)) :=
  (rh_loop (b_Mo_lay_11_10_2 p0) rh_N ((0 : Int32), h)).bind (fun r5 =>
    some (r5)
  )
set_option maxRecDepth 20000 in
set_option maxHeartbeats 4000000 in
theorem lb_Mo_lay_11_10_2 (d : Nat) (rd : Option Nat) (u2 : Int32) (g : Nat → Nat → Int64) (v9 : Option Value) (h9 : rh_H) : ∀ s2 x9, b_Mo_lay_11_10_2 u2 s2 = some x9 → Sum.elim (fun s2 => rh_Ex (rh_M rh_PT mw_L (d + 0)) mw_L pg_X12_lay ((2, [some (.ref 11), some (.ref 10), some (.int u2), some (.int s2.1)], []), (s2.2, g, mw_R rd)) v9 h9) (fun e9 => rh_Ex (rh_M rh_PT mw_L (d + 0)) mw_L pg_X12_lay ((22, [none, none, none, none], []), (e9, g, mw_R rd)) v9 h9) x9 → rh_Ex (rh_M rh_PT mw_L (d + 0)) mw_L pg_X12_lay ((2, [some (.ref 11), some (.ref 10), some (.int u2), some (.int s2.1)], []), (s2.2, g, mw_R rd)) v9 h9 := by
  intro s2 x9 hf hk
  unfold b_Mo_lay_11_10_2 at hf
  refine rh_Ex.blk 2 (s' := ((5, [some (.ref 11), some (.ref 10), some (.int u2), some (.int s2.1)], [.int (11 : Int32), .int s2.1]), (s2.2, g, mw_R rd))) rfl ?_
  by_cases q2 : (11 : Int32) ≤ s2.1
  · rw [if_pos q2] at hf
    refine rh_Ex.stp (s' := ((22, [some (.ref 11), some (.ref 10), some (.int u2), some (.int s2.1)], []), (s2.2, g, mw_R rd))) rfl (st_icge_p q2) ?_
    obtain rfl := Option.some.inj hf
    refine rh_Ex.fgt [none, none, none, none] trivial ?_
    exact hk
  · rw [if_neg q2] at hf
    refine rh_Ex.stp (s' := ((8, [some (.ref 11), some (.ref 10), some (.int u2), some (.int s2.1)], []), (s2.2, g, mw_R rd))) rfl (st_icge_n q2) ?_
    refine rh_Ex.blk 6 (s' := ((14, [some (.ref 11), some (.ref 10), some (.int u2), some (.int s2.1)], [.int s2.1, .ref 11, .int (u2 + s2.1), .ref 10]), (s2.2, g, mw_R rd))) rfl ?_
    obtain ⟨q3, hf⟩ := rh_gq hf
    refine rh_Ex.stp (s' := ((15, [some (.ref 11), some (.ref 10), some (.int u2), some (.int s2.1)], [.int (s2.2 11 s2.1.toNatClampNeg), .int (u2 + s2.1), .ref 10]), (s2.2, g, mw_R rd))) rfl (st_iald (n := 11) rfl q3) ?_
    obtain ⟨q4, hf⟩ := rh_gq hf
    refine rh_Ex.stp (s' := ((16, [some (.ref 11), some (.ref 10), some (.int u2), some (.int s2.1)], []), (rh_up s2.2 10 (u2 + s2.1).toNatClampNeg (s2.2 11 s2.1.toNatClampNeg), g, mw_R rd))) rfl (st_iast (n := 132) rfl q4) ?_
    refine rh_Ex.blk 2 (s' := ((2, [some (.ref 11), some (.ref 10), some (.int u2), some (.int (s2.1 + (1 : Int32)))], []), (rh_up s2.2 10 (u2 + s2.1).toNatClampNeg (s2.2 11 s2.1.toNatClampNeg), g, mw_R rd))) rfl ?_
    obtain rfl := Option.some.inj hf
    refine rh_Ex.fgt [some (.ref 11), some (.ref 10), some (.int u2), some (.int (s2.1 + (1 : Int32)))] ⟨rfl, rfl, rfl, rfl, trivial⟩ ?_
    exact hk
set_option maxRecDepth 20000 in
set_option maxHeartbeats 4000000 in
theorem R_Mo_lay_11_10 (d : Nat) (rd : Option Nat) (h : Nat → Nat → Int32) (g : Nat → Nat → Int64) (p0 : Int32) {z9 : (Nat → Nat → Int32)} (hf : f_Mo_lay_11_10 h p0 = some z9) : rh_M rh_PT mw_L (d + 1) 218 [.ref 11, .ref 10, .int p0] (h, g, mw_R rd) none (z9, g, mw_R rd) := by
  unfold f_Mo_lay_11_10 at hf
  refine rh_go pt_218 (Nat.le_of_ble_eq_true rfl) (lv := [some (.ref 11), some (.ref 10), some (.int p0), none]) rfl ?_
  refine rh_Ex.blk 2 (s' := ((2, [some (.ref 11), some (.ref 10), some (.int p0), some (.int (0 : Int32))], []), (h, g, mw_R rd))) rfl ?_
  obtain ⟨r5, hr5, hf⟩ := rh_bq hf
  refine rh_Ex.fgt [some (.ref 11), some (.ref 10), some (.int p0), some (.int (0 : Int32))] ⟨rfl, rfl, rfl, rfl, trivial⟩ ?_
  refine rh_Ex.loop _ _ _ (lb_Mo_lay_11_10_2 d rd p0  g _ _) rh_N _ r5 hr5 ?_
  obtain rfl := Option.some.inj hf
  exact rh_Ex.ret rfl trivial
def b_Mo_remember_11_11  : (Int32 × (Nat → Nat → Int32)) → Option ((Int32 × (Nat → Nat → Int32)) ⊕ ((Nat → Nat → Int32))) := fun s11 =>
  if (121 : Int32) ≤ s11.1 then
    some (.inr s11.2)
  else
    rh_g (0 ≤ (s11.1 + (11 : Int32)).toInt ∧ (s11.1 + (11 : Int32)).toInt < ((132 : Nat) : Int)) (
      rh_g (0 ≤ s11.1.toInt ∧ s11.1.toInt < ((132 : Nat) : Int)) (
        some (.inl (s11.1 + (1 : Int32), rh_up s11.2 10 s11.1.toNatClampNeg (s11.2 10 (s11.1 + (11 : Int32)).toNatClampNeg)))
      )
    )
def f_Mo_remember_11 (h : Nat → Nat → Int32) : Option ((Nat → Nat → Int32)) :=
  if (h 0 24) = (12 : Int32) then
    (rh_loop (b_Mo_remember_11_11 ) rh_N ((0 : Int32), h)).bind (fun r6 =>
      (f_Mo_lay_11_10 (rh_up r6 0 24 ((r6 0 24) - (1 : Int32))) ((11 : Int32) * ((r6 0 24) - (1 : Int32)))).bind (fun x7 =>
        some ((rh_up x7 0 24 ((x7 0 24) + (1 : Int32))))
      )
    )
  else
    (f_Mo_lay_11_10 h ((11 : Int32) * (h 0 24))).bind (fun x8 =>
      some ((rh_up x8 0 24 ((x8 0 24) + (1 : Int32))))
    )
set_option maxRecDepth 20000 in
set_option maxHeartbeats 4000000 in
theorem lb_Mo_remember_11_11 (d : Nat) (rd : Option Nat)  (g : Nat → Nat → Int64) (v9 : Option Value) (h9 : rh_H) : ∀ s11 x9, b_Mo_remember_11_11  s11 = some x9 → Sum.elim (fun s11 => rh_Ex (rh_M rh_PT mw_L (d + 1)) mw_L pg_X12_remember ((11, [some (.ref 0), some (.ref 11), some (.int s11.1)], []), (s11.2, g, mw_R rd)) v9 h9) (fun e9 => rh_Ex (rh_M rh_PT mw_L (d + 1)) mw_L pg_X12_remember ((38, [some (.ref 0), some (.ref 11), none], []), (e9, g, mw_R rd)) v9 h9) x9 → rh_Ex (rh_M rh_PT mw_L (d + 1)) mw_L pg_X12_remember ((11, [some (.ref 0), some (.ref 11), some (.int s11.1)], []), (s11.2, g, mw_R rd)) v9 h9 := by
  intro s11 x9 hf hk
  unfold b_Mo_remember_11_11 at hf
  refine rh_Ex.blk 2 (s' := ((14, [some (.ref 0), some (.ref 11), some (.int s11.1)], [.int (121 : Int32), .int s11.1]), (s11.2, g, mw_R rd))) rfl ?_
  by_cases q3 : (121 : Int32) ≤ s11.1
  · rw [if_pos q3] at hf
    refine rh_Ex.stp (s' := ((38, [some (.ref 0), some (.ref 11), some (.int s11.1)], []), (s11.2, g, mw_R rd))) rfl (st_icge_p q3) ?_
    obtain rfl := Option.some.inj hf
    refine rh_Ex.fgt [some (.ref 0), some (.ref 11), none] ⟨rfl, rfl, trivial⟩ ?_
    exact hk
  · rw [if_neg q3] at hf
    refine rh_Ex.stp (s' := ((17, [some (.ref 0), some (.ref 11), some (.int s11.1)], []), (s11.2, g, mw_R rd))) rfl (st_icge_n q3) ?_
    refine rh_Ex.blk 8 (s' := ((30, [some (.ref 0), some (.ref 11), some (.int s11.1)], [.int (s11.1 + (11 : Int32)), .ref 10, .int s11.1, .ref 10]), (s11.2, g, mw_R rd))) rfl ?_
    obtain ⟨q4, hf⟩ := rh_gq hf
    refine rh_Ex.stp (s' := ((31, [some (.ref 0), some (.ref 11), some (.int s11.1)], [.int (s11.2 10 (s11.1 + (11 : Int32)).toNatClampNeg), .int s11.1, .ref 10]), (s11.2, g, mw_R rd))) rfl (st_iald (n := 132) rfl q4) ?_
    obtain ⟨q5, hf⟩ := rh_gq hf
    refine rh_Ex.stp (s' := ((32, [some (.ref 0), some (.ref 11), some (.int s11.1)], []), (rh_up s11.2 10 s11.1.toNatClampNeg (s11.2 10 (s11.1 + (11 : Int32)).toNatClampNeg), g, mw_R rd))) rfl (st_iast (n := 132) rfl q5) ?_
    refine rh_Ex.blk 2 (s' := ((11, [some (.ref 0), some (.ref 11), some (.int (s11.1 + (1 : Int32)))], []), (rh_up s11.2 10 s11.1.toNatClampNeg (s11.2 10 (s11.1 + (11 : Int32)).toNatClampNeg), g, mw_R rd))) rfl ?_
    obtain rfl := Option.some.inj hf
    refine rh_Ex.fgt [some (.ref 0), some (.ref 11), some (.int (s11.1 + (1 : Int32)))] ⟨rfl, rfl, rfl, trivial⟩ ?_
    exact hk
set_option maxRecDepth 20000 in
set_option maxHeartbeats 4000000 in
theorem R_Mo_remember_11 (d : Nat) (rd : Option Nat) (h : Nat → Nat → Int32) (g : Nat → Nat → Int64)  {z9 : (Nat → Nat → Int32)} (hf : f_Mo_remember_11 h = some z9) : rh_M rh_PT mw_L (d + 2) 219 [.ref 0, .ref 11] (h, g, mw_R rd) none (z9, g, mw_R rd) := by
  unfold f_Mo_remember_11 at hf
  refine rh_go pt_219 (Nat.le_of_ble_eq_true rfl) (lv := [some (.ref 0), some (.ref 11), none]) rfl ?_
  refine rh_Ex.blk 3 (s' := ((6, [some (.ref 0), some (.ref 11), none], [.int (12 : Int32), .int (h 0 24)]), (h, g, mw_R rd))) rfl ?_
  by_cases q1 : (h 0 24) = (12 : Int32)
  · rw [if_pos q1] at hf
    refine rh_Ex.stp (s' := ((9, [some (.ref 0), some (.ref 11), none], []), (h, g, mw_R rd))) rfl (st_icne_p q1) ?_
    refine rh_Ex.blk 2 (s' := ((11, [some (.ref 0), some (.ref 11), some (.int (0 : Int32))], []), (h, g, mw_R rd))) rfl ?_
    obtain ⟨r6, hr6, hf⟩ := rh_bq hf
    refine rh_Ex.fgt [some (.ref 0), some (.ref 11), some (.int (0 : Int32))] ⟨rfl, rfl, rfl, trivial⟩ ?_
    refine rh_Ex.loop _ _ _ (lb_Mo_remember_11_11 d rd   g _ _) rh_N _ r6 hr6 ?_
    refine rh_Ex.blk 13 (s' := ((60, [some (.ref 0), some (.ref 11), none], [.int ((11 : Int32) * ((r6 0 24) - (1 : Int32))), .ref 10, .ref 11]), (rh_up r6 0 24 ((r6 0 24) - (1 : Int32)), g, mw_R rd))) rfl ?_
    obtain ⟨x7, hx7, hf⟩ := rh_bq hf
    refine rh_Ex.call (j := 218) (rc := none) [.ref 11, .ref 10, .int ((11 : Int32) * ((r6 0 24) - (1 : Int32)))] [] none rfl rfl trivial (Nat.le_of_ble_eq_true rfl) (R_Mo_lay_11_10 d rd (rh_up r6 0 24 ((r6 0 24) - (1 : Int32))) g ((11 : Int32) * ((r6 0 24) - (1 : Int32))) hx7) ?_
    show rh_Ex _ _ _ ((63, [some (.ref 0), some (.ref 11), none], []), (x7, g, mw_R rd)) _ _
    refine rh_Ex.blk 6 (s' := ((73, [some (.ref 0), some (.ref 11), none], []), (rh_up x7 0 24 ((x7 0 24) + (1 : Int32)), g, mw_R rd))) rfl ?_
    obtain rfl := Option.some.inj hf
    exact rh_Ex.ret rfl trivial
  · rw [if_neg q1] at hf
    refine rh_Ex.stp (s' := ((48, [some (.ref 0), some (.ref 11), none], []), (h, g, mw_R rd))) rfl (st_icne_n q1) ?_
    refine rh_Ex.blk 7 (s' := ((60, [some (.ref 0), some (.ref 11), none], [.int ((11 : Int32) * (h 0 24)), .ref 10, .ref 11]), (h, g, mw_R rd))) rfl ?_
    obtain ⟨x8, hx8, hf⟩ := rh_bq hf
    refine rh_Ex.call (j := 218) (rc := none) [.ref 11, .ref 10, .int ((11 : Int32) * (h 0 24))] [] none rfl rfl trivial (Nat.le_of_ble_eq_true rfl) (R_Mo_lay_11_10 d rd h g ((11 : Int32) * (h 0 24)) hx8) ?_
    show rh_Ex _ _ _ ((63, [some (.ref 0), some (.ref 11), none], []), (x8, g, mw_R rd)) _ _
    refine rh_Ex.blk 6 (s' := ((73, [some (.ref 0), some (.ref 11), none], []), (rh_up x8 0 24 ((x8 0 24) + (1 : Int32)), g, mw_R rd))) rfl ?_
    obtain rfl := Option.some.inj hf
    exact rh_Ex.ret rfl trivial
def b_Mo_day_39  : (Int32 × Int32 × (Nat → Nat → Int32)) → Option ((Int32 × Int32 × (Nat → Nat → Int32)) ⊕ (Int32 × (Nat → Nat → Int32))) := fun s39 =>
  if s39.2.1 = 0 then
    some (.inr (s39.1, s39.2.2))
  else
    if (f_Mo_fine s39.2.2) = 0 then
      some (.inr (s39.1, s39.2.2))
    else
      (f_Mo_readAct_r4 s39.2.2 ((3 : Int32) * s39.1)).bind (fun x5 =>
        (f_Mo_passes_r4 x5 (59 : Int32)).bind (fun x6 =>
          some (.inl (s39.1 + (1 : Int32), x6.1, x6.2))
        )
      )
def b_Mo_day_117 (u1 : Int32) : (Int32 × (Nat → Nat → Int32) × (Option Nat)) → Option ((Int32 × (Nat → Nat → Int32) × (Option Nat)) ⊕ (Int32 × (Nat → Nat → Int32) × (Option Nat))) := fun s117 =>
  if u1 ≤ s117.1 then
    some (.inr (s117.1, s117.2.1, s117.2.2))
  else
    (f_Mo_act s117.2.1 s117.2.2 ((3 : Int32) * s117.1)).bind (fun x13 =>
      if x13.1 = 0 then
        some (.inr (s117.1, x13.2.1, x13.2.2))
      else
        some (.inl (s117.1 + (1 : Int32), x13.2.1, x13.2.2))
    )
def j_Mo_day_166 (h : Nat → Nat → Int32) (rd : Option Nat) (j3 : Int32) (k1 : Int32) : Option (Int32 × (Nat → Nat → Int32) × (Option Nat)) :=
  (f_Mo_tell h k1).bind (fun x18 =>
    (f_Mo_weightOfAll x18 rd (x18 1 (9 : Int32).toNatClampNeg) (x18 1 (10 : Int32).toNatClampNeg)).bind (fun x19 =>
      (f_Mo_tell x19.2.1 x19.1).bind (fun x20 =>
        some ((j3, x20, x19.2.2))
      )
    )
  )
def j_Mo_day_150 (h : Nat → Nat → Int32) (rd : Option Nat) (j1 : Int32) (j3 : Int32) : Option (Int32 × (Nat → Nat → Int32) × (Option Nat)) :=
  if j1 ≤ j3 then
    j_Mo_day_166 (rh_up h 0 8 (0 : Int32)) rd j3 (0 : Int32)
  else
    j_Mo_day_166 (rh_up h 0 8 (0 : Int32)) rd j3 (1 : Int32)
def j_Mo_day_138 (h : Nat → Nat → Int32) (rd : Option Nat) (j1 : Int32) (j3 : Int32) : Option (Int32 × (Nat → Nat → Int32) × (Option Nat)) :=
  if j3 ≤ 0 then
    j_Mo_day_150 h rd j1 j3
  else
    (f_Mo_remember_11 h).bind (fun x21 =>
      j_Mo_day_150 x21 rd j1 j3
    )
def j_Mo_day_89 (h : Nat → Nat → Int32) (j1 : Int32) : Option (Int32 × (Nat → Nat → Int32) × (Option Nat)) :=
  if (f_Mo_fine h) = 0 then
    some (((-1 : Int32) - (h 0 14), h, (some 4)))
  else
    (f_Mo_lay_1_11 h (0 : Int32)).bind (fun x10 =>
      (rh_loop (b_Mo_day_117 j1) rh_N ((0 : Int32), x10, (some 4))).bind (fun r15 =>
        j_Mo_day_138 r15.2.1 r15.2.2 j1 r15.1
      )
    )
def j_Mo_day_70 (h : Nat → Nat → Int32) (j1 : Int32) : Option (Int32 × (Nat → Nat → Int32) × (Option Nat)) :=
  if (h 0 11) ≤ (h 0 13) then
    j_Mo_day_89 h j1
  else
    j_Mo_day_89 (f_Mo_fault h (h 0 13)) j1
def j_Mo_day_38 (h : Nat → Nat → Int32) (j1 : Int32) (k0 : Int32) : Option (Int32 × (Nat → Nat → Int32) × (Option Nat)) :=
  (rh_loop (b_Mo_day_39 ) rh_N (j1, k0, h)).bind (fun r7 =>
    j_Mo_day_70 r7.2 r7.1
  )
def f_Mo_day (h : Nat → Nat → Int32) (rd : Option Nat) : Option (Int32 × (Nat → Nat → Int32) × (Option Nat)) :=
  if ((f_Mo_begin_4 (rh_up h 0 9 (0 : Int32)) (h 0 6) (60 : Int32)) 0 11) ≤ 0 then
    j_Mo_day_38 (rh_up (f_Mo_begin_4 (rh_up h 0 9 (0 : Int32)) (h 0 6) (60 : Int32)) 0 6 (0 : Int32)) (0 : Int32) (0 : Int32)
  else
    j_Mo_day_38 (rh_up (f_Mo_begin_4 (rh_up h 0 9 (0 : Int32)) (h 0 6) (60 : Int32)) 0 6 (0 : Int32)) (0 : Int32) (1 : Int32)
set_option maxRecDepth 20000 in
set_option maxHeartbeats 4000000 in
theorem lb_Mo_day_39 (d : Nat)  (g : Nat → Nat → Int64) (v9 : Option Value) (h9 : rh_H) : ∀ s39 x9, b_Mo_day_39  s39 = some x9 → Sum.elim (fun s39 => rh_Ex (rh_M rh_PT mw_L (d + 271)) mw_L pg_X12_day ((39, [some (.ref 0), some (.int s39.1), some (.int s39.2.1), none], []), (s39.2.2, g, mw_R (some 4))) v9 h9) (fun e9 => rh_Ex (rh_M rh_PT mw_L (d + 271)) mw_L pg_X12_day ((70, [some (.ref 0), some (.int e9.1), none, none], []), (e9.2, g, mw_R (some 4))) v9 h9) x9 → rh_Ex (rh_M rh_PT mw_L (d + 271)) mw_L pg_X12_day ((39, [some (.ref 0), some (.int s39.1), some (.int s39.2.1), none], []), (s39.2.2, g, mw_R (some 4))) v9 h9 := by
  intro s39 x9 hf hk
  unfold b_Mo_day_39 at hf
  refine rh_Ex.blk 1 (s' := ((40, [some (.ref 0), some (.int s39.1), some (.int s39.2.1), none], [.int s39.2.1]), (s39.2.2, g, mw_R (some 4)))) rfl ?_
  by_cases q3 : s39.2.1 = 0
  · rw [if_pos q3] at hf
    refine rh_Ex.stp (s' := ((70, [some (.ref 0), some (.int s39.1), some (.int s39.2.1), none], []), (s39.2.2, g, mw_R (some 4)))) rfl (st_ifeq_p q3) ?_
    obtain rfl := Option.some.inj hf
    refine rh_Ex.fgt [some (.ref 0), some (.int s39.1), none, none] ⟨rfl, rfl, trivial⟩ ?_
    exact hk
  · rw [if_neg q3] at hf
    refine rh_Ex.stp (s' := ((43, [some (.ref 0), some (.int s39.1), some (.int s39.2.1), none], []), (s39.2.2, g, mw_R (some 4)))) rfl (st_ifeq_n q3) ?_
    refine rh_Ex.blk 1 (s' := ((44, [some (.ref 0), some (.int s39.1), some (.int s39.2.1), none], [.ref 0]), (s39.2.2, g, mw_R (some 4)))) rfl ?_
    refine rh_Ex.call (j := 192) (rc := some 11) [.ref 0] [] (some (.int (f_Mo_fine s39.2.2))) rfl rfl rfl (Nat.le_of_ble_eq_true rfl) (R_Mo_fine (d + 270) (some 4) s39.2.2 g  rfl) ?_
    show rh_Ex _ _ _ ((47, [some (.ref 0), some (.int s39.1), some (.int s39.2.1), none], [.int (f_Mo_fine s39.2.2)]), (s39.2.2, g, mw_R (some 4))) _ _
    by_cases q4 : (f_Mo_fine s39.2.2) = 0
    · rw [if_pos q4] at hf
      refine rh_Ex.stp (s' := ((70, [some (.ref 0), some (.int s39.1), some (.int s39.2.1), none], []), (s39.2.2, g, mw_R (some 4)))) rfl (st_ifeq_p q4) ?_
      obtain rfl := Option.some.inj hf
      refine rh_Ex.fgt [some (.ref 0), some (.int s39.1), none, none] ⟨rfl, rfl, trivial⟩ ?_
      exact hk
    · rw [if_neg q4] at hf
      refine rh_Ex.stp (s' := ((50, [some (.ref 0), some (.int s39.1), some (.int s39.2.1), none], []), (s39.2.2, g, mw_R (some 4)))) rfl (st_ifeq_n q4) ?_
      refine rh_Ex.blk 4 (s' := ((54, [some (.ref 0), some (.int s39.1), some (.int s39.2.1), none], [.int ((3 : Int32) * s39.1), .ref 0]), (s39.2.2, g, mw_R (some 4)))) rfl ?_
      obtain ⟨x5, hx5, hf⟩ := rh_bq hf
      refine rh_Ex.call (j := 229) (rc := some 11) [.ref 0, .int ((3 : Int32) * s39.1)] [] none rfl rfl rfl (Nat.le_of_ble_eq_true rfl) (R_Mo_readAct_r4 (d + 267) s39.2.2 g ((3 : Int32) * s39.1) hx5) ?_
      show rh_Ex _ _ _ ((57, [some (.ref 0), some (.int s39.1), some (.int s39.2.1), none], []), (x5, g, mw_R (some 4))) _ _
      refine rh_Ex.blk 3 (s' := ((63, [some (.ref 0), some (.int (s39.1 + (1 : Int32))), some (.int s39.2.1), none], [.int (59 : Int32), .ref 0]), (x5, g, mw_R (some 4)))) rfl ?_
      obtain ⟨x6, hx6, hf⟩ := rh_bq hf
      refine rh_Ex.call (j := 194) (rc := some 11) [.ref 0, .int (59 : Int32)] [] (some (.int x6.1)) rfl rfl rfl (Nat.le_of_ble_eq_true rfl) (R_Mo_passes_r4 (d + 269) x5 g (59 : Int32) hx6) ?_
      show rh_Ex _ _ _ ((66, [some (.ref 0), some (.int (s39.1 + (1 : Int32))), some (.int s39.2.1), none], [.int x6.1]), (x6.2, g, mw_R (some 4))) _ _
      refine rh_Ex.blk 2 (s' := ((39, [some (.ref 0), some (.int (s39.1 + (1 : Int32))), some (.int x6.1), none], []), (x6.2, g, mw_R (some 4)))) rfl ?_
      obtain rfl := Option.some.inj hf
      refine rh_Ex.fgt [some (.ref 0), some (.int (s39.1 + (1 : Int32))), some (.int x6.1), none] ⟨rfl, rfl, rfl, trivial⟩ ?_
      exact hk
set_option maxRecDepth 20000 in
set_option maxHeartbeats 4000000 in
theorem lb_Mo_day_117 (d : Nat) (u1 : Int32) (g : Nat → Nat → Int64) (v9 : Option Value) (h9 : rh_H) : ∀ s117 x9, b_Mo_day_117 u1 s117 = some x9 → Sum.elim (fun s117 => rh_Ex (rh_M rh_PT mw_L (d + 271)) mw_L pg_X12_day ((117, [some (.ref 0), some (.int u1), none, some (.int s117.1)], []), (s117.2.1, g, mw_R s117.2.2)) v9 h9) (fun e9 => rh_Ex (rh_M rh_PT mw_L (d + 271)) mw_L pg_X12_day ((138, [some (.ref 0), some (.int u1), none, some (.int e9.1)], []), (e9.2.1, g, mw_R e9.2.2)) v9 h9) x9 → rh_Ex (rh_M rh_PT mw_L (d + 271)) mw_L pg_X12_day ((117, [some (.ref 0), some (.int u1), none, some (.int s117.1)], []), (s117.2.1, g, mw_R s117.2.2)) v9 h9 := by
  intro s117 x9 hf hk
  unfold b_Mo_day_117 at hf
  refine rh_Ex.blk 2 (s' := ((119, [some (.ref 0), some (.int u1), none, some (.int s117.1)], [.int u1, .int s117.1]), (s117.2.1, g, mw_R s117.2.2))) rfl ?_
  by_cases q12 : u1 ≤ s117.1
  · rw [if_pos q12] at hf
    refine rh_Ex.stp (s' := ((138, [some (.ref 0), some (.int u1), none, some (.int s117.1)], []), (s117.2.1, g, mw_R s117.2.2))) rfl (st_icge_p q12) ?_
    obtain rfl := Option.some.inj hf
    refine rh_Ex.fgt [some (.ref 0), some (.int u1), none, some (.int s117.1)] ⟨rfl, rfl, rfl, trivial⟩ ?_
    exact hk
  · rw [if_neg q12] at hf
    refine rh_Ex.stp (s' := ((122, [some (.ref 0), some (.int u1), none, some (.int s117.1)], []), (s117.2.1, g, mw_R s117.2.2))) rfl (st_icge_n q12) ?_
    refine rh_Ex.blk 4 (s' := ((126, [some (.ref 0), some (.int u1), none, some (.int s117.1)], [.int ((3 : Int32) * s117.1), .ref 0]), (s117.2.1, g, mw_R s117.2.2))) rfl ?_
    obtain ⟨x13, hx13, hf⟩ := rh_bq hf
    refine rh_Ex.call (j := 230) (rc := some 11) [.ref 0, .int ((3 : Int32) * s117.1)] [] (some (.int x13.1)) rfl rfl rfl (Nat.le_of_ble_eq_true rfl) (R_Mo_act d s117.2.2 s117.2.1 g ((3 : Int32) * s117.1) hx13) ?_
    show rh_Ex _ _ _ ((129, [some (.ref 0), some (.int u1), none, some (.int s117.1)], [.int x13.1]), (x13.2.1, g, mw_R x13.2.2)) _ _
    by_cases q14 : x13.1 = 0
    · rw [if_pos q14] at hf
      refine rh_Ex.stp (s' := ((138, [some (.ref 0), some (.int u1), none, some (.int s117.1)], []), (x13.2.1, g, mw_R x13.2.2))) rfl (st_ifeq_p q14) ?_
      obtain rfl := Option.some.inj hf
      refine rh_Ex.fgt [some (.ref 0), some (.int u1), none, some (.int s117.1)] ⟨rfl, rfl, rfl, trivial⟩ ?_
      exact hk
    · rw [if_neg q14] at hf
      refine rh_Ex.stp (s' := ((132, [some (.ref 0), some (.int u1), none, some (.int s117.1)], []), (x13.2.1, g, mw_R x13.2.2))) rfl (st_ifeq_n q14) ?_
      refine rh_Ex.blk 2 (s' := ((117, [some (.ref 0), some (.int u1), none, some (.int (s117.1 + (1 : Int32)))], []), (x13.2.1, g, mw_R x13.2.2))) rfl ?_
      obtain rfl := Option.some.inj hf
      refine rh_Ex.fgt [some (.ref 0), some (.int u1), none, some (.int (s117.1 + (1 : Int32)))] ⟨rfl, rfl, rfl, trivial⟩ ?_
      exact hk
set_option maxRecDepth 20000 in
set_option maxHeartbeats 4000000 in
theorem lj_Mo_day_166 (d : Nat) (h : Nat → Nat → Int32) (rd : Option Nat) (j3 : Int32) (k1 : Int32) (g : Nat → Nat → Int64) {z9 : Int32 × (Nat → Nat → Int32) × (Option Nat)} (hf : j_Mo_day_166 h rd j3 k1 = some z9) : rh_Ex (rh_M rh_PT mw_L (d + 271)) mw_L pg_X12_day ((166, [some (.ref 0), none, none, some (.int j3)], [.int k1, .ref 0]), (h, g, mw_R rd)) (some (.int z9.1)) (z9.2.1, g, mw_R z9.2.2) := by
  unfold j_Mo_day_166 at hf
  obtain ⟨x18, hx18, hf⟩ := rh_bq hf
  refine rh_Ex.call (j := 182) (rc := some 11) [.ref 0, .int k1] [] none rfl rfl rfl (Nat.le_of_ble_eq_true rfl) (R_Mo_tell (d + 270) rd h g k1 hx18) ?_
  show rh_Ex _ _ _ ((169, [some (.ref 0), none, none, some (.int j3)], []), (x18, g, mw_R rd)) _ _
  refine rh_Ex.blk 5 (s' := ((177, [some (.ref 0), none, none, some (.int j3)], [.int (9 : Int32), .ref 1, .ref 0, .ref 0]), (x18, g, mw_R rd))) rfl ?_
  refine rh_Ex.stp (s' := ((178, [some (.ref 0), none, none, some (.int j3)], [.int (x18 1 (9 : Int32).toNatClampNeg), .ref 0, .ref 0]), (x18, g, mw_R rd))) rfl (st_iald (n := 11) rfl (by decide)) ?_
  refine rh_Ex.blk 3 (s' := ((184, [some (.ref 0), none, none, some (.int j3)], [.int (10 : Int32), .ref 1, .int (x18 1 (9 : Int32).toNatClampNeg), .ref 0, .ref 0]), (x18, g, mw_R rd))) rfl ?_
  refine rh_Ex.stp (s' := ((185, [some (.ref 0), none, none, some (.int j3)], [.int (x18 1 (10 : Int32).toNatClampNeg), .int (x18 1 (9 : Int32).toNatClampNeg), .ref 0, .ref 0]), (x18, g, mw_R rd))) rfl (st_iald (n := 11) rfl (by decide)) ?_
  obtain ⟨x19, hx19, hf⟩ := rh_bq hf
  refine rh_Ex.call (j := 207) (rc := some 11) [.ref 0, .int (x18 1 (9 : Int32).toNatClampNeg), .int (x18 1 (10 : Int32).toNatClampNeg)] [.ref 0] (some (.int x19.1)) rfl rfl rfl (Nat.le_of_ble_eq_true rfl) (R_Mo_weightOfAll (d + 3) rd x18 g (x18 1 (9 : Int32).toNatClampNeg) (x18 1 (10 : Int32).toNatClampNeg) hx19) ?_
  show rh_Ex _ _ _ ((188, [some (.ref 0), none, none, some (.int j3)], [.int x19.1, .ref 0]), (x19.2.1, g, mw_R x19.2.2)) _ _
  obtain ⟨x20, hx20, hf⟩ := rh_bq hf
  refine rh_Ex.call (j := 182) (rc := some 11) [.ref 0, .int x19.1] [] none rfl rfl rfl (Nat.le_of_ble_eq_true rfl) (R_Mo_tell (d + 270) x19.2.2 x19.2.1 g x19.1 hx20) ?_
  show rh_Ex _ _ _ ((191, [some (.ref 0), none, none, some (.int j3)], []), (x20, g, mw_R x19.2.2)) _ _
  refine rh_Ex.blk 1 (s' := ((192, [some (.ref 0), none, none, some (.int j3)], [.int j3]), (x20, g, mw_R x19.2.2))) rfl ?_
  obtain rfl := Option.some.inj hf
  exact rh_Ex.ret rfl rfl
set_option maxRecDepth 20000 in
set_option maxHeartbeats 4000000 in
theorem lj_Mo_day_150 (d : Nat) (h : Nat → Nat → Int32) (rd : Option Nat) (j1 : Int32) (j3 : Int32) (g : Nat → Nat → Int64) {z9 : Int32 × (Nat → Nat → Int32) × (Option Nat)} (hf : j_Mo_day_150 h rd j1 j3 = some z9) : rh_Ex (rh_M rh_PT mw_L (d + 271)) mw_L pg_X12_day ((150, [some (.ref 0), some (.int j1), none, some (.int j3)], []), (h, g, mw_R rd)) (some (.int z9.1)) (z9.2.1, g, mw_R z9.2.2) := by
  unfold j_Mo_day_150 at hf
  refine rh_Ex.blk 6 (s' := ((158, [some (.ref 0), some (.int j1), none, some (.int j3)], [.int j1, .int j3, .ref 0]), (rh_up h 0 8 (0 : Int32), g, mw_R rd))) rfl ?_
  by_cases q17 : j1 ≤ j3
  · rw [if_pos q17] at hf
    refine rh_Ex.stp (s' := ((165, [some (.ref 0), some (.int j1), none, some (.int j3)], [.ref 0]), (rh_up h 0 8 (0 : Int32), g, mw_R rd))) rfl (st_icge_p q17) ?_
    refine rh_Ex.blk 1 (s' := ((166, [some (.ref 0), some (.int j1), none, some (.int j3)], [.int (0 : Int32), .ref 0]), (rh_up h 0 8 (0 : Int32), g, mw_R rd))) rfl ?_
    refine rh_Ex.fgt [some (.ref 0), none, none, some (.int j3)] ⟨rfl, rfl, trivial⟩ ?_
    exact lj_Mo_day_166 d (rh_up h 0 8 (0 : Int32)) rd j3 (0 : Int32) g hf
  · rw [if_neg q17] at hf
    refine rh_Ex.stp (s' := ((161, [some (.ref 0), some (.int j1), none, some (.int j3)], [.ref 0]), (rh_up h 0 8 (0 : Int32), g, mw_R rd))) rfl (st_icge_n q17) ?_
    refine rh_Ex.blk 2 (s' := ((166, [some (.ref 0), some (.int j1), none, some (.int j3)], [.int (1 : Int32), .ref 0]), (rh_up h 0 8 (0 : Int32), g, mw_R rd))) rfl ?_
    refine rh_Ex.fgt [some (.ref 0), none, none, some (.int j3)] ⟨rfl, rfl, trivial⟩ ?_
    exact lj_Mo_day_166 d (rh_up h 0 8 (0 : Int32)) rd j3 (1 : Int32) g hf
set_option maxRecDepth 20000 in
set_option maxHeartbeats 4000000 in
theorem lj_Mo_day_138 (d : Nat) (h : Nat → Nat → Int32) (rd : Option Nat) (j1 : Int32) (j3 : Int32) (g : Nat → Nat → Int64) {z9 : Int32 × (Nat → Nat → Int32) × (Option Nat)} (hf : j_Mo_day_138 h rd j1 j3 = some z9) : rh_Ex (rh_M rh_PT mw_L (d + 271)) mw_L pg_X12_day ((138, [some (.ref 0), some (.int j1), none, some (.int j3)], []), (h, g, mw_R rd)) (some (.int z9.1)) (z9.2.1, g, mw_R z9.2.2) := by
  unfold j_Mo_day_138 at hf
  refine rh_Ex.blk 1 (s' := ((139, [some (.ref 0), some (.int j1), none, some (.int j3)], [.int j3]), (h, g, mw_R rd))) rfl ?_
  by_cases q16 : j3 ≤ 0
  · rw [if_pos q16] at hf
    refine rh_Ex.stp (s' := ((150, [some (.ref 0), some (.int j1), none, some (.int j3)], []), (h, g, mw_R rd))) rfl (st_ifle_p q16) ?_
    refine rh_Ex.fgt [some (.ref 0), some (.int j1), none, some (.int j3)] ⟨rfl, rfl, rfl, trivial⟩ ?_
    exact lj_Mo_day_150 d h rd j1 j3 g hf
  · rw [if_neg q16] at hf
    refine rh_Ex.stp (s' := ((142, [some (.ref 0), some (.int j1), none, some (.int j3)], []), (h, g, mw_R rd))) rfl (st_ifle_n q16) ?_
    refine rh_Ex.blk 3 (s' := ((147, [some (.ref 0), some (.int j1), none, some (.int j3)], [.ref 11, .ref 0]), (h, g, mw_R rd))) rfl ?_
    obtain ⟨x21, hx21, hf⟩ := rh_bq hf
    refine rh_Ex.call (j := 219) (rc := some 11) [.ref 0, .ref 11] [] none rfl rfl rfl (Nat.le_of_ble_eq_true rfl) (R_Mo_remember_11 (d + 269) rd h g  hx21) ?_
    show rh_Ex _ _ _ ((150, [some (.ref 0), some (.int j1), none, some (.int j3)], []), (x21, g, mw_R rd)) _ _
    refine rh_Ex.fgt [some (.ref 0), some (.int j1), none, some (.int j3)] ⟨rfl, rfl, rfl, trivial⟩ ?_
    exact lj_Mo_day_150 d x21 rd j1 j3 g hf
set_option maxRecDepth 20000 in
set_option maxHeartbeats 4000000 in
theorem lj_Mo_day_89 (d : Nat) (h : Nat → Nat → Int32) (j1 : Int32) (g : Nat → Nat → Int64) {z9 : Int32 × (Nat → Nat → Int32) × (Option Nat)} (hf : j_Mo_day_89 h j1 = some z9) : rh_Ex (rh_M rh_PT mw_L (d + 271)) mw_L pg_X12_day ((89, [some (.ref 0), some (.int j1), none, none], []), (h, g, mw_R (some 4))) (some (.int z9.1)) (z9.2.1, g, mw_R z9.2.2) := by
  unfold j_Mo_day_89 at hf
  refine rh_Ex.blk 1 (s' := ((90, [some (.ref 0), some (.int j1), none, none], [.ref 0]), (h, g, mw_R (some 4)))) rfl ?_
  refine rh_Ex.call (j := 192) (rc := some 11) [.ref 0] [] (some (.int (f_Mo_fine h))) rfl rfl rfl (Nat.le_of_ble_eq_true rfl) (R_Mo_fine (d + 270) (some 4) h g  rfl) ?_
  show rh_Ex _ _ _ ((93, [some (.ref 0), some (.int j1), none, none], [.int (f_Mo_fine h)]), (h, g, mw_R (some 4))) _ _
  by_cases q9 : (f_Mo_fine h) = 0
  · rw [if_pos q9] at hf
    refine rh_Ex.stp (s' := ((96, [some (.ref 0), some (.int j1), none, none], []), (h, g, mw_R (some 4)))) rfl (st_ifne_p q9) ?_
    refine rh_Ex.blk 4 (s' := ((102, [some (.ref 0), some (.int j1), none, none], [.int ((-1 : Int32) - (h 0 14))]), (h, g, mw_R (some 4)))) rfl ?_
    obtain rfl := Option.some.inj hf
    exact rh_Ex.ret rfl rfl
  · rw [if_neg q9] at hf
    refine rh_Ex.stp (s' := ((103, [some (.ref 0), some (.int j1), none, none], []), (h, g, mw_R (some 4)))) rfl (st_ifne_n q9) ?_
    refine rh_Ex.blk 5 (s' := ((112, [some (.ref 0), some (.int j1), none, none], [.int (0 : Int32), .ref 11, .ref 1]), (h, g, mw_R (some 4)))) rfl ?_
    obtain ⟨x10, hx10, hf⟩ := rh_bq hf
    refine rh_Ex.call (j := 218) (rc := none) [.ref 1, .ref 11, .int (0 : Int32)] [] none rfl rfl trivial (Nat.le_of_ble_eq_true rfl) (R_Mo_lay_1_11 (d + 270) (some 4) h g (0 : Int32) hx10) ?_
    show rh_Ex _ _ _ ((115, [some (.ref 0), some (.int j1), none, none], []), (x10, g, mw_R (some 4))) _ _
    refine rh_Ex.blk 2 (s' := ((117, [some (.ref 0), some (.int j1), none, some (.int (0 : Int32))], []), (x10, g, mw_R (some 4)))) rfl ?_
    obtain ⟨r15, hr15, hf⟩ := rh_bq hf
    refine rh_Ex.fgt [some (.ref 0), some (.int j1), none, some (.int (0 : Int32))] ⟨rfl, rfl, rfl, trivial⟩ ?_
    refine rh_Ex.loop _ _ _ (lb_Mo_day_117 d j1  g _ _) rh_N _ r15 hr15 ?_
    refine rh_Ex.fgt [some (.ref 0), some (.int j1), none, some (.int r15.1)] ⟨rfl, rfl, rfl, trivial⟩ ?_
    exact lj_Mo_day_138 d r15.2.1 r15.2.2 j1 r15.1 g hf
set_option maxRecDepth 20000 in
set_option maxHeartbeats 4000000 in
theorem lj_Mo_day_70 (d : Nat) (h : Nat → Nat → Int32) (j1 : Int32) (g : Nat → Nat → Int64) {z9 : Int32 × (Nat → Nat → Int32) × (Option Nat)} (hf : j_Mo_day_70 h j1 = some z9) : rh_Ex (rh_M rh_PT mw_L (d + 271)) mw_L pg_X12_day ((70, [some (.ref 0), some (.int j1), none, none], []), (h, g, mw_R (some 4))) (some (.int z9.1)) (z9.2.1, g, mw_R z9.2.2) := by
  unfold j_Mo_day_70 at hf
  refine rh_Ex.blk 4 (s' := ((78, [some (.ref 0), some (.int j1), none, none], [.int (h 0 11), .int (h 0 13)]), (h, g, mw_R (some 4)))) rfl ?_
  by_cases q8 : (h 0 11) ≤ (h 0 13)
  · rw [if_pos q8] at hf
    refine rh_Ex.stp (s' := ((89, [some (.ref 0), some (.int j1), none, none], []), (h, g, mw_R (some 4)))) rfl (st_icge_p q8) ?_
    refine rh_Ex.fgt [some (.ref 0), some (.int j1), none, none] ⟨rfl, rfl, trivial⟩ ?_
    exact lj_Mo_day_89 d h j1 g hf
  · rw [if_neg q8] at hf
    refine rh_Ex.stp (s' := ((81, [some (.ref 0), some (.int j1), none, none], []), (h, g, mw_R (some 4)))) rfl (st_icge_n q8) ?_
    refine rh_Ex.blk 3 (s' := ((86, [some (.ref 0), some (.int j1), none, none], [.int (h 0 13), .ref 0]), (h, g, mw_R (some 4)))) rfl ?_
    refine rh_Ex.call (j := 193) (rc := some 11) [.ref 0, .int (h 0 13)] [] none rfl rfl rfl (Nat.le_of_ble_eq_true rfl) (R_Mo_fault (d + 269) (some 4) h g (h 0 13) rfl) ?_
    show rh_Ex _ _ _ ((89, [some (.ref 0), some (.int j1), none, none], []), ((f_Mo_fault h (h 0 13)), g, mw_R (some 4))) _ _
    refine rh_Ex.fgt [some (.ref 0), some (.int j1), none, none] ⟨rfl, rfl, trivial⟩ ?_
    exact lj_Mo_day_89 d (f_Mo_fault h (h 0 13)) j1 g hf
set_option maxRecDepth 20000 in
set_option maxHeartbeats 4000000 in
theorem lj_Mo_day_38 (d : Nat) (h : Nat → Nat → Int32) (j1 : Int32) (k0 : Int32) (g : Nat → Nat → Int64) {z9 : Int32 × (Nat → Nat → Int32) × (Option Nat)} (hf : j_Mo_day_38 h j1 k0 = some z9) : rh_Ex (rh_M rh_PT mw_L (d + 271)) mw_L pg_X12_day ((38, [some (.ref 0), some (.int j1), none, none], [.int k0]), (h, g, mw_R (some 4))) (some (.int z9.1)) (z9.2.1, g, mw_R z9.2.2) := by
  unfold j_Mo_day_38 at hf
  refine rh_Ex.blk 1 (s' := ((39, [some (.ref 0), some (.int j1), some (.int k0), none], []), (h, g, mw_R (some 4)))) rfl ?_
  obtain ⟨r7, hr7, hf⟩ := rh_bq hf
  refine rh_Ex.fgt [some (.ref 0), some (.int j1), some (.int k0), none] ⟨rfl, rfl, rfl, trivial⟩ ?_
  refine rh_Ex.loop _ _ _ (lb_Mo_day_39 d   g _ _) rh_N _ r7 hr7 ?_
  refine rh_Ex.fgt [some (.ref 0), some (.int r7.1), none, none] ⟨rfl, rfl, trivial⟩ ?_
  exact lj_Mo_day_70 d r7.2 r7.1 g hf
set_option maxRecDepth 20000 in
set_option maxHeartbeats 4000000 in
theorem R_Mo_day (d : Nat) (rd : Option Nat) (h : Nat → Nat → Int32) (g : Nat → Nat → Int64)  {z9 : Int32 × (Nat → Nat → Int32) × (Option Nat)} (hf : f_Mo_day h rd = some z9) : rh_M rh_PT mw_L (d + 272) 228 [.ref 0] (h, g, mw_R rd) (some (.int z9.1)) (z9.2.1, g, mw_R z9.2.2) := by
  unfold f_Mo_day at hf
  refine rh_go pt_228 (Nat.le_of_ble_eq_true rfl) (lv := [some (.ref 0), none, none, none]) rfl ?_
  refine rh_Ex.blk 9 (s' := ((16, [some (.ref 0), none, none, none], [.int (60 : Int32), .int (h 0 6), .ref 4, .ref 0]), (rh_up h 0 9 (0 : Int32), g, mw_R rd))) rfl ?_
  refine rh_Ex.call (j := 190) (rc := some 11) [.ref 0, .ref 4, .int (h 0 6), .int (60 : Int32)] [] none rfl rfl rfl (Nat.le_of_ble_eq_true rfl) (R_Mo_begin_4 (d + 270) rd (rh_up h 0 9 (0 : Int32)) g (h 0 6) (60 : Int32) rfl) ?_
  show rh_Ex _ _ _ ((19, [some (.ref 0), none, none, none], []), ((f_Mo_begin_4 (rh_up h 0 9 (0 : Int32)) (h 0 6) (60 : Int32)), g, mw_R (some 4))) _ _
  refine rh_Ex.blk 7 (s' := ((30, [some (.ref 0), some (.int (0 : Int32)), none, none], [.int ((f_Mo_begin_4 (rh_up h 0 9 (0 : Int32)) (h 0 6) (60 : Int32)) 0 11)]), (rh_up (f_Mo_begin_4 (rh_up h 0 9 (0 : Int32)) (h 0 6) (60 : Int32)) 0 6 (0 : Int32), g, mw_R (some 4)))) rfl ?_
  by_cases q1 : ((f_Mo_begin_4 (rh_up h 0 9 (0 : Int32)) (h 0 6) (60 : Int32)) 0 11) ≤ 0
  · rw [if_pos q1] at hf
    refine rh_Ex.stp (s' := ((37, [some (.ref 0), some (.int (0 : Int32)), none, none], []), (rh_up (f_Mo_begin_4 (rh_up h 0 9 (0 : Int32)) (h 0 6) (60 : Int32)) 0 6 (0 : Int32), g, mw_R (some 4)))) rfl (st_ifle_p q1) ?_
    refine rh_Ex.blk 1 (s' := ((38, [some (.ref 0), some (.int (0 : Int32)), none, none], [.int (0 : Int32)]), (rh_up (f_Mo_begin_4 (rh_up h 0 9 (0 : Int32)) (h 0 6) (60 : Int32)) 0 6 (0 : Int32), g, mw_R (some 4)))) rfl ?_
    refine rh_Ex.fgt [some (.ref 0), some (.int (0 : Int32)), none, none] ⟨rfl, rfl, trivial⟩ ?_
    exact lj_Mo_day_38 d (rh_up (f_Mo_begin_4 (rh_up h 0 9 (0 : Int32)) (h 0 6) (60 : Int32)) 0 6 (0 : Int32)) (0 : Int32) (0 : Int32) g hf
  · rw [if_neg q1] at hf
    refine rh_Ex.stp (s' := ((33, [some (.ref 0), some (.int (0 : Int32)), none, none], []), (rh_up (f_Mo_begin_4 (rh_up h 0 9 (0 : Int32)) (h 0 6) (60 : Int32)) 0 6 (0 : Int32), g, mw_R (some 4)))) rfl (st_ifle_n q1) ?_
    refine rh_Ex.blk 2 (s' := ((38, [some (.ref 0), some (.int (0 : Int32)), none, none], [.int (1 : Int32)]), (rh_up (f_Mo_begin_4 (rh_up h 0 9 (0 : Int32)) (h 0 6) (60 : Int32)) 0 6 (0 : Int32), g, mw_R (some 4)))) rfl ?_
    refine rh_Ex.fgt [some (.ref 0), some (.int (0 : Int32)), none, none] ⟨rfl, rfl, trivial⟩ ?_
    exact lj_Mo_day_38 d (rh_up (f_Mo_begin_4 (rh_up h 0 9 (0 : Int32)) (h 0 6) (60 : Int32)) 0 6 (0 : Int32)) (0 : Int32) (1 : Int32) g hf
def b_Mo_undo_26  : (Int32 × (Nat → Nat → Int32)) → Option ((Int32 × (Nat → Nat → Int32)) ⊕ ((Nat → Nat → Int32))) := fun s26 =>
  if (11 : Int32) ≤ s26.1 then
    some (.inr s26.2)
  else
    rh_g (0 ≤ (((11 : Int32) * (s26.2 0 24)) + s26.1).toInt ∧ (((11 : Int32) * (s26.2 0 24)) + s26.1).toInt < ((132 : Nat) : Int)) (
      rh_g (0 ≤ s26.1.toInt ∧ s26.1.toInt < ((11 : Nat) : Int)) (
        some (.inl (s26.1 + (1 : Int32), rh_up s26.2 1 s26.1.toNatClampNeg (s26.2 10 (((11 : Int32) * (s26.2 0 24)) + s26.1).toNatClampNeg)))
      )
    )
def f_Mo_undo (h : Nat → Nat → Int32) : Option (Int32 × (Nat → Nat → Int32)) :=
  if (h 0 24) = 0 then
    some (((-1 : Int32), rh_up h 0 9 (0 : Int32)))
  else
    (rh_loop (b_Mo_undo_26 ) rh_N ((0 : Int32), rh_up (rh_up h 0 9 (0 : Int32)) 0 24 ((h 0 24) - (1 : Int32)))).bind (fun r6 =>
      some ((r6 0 24, r6))
    )
set_option maxRecDepth 20000 in
set_option maxHeartbeats 4000000 in
theorem lb_Mo_undo_26 (d : Nat) (rd : Option Nat)  (g : Nat → Nat → Int64) (v9 : Option Value) (h9 : rh_H) : ∀ s26 x9, b_Mo_undo_26  s26 = some x9 → Sum.elim (fun s26 => rh_Ex (rh_M rh_PT mw_L (d + 0)) mw_L pg_X12_undo ((26, [some (.ref 0), some (.int s26.1)], []), (s26.2, g, mw_R rd)) v9 h9) (fun e9 => rh_Ex (rh_M rh_PT mw_L (d + 0)) mw_L pg_X12_undo ((58, [some (.ref 0), none], []), (e9, g, mw_R rd)) v9 h9) x9 → rh_Ex (rh_M rh_PT mw_L (d + 0)) mw_L pg_X12_undo ((26, [some (.ref 0), some (.int s26.1)], []), (s26.2, g, mw_R rd)) v9 h9 := by
  intro s26 x9 hf hk
  unfold b_Mo_undo_26 at hf
  refine rh_Ex.blk 2 (s' := ((29, [some (.ref 0), some (.int s26.1)], [.int (11 : Int32), .int s26.1]), (s26.2, g, mw_R rd))) rfl ?_
  by_cases q3 : (11 : Int32) ≤ s26.1
  · rw [if_pos q3] at hf
    refine rh_Ex.stp (s' := ((58, [some (.ref 0), some (.int s26.1)], []), (s26.2, g, mw_R rd))) rfl (st_icge_p q3) ?_
    obtain rfl := Option.some.inj hf
    refine rh_Ex.fgt [some (.ref 0), none] ⟨rfl, trivial⟩ ?_
    exact hk
  · rw [if_neg q3] at hf
    refine rh_Ex.stp (s' := ((32, [some (.ref 0), some (.int s26.1)], []), (s26.2, g, mw_R rd))) rfl (st_icge_n q3) ?_
    refine rh_Ex.blk 11 (s' := ((50, [some (.ref 0), some (.int s26.1)], [.int (((11 : Int32) * (s26.2 0 24)) + s26.1), .ref 10, .int s26.1, .ref 1]), (s26.2, g, mw_R rd))) rfl ?_
    obtain ⟨q4, hf⟩ := rh_gq hf
    refine rh_Ex.stp (s' := ((51, [some (.ref 0), some (.int s26.1)], [.int (s26.2 10 (((11 : Int32) * (s26.2 0 24)) + s26.1).toNatClampNeg), .int s26.1, .ref 1]), (s26.2, g, mw_R rd))) rfl (st_iald (n := 132) rfl q4) ?_
    obtain ⟨q5, hf⟩ := rh_gq hf
    refine rh_Ex.stp (s' := ((52, [some (.ref 0), some (.int s26.1)], []), (rh_up s26.2 1 s26.1.toNatClampNeg (s26.2 10 (((11 : Int32) * (s26.2 0 24)) + s26.1).toNatClampNeg), g, mw_R rd))) rfl (st_iast (n := 11) rfl q5) ?_
    refine rh_Ex.blk 2 (s' := ((26, [some (.ref 0), some (.int (s26.1 + (1 : Int32)))], []), (rh_up s26.2 1 s26.1.toNatClampNeg (s26.2 10 (((11 : Int32) * (s26.2 0 24)) + s26.1).toNatClampNeg), g, mw_R rd))) rfl ?_
    obtain rfl := Option.some.inj hf
    refine rh_Ex.fgt [some (.ref 0), some (.int (s26.1 + (1 : Int32)))] ⟨rfl, rfl, trivial⟩ ?_
    exact hk
set_option maxRecDepth 20000 in
set_option maxHeartbeats 4000000 in
theorem R_Mo_undo (d : Nat) (rd : Option Nat) (h : Nat → Nat → Int32) (g : Nat → Nat → Int64)  {z9 : Int32 × (Nat → Nat → Int32)} (hf : f_Mo_undo h = some z9) : rh_M rh_PT mw_L (d + 1) 231 [.ref 0] (h, g, mw_R rd) (some (.int z9.1)) (z9.2, g, mw_R rd) := by
  unfold f_Mo_undo at hf
  refine rh_go pt_231 (Nat.le_of_ble_eq_true rfl) (lv := [some (.ref 0), none]) rfl ?_
  refine rh_Ex.blk 5 (s' := ((9, [some (.ref 0), none], [.int (h 0 24)]), (rh_up h 0 9 (0 : Int32), g, mw_R rd))) rfl ?_
  by_cases q1 : (h 0 24) = 0
  · rw [if_pos q1] at hf
    refine rh_Ex.stp (s' := ((12, [some (.ref 0), none], []), (rh_up h 0 9 (0 : Int32), g, mw_R rd))) rfl (st_ifne_p q1) ?_
    refine rh_Ex.blk 1 (s' := ((13, [some (.ref 0), none], [.int (-1 : Int32)]), (rh_up h 0 9 (0 : Int32), g, mw_R rd))) rfl ?_
    obtain rfl := Option.some.inj hf
    exact rh_Ex.ret rfl rfl
  · rw [if_neg q1] at hf
    refine rh_Ex.stp (s' := ((14, [some (.ref 0), none], []), (rh_up h 0 9 (0 : Int32), g, mw_R rd))) rfl (st_ifne_n q1) ?_
    refine rh_Ex.blk 8 (s' := ((26, [some (.ref 0), some (.int (0 : Int32))], []), (rh_up (rh_up h 0 9 (0 : Int32)) 0 24 ((h 0 24) - (1 : Int32)), g, mw_R rd))) rfl ?_
    obtain ⟨r6, hr6, hf⟩ := rh_bq hf
    refine rh_Ex.fgt [some (.ref 0), some (.int (0 : Int32))] ⟨rfl, rfl, trivial⟩ ?_
    refine rh_Ex.loop _ _ _ (lb_Mo_undo_26 d rd   g _ _) rh_N _ r6 hr6 ?_
    refine rh_Ex.blk 2 (s' := ((62, [some (.ref 0), none], [.int (r6 0 24)]), (r6, g, mw_R rd))) rfl ?_
    obtain rfl := Option.some.inj hf
    exact rh_Ex.ret rfl rfl
def f_Mo_lean (h : Nat → Nat → Int32) (rd : Option Nat) (p0 : Int32) : Option (Int32 × (Nat → Nat → Int32) × (Option Nat)) :=
  if (f_Mo_in p0 (0 : Int32) (99 : Int32)) = 0 then
    some (((f_Mo_lost (rh_up h 0 9 (0 : Int32))).1, (f_Mo_lost (rh_up h 0 9 (0 : Int32))).2, rd))
  else
    (f_Mo_leanOf_1 (rh_up h 0 9 (0 : Int32)) rd (((rh_up h 0 9 (0 : Int32)) 1 (10 : Int32).toNatClampNeg) + p0)).bind (fun x2 =>
      some ((x2.1, x2.2.1, x2.2.2))
    )
set_option maxRecDepth 20000 in
set_option maxHeartbeats 4000000 in
theorem R_Mo_lean (d : Nat) (rd : Option Nat) (h : Nat → Nat → Int32) (g : Nat → Nat → Int64) (p0 : Int32) {z9 : Int32 × (Nat → Nat → Int32) × (Option Nat)} (hf : f_Mo_lean h rd p0 = some z9) : rh_M rh_PT mw_L (d + 269) 232 [.ref 0, .int p0] (h, g, mw_R rd) (some (.int z9.1)) (z9.2.1, g, mw_R z9.2.2) := by
  unfold f_Mo_lean at hf
  refine rh_go pt_232 (Nat.le_of_ble_eq_true rfl) (lv := [some (.ref 0), some (.int p0)]) rfl ?_
  refine rh_Ex.blk 6 (s' := ((9, [some (.ref 0), some (.int p0)], [.int (99 : Int32), .int (0 : Int32), .int p0]), (rh_up h 0 9 (0 : Int32), g, mw_R rd))) rfl ?_
  refine rh_Ex.call (j := 179) (rc := none) [.int p0, .int (0 : Int32), .int (99 : Int32)] [] (some (.int (f_Mo_in p0 (0 : Int32) (99 : Int32)))) rfl rfl trivial (Nat.le_of_ble_eq_true rfl) (R_Mo_in (d + 267) mw_L (mw_R rd) (rh_up h 0 9 (0 : Int32)) g p0 (0 : Int32) (99 : Int32) rfl) ?_
  show rh_Ex _ _ _ ((12, [some (.ref 0), some (.int p0)], [.int (f_Mo_in p0 (0 : Int32) (99 : Int32))]), (rh_up h 0 9 (0 : Int32), g, mw_R rd)) _ _
  by_cases q1 : (f_Mo_in p0 (0 : Int32) (99 : Int32)) = 0
  · rw [if_pos q1] at hf
    refine rh_Ex.stp (s' := ((35, [some (.ref 0), some (.int p0)], []), (rh_up h 0 9 (0 : Int32), g, mw_R rd))) rfl (st_ifeq_p q1) ?_
    refine rh_Ex.blk 1 (s' := ((36, [some (.ref 0), some (.int p0)], [.ref 0]), (rh_up h 0 9 (0 : Int32), g, mw_R rd))) rfl ?_
    refine rh_Ex.call (j := 181) (rc := some 11) [.ref 0] [] (some (.int ((f_Mo_lost (rh_up h 0 9 (0 : Int32))).1))) rfl rfl rfl (Nat.le_of_ble_eq_true rfl) (R_Mo_lost (d + 267) rd (rh_up h 0 9 (0 : Int32)) g  rfl) ?_
    show rh_Ex _ _ _ ((39, [some (.ref 0), some (.int p0)], [.int ((f_Mo_lost (rh_up h 0 9 (0 : Int32))).1)]), ((f_Mo_lost (rh_up h 0 9 (0 : Int32))).2, g, mw_R rd)) _ _
    obtain rfl := Option.some.inj hf
    exact rh_Ex.ret rfl rfl
  · rw [if_neg q1] at hf
    refine rh_Ex.stp (s' := ((15, [some (.ref 0), some (.int p0)], []), (rh_up h 0 9 (0 : Int32), g, mw_R rd))) rfl (st_ifeq_n q1) ?_
    refine rh_Ex.blk 6 (s' := ((26, [some (.ref 0), some (.int p0)], [.int (10 : Int32), .ref 1, .ref 1, .ref 0]), (rh_up h 0 9 (0 : Int32), g, mw_R rd))) rfl ?_
    refine rh_Ex.stp (s' := ((27, [some (.ref 0), some (.int p0)], [.int ((rh_up h 0 9 (0 : Int32)) 1 (10 : Int32).toNatClampNeg), .ref 1, .ref 0]), (rh_up h 0 9 (0 : Int32), g, mw_R rd))) rfl (st_iald (n := 11) rfl (by decide)) ?_
    refine rh_Ex.blk 2 (s' := ((29, [some (.ref 0), some (.int p0)], [.int (((rh_up h 0 9 (0 : Int32)) 1 (10 : Int32).toNatClampNeg) + p0), .ref 1, .ref 0]), (rh_up h 0 9 (0 : Int32), g, mw_R rd))) rfl ?_
    obtain ⟨x2, hx2, hf⟩ := rh_bq hf
    refine rh_Ex.call (j := 215) (rc := some 11) [.ref 0, .ref 1, .int (((rh_up h 0 9 (0 : Int32)) 1 (10 : Int32).toNatClampNeg) + p0)] [] (some (.int x2.1)) rfl rfl rfl (Nat.le_of_ble_eq_true rfl) (R_Mo_leanOf_1 d rd (rh_up h 0 9 (0 : Int32)) g (((rh_up h 0 9 (0 : Int32)) 1 (10 : Int32).toNatClampNeg) + p0) hx2) ?_
    show rh_Ex _ _ _ ((32, [some (.ref 0), some (.int p0)], [.int x2.1]), (x2.2.1, g, mw_R x2.2.2)) _ _
    refine rh_Ex.blk 1 (s' := ((39, [some (.ref 0), some (.int p0)], [.int x2.1]), (x2.2.1, g, mw_R x2.2.2))) rfl ?_
    obtain rfl := Option.some.inj hf
    exact rh_Ex.ret rfl rfl
def b_Mo_tips_7  : (Int32 × (Nat → Nat → Int32) × (Option Nat)) → Option ((Int32 × (Nat → Nat → Int32) × (Option Nat)) ⊕ (((Nat → Nat → Int32) × (Option Nat)) ⊕ (Int32 × (Nat → Nat → Int32) × (Option Nat)))) := fun s7 =>
  if (99 : Int32) < s7.1 then
    some (.inr (.inl (s7.2.1, s7.2.2)))
  else
    (f_Mo_leanOf_1 s7.2.1 s7.2.2 ((s7.2.1 1 (10 : Int32).toNatClampNeg) + s7.1)).bind (fun x3 =>
      if (f_Mo_isTipping x3.2.1 x3.1) = 0 then
        some (.inl (s7.1 + (1 : Int32), x3.2.1, x3.2.2))
      else
        (f_Mo_tell (rh_up x3.2.1 0 8 (0 : Int32)) x3.1).bind (fun x5 =>
          some (.inr (.inr (s7.1, x5, x3.2.2)))
        )
    )
def f_Mo_tips (h : Nat → Nat → Int32) (rd : Option Nat) : Option (Int32 × (Nat → Nat → Int32) × (Option Nat)) :=
  (rh_loop (b_Mo_tips_7 ) rh_N ((0 : Int32), rh_up h 0 9 (0 : Int32), rd)).bind (fun r6 => match r6 with
    | .inl e7 =>
      some (((-2 : Int32), e7.1, e7.2))
    | .inr t8 => some t8)
set_option maxRecDepth 20000 in
set_option maxHeartbeats 4000000 in
theorem lb_Mo_tips_7 (d : Nat)  (g : Nat → Nat → Int64) (v9 : Option Value) (h9 : rh_H) : ∀ s7 x9, b_Mo_tips_7  s7 = some x9 → Sum.elim (fun s7 => rh_Ex (rh_M rh_PT mw_L (d + 268)) mw_L pg_X12_tips ((7, [some (.ref 0), some (.int s7.1), none], []), (s7.2.1, g, mw_R s7.2.2)) v9 h9) (Sum.elim (fun e9 => rh_Ex (rh_M rh_PT mw_L (d + 268)) mw_L pg_X12_tips ((60, [none, none, none], []), (e9.1, g, mw_R e9.2)) v9 h9) (fun t9 => v9 = (some (.int t9.1)) ∧ h9 = (t9.2.1, g, mw_R t9.2.2))) x9 → rh_Ex (rh_M rh_PT mw_L (d + 268)) mw_L pg_X12_tips ((7, [some (.ref 0), some (.int s7.1), none], []), (s7.2.1, g, mw_R s7.2.2)) v9 h9 := by
  intro s7 x9 hf hk
  unfold b_Mo_tips_7 at hf
  refine rh_Ex.blk 2 (s' := ((10, [some (.ref 0), some (.int s7.1), none], [.int (99 : Int32), .int s7.1]), (s7.2.1, g, mw_R s7.2.2))) rfl ?_
  by_cases q2 : (99 : Int32) < s7.1
  · rw [if_pos q2] at hf
    refine rh_Ex.stp (s' := ((60, [some (.ref 0), some (.int s7.1), none], []), (s7.2.1, g, mw_R s7.2.2))) rfl (st_icgt_p q2) ?_
    obtain rfl := Option.some.inj hf
    refine rh_Ex.fgt [none, none, none] trivial ?_
    exact hk
  · rw [if_neg q2] at hf
    refine rh_Ex.stp (s' := ((13, [some (.ref 0), some (.int s7.1), none], []), (s7.2.1, g, mw_R s7.2.2))) rfl (st_icgt_n q2) ?_
    refine rh_Ex.blk 6 (s' := ((24, [some (.ref 0), some (.int s7.1), none], [.int (10 : Int32), .ref 1, .ref 1, .ref 0]), (s7.2.1, g, mw_R s7.2.2))) rfl ?_
    refine rh_Ex.stp (s' := ((25, [some (.ref 0), some (.int s7.1), none], [.int (s7.2.1 1 (10 : Int32).toNatClampNeg), .ref 1, .ref 0]), (s7.2.1, g, mw_R s7.2.2))) rfl (st_iald (n := 11) rfl (by decide)) ?_
    refine rh_Ex.blk 2 (s' := ((27, [some (.ref 0), some (.int s7.1), none], [.int ((s7.2.1 1 (10 : Int32).toNatClampNeg) + s7.1), .ref 1, .ref 0]), (s7.2.1, g, mw_R s7.2.2))) rfl ?_
    obtain ⟨x3, hx3, hf⟩ := rh_bq hf
    refine rh_Ex.call (j := 215) (rc := some 11) [.ref 0, .ref 1, .int ((s7.2.1 1 (10 : Int32).toNatClampNeg) + s7.1)] [] (some (.int x3.1)) rfl rfl rfl (Nat.le_of_ble_eq_true rfl) (R_Mo_leanOf_1 d s7.2.2 s7.2.1 g ((s7.2.1 1 (10 : Int32).toNatClampNeg) + s7.1) hx3) ?_
    show rh_Ex _ _ _ ((30, [some (.ref 0), some (.int s7.1), none], [.int x3.1]), (x3.2.1, g, mw_R x3.2.2)) _ _
    refine rh_Ex.blk 3 (s' := ((33, [some (.ref 0), some (.int s7.1), some (.int x3.1)], [.int x3.1, .ref 0]), (x3.2.1, g, mw_R x3.2.2))) rfl ?_
    refine rh_Ex.call (j := 216) (rc := some 11) [.ref 0, .int x3.1] [] (some (.int (f_Mo_isTipping x3.2.1 x3.1))) rfl rfl rfl (Nat.le_of_ble_eq_true rfl) (R_Mo_isTipping (d + 267) x3.2.2 x3.2.1 g x3.1 rfl) ?_
    show rh_Ex _ _ _ ((36, [some (.ref 0), some (.int s7.1), some (.int x3.1)], [.int (f_Mo_isTipping x3.2.1 x3.1)]), (x3.2.1, g, mw_R x3.2.2)) _ _
    by_cases q4 : (f_Mo_isTipping x3.2.1 x3.1) = 0
    · rw [if_pos q4] at hf
      refine rh_Ex.stp (s' := ((39, [some (.ref 0), some (.int s7.1), some (.int x3.1)], []), (x3.2.1, g, mw_R x3.2.2))) rfl (st_ifne_p q4) ?_
      refine rh_Ex.blk 3 (s' := ((7, [some (.ref 0), some (.int (s7.1 + (1 : Int32))), some (.int x3.1)], []), (x3.2.1, g, mw_R x3.2.2))) rfl ?_
      obtain rfl := Option.some.inj hf
      refine rh_Ex.fgt [some (.ref 0), some (.int (s7.1 + (1 : Int32))), none] ⟨rfl, rfl, trivial⟩ ?_
      exact hk
    · rw [if_neg q4] at hf
      refine rh_Ex.stp (s' := ((42, [some (.ref 0), some (.int s7.1), some (.int x3.1)], []), (x3.2.1, g, mw_R x3.2.2))) rfl (st_ifne_n q4) ?_
      refine rh_Ex.blk 5 (s' := ((49, [some (.ref 0), some (.int s7.1), some (.int x3.1)], [.int x3.1, .ref 0]), (rh_up x3.2.1 0 8 (0 : Int32), g, mw_R x3.2.2))) rfl ?_
      obtain ⟨x5, hx5, hf⟩ := rh_bq hf
      refine rh_Ex.call (j := 182) (rc := some 11) [.ref 0, .int x3.1] [] none rfl rfl rfl (Nat.le_of_ble_eq_true rfl) (R_Mo_tell (d + 267) x3.2.2 (rh_up x3.2.1 0 8 (0 : Int32)) g x3.1 hx5) ?_
      show rh_Ex _ _ _ ((52, [some (.ref 0), some (.int s7.1), some (.int x3.1)], []), (x5, g, mw_R x3.2.2)) _ _
      refine rh_Ex.blk 1 (s' := ((53, [some (.ref 0), some (.int s7.1), some (.int x3.1)], [.int s7.1]), (x5, g, mw_R x3.2.2))) rfl ?_
      obtain rfl := Option.some.inj hf
      obtain ⟨rfl, rfl⟩ := hk
      exact rh_Ex.ret rfl rfl
set_option maxRecDepth 20000 in
set_option maxHeartbeats 4000000 in
theorem R_Mo_tips (d : Nat) (rd : Option Nat) (h : Nat → Nat → Int32) (g : Nat → Nat → Int64)  {z9 : Int32 × (Nat → Nat → Int32) × (Option Nat)} (hf : f_Mo_tips h rd = some z9) : rh_M rh_PT mw_L (d + 269) 233 [.ref 0] (h, g, mw_R rd) (some (.int z9.1)) (z9.2.1, g, mw_R z9.2.2) := by
  unfold f_Mo_tips at hf
  refine rh_go pt_233 (Nat.le_of_ble_eq_true rfl) (lv := [some (.ref 0), none, none]) rfl ?_
  refine rh_Ex.blk 5 (s' := ((7, [some (.ref 0), some (.int (0 : Int32)), none], []), (rh_up h 0 9 (0 : Int32), g, mw_R rd))) rfl ?_
  obtain ⟨r6, hr6, hf⟩ := rh_bq hf
  refine rh_Ex.fgt [some (.ref 0), some (.int (0 : Int32)), none] ⟨rfl, rfl, trivial⟩ ?_
  refine rh_Ex.loop _ _ _ (lb_Mo_tips_7 d   g _ _) rh_N _ r6 hr6 ?_
  rcases r6 with e7 | t8
  · dsimp only at hf
    refine rh_Ex.blk 1 (s' := ((62, [none, none, none], [.int (-2 : Int32)]), (e7.1, g, mw_R e7.2))) rfl ?_
    obtain rfl := Option.some.inj hf
    exact rh_Ex.ret rfl rfl
  · dsimp only at hf
    obtain rfl := Option.some.inj hf
    exact ⟨rfl, rfl⟩
def b_Mo_lighter_24 (u1 : Int32) (u2 : Int32) : (Int32 × (Nat → Nat → Int32) × (Option Nat)) → Option ((Int32 × (Nat → Nat → Int32) × (Option Nat)) ⊕ (((Nat → Nat → Int32) × (Option Nat)) ⊕ (Int32 × (Nat → Nat → Int32) × (Option Nat)))) := fun s24 =>
  if (99 : Int32) < s24.1 then
    some (.inr (.inl (s24.2.1, s24.2.2)))
  else
    (f_Mo_weightOfAll s24.2.1 s24.2.2 u1 ((s24.2.1 1 (10 : Int32).toNatClampNeg) + s24.1)).bind (fun x7 =>
      if x7.1 ≤ u2 then
        (f_Mo_tell (rh_up x7.2.1 0 8 (0 : Int32)) x7.1).bind (fun x9 =>
          some (.inr (.inr (s24.1, x9, x7.2.2)))
        )
      else
        some (.inl (s24.1 + (1 : Int32), x7.2.1, x7.2.2))
    )
def f_Mo_lighter (h : Nat → Nat → Int32) (rd : Option Nat) (p0 : Int32) (p1 : Int32) : Option (Int32 × (Nat → Nat → Int32) × (Option Nat)) :=
  (f_Mo_areFolk (rh_up h 0 9 (0 : Int32)) p0).bind (fun x1 =>
    if x1 = 0 then
      some (((-1 : Int32), rh_up h 0 9 (0 : Int32), rd))
    else
      (f_Mo_isHeavy p1).bind (fun x3 =>
        if x3 = 0 then
          some (((-1 : Int32), rh_up h 0 9 (0 : Int32), rd))
        else
          (rh_loop (b_Mo_lighter_24 p0 p1) rh_N ((0 : Int32), rh_up h 0 9 (0 : Int32), rd)).bind (fun r10 => match r10 with
            | .inl e11 =>
              some (((-2 : Int32), e11.1, e11.2))
            | .inr t12 => some t12)
      )
  )
set_option maxRecDepth 20000 in
set_option maxHeartbeats 4000000 in
theorem lb_Mo_lighter_24 (d : Nat) (u1 : Int32) (u2 : Int32) (g : Nat → Nat → Int64) (v9 : Option Value) (h9 : rh_H) : ∀ s24 x9, b_Mo_lighter_24 u1 u2 s24 = some x9 → Sum.elim (fun s24 => rh_Ex (rh_M rh_PT mw_L (d + 268)) mw_L pg_X12_lighter ((24, [some (.ref 0), some (.int u1), some (.int u2), some (.int s24.1), none], []), (s24.2.1, g, mw_R s24.2.2)) v9 h9) (Sum.elim (fun e9 => rh_Ex (rh_M rh_PT mw_L (d + 268)) mw_L pg_X12_lighter ((74, [none, none, none, none, none], []), (e9.1, g, mw_R e9.2)) v9 h9) (fun t9 => v9 = (some (.int t9.1)) ∧ h9 = (t9.2.1, g, mw_R t9.2.2))) x9 → rh_Ex (rh_M rh_PT mw_L (d + 268)) mw_L pg_X12_lighter ((24, [some (.ref 0), some (.int u1), some (.int u2), some (.int s24.1), none], []), (s24.2.1, g, mw_R s24.2.2)) v9 h9 := by
  intro s24 x9 hf hk
  unfold b_Mo_lighter_24 at hf
  refine rh_Ex.blk 2 (s' := ((27, [some (.ref 0), some (.int u1), some (.int u2), some (.int s24.1), none], [.int (99 : Int32), .int s24.1]), (s24.2.1, g, mw_R s24.2.2))) rfl ?_
  by_cases q6 : (99 : Int32) < s24.1
  · rw [if_pos q6] at hf
    refine rh_Ex.stp (s' := ((74, [some (.ref 0), some (.int u1), some (.int u2), some (.int s24.1), none], []), (s24.2.1, g, mw_R s24.2.2))) rfl (st_icgt_p q6) ?_
    obtain rfl := Option.some.inj hf
    refine rh_Ex.fgt [none, none, none, none, none] trivial ?_
    exact hk
  · rw [if_neg q6] at hf
    refine rh_Ex.stp (s' := ((30, [some (.ref 0), some (.int u1), some (.int u2), some (.int s24.1), none], []), (s24.2.1, g, mw_R s24.2.2))) rfl (st_icgt_n q6) ?_
    refine rh_Ex.blk 5 (s' := ((38, [some (.ref 0), some (.int u1), some (.int u2), some (.int s24.1), none], [.int (10 : Int32), .ref 1, .int u1, .ref 0]), (s24.2.1, g, mw_R s24.2.2))) rfl ?_
    refine rh_Ex.stp (s' := ((39, [some (.ref 0), some (.int u1), some (.int u2), some (.int s24.1), none], [.int (s24.2.1 1 (10 : Int32).toNatClampNeg), .int u1, .ref 0]), (s24.2.1, g, mw_R s24.2.2))) rfl (st_iald (n := 11) rfl (by decide)) ?_
    refine rh_Ex.blk 2 (s' := ((41, [some (.ref 0), some (.int u1), some (.int u2), some (.int s24.1), none], [.int ((s24.2.1 1 (10 : Int32).toNatClampNeg) + s24.1), .int u1, .ref 0]), (s24.2.1, g, mw_R s24.2.2))) rfl ?_
    obtain ⟨x7, hx7, hf⟩ := rh_bq hf
    refine rh_Ex.call (j := 207) (rc := some 11) [.ref 0, .int u1, .int ((s24.2.1 1 (10 : Int32).toNatClampNeg) + s24.1)] [] (some (.int x7.1)) rfl rfl rfl (Nat.le_of_ble_eq_true rfl) (R_Mo_weightOfAll d s24.2.2 s24.2.1 g u1 ((s24.2.1 1 (10 : Int32).toNatClampNeg) + s24.1) hx7) ?_
    show rh_Ex _ _ _ ((44, [some (.ref 0), some (.int u1), some (.int u2), some (.int s24.1), none], [.int x7.1]), (x7.2.1, g, mw_R x7.2.2)) _ _
    refine rh_Ex.blk 3 (s' := ((49, [some (.ref 0), some (.int u1), some (.int u2), some (.int s24.1), some (.int x7.1)], [.int u2, .int x7.1]), (x7.2.1, g, mw_R x7.2.2))) rfl ?_
    by_cases q8 : x7.1 ≤ u2
    · rw [if_pos q8] at hf
      refine rh_Ex.stp (s' := ((55, [some (.ref 0), some (.int u1), some (.int u2), some (.int s24.1), some (.int x7.1)], []), (x7.2.1, g, mw_R x7.2.2))) rfl (st_icle_p q8) ?_
      refine rh_Ex.blk 5 (s' := ((63, [some (.ref 0), some (.int u1), some (.int u2), some (.int s24.1), some (.int x7.1)], [.int x7.1, .ref 0]), (rh_up x7.2.1 0 8 (0 : Int32), g, mw_R x7.2.2))) rfl ?_
      obtain ⟨x9, hx9, hf⟩ := rh_bq hf
      refine rh_Ex.call (j := 182) (rc := some 11) [.ref 0, .int x7.1] [] none rfl rfl rfl (Nat.le_of_ble_eq_true rfl) (R_Mo_tell (d + 267) x7.2.2 (rh_up x7.2.1 0 8 (0 : Int32)) g x7.1 hx9) ?_
      show rh_Ex _ _ _ ((66, [some (.ref 0), some (.int u1), some (.int u2), some (.int s24.1), some (.int x7.1)], []), (x9, g, mw_R x7.2.2)) _ _
      refine rh_Ex.blk 1 (s' := ((67, [some (.ref 0), some (.int u1), some (.int u2), some (.int s24.1), some (.int x7.1)], [.int s24.1]), (x9, g, mw_R x7.2.2))) rfl ?_
      obtain rfl := Option.some.inj hf
      obtain ⟨rfl, rfl⟩ := hk
      exact rh_Ex.ret rfl rfl
    · rw [if_neg q8] at hf
      refine rh_Ex.stp (s' := ((52, [some (.ref 0), some (.int u1), some (.int u2), some (.int s24.1), some (.int x7.1)], []), (x7.2.1, g, mw_R x7.2.2))) rfl (st_icle_n q8) ?_
      refine rh_Ex.blk 3 (s' := ((24, [some (.ref 0), some (.int u1), some (.int u2), some (.int (s24.1 + (1 : Int32))), some (.int x7.1)], []), (x7.2.1, g, mw_R x7.2.2))) rfl ?_
      obtain rfl := Option.some.inj hf
      refine rh_Ex.fgt [some (.ref 0), some (.int u1), some (.int u2), some (.int (s24.1 + (1 : Int32))), none] ⟨rfl, rfl, rfl, rfl, trivial⟩ ?_
      exact hk
set_option maxRecDepth 20000 in
set_option maxHeartbeats 4000000 in
theorem R_Mo_lighter (d : Nat) (rd : Option Nat) (h : Nat → Nat → Int32) (g : Nat → Nat → Int64) (p0 : Int32) (p1 : Int32) {z9 : Int32 × (Nat → Nat → Int32) × (Option Nat)} (hf : f_Mo_lighter h rd p0 p1 = some z9) : rh_M rh_PT mw_L (d + 269) 234 [.ref 0, .int p0, .int p1] (h, g, mw_R rd) (some (.int z9.1)) (z9.2.1, g, mw_R z9.2.2) := by
  unfold f_Mo_lighter at hf
  refine rh_go pt_234 (Nat.le_of_ble_eq_true rfl) (lv := [some (.ref 0), some (.int p0), some (.int p1), none, none]) rfl ?_
  refine rh_Ex.blk 5 (s' := ((7, [some (.ref 0), some (.int p0), some (.int p1), none, none], [.int p0, .ref 0]), (rh_up h 0 9 (0 : Int32), g, mw_R rd))) rfl ?_
  obtain ⟨x1, hx1, hf⟩ := rh_bq hf
  refine rh_Ex.call (j := 185) (rc := some 11) [.ref 0, .int p0] [] (some (.int x1)) rfl rfl rfl (Nat.le_of_ble_eq_true rfl) (R_Mo_areFolk (d + 266) rd (rh_up h 0 9 (0 : Int32)) g p0 hx1) ?_
  show rh_Ex _ _ _ ((10, [some (.ref 0), some (.int p0), some (.int p1), none, none], [.int x1]), (rh_up h 0 9 (0 : Int32), g, mw_R rd)) _ _
  by_cases q2 : x1 = 0
  · rw [if_pos q2] at hf
    refine rh_Ex.stp (s' := ((20, [some (.ref 0), some (.int p0), some (.int p1), none, none], []), (rh_up h 0 9 (0 : Int32), g, mw_R rd))) rfl (st_ifeq_p q2) ?_
    refine rh_Ex.blk 1 (s' := ((21, [some (.ref 0), some (.int p0), some (.int p1), none, none], [.int (-1 : Int32)]), (rh_up h 0 9 (0 : Int32), g, mw_R rd))) rfl ?_
    obtain rfl := Option.some.inj hf
    exact rh_Ex.ret rfl rfl
  · rw [if_neg q2] at hf
    refine rh_Ex.stp (s' := ((13, [some (.ref 0), some (.int p0), some (.int p1), none, none], []), (rh_up h 0 9 (0 : Int32), g, mw_R rd))) rfl (st_ifeq_n q2) ?_
    refine rh_Ex.blk 1 (s' := ((14, [some (.ref 0), some (.int p0), some (.int p1), none, none], [.int p1]), (rh_up h 0 9 (0 : Int32), g, mw_R rd))) rfl ?_
    obtain ⟨x3, hx3, hf⟩ := rh_bq hf
    refine rh_Ex.call (j := 187) (rc := none) [.int p1] [] (some (.int x3)) rfl rfl trivial (Nat.le_of_ble_eq_true rfl) (R_Mo_isHeavy (d + 266) mw_L (mw_R rd) (rh_up h 0 9 (0 : Int32)) g p1 hx3) ?_
    show rh_Ex _ _ _ ((17, [some (.ref 0), some (.int p0), some (.int p1), none, none], [.int x3]), (rh_up h 0 9 (0 : Int32), g, mw_R rd)) _ _
    by_cases q4 : x3 = 0
    · rw [if_pos q4] at hf
      refine rh_Ex.stp (s' := ((20, [some (.ref 0), some (.int p0), some (.int p1), none, none], []), (rh_up h 0 9 (0 : Int32), g, mw_R rd))) rfl (st_ifne_p q4) ?_
      refine rh_Ex.blk 1 (s' := ((21, [some (.ref 0), some (.int p0), some (.int p1), none, none], [.int (-1 : Int32)]), (rh_up h 0 9 (0 : Int32), g, mw_R rd))) rfl ?_
      obtain rfl := Option.some.inj hf
      exact rh_Ex.ret rfl rfl
    · rw [if_neg q4] at hf
      refine rh_Ex.stp (s' := ((22, [some (.ref 0), some (.int p0), some (.int p1), none, none], []), (rh_up h 0 9 (0 : Int32), g, mw_R rd))) rfl (st_ifne_n q4) ?_
      refine rh_Ex.blk 2 (s' := ((24, [some (.ref 0), some (.int p0), some (.int p1), some (.int (0 : Int32)), none], []), (rh_up h 0 9 (0 : Int32), g, mw_R rd))) rfl ?_
      obtain ⟨r10, hr10, hf⟩ := rh_bq hf
      refine rh_Ex.fgt [some (.ref 0), some (.int p0), some (.int p1), some (.int (0 : Int32)), none] ⟨rfl, rfl, rfl, rfl, trivial⟩ ?_
      refine rh_Ex.loop _ _ _ (lb_Mo_lighter_24 d p0 p1  g _ _) rh_N _ r10 hr10 ?_
      rcases r10 with e11 | t12
      · dsimp only at hf
        refine rh_Ex.blk 1 (s' := ((76, [none, none, none, none, none], [.int (-2 : Int32)]), (e11.1, g, mw_R e11.2))) rfl ?_
        obtain rfl := Option.some.inj hf
        exact rh_Ex.ret rfl rfl
      · dsimp only at hf
        obtain rfl := Option.some.inj hf
        exact ⟨rfl, rfl⟩
def b_Mo_between_35 (u1 : Int32) (u2 : Int32) (u3 : Int32) : (Int32 × Int32 × (Nat → Nat → Int32) × (Option Nat)) → Option ((Int32 × Int32 × (Nat → Nat → Int32) × (Option Nat)) ⊕ (Int32 × (Nat → Nat → Int32) × (Option Nat))) := fun s35 =>
  if (9 : Int32) ≤ s35.2.1 then
    some (.inr (s35.1, s35.2.2.1, s35.2.2.2))
  else
    (f_Mo_weightOfAll s35.2.2.1 s35.2.2.2 u1 ((f_Mo_dawn s35.2.2.1) + s35.2.1)).bind (fun x9 =>
      if (f_Mo_in x9.1 u2 u3) = 0 then
        some (.inl (s35.1 ||| (0 : Int32), s35.2.1 + (1 : Int32), x9.2.1, x9.2.2))
      else
        some (.inl (s35.1 ||| ((1 : Int32) <<< (s35.2.1 &&& 31)), s35.2.1 + (1 : Int32), x9.2.1, x9.2.2))
    )
def f_Mo_between (h : Nat → Nat → Int32) (rd : Option Nat) (p0 : Int32) (p1 : Int32) (p2 : Int32) : Option (Int32 × (Nat → Nat → Int32) × (Option Nat)) :=
  (f_Mo_areFolk (rh_up h 0 9 (0 : Int32)) p0).bind (fun x1 =>
    if x1 = 0 then
      some (((-1 : Int32), rh_up h 0 9 (0 : Int32), rd))
    else
      (f_Mo_isHeavy p1).bind (fun x3 =>
        if x3 = 0 then
          some (((-1 : Int32), rh_up h 0 9 (0 : Int32), rd))
        else
          (f_Mo_isHeavy p2).bind (fun x5 =>
            if x5 = 0 then
              some (((-1 : Int32), rh_up h 0 9 (0 : Int32), rd))
            else
              (rh_loop (b_Mo_between_35 p0 p1 p2) rh_N ((0 : Int32), (0 : Int32), rh_up h 0 9 (0 : Int32), rd)).bind (fun r11 =>
                some ((r11.1, r11.2.1, r11.2.2))
              )
          )
      )
  )
set_option maxRecDepth 20000 in
set_option maxHeartbeats 4000000 in
theorem lb_Mo_between_35 (d : Nat) (u1 : Int32) (u2 : Int32) (u3 : Int32) (g : Nat → Nat → Int64) (v9 : Option Value) (h9 : rh_H) : ∀ s35 x9, b_Mo_between_35 u1 u2 u3 s35 = some x9 → Sum.elim (fun s35 => rh_Ex (rh_M rh_PT mw_L (d + 268)) mw_L pg_X12_between ((35, [some (.ref 0), some (.int u1), some (.int u2), some (.int u3), some (.int s35.1), some (.int s35.2.1)], []), (s35.2.2.1, g, mw_R s35.2.2.2)) v9 h9) (fun e9 => rh_Ex (rh_M rh_PT mw_L (d + 268)) mw_L pg_X12_between ((81, [none, none, none, none, some (.int e9.1), none], []), (e9.2.1, g, mw_R e9.2.2)) v9 h9) x9 → rh_Ex (rh_M rh_PT mw_L (d + 268)) mw_L pg_X12_between ((35, [some (.ref 0), some (.int u1), some (.int u2), some (.int u3), some (.int s35.1), some (.int s35.2.1)], []), (s35.2.2.1, g, mw_R s35.2.2.2)) v9 h9 := by
  intro s35 x9 hf hk
  unfold b_Mo_between_35 at hf
  refine rh_Ex.blk 2 (s' := ((39, [some (.ref 0), some (.int u1), some (.int u2), some (.int u3), some (.int s35.1), some (.int s35.2.1)], [.int (9 : Int32), .int s35.2.1]), (s35.2.2.1, g, mw_R s35.2.2.2))) rfl ?_
  by_cases q8 : (9 : Int32) ≤ s35.2.1
  · rw [if_pos q8] at hf
    refine rh_Ex.stp (s' := ((81, [some (.ref 0), some (.int u1), some (.int u2), some (.int u3), some (.int s35.1), some (.int s35.2.1)], []), (s35.2.2.1, g, mw_R s35.2.2.2))) rfl (st_icge_p q8) ?_
    obtain rfl := Option.some.inj hf
    refine rh_Ex.fgt [none, none, none, none, some (.int s35.1), none] ⟨rfl, trivial⟩ ?_
    exact hk
  · rw [if_neg q8] at hf
    refine rh_Ex.stp (s' := ((42, [some (.ref 0), some (.int u1), some (.int u2), some (.int u3), some (.int s35.1), some (.int s35.2.1)], []), (s35.2.2.1, g, mw_R s35.2.2.2))) rfl (st_icge_n q8) ?_
    refine rh_Ex.blk 4 (s' := ((47, [some (.ref 0), some (.int u1), some (.int u2), some (.int u3), some (.int s35.1), some (.int s35.2.1)], [.ref 0, .int u1, .ref 0, .int s35.1]), (s35.2.2.1, g, mw_R s35.2.2.2))) rfl ?_
    refine rh_Ex.call (j := 209) (rc := some 11) [.ref 0] [.int u1, .ref 0, .int s35.1] (some (.int (f_Mo_dawn s35.2.2.1))) rfl rfl rfl (Nat.le_of_ble_eq_true rfl) (R_Mo_dawn (d + 267) s35.2.2.2 s35.2.2.1 g  rfl) ?_
    show rh_Ex _ _ _ ((50, [some (.ref 0), some (.int u1), some (.int u2), some (.int u3), some (.int s35.1), some (.int s35.2.1)], [.int (f_Mo_dawn s35.2.2.1), .int u1, .ref 0, .int s35.1]), (s35.2.2.1, g, mw_R s35.2.2.2)) _ _
    refine rh_Ex.blk 2 (s' := ((53, [some (.ref 0), some (.int u1), some (.int u2), some (.int u3), some (.int s35.1), some (.int s35.2.1)], [.int ((f_Mo_dawn s35.2.2.1) + s35.2.1), .int u1, .ref 0, .int s35.1]), (s35.2.2.1, g, mw_R s35.2.2.2))) rfl ?_
    obtain ⟨x9, hx9, hf⟩ := rh_bq hf
    refine rh_Ex.call (j := 207) (rc := some 11) [.ref 0, .int u1, .int ((f_Mo_dawn s35.2.2.1) + s35.2.1)] [.int s35.1] (some (.int x9.1)) rfl rfl rfl (Nat.le_of_ble_eq_true rfl) (R_Mo_weightOfAll d s35.2.2.2 s35.2.2.1 g u1 ((f_Mo_dawn s35.2.2.1) + s35.2.1) hx9) ?_
    show rh_Ex _ _ _ ((56, [some (.ref 0), some (.int u1), some (.int u2), some (.int u3), some (.int s35.1), some (.int s35.2.1)], [.int x9.1, .int s35.1]), (x9.2.1, g, mw_R x9.2.2)) _ _
    refine rh_Ex.blk 2 (s' := ((58, [some (.ref 0), some (.int u1), some (.int u2), some (.int u3), some (.int s35.1), some (.int s35.2.1)], [.int u3, .int u2, .int x9.1, .int s35.1]), (x9.2.1, g, mw_R x9.2.2))) rfl ?_
    refine rh_Ex.call (j := 179) (rc := none) [.int x9.1, .int u2, .int u3] [.int s35.1] (some (.int (f_Mo_in x9.1 u2 u3))) rfl rfl trivial (Nat.le_of_ble_eq_true rfl) (R_Mo_in (d + 267) mw_L (mw_R x9.2.2) x9.2.1 g x9.1 u2 u3 rfl) ?_
    show rh_Ex _ _ _ ((61, [some (.ref 0), some (.int u1), some (.int u2), some (.int u3), some (.int s35.1), some (.int s35.2.1)], [.int (f_Mo_in x9.1 u2 u3), .int s35.1]), (x9.2.1, g, mw_R x9.2.2)) _ _
    by_cases q10 : (f_Mo_in x9.1 u2 u3) = 0
    · rw [if_pos q10] at hf
      refine rh_Ex.stp (s' := ((71, [some (.ref 0), some (.int u1), some (.int u2), some (.int u3), some (.int s35.1), some (.int s35.2.1)], [.int s35.1]), (x9.2.1, g, mw_R x9.2.2))) rfl (st_ifeq_p q10) ?_
      refine rh_Ex.blk 5 (s' := ((35, [some (.ref 0), some (.int u1), some (.int u2), some (.int u3), some (.int (s35.1 ||| (0 : Int32))), some (.int (s35.2.1 + (1 : Int32)))], []), (x9.2.1, g, mw_R x9.2.2))) rfl ?_
      obtain rfl := Option.some.inj hf
      refine rh_Ex.fgt [some (.ref 0), some (.int u1), some (.int u2), some (.int u3), some (.int (s35.1 ||| (0 : Int32))), some (.int (s35.2.1 + (1 : Int32)))] ⟨rfl, rfl, rfl, rfl, rfl, rfl, trivial⟩ ?_
      exact hk
    · rw [if_neg q10] at hf
      refine rh_Ex.stp (s' := ((64, [some (.ref 0), some (.int u1), some (.int u2), some (.int u3), some (.int s35.1), some (.int s35.2.1)], [.int s35.1]), (x9.2.1, g, mw_R x9.2.2))) rfl (st_ifeq_n q10) ?_
      refine rh_Ex.blk 8 (s' := ((35, [some (.ref 0), some (.int u1), some (.int u2), some (.int u3), some (.int (s35.1 ||| ((1 : Int32) <<< (s35.2.1 &&& 31)))), some (.int (s35.2.1 + (1 : Int32)))], []), (x9.2.1, g, mw_R x9.2.2))) rfl ?_
      obtain rfl := Option.some.inj hf
      refine rh_Ex.fgt [some (.ref 0), some (.int u1), some (.int u2), some (.int u3), some (.int (s35.1 ||| ((1 : Int32) <<< (s35.2.1 &&& 31)))), some (.int (s35.2.1 + (1 : Int32)))] ⟨rfl, rfl, rfl, rfl, rfl, rfl, trivial⟩ ?_
      exact hk
set_option maxRecDepth 20000 in
set_option maxHeartbeats 4000000 in
theorem R_Mo_between (d : Nat) (rd : Option Nat) (h : Nat → Nat → Int32) (g : Nat → Nat → Int64) (p0 : Int32) (p1 : Int32) (p2 : Int32) {z9 : Int32 × (Nat → Nat → Int32) × (Option Nat)} (hf : f_Mo_between h rd p0 p1 p2 = some z9) : rh_M rh_PT mw_L (d + 269) 235 [.ref 0, .int p0, .int p1, .int p2] (h, g, mw_R rd) (some (.int z9.1)) (z9.2.1, g, mw_R z9.2.2) := by
  unfold f_Mo_between at hf
  refine rh_go pt_235 (Nat.le_of_ble_eq_true rfl) (lv := [some (.ref 0), some (.int p0), some (.int p1), some (.int p2), none, none]) rfl ?_
  refine rh_Ex.blk 5 (s' := ((7, [some (.ref 0), some (.int p0), some (.int p1), some (.int p2), none, none], [.int p0, .ref 0]), (rh_up h 0 9 (0 : Int32), g, mw_R rd))) rfl ?_
  obtain ⟨x1, hx1, hf⟩ := rh_bq hf
  refine rh_Ex.call (j := 185) (rc := some 11) [.ref 0, .int p0] [] (some (.int x1)) rfl rfl rfl (Nat.le_of_ble_eq_true rfl) (R_Mo_areFolk (d + 266) rd (rh_up h 0 9 (0 : Int32)) g p0 hx1) ?_
  show rh_Ex _ _ _ ((10, [some (.ref 0), some (.int p0), some (.int p1), some (.int p2), none, none], [.int x1]), (rh_up h 0 9 (0 : Int32), g, mw_R rd)) _ _
  by_cases q2 : x1 = 0
  · rw [if_pos q2] at hf
    refine rh_Ex.stp (s' := ((27, [some (.ref 0), some (.int p0), some (.int p1), some (.int p2), none, none], []), (rh_up h 0 9 (0 : Int32), g, mw_R rd))) rfl (st_ifeq_p q2) ?_
    refine rh_Ex.blk 1 (s' := ((28, [some (.ref 0), some (.int p0), some (.int p1), some (.int p2), none, none], [.int (-1 : Int32)]), (rh_up h 0 9 (0 : Int32), g, mw_R rd))) rfl ?_
    obtain rfl := Option.some.inj hf
    exact rh_Ex.ret rfl rfl
  · rw [if_neg q2] at hf
    refine rh_Ex.stp (s' := ((13, [some (.ref 0), some (.int p0), some (.int p1), some (.int p2), none, none], []), (rh_up h 0 9 (0 : Int32), g, mw_R rd))) rfl (st_ifeq_n q2) ?_
    refine rh_Ex.blk 1 (s' := ((14, [some (.ref 0), some (.int p0), some (.int p1), some (.int p2), none, none], [.int p1]), (rh_up h 0 9 (0 : Int32), g, mw_R rd))) rfl ?_
    obtain ⟨x3, hx3, hf⟩ := rh_bq hf
    refine rh_Ex.call (j := 187) (rc := none) [.int p1] [] (some (.int x3)) rfl rfl trivial (Nat.le_of_ble_eq_true rfl) (R_Mo_isHeavy (d + 266) mw_L (mw_R rd) (rh_up h 0 9 (0 : Int32)) g p1 hx3) ?_
    show rh_Ex _ _ _ ((17, [some (.ref 0), some (.int p0), some (.int p1), some (.int p2), none, none], [.int x3]), (rh_up h 0 9 (0 : Int32), g, mw_R rd)) _ _
    by_cases q4 : x3 = 0
    · rw [if_pos q4] at hf
      refine rh_Ex.stp (s' := ((27, [some (.ref 0), some (.int p0), some (.int p1), some (.int p2), none, none], []), (rh_up h 0 9 (0 : Int32), g, mw_R rd))) rfl (st_ifeq_p q4) ?_
      refine rh_Ex.blk 1 (s' := ((28, [some (.ref 0), some (.int p0), some (.int p1), some (.int p2), none, none], [.int (-1 : Int32)]), (rh_up h 0 9 (0 : Int32), g, mw_R rd))) rfl ?_
      obtain rfl := Option.some.inj hf
      exact rh_Ex.ret rfl rfl
    · rw [if_neg q4] at hf
      refine rh_Ex.stp (s' := ((20, [some (.ref 0), some (.int p0), some (.int p1), some (.int p2), none, none], []), (rh_up h 0 9 (0 : Int32), g, mw_R rd))) rfl (st_ifeq_n q4) ?_
      refine rh_Ex.blk 1 (s' := ((21, [some (.ref 0), some (.int p0), some (.int p1), some (.int p2), none, none], [.int p2]), (rh_up h 0 9 (0 : Int32), g, mw_R rd))) rfl ?_
      obtain ⟨x5, hx5, hf⟩ := rh_bq hf
      refine rh_Ex.call (j := 187) (rc := none) [.int p2] [] (some (.int x5)) rfl rfl trivial (Nat.le_of_ble_eq_true rfl) (R_Mo_isHeavy (d + 266) mw_L (mw_R rd) (rh_up h 0 9 (0 : Int32)) g p2 hx5) ?_
      show rh_Ex _ _ _ ((24, [some (.ref 0), some (.int p0), some (.int p1), some (.int p2), none, none], [.int x5]), (rh_up h 0 9 (0 : Int32), g, mw_R rd)) _ _
      by_cases q6 : x5 = 0
      · rw [if_pos q6] at hf
        refine rh_Ex.stp (s' := ((27, [some (.ref 0), some (.int p0), some (.int p1), some (.int p2), none, none], []), (rh_up h 0 9 (0 : Int32), g, mw_R rd))) rfl (st_ifne_p q6) ?_
        refine rh_Ex.blk 1 (s' := ((28, [some (.ref 0), some (.int p0), some (.int p1), some (.int p2), none, none], [.int (-1 : Int32)]), (rh_up h 0 9 (0 : Int32), g, mw_R rd))) rfl ?_
        obtain rfl := Option.some.inj hf
        exact rh_Ex.ret rfl rfl
      · rw [if_neg q6] at hf
        refine rh_Ex.stp (s' := ((29, [some (.ref 0), some (.int p0), some (.int p1), some (.int p2), none, none], []), (rh_up h 0 9 (0 : Int32), g, mw_R rd))) rfl (st_ifne_n q6) ?_
        refine rh_Ex.blk 4 (s' := ((35, [some (.ref 0), some (.int p0), some (.int p1), some (.int p2), some (.int (0 : Int32)), some (.int (0 : Int32))], []), (rh_up h 0 9 (0 : Int32), g, mw_R rd))) rfl ?_
        obtain ⟨r11, hr11, hf⟩ := rh_bq hf
        refine rh_Ex.fgt [some (.ref 0), some (.int p0), some (.int p1), some (.int p2), some (.int (0 : Int32)), some (.int (0 : Int32))] ⟨rfl, rfl, rfl, rfl, rfl, rfl, trivial⟩ ?_
        refine rh_Ex.loop _ _ _ (lb_Mo_between_35 d p0 p1 p2  g _ _) rh_N _ r11 hr11 ?_
        refine rh_Ex.blk 1 (s' := ((83, [none, none, none, none, some (.int r11.1), none], [.int r11.1]), (r11.2.1, g, mw_R r11.2.2))) rfl ?_
        obtain rfl := Option.some.inj hf
        exact rh_Ex.ret rfl rfl
def b_Mo_climbs_76 (u1 : Int32) (u2 : Int32) (u3 : Int32) (u4 : Int32) : (Int32 × (Nat → Nat → Int32) × (Option Nat)) → Option ((Int32 × (Nat → Nat → Int32) × (Option Nat)) ⊕ (Int32 × (Nat → Nat → Int32) × (Option Nat))) := fun s76 =>
  if (99 : Int32) < s76.1 then
    some (.inr (s76.1, s76.2.1, s76.2.2))
  else
    (f_Mo_weightOf s76.2.1 s76.2.2 u4 ((s76.2.1 1 (10 : Int32).toNatClampNeg) + s76.1)).bind (fun x10 =>
      if x10.1 ≤ u1 then
        some (.inr (s76.1, x10.2.1, x10.2.2))
      else
        some (.inl (s76.1 + (1 : Int32), x10.2.1, x10.2.2))
    )
def j_Mo_climbs_71 (h : Nat → Nat → Int32) (rd : Option Nat) (u1 : Int32) (u2 : Int32) (j4 : Int32) (k0 : Int32) (k1 : Int32) : Option ((Int32 × Int32 × (Nat → Nat → Int32) × (Option Nat)) ⊕ (Int32 × (Nat → Nat → Int32) × (Option Nat))) :=
  (rh_loop (b_Mo_climbs_76 u1 u2 (k0 ||| k1) j4) rh_N ((0 : Int32), h, rd)).bind (fun r12 =>
    if r12.1 ≤ (99 : Int32) then
      (f_Mo_tell r12.2.1 r12.1).bind (fun x14 =>
        some (.inl (k0 ||| k1, j4 + (1 : Int32), x14, r12.2.2))
      )
    else
      (f_Mo_tell r12.2.1 (-1 : Int32)).bind (fun x15 =>
        some (.inl (k0 ||| k1, j4 + (1 : Int32), x15, r12.2.2))
      )
  )
def b_Mo_climbs_34 (u1 : Int32) (u2 : Int32) : (Int32 × Int32 × (Nat → Nat → Int32) × (Option Nat)) → Option ((Int32 × Int32 × (Nat → Nat → Int32) × (Option Nat)) ⊕ (Int32 × (Nat → Nat → Int32) × (Option Nat))) := fun s34 =>
  if (s34.2.2.1 0 1) ≤ s34.2.1 then
    some (.inr (s34.1, s34.2.2.1, s34.2.2.2))
  else
    (f_Mo_weightOf s34.2.2.1 s34.2.2.2 s34.2.1 ((s34.2.2.1 1 (10 : Int32).toNatClampNeg) + u2)).bind (fun x6 =>
      if u1 < x6.1 then
        j_Mo_climbs_71 x6.2.1 x6.2.2 u1 u2 s34.2.1 s34.1 (0 : Int32)
      else
        j_Mo_climbs_71 x6.2.1 x6.2.2 u1 u2 s34.2.1 s34.1 ((1 : Int32) <<< (s34.2.1 &&& 31))
    )
def f_Mo_climbs (h : Nat → Nat → Int32) (rd : Option Nat) (p0 : Int32) (p1 : Int32) : Option (Int32 × (Nat → Nat → Int32) × (Option Nat)) :=
  (f_Mo_isHeavy p0).bind (fun x1 =>
    if x1 = 0 then
      some (((-1 : Int32), rh_up h 0 9 (0 : Int32), rd))
    else
      if (f_Mo_in p1 (0 : Int32) (99 : Int32)) = 0 then
        some (((-1 : Int32), rh_up h 0 9 (0 : Int32), rd))
      else
        (rh_loop (b_Mo_climbs_34 p0 p1) rh_N ((0 : Int32), (0 : Int32), rh_up (rh_up h 0 9 (0 : Int32)) 0 8 (0 : Int32), rd)).bind (fun r16 =>
          some ((r16.1, r16.2.1, r16.2.2))
        )
  )
set_option maxRecDepth 20000 in
set_option maxHeartbeats 4000000 in
theorem lb_Mo_climbs_76 (d : Nat) (u1 : Int32) (u2 : Int32) (u3 : Int32) (u4 : Int32) (g : Nat → Nat → Int64) (v9 : Option Value) (h9 : rh_H) : ∀ s76 x9, b_Mo_climbs_76 u1 u2 u3 u4 s76 = some x9 → Sum.elim (fun s76 => rh_Ex (rh_M rh_PT mw_L (d + 267)) mw_L pg_X12_climbs ((76, [some (.ref 0), some (.int u1), some (.int u2), some (.int u3), some (.int u4), some (.int s76.1)], []), (s76.2.1, g, mw_R s76.2.2)) v9 h9) (fun e9 => rh_Ex (rh_M rh_PT mw_L (d + 267)) mw_L pg_X12_climbs ((109, [some (.ref 0), some (.int u1), some (.int u2), some (.int u3), some (.int u4), some (.int e9.1)], []), (e9.2.1, g, mw_R e9.2.2)) v9 h9) x9 → rh_Ex (rh_M rh_PT mw_L (d + 267)) mw_L pg_X12_climbs ((76, [some (.ref 0), some (.int u1), some (.int u2), some (.int u3), some (.int u4), some (.int s76.1)], []), (s76.2.1, g, mw_R s76.2.2)) v9 h9 := by
  intro s76 x9 hf hk
  unfold b_Mo_climbs_76 at hf
  refine rh_Ex.blk 2 (s' := ((80, [some (.ref 0), some (.int u1), some (.int u2), some (.int u3), some (.int u4), some (.int s76.1)], [.int (99 : Int32), .int s76.1]), (s76.2.1, g, mw_R s76.2.2))) rfl ?_
  by_cases q9 : (99 : Int32) < s76.1
  · rw [if_pos q9] at hf
    refine rh_Ex.stp (s' := ((109, [some (.ref 0), some (.int u1), some (.int u2), some (.int u3), some (.int u4), some (.int s76.1)], []), (s76.2.1, g, mw_R s76.2.2))) rfl (st_icgt_p q9) ?_
    obtain rfl := Option.some.inj hf
    refine rh_Ex.fgt [some (.ref 0), some (.int u1), some (.int u2), some (.int u3), some (.int u4), some (.int s76.1)] ⟨rfl, rfl, rfl, rfl, rfl, rfl, trivial⟩ ?_
    exact hk
  · rw [if_neg q9] at hf
    refine rh_Ex.stp (s' := ((83, [some (.ref 0), some (.int u1), some (.int u2), some (.int u3), some (.int u4), some (.int s76.1)], []), (s76.2.1, g, mw_R s76.2.2))) rfl (st_icgt_n q9) ?_
    refine rh_Ex.blk 5 (s' := ((92, [some (.ref 0), some (.int u1), some (.int u2), some (.int u3), some (.int u4), some (.int s76.1)], [.int (10 : Int32), .ref 1, .int u4, .ref 0]), (s76.2.1, g, mw_R s76.2.2))) rfl ?_
    refine rh_Ex.stp (s' := ((93, [some (.ref 0), some (.int u1), some (.int u2), some (.int u3), some (.int u4), some (.int s76.1)], [.int (s76.2.1 1 (10 : Int32).toNatClampNeg), .int u4, .ref 0]), (s76.2.1, g, mw_R s76.2.2))) rfl (st_iald (n := 11) rfl (by decide)) ?_
    refine rh_Ex.blk 2 (s' := ((96, [some (.ref 0), some (.int u1), some (.int u2), some (.int u3), some (.int u4), some (.int s76.1)], [.int ((s76.2.1 1 (10 : Int32).toNatClampNeg) + s76.1), .int u4, .ref 0]), (s76.2.1, g, mw_R s76.2.2))) rfl ?_
    obtain ⟨x10, hx10, hf⟩ := rh_bq hf
    refine rh_Ex.call (j := 205) (rc := some 11) [.ref 0, .int u4, .int ((s76.2.1 1 (10 : Int32).toNatClampNeg) + s76.1)] [] (some (.int x10.1)) rfl rfl rfl (Nat.le_of_ble_eq_true rfl) (R_Mo_weightOf d s76.2.2 s76.2.1 g u4 ((s76.2.1 1 (10 : Int32).toNatClampNeg) + s76.1) hx10) ?_
    show rh_Ex _ _ _ ((99, [some (.ref 0), some (.int u1), some (.int u2), some (.int u3), some (.int u4), some (.int s76.1)], [.int x10.1]), (x10.2.1, g, mw_R x10.2.2)) _ _
    refine rh_Ex.blk 1 (s' := ((100, [some (.ref 0), some (.int u1), some (.int u2), some (.int u3), some (.int u4), some (.int s76.1)], [.int u1, .int x10.1]), (x10.2.1, g, mw_R x10.2.2))) rfl ?_
    by_cases q11 : x10.1 ≤ u1
    · rw [if_pos q11] at hf
      refine rh_Ex.stp (s' := ((109, [some (.ref 0), some (.int u1), some (.int u2), some (.int u3), some (.int u4), some (.int s76.1)], []), (x10.2.1, g, mw_R x10.2.2))) rfl (st_icle_p q11) ?_
      obtain rfl := Option.some.inj hf
      refine rh_Ex.fgt [some (.ref 0), some (.int u1), some (.int u2), some (.int u3), some (.int u4), some (.int s76.1)] ⟨rfl, rfl, rfl, rfl, rfl, rfl, trivial⟩ ?_
      exact hk
    · rw [if_neg q11] at hf
      refine rh_Ex.stp (s' := ((103, [some (.ref 0), some (.int u1), some (.int u2), some (.int u3), some (.int u4), some (.int s76.1)], []), (x10.2.1, g, mw_R x10.2.2))) rfl (st_icle_n q11) ?_
      refine rh_Ex.blk 2 (s' := ((76, [some (.ref 0), some (.int u1), some (.int u2), some (.int u3), some (.int u4), some (.int (s76.1 + (1 : Int32)))], []), (x10.2.1, g, mw_R x10.2.2))) rfl ?_
      obtain rfl := Option.some.inj hf
      refine rh_Ex.fgt [some (.ref 0), some (.int u1), some (.int u2), some (.int u3), some (.int u4), some (.int (s76.1 + (1 : Int32)))] ⟨rfl, rfl, rfl, rfl, rfl, rfl, trivial⟩ ?_
      exact hk
set_option maxRecDepth 20000 in
set_option maxHeartbeats 4000000 in
theorem lj_Mo_climbs_71 (d : Nat) (h : Nat → Nat → Int32) (rd : Option Nat) (u1 : Int32) (u2 : Int32) (j4 : Int32) (k0 : Int32) (k1 : Int32) (g : Nat → Nat → Int64) (v9 : Option Value) (h9 : rh_H) (x9 : (Int32 × Int32 × (Nat → Nat → Int32) × (Option Nat)) ⊕ (Int32 × (Nat → Nat → Int32) × (Option Nat))) (hf : j_Mo_climbs_71 h rd u1 u2 j4 k0 k1 = some x9) (hk : Sum.elim (fun s34 => rh_Ex (rh_M rh_PT mw_L (d + 267)) mw_L pg_X12_climbs ((34, [some (.ref 0), some (.int u1), some (.int u2), some (.int s34.1), some (.int s34.2.1), none], []), (s34.2.2.1, g, mw_R s34.2.2.2)) v9 h9) (fun e9 => rh_Ex (rh_M rh_PT mw_L (d + 267)) mw_L pg_X12_climbs ((132, [none, none, none, some (.int e9.1), none, none], []), (e9.2.1, g, mw_R e9.2.2)) v9 h9) x9) : rh_Ex (rh_M rh_PT mw_L (d + 267)) mw_L pg_X12_climbs ((71, [some (.ref 0), some (.int u1), some (.int u2), none, some (.int j4), none], [.int k1, .int k0]), (h, g, mw_R rd)) v9 h9 := by
  unfold j_Mo_climbs_71 at hf
  refine rh_Ex.blk 4 (s' := ((76, [some (.ref 0), some (.int u1), some (.int u2), some (.int (k0 ||| k1)), some (.int j4), some (.int (0 : Int32))], []), (h, g, mw_R rd))) rfl ?_
  obtain ⟨r12, hr12, hf⟩ := rh_bq hf
  refine rh_Ex.fgt [some (.ref 0), some (.int u1), some (.int u2), some (.int (k0 ||| k1)), some (.int j4), some (.int (0 : Int32))] ⟨rfl, rfl, rfl, rfl, rfl, rfl, trivial⟩ ?_
  refine rh_Ex.loop _ _ _ (lb_Mo_climbs_76 d u1 u2 (k0 ||| k1) j4  g _ _) rh_N _ r12 hr12 ?_
  refine rh_Ex.blk 3 (s' := ((114, [some (.ref 0), some (.int u1), some (.int u2), some (.int (k0 ||| k1)), some (.int j4), some (.int r12.1)], [.int (99 : Int32), .int r12.1, .ref 0]), (r12.2.1, g, mw_R r12.2.2))) rfl ?_
  by_cases q13 : r12.1 ≤ (99 : Int32)
  · rw [if_pos q13] at hf
    refine rh_Ex.stp (s' := ((121, [some (.ref 0), some (.int u1), some (.int u2), some (.int (k0 ||| k1)), some (.int j4), some (.int r12.1)], [.ref 0]), (r12.2.1, g, mw_R r12.2.2))) rfl (st_icle_p q13) ?_
    refine rh_Ex.blk 1 (s' := ((123, [some (.ref 0), some (.int u1), some (.int u2), some (.int (k0 ||| k1)), some (.int j4), some (.int r12.1)], [.int r12.1, .ref 0]), (r12.2.1, g, mw_R r12.2.2))) rfl ?_
    obtain ⟨x14, hx14, hf⟩ := rh_bq hf
    refine rh_Ex.call (j := 182) (rc := some 11) [.ref 0, .int r12.1] [] none rfl rfl rfl (Nat.le_of_ble_eq_true rfl) (R_Mo_tell (d + 266) r12.2.2 r12.2.1 g r12.1 hx14) ?_
    show rh_Ex _ _ _ ((126, [some (.ref 0), some (.int u1), some (.int u2), some (.int (k0 ||| k1)), some (.int j4), some (.int r12.1)], []), (x14, g, mw_R r12.2.2)) _ _
    refine rh_Ex.blk 2 (s' := ((34, [some (.ref 0), some (.int u1), some (.int u2), some (.int (k0 ||| k1)), some (.int (j4 + (1 : Int32))), some (.int r12.1)], []), (x14, g, mw_R r12.2.2))) rfl ?_
    obtain rfl := Option.some.inj hf
    refine rh_Ex.fgt [some (.ref 0), some (.int u1), some (.int u2), some (.int (k0 ||| k1)), some (.int (j4 + (1 : Int32))), none] ⟨rfl, rfl, rfl, rfl, rfl, trivial⟩ ?_
    exact hk
  · rw [if_neg q13] at hf
    refine rh_Ex.stp (s' := ((117, [some (.ref 0), some (.int u1), some (.int u2), some (.int (k0 ||| k1)), some (.int j4), some (.int r12.1)], [.ref 0]), (r12.2.1, g, mw_R r12.2.2))) rfl (st_icle_n q13) ?_
    refine rh_Ex.blk 2 (s' := ((123, [some (.ref 0), some (.int u1), some (.int u2), some (.int (k0 ||| k1)), some (.int j4), some (.int r12.1)], [.int (-1 : Int32), .ref 0]), (r12.2.1, g, mw_R r12.2.2))) rfl ?_
    obtain ⟨x15, hx15, hf⟩ := rh_bq hf
    refine rh_Ex.call (j := 182) (rc := some 11) [.ref 0, .int (-1 : Int32)] [] none rfl rfl rfl (Nat.le_of_ble_eq_true rfl) (R_Mo_tell (d + 266) r12.2.2 r12.2.1 g (-1 : Int32) hx15) ?_
    show rh_Ex _ _ _ ((126, [some (.ref 0), some (.int u1), some (.int u2), some (.int (k0 ||| k1)), some (.int j4), some (.int r12.1)], []), (x15, g, mw_R r12.2.2)) _ _
    refine rh_Ex.blk 2 (s' := ((34, [some (.ref 0), some (.int u1), some (.int u2), some (.int (k0 ||| k1)), some (.int (j4 + (1 : Int32))), some (.int r12.1)], []), (x15, g, mw_R r12.2.2))) rfl ?_
    obtain rfl := Option.some.inj hf
    refine rh_Ex.fgt [some (.ref 0), some (.int u1), some (.int u2), some (.int (k0 ||| k1)), some (.int (j4 + (1 : Int32))), none] ⟨rfl, rfl, rfl, rfl, rfl, trivial⟩ ?_
    exact hk
set_option maxRecDepth 20000 in
set_option maxHeartbeats 4000000 in
theorem lb_Mo_climbs_34 (d : Nat) (u1 : Int32) (u2 : Int32) (g : Nat → Nat → Int64) (v9 : Option Value) (h9 : rh_H) : ∀ s34 x9, b_Mo_climbs_34 u1 u2 s34 = some x9 → Sum.elim (fun s34 => rh_Ex (rh_M rh_PT mw_L (d + 267)) mw_L pg_X12_climbs ((34, [some (.ref 0), some (.int u1), some (.int u2), some (.int s34.1), some (.int s34.2.1), none], []), (s34.2.2.1, g, mw_R s34.2.2.2)) v9 h9) (fun e9 => rh_Ex (rh_M rh_PT mw_L (d + 267)) mw_L pg_X12_climbs ((132, [none, none, none, some (.int e9.1), none, none], []), (e9.2.1, g, mw_R e9.2.2)) v9 h9) x9 → rh_Ex (rh_M rh_PT mw_L (d + 267)) mw_L pg_X12_climbs ((34, [some (.ref 0), some (.int u1), some (.int u2), some (.int s34.1), some (.int s34.2.1), none], []), (s34.2.2.1, g, mw_R s34.2.2.2)) v9 h9 := by
  intro s34 x9 hf hk
  unfold b_Mo_climbs_34 at hf
  refine rh_Ex.blk 3 (s' := ((40, [some (.ref 0), some (.int u1), some (.int u2), some (.int s34.1), some (.int s34.2.1), none], [.int (s34.2.2.1 0 1), .int s34.2.1]), (s34.2.2.1, g, mw_R s34.2.2.2))) rfl ?_
  by_cases q5 : (s34.2.2.1 0 1) ≤ s34.2.1
  · rw [if_pos q5] at hf
    refine rh_Ex.stp (s' := ((132, [some (.ref 0), some (.int u1), some (.int u2), some (.int s34.1), some (.int s34.2.1), none], []), (s34.2.2.1, g, mw_R s34.2.2.2))) rfl (st_icge_p q5) ?_
    obtain rfl := Option.some.inj hf
    refine rh_Ex.fgt [none, none, none, some (.int s34.1), none, none] ⟨rfl, trivial⟩ ?_
    exact hk
  · rw [if_neg q5] at hf
    refine rh_Ex.stp (s' := ((43, [some (.ref 0), some (.int u1), some (.int u2), some (.int s34.1), some (.int s34.2.1), none], []), (s34.2.2.1, g, mw_R s34.2.2.2))) rfl (st_icge_n q5) ?_
    refine rh_Ex.blk 6 (s' := ((53, [some (.ref 0), some (.int u1), some (.int u2), some (.int s34.1), some (.int s34.2.1), none], [.int (10 : Int32), .ref 1, .int s34.2.1, .ref 0, .int s34.1]), (s34.2.2.1, g, mw_R s34.2.2.2))) rfl ?_
    refine rh_Ex.stp (s' := ((54, [some (.ref 0), some (.int u1), some (.int u2), some (.int s34.1), some (.int s34.2.1), none], [.int (s34.2.2.1 1 (10 : Int32).toNatClampNeg), .int s34.2.1, .ref 0, .int s34.1]), (s34.2.2.1, g, mw_R s34.2.2.2))) rfl (st_iald (n := 11) rfl (by decide)) ?_
    refine rh_Ex.blk 2 (s' := ((56, [some (.ref 0), some (.int u1), some (.int u2), some (.int s34.1), some (.int s34.2.1), none], [.int ((s34.2.2.1 1 (10 : Int32).toNatClampNeg) + u2), .int s34.2.1, .ref 0, .int s34.1]), (s34.2.2.1, g, mw_R s34.2.2.2))) rfl ?_
    obtain ⟨x6, hx6, hf⟩ := rh_bq hf
    refine rh_Ex.call (j := 205) (rc := some 11) [.ref 0, .int s34.2.1, .int ((s34.2.2.1 1 (10 : Int32).toNatClampNeg) + u2)] [.int s34.1] (some (.int x6.1)) rfl rfl rfl (Nat.le_of_ble_eq_true rfl) (R_Mo_weightOf d s34.2.2.2 s34.2.2.1 g s34.2.1 ((s34.2.2.1 1 (10 : Int32).toNatClampNeg) + u2) hx6) ?_
    show rh_Ex _ _ _ ((59, [some (.ref 0), some (.int u1), some (.int u2), some (.int s34.1), some (.int s34.2.1), none], [.int x6.1, .int s34.1]), (x6.2.1, g, mw_R x6.2.2)) _ _
    refine rh_Ex.blk 1 (s' := ((60, [some (.ref 0), some (.int u1), some (.int u2), some (.int s34.1), some (.int s34.2.1), none], [.int u1, .int x6.1, .int s34.1]), (x6.2.1, g, mw_R x6.2.2))) rfl ?_
    by_cases q7 : u1 < x6.1
    · rw [if_pos q7] at hf
      refine rh_Ex.stp (s' := ((70, [some (.ref 0), some (.int u1), some (.int u2), some (.int s34.1), some (.int s34.2.1), none], [.int s34.1]), (x6.2.1, g, mw_R x6.2.2))) rfl (st_icgt_p q7) ?_
      refine rh_Ex.blk 1 (s' := ((71, [some (.ref 0), some (.int u1), some (.int u2), some (.int s34.1), some (.int s34.2.1), none], [.int (0 : Int32), .int s34.1]), (x6.2.1, g, mw_R x6.2.2))) rfl ?_
      refine rh_Ex.fgt [some (.ref 0), some (.int u1), some (.int u2), none, some (.int s34.2.1), none] ⟨rfl, rfl, rfl, rfl, trivial⟩ ?_
      exact lj_Mo_climbs_71 d x6.2.1 x6.2.2 u1 u2 s34.2.1 s34.1 (0 : Int32) g _ _ _ hf hk
    · rw [if_neg q7] at hf
      refine rh_Ex.stp (s' := ((63, [some (.ref 0), some (.int u1), some (.int u2), some (.int s34.1), some (.int s34.2.1), none], [.int s34.1]), (x6.2.1, g, mw_R x6.2.2))) rfl (st_icgt_n q7) ?_
      refine rh_Ex.blk 4 (s' := ((71, [some (.ref 0), some (.int u1), some (.int u2), some (.int s34.1), some (.int s34.2.1), none], [.int ((1 : Int32) <<< (s34.2.1 &&& 31)), .int s34.1]), (x6.2.1, g, mw_R x6.2.2))) rfl ?_
      refine rh_Ex.fgt [some (.ref 0), some (.int u1), some (.int u2), none, some (.int s34.2.1), none] ⟨rfl, rfl, rfl, rfl, trivial⟩ ?_
      exact lj_Mo_climbs_71 d x6.2.1 x6.2.2 u1 u2 s34.2.1 s34.1 ((1 : Int32) <<< (s34.2.1 &&& 31)) g _ _ _ hf hk
set_option maxRecDepth 20000 in
set_option maxHeartbeats 4000000 in
theorem R_Mo_climbs (d : Nat) (rd : Option Nat) (h : Nat → Nat → Int32) (g : Nat → Nat → Int64) (p0 : Int32) (p1 : Int32) {z9 : Int32 × (Nat → Nat → Int32) × (Option Nat)} (hf : f_Mo_climbs h rd p0 p1 = some z9) : rh_M rh_PT mw_L (d + 268) 236 [.ref 0, .int p0, .int p1] (h, g, mw_R rd) (some (.int z9.1)) (z9.2.1, g, mw_R z9.2.2) := by
  unfold f_Mo_climbs at hf
  refine rh_go pt_236 (Nat.le_of_ble_eq_true rfl) (lv := [some (.ref 0), some (.int p0), some (.int p1), none, none, none]) rfl ?_
  refine rh_Ex.blk 4 (s' := ((6, [some (.ref 0), some (.int p0), some (.int p1), none, none, none], [.int p0]), (rh_up h 0 9 (0 : Int32), g, mw_R rd))) rfl ?_
  obtain ⟨x1, hx1, hf⟩ := rh_bq hf
  refine rh_Ex.call (j := 187) (rc := none) [.int p0] [] (some (.int x1)) rfl rfl trivial (Nat.le_of_ble_eq_true rfl) (R_Mo_isHeavy (d + 265) mw_L (mw_R rd) (rh_up h 0 9 (0 : Int32)) g p0 hx1) ?_
  show rh_Ex _ _ _ ((9, [some (.ref 0), some (.int p0), some (.int p1), none, none, none], [.int x1]), (rh_up h 0 9 (0 : Int32), g, mw_R rd)) _ _
  by_cases q2 : x1 = 0
  · rw [if_pos q2] at hf
    refine rh_Ex.stp (s' := ((22, [some (.ref 0), some (.int p0), some (.int p1), none, none, none], []), (rh_up h 0 9 (0 : Int32), g, mw_R rd))) rfl (st_ifeq_p q2) ?_
    refine rh_Ex.blk 1 (s' := ((23, [some (.ref 0), some (.int p0), some (.int p1), none, none, none], [.int (-1 : Int32)]), (rh_up h 0 9 (0 : Int32), g, mw_R rd))) rfl ?_
    obtain rfl := Option.some.inj hf
    exact rh_Ex.ret rfl rfl
  · rw [if_neg q2] at hf
    refine rh_Ex.stp (s' := ((12, [some (.ref 0), some (.int p0), some (.int p1), none, none, none], []), (rh_up h 0 9 (0 : Int32), g, mw_R rd))) rfl (st_ifeq_n q2) ?_
    refine rh_Ex.blk 3 (s' := ((16, [some (.ref 0), some (.int p0), some (.int p1), none, none, none], [.int (99 : Int32), .int (0 : Int32), .int p1]), (rh_up h 0 9 (0 : Int32), g, mw_R rd))) rfl ?_
    refine rh_Ex.call (j := 179) (rc := none) [.int p1, .int (0 : Int32), .int (99 : Int32)] [] (some (.int (f_Mo_in p1 (0 : Int32) (99 : Int32)))) rfl rfl trivial (Nat.le_of_ble_eq_true rfl) (R_Mo_in (d + 266) mw_L (mw_R rd) (rh_up h 0 9 (0 : Int32)) g p1 (0 : Int32) (99 : Int32) rfl) ?_
    show rh_Ex _ _ _ ((19, [some (.ref 0), some (.int p0), some (.int p1), none, none, none], [.int (f_Mo_in p1 (0 : Int32) (99 : Int32))]), (rh_up h 0 9 (0 : Int32), g, mw_R rd)) _ _
    by_cases q3 : (f_Mo_in p1 (0 : Int32) (99 : Int32)) = 0
    · rw [if_pos q3] at hf
      refine rh_Ex.stp (s' := ((22, [some (.ref 0), some (.int p0), some (.int p1), none, none, none], []), (rh_up h 0 9 (0 : Int32), g, mw_R rd))) rfl (st_ifne_p q3) ?_
      refine rh_Ex.blk 1 (s' := ((23, [some (.ref 0), some (.int p0), some (.int p1), none, none, none], [.int (-1 : Int32)]), (rh_up h 0 9 (0 : Int32), g, mw_R rd))) rfl ?_
      obtain rfl := Option.some.inj hf
      exact rh_Ex.ret rfl rfl
    · rw [if_neg q3] at hf
      refine rh_Ex.stp (s' := ((24, [some (.ref 0), some (.int p0), some (.int p1), none, none, none], []), (rh_up h 0 9 (0 : Int32), g, mw_R rd))) rfl (st_ifne_n q3) ?_
      refine rh_Ex.blk 7 (s' := ((34, [some (.ref 0), some (.int p0), some (.int p1), some (.int (0 : Int32)), some (.int (0 : Int32)), none], []), (rh_up (rh_up h 0 9 (0 : Int32)) 0 8 (0 : Int32), g, mw_R rd))) rfl ?_
      obtain ⟨r16, hr16, hf⟩ := rh_bq hf
      refine rh_Ex.fgt [some (.ref 0), some (.int p0), some (.int p1), some (.int (0 : Int32)), some (.int (0 : Int32)), none] ⟨rfl, rfl, rfl, rfl, rfl, trivial⟩ ?_
      refine rh_Ex.loop _ _ _ (lb_Mo_climbs_34 d p0 p1  g _ _) rh_N _ r16 hr16 ?_
      refine rh_Ex.blk 1 (s' := ((133, [none, none, none, some (.int r16.1), none, none], [.int r16.1]), (r16.2.1, g, mw_R r16.2.2))) rfl ?_
      obtain rfl := Option.some.inj hf
      exact rh_Ex.ret rfl rfl
