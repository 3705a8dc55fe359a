def b_Mo_findSets_2 (u1 : Int32) : (Int32 × (Nat → Nat → Int32) × (Option Nat)) → Option ((Int32 × (Nat → Nat → Int32) × (Option Nat)) ⊕ ((Nat → Nat → Int32) × (Option Nat))) := fun s2 =>
  if (s2.2.1 0 1) ≤ s2.1 then
    some (.inr (s2.2.1, s2.2.2))
  else
    (f_Mo_weightOf s2.2.1 s2.2.2 s2.1 u1).bind (fun x3 =>
      rh_g (0 ≤ s2.1.toInt ∧ s2.1.toInt < ((9 : Nat) : Int)) (
        some (.inl (s2.1 + (1 : Int32), rh_up x3.2.1 8 s2.1.toNatClampNeg x3.1, x3.2.2))
      )
    )
def b_Mo_findSets_37 (rd : Option Nat) : (Int32 × (Nat → Nat → Int32)) → Option ((Int32 × (Nat → Nat → Int32)) ⊕ ((Nat → Nat → Int32))) := fun s37 =>
  if (f_Mo_everybody s37.2) < s37.1 then
    some (.inr s37.2)
  else
    rh_g (0 ≤ (s37.1 &&& (s37.1 - (1 : Int32))).toInt ∧ (s37.1 &&& (s37.1 - (1 : Int32))).toInt < ((512 : Nat) : Int)) (
      rh_g (0 ≤ (f_In_numberOfTrailingZeros s37.1).toInt ∧ (f_In_numberOfTrailingZeros s37.1).toInt < ((9 : Nat) : Int)) (
        rh_g (0 ≤ s37.1.toInt ∧ s37.1.toInt < ((512 : Nat) : Int)) (
          some (.inl (s37.1 + (1 : Int32), rh_up s37.2 9 s37.1.toNatClampNeg ((s37.2 9 (s37.1 &&& (s37.1 - (1 : Int32))).toNatClampNeg) + (s37.2 8 (f_In_numberOfTrailingZeros s37.1).toNatClampNeg))))
        )
      )
    )
def f_Mo_findSets (h : Nat → Nat → Int32) (rd : Option Nat) (p0 : Int32) : Option ((Nat → Nat → Int32) × (Option Nat)) :=
  (rh_loop (b_Mo_findSets_2 p0) rh_N ((0 : Int32), h, rd)).bind (fun r5 =>
    (rh_loop (b_Mo_findSets_37 r5.2) rh_N ((1 : Int32), rh_up r5.1 9 (0 : Int32).toNatClampNeg (0 : Int32))).bind (fun r11 =>
      some ((r11, r5.2))
    )
  )
set_option maxRecDepth 20000 in
set_option maxHeartbeats 4000000 in
theorem lb_Mo_findSets_2 (d : Nat) (u1 : Int32) (g : Nat → Nat → Int64) (v9 : Option Value) (h9 : rh_H) : ∀ s2 x9, b_Mo_findSets_2 u1 s2 = some x9 → Sum.elim (fun s2 => rh_Ex (rh_M rh_PT mw_L (d + 267)) mw_L pg_X12_findSets ((2, [some (.ref 0), some (.int u1), some (.int s2.1)], []), (s2.2.1, g, mw_R s2.2.2)) v9 h9) (fun e9 => rh_Ex (rh_M rh_PT mw_L (d + 267)) mw_L pg_X12_findSets ((28, [some (.ref 0), none, none], []), (e9.1, g, mw_R e9.2)) v9 h9) x9 → rh_Ex (rh_M rh_PT mw_L (d + 267)) mw_L pg_X12_findSets ((2, [some (.ref 0), some (.int u1), some (.int s2.1)], []), (s2.2.1, g, mw_R s2.2.2)) v9 h9 := by
  intro s2 x9 hf hk
  unfold b_Mo_findSets_2 at hf
  refine rh_Ex.blk 3 (s' := ((7, [some (.ref 0), some (.int u1), some (.int s2.1)], [.int (s2.2.1 0 1), .int s2.1]), (s2.2.1, g, mw_R s2.2.2))) rfl ?_
  by_cases q2 : (s2.2.1 0 1) ≤ s2.1
  · rw [if_pos q2] at hf
    refine rh_Ex.stp (s' := ((28, [some (.ref 0), some (.int u1), some (.int s2.1)], []), (s2.2.1, g, mw_R s2.2.2))) rfl (st_icge_p q2) ?_
    obtain rfl := Option.some.inj hf
    refine rh_Ex.fgt [some (.ref 0), none, none] ⟨rfl, trivial⟩ ?_
    exact hk
  · rw [if_neg q2] at hf
    refine rh_Ex.stp (s' := ((10, [some (.ref 0), some (.int u1), some (.int s2.1)], []), (s2.2.1, g, mw_R s2.2.2))) rfl (st_icge_n q2) ?_
    refine rh_Ex.blk 6 (s' := ((18, [some (.ref 0), some (.int u1), some (.int s2.1)], [.int u1, .int s2.1, .ref 0, .int s2.1, .ref 8]), (s2.2.1, g, mw_R s2.2.2))) rfl ?_
    obtain ⟨x3, hx3, hf⟩ := rh_bq hf
    refine rh_Ex.call (j := 205) (rc := some 11) [.ref 0, .int s2.1, .int u1] [.int s2.1, .ref 8] (some (.int x3.1)) rfl rfl rfl (Nat.le_of_ble_eq_true rfl) (R_Mo_weightOf d s2.2.2 s2.2.1 g s2.1 u1 hx3) ?_
    show rh_Ex _ _ _ ((21, [some (.ref 0), some (.int u1), some (.int s2.1)], [.int x3.1, .int s2.1, .ref 8]), (x3.2.1, g, mw_R x3.2.2)) _ _
    obtain ⟨q4, hf⟩ := rh_gq hf
    refine rh_Ex.stp (s' := ((22, [some (.ref 0), some (.int u1), some (.int s2.1)], []), (rh_up x3.2.1 8 s2.1.toNatClampNeg x3.1, g, mw_R x3.2.2))) rfl (st_iast (n := 9) rfl q4) ?_
    refine rh_Ex.blk 2 (s' := ((2, [some (.ref 0), some (.int u1), some (.int (s2.1 + (1 : Int32)))], []), (rh_up x3.2.1 8 s2.1.toNatClampNeg x3.1, g, mw_R x3.2.2))) rfl ?_
    obtain rfl := Option.some.inj hf
    refine rh_Ex.fgt [some (.ref 0), some (.int u1), some (.int (s2.1 + (1 : Int32)))] ⟨rfl, rfl, rfl, trivial⟩ ?_
    exact hk
set_option maxRecDepth 20000 in
set_option maxHeartbeats 4000000 in
theorem lb_Mo_findSets_37 (d : Nat) (rd : Option Nat) (g : Nat → Nat → Int64) (v9 : Option Value) (h9 : rh_H) : ∀ s37 x9, b_Mo_findSets_37 rd s37 = some x9 → Sum.elim (fun s37 => rh_Ex (rh_M rh_PT mw_L (d + 267)) mw_L pg_X12_findSets ((37, [some (.ref 0), none, some (.int s37.1)], []), (s37.2, g, mw_R rd)) v9 h9) (fun e9 => rh_Ex (rh_M rh_PT mw_L (d + 267)) mw_L pg_X12_findSets ((77, [none, none, none], []), (e9, g, mw_R rd)) v9 h9) x9 → rh_Ex (rh_M rh_PT mw_L (d + 267)) mw_L pg_X12_findSets ((37, [some (.ref 0), none, some (.int s37.1)], []), (s37.2, g, mw_R rd)) v9 h9 := by
  intro s37 x9 hf hk
  unfold b_Mo_findSets_37 at hf
  refine rh_Ex.blk 2 (s' := ((39, [some (.ref 0), none, some (.int s37.1)], [.ref 0, .int s37.1]), (s37.2, g, mw_R rd))) rfl ?_
  refine rh_Ex.call (j := 184) (rc := some 11) [.ref 0] [.int s37.1] (some (.int (f_Mo_everybody s37.2))) rfl rfl rfl (Nat.le_of_ble_eq_true rfl) (R_Mo_everybody (d + 266) rd s37.2 g  rfl) ?_
  show rh_Ex _ _ _ ((42, [some (.ref 0), none, some (.int s37.1)], [.int (f_Mo_everybody s37.2), .int s37.1]), (s37.2, g, mw_R rd)) _ _
  by_cases q7 : (f_Mo_everybody s37.2) < s37.1
  · rw [if_pos q7] at hf
    refine rh_Ex.stp (s' := ((77, [some (.ref 0), none, some (.int s37.1)], []), (s37.2, g, mw_R rd))) rfl (st_icgt_p q7) ?_
    obtain rfl := Option.some.inj hf
    refine rh_Ex.fgt [none, none, none] trivial ?_
    exact hk
  · rw [if_neg q7] at hf
    refine rh_Ex.stp (s' := ((45, [some (.ref 0), none, some (.int s37.1)], []), (s37.2, g, mw_R rd))) rfl (st_icgt_n q7) ?_
    refine rh_Ex.blk 10 (s' := ((59, [some (.ref 0), none, some (.int s37.1)], [.int (s37.1 &&& (s37.1 - (1 : Int32))), .ref 9, .int s37.1, .ref 9]), (s37.2, g, mw_R rd))) rfl ?_
    obtain ⟨q8, hf⟩ := rh_gq hf
    refine rh_Ex.stp (s' := ((60, [some (.ref 0), none, some (.int s37.1)], [.int (s37.2 9 (s37.1 &&& (s37.1 - (1 : Int32))).toNatClampNeg), .int s37.1, .ref 9]), (s37.2, g, mw_R rd))) rfl (st_iald (n := 512) rfl q8) ?_
    refine rh_Ex.blk 3 (s' := ((65, [some (.ref 0), none, some (.int s37.1)], [.int s37.1, .ref 8, .int (s37.2 9 (s37.1 &&& (s37.1 - (1 : Int32))).toNatClampNeg), .int s37.1, .ref 9]), (s37.2, g, mw_R rd))) rfl ?_
    refine rh_Ex.call (j := 297) (rc := none) [.int s37.1] [.ref 8, .int (s37.2 9 (s37.1 &&& (s37.1 - (1 : Int32))).toNatClampNeg), .int s37.1, .ref 9] (some (.int (f_In_numberOfTrailingZeros s37.1))) rfl rfl trivial (Nat.le_of_ble_eq_true rfl) (R_In_numberOfTrailingZeros (d + 266) mw_L (mw_R rd) s37.2 g s37.1 rfl) ?_
    show rh_Ex _ _ _ ((68, [some (.ref 0), none, some (.int s37.1)], [.int (f_In_numberOfTrailingZeros s37.1), .ref 8, .int (s37.2 9 (s37.1 &&& (s37.1 - (1 : Int32))).toNatClampNeg), .int s37.1, .ref 9]), (s37.2, g, mw_R rd)) _ _
    obtain ⟨q9, hf⟩ := rh_gq hf
    refine rh_Ex.stp (s' := ((69, [some (.ref 0), none, some (.int s37.1)], [.int (s37.2 8 (f_In_numberOfTrailingZeros s37.1).toNatClampNeg), .int (s37.2 9 (s37.1 &&& (s37.1 - (1 : Int32))).toNatClampNeg), .int s37.1, .ref 9]), (s37.2, g, mw_R rd))) rfl (st_iald (n := 9) rfl q9) ?_
    refine rh_Ex.blk 1 (s' := ((70, [some (.ref 0), none, some (.int s37.1)], [.int ((s37.2 9 (s37.1 &&& (s37.1 - (1 : Int32))).toNatClampNeg) + (s37.2 8 (f_In_numberOfTrailingZeros s37.1).toNatClampNeg)), .int s37.1, .ref 9]), (s37.2, g, mw_R rd))) rfl ?_
    obtain ⟨q10, hf⟩ := rh_gq hf
    refine rh_Ex.stp (s' := ((71, [some (.ref 0), none, some (.int s37.1)], []), (rh_up s37.2 9 s37.1.toNatClampNeg ((s37.2 9 (s37.1 &&& (s37.1 - (1 : Int32))).toNatClampNeg) + (s37.2 8 (f_In_numberOfTrailingZeros s37.1).toNatClampNeg)), g, mw_R rd))) rfl (st_iast (n := 512) rfl q10) ?_
    refine rh_Ex.blk 2 (s' := ((37, [some (.ref 0), none, some (.int (s37.1 + (1 : Int32)))], []), (rh_up s37.2 9 s37.1.toNatClampNeg ((s37.2 9 (s37.1 &&& (s37.1 - (1 : Int32))).toNatClampNeg) + (s37.2 8 (f_In_numberOfTrailingZeros s37.1).toNatClampNeg)), g, mw_R rd))) rfl ?_
    obtain rfl := Option.some.inj hf
    refine rh_Ex.fgt [some (.ref 0), none, some (.int (s37.1 + (1 : Int32)))] ⟨rfl, rfl, trivial⟩ ?_
    exact hk
set_option maxRecDepth 20000 in
set_option maxHeartbeats 4000000 in
theorem R_Mo_findSets (d : Nat) (rd : Option Nat) (h : Nat → Nat → Int32) (g : Nat → Nat → Int64) (p0 : Int32) {z9 : (Nat → Nat → Int32) × (Option Nat)} (hf : f_Mo_findSets h rd p0 = some z9) : rh_M rh_PT mw_L (d + 268) 208 [.ref 0, .int p0] (h, g, mw_R rd) none (z9.1, g, mw_R z9.2) := by
  unfold f_Mo_findSets at hf
  refine rh_go pt_208 (Nat.le_of_ble_eq_true rfl) (lv := [some (.ref 0), some (.int p0), none]) rfl ?_
  refine rh_Ex.blk 2 (s' := ((2, [some (.ref 0), some (.int p0), some (.int (0 : Int32))], []), (h, g, mw_R rd))) rfl ?_
  obtain ⟨r5, hr5, hf⟩ := rh_bq hf
  refine rh_Ex.fgt [some (.ref 0), some (.int p0), some (.int (0 : Int32))] ⟨rfl, rfl, rfl, trivial⟩ ?_
  refine rh_Ex.loop _ _ _ (lb_Mo_findSets_2 d p0  g _ _) rh_N _ r5 hr5 ?_
  refine rh_Ex.blk 4 (s' := ((34, [some (.ref 0), none, none], [.int (0 : Int32), .int (0 : Int32), .ref 9]), (r5.1, g, mw_R r5.2))) rfl ?_
  refine rh_Ex.stp (s' := ((35, [some (.ref 0), none, none], []), (rh_up r5.1 9 (0 : Int32).toNatClampNeg (0 : Int32), g, mw_R r5.2))) rfl (st_iast (n := 512) rfl (by decide)) ?_
  refine rh_Ex.blk 2 (s' := ((37, [some (.ref 0), none, some (.int (1 : Int32))], []), (rh_up r5.1 9 (0 : Int32).toNatClampNeg (0 : Int32), g, mw_R r5.2))) rfl ?_
  obtain ⟨r11, hr11, hf⟩ := rh_bq hf
  refine rh_Ex.fgt [some (.ref 0), none, some (.int (1 : Int32))] ⟨rfl, rfl, trivial⟩ ?_
  refine rh_Ex.loop _ _ _ (lb_Mo_findSets_37 d r5.2  g _ _) rh_N _ r11 hr11 ?_
  obtain rfl := Option.some.inj hf
  exact rh_Ex.ret rfl trivial
def f_Mo_dawn (h : Nat → Nat → Int32) : Int32 :=
  (((h 1 (10 : Int32).toNatClampNeg) / (9 : Int32)) * (9 : Int32))
set_option maxRecDepth 20000 in
set_option maxHeartbeats 4000000 in
theorem R_Mo_dawn (d : Nat) (rd : Option Nat) (h : Nat → Nat → Int32) (g : Nat → Nat → Int64)  {z9 : Int32} (hf : f_Mo_dawn h = z9) : rh_M rh_PT mw_L (d + 1) 209 [.ref 0] (h, g, mw_R rd) (some (.int z9)) (h, g, mw_R rd) := by
  unfold f_Mo_dawn at hf
  refine rh_go pt_209 (Nat.le_of_ble_eq_true rfl) (lv := [some (.ref 0)]) rfl ?_
  refine rh_Ex.blk 3 (s' := ((6, [some (.ref 0)], [.int (10 : Int32), .ref 1]), (h, g, mw_R rd))) rfl ?_
  refine rh_Ex.stp (s' := ((7, [some (.ref 0)], [.int (h 1 (10 : Int32).toNatClampNeg)]), (h, g, mw_R rd))) rfl (st_iald (n := 11) rfl (by decide)) ?_
  refine rh_Ex.blk 1 (s' := ((9, [some (.ref 0)], [.int (9 : Int32), .int (h 1 (10 : Int32).toNatClampNeg)]), (h, g, mw_R rd))) rfl ?_
  refine rh_Ex.stp (s' := ((10, [some (.ref 0)], [.int ((h 1 (10 : Int32).toNatClampNeg) / (9 : Int32))]), (h, g, mw_R rd))) rfl (st_idiv (by decide)) ?_
  refine rh_Ex.blk 2 (s' := ((13, [some (.ref 0)], [.int (((h 1 (10 : Int32).toNatClampNeg) / (9 : Int32)) * (9 : Int32))]), (h, g, mw_R rd))) rfl ?_
  subst hf
  exact rh_Ex.ret rfl rfl
def f_Mo_of (h : Nat → Nat → Int32) (rd : Option Nat) (p0 : Int32) (p1 : Int32) : Option (Int32 × (Nat → Nat → Int32) × (Option Nat)) :=
  (f_Mo_isOne (rh_up h 0 9 (0 : Int32)) p0).bind (fun x1 =>
    if x1 = 0 then
      some (((f_Mo_lost (rh_up h 0 9 (0 : Int32))).1, (f_Mo_lost (rh_up h 0 9 (0 : Int32))).2, rd))
    else
      if (f_Mo_in p1 (0 : Int32) (5 : Int32)) = 0 then
        some (((f_Mo_lost (rh_up h 0 9 (0 : Int32))).1, (f_Mo_lost (rh_up h 0 9 (0 : Int32))).2, rd))
      else
        if ((0 : Int) = p1.toInt) then
          some ((((h 0 2) >>> (p0 &&& 31)) &&& (1 : Int32), rh_up h 0 9 (0 : Int32), rd))
        else
          if ((1 : Int) = p1.toInt) then
            rh_g (0 ≤ p0.toInt ∧ p0.toInt < ((9 : Nat) : Int)) (
              some (((rh_up h 0 9 (0 : Int32)) 2 p0.toNatClampNeg, rh_up h 0 9 (0 : Int32), rd))
            )
          else
            if ((2 : Int) = p1.toInt) then
              (f_Mo_weightOf (rh_up h 0 9 (0 : Int32)) rd p0 ((rh_up h 0 9 (0 : Int32)) 1 (10 : Int32).toNatClampNeg)).bind (fun x8 =>
                some ((x8.1, x8.2.1, x8.2.2))
              )
            else
              if ((3 : Int) = p1.toInt) then
                rh_g (0 ≤ p0.toInt ∧ p0.toInt < ((11 : Nat) : Int)) (
                  some (((rh_up h 0 9 (0 : Int32)) 1 p0.toNatClampNeg, rh_up h 0 9 (0 : Int32), rd))
                )
              else
                if ((4 : Int) = p1.toInt) then
                  some (((((rh_up h 0 9 (0 : Int32)) 1 (9 : Int32).toNatClampNeg) >>> (p0 &&& 31)) &&& (1 : Int32), rh_up h 0 9 (0 : Int32), rd))
                else
                  (f_Mo_weightOf (rh_up h 0 9 (0 : Int32)) rd p0 ((f_Mo_dawn (rh_up h 0 9 (0 : Int32))) + (8 : Int32))).bind (fun x12 =>
                    some ((x12.1, x12.2.1, x12.2.2))
                  )
  )
set_option maxRecDepth 20000 in
set_option maxHeartbeats 4000000 in
theorem R_Mo_of (d : Nat) (rd : Option Nat) (h : Nat → Nat → Int32) (g : Nat → Nat → Int64) (p0 : Int32) (p1 : Int32) {z9 : Int32 × (Nat → Nat → Int32) × (Option Nat)} (hf : f_Mo_of h rd p0 p1 = some z9) : rh_M rh_PT mw_L (d + 268) 210 [.ref 0, .int p0, .int p1] (h, g, mw_R rd) (some (.int z9.1)) (z9.2.1, g, mw_R z9.2.2) := by
  unfold f_Mo_of at hf
  refine rh_go pt_210 (Nat.le_of_ble_eq_true rfl) (lv := [some (.ref 0), some (.int p0), some (.int p1)]) rfl ?_
  refine rh_Ex.blk 5 (s' := ((7, [some (.ref 0), some (.int p0), some (.int p1)], [.int p0, .ref 0]), (rh_up h 0 9 (0 : Int32), g, mw_R rd))) rfl ?_
  obtain ⟨x1, hx1, hf⟩ := rh_bq hf
  refine rh_Ex.call (j := 183) (rc := some 11) [.ref 0, .int p0] [] (some (.int x1)) rfl rfl rfl (Nat.le_of_ble_eq_true rfl) (R_Mo_isOne (d + 265) rd (rh_up h 0 9 (0 : Int32)) g p0 hx1) ?_
  show rh_Ex _ _ _ ((10, [some (.ref 0), some (.int p0), some (.int p1)], [.int x1]), (rh_up h 0 9 (0 : Int32), g, mw_R rd)) _ _
  by_cases q2 : x1 = 0
  · rw [if_pos q2] at hf
    refine rh_Ex.stp (s' := ((22, [some (.ref 0), some (.int p0), some (.int p1)], []), (rh_up h 0 9 (0 : Int32), g, mw_R rd))) rfl (st_ifeq_p q2) ?_
    refine rh_Ex.blk 1 (s' := ((23, [some (.ref 0), some (.int p0), some (.int p1)], [.ref 0]), (rh_up h 0 9 (0 : Int32), g, mw_R rd))) rfl ?_
    refine rh_Ex.call (j := 181) (rc := some 11) [.ref 0] [] (some (.int ((f_Mo_lost (rh_up h 0 9 (0 : Int32))).1))) rfl rfl rfl (Nat.le_of_ble_eq_true rfl) (R_Mo_lost (d + 266) rd (rh_up h 0 9 (0 : Int32)) g  rfl) ?_
    show rh_Ex _ _ _ ((26, [some (.ref 0), some (.int p0), some (.int p1)], [.int ((f_Mo_lost (rh_up h 0 9 (0 : Int32))).1)]), ((f_Mo_lost (rh_up h 0 9 (0 : Int32))).2, g, mw_R rd)) _ _
    obtain rfl := Option.some.inj hf
    exact rh_Ex.ret rfl rfl
  · rw [if_neg q2] at hf
    refine rh_Ex.stp (s' := ((13, [some (.ref 0), some (.int p0), some (.int p1)], []), (rh_up h 0 9 (0 : Int32), g, mw_R rd))) rfl (st_ifeq_n q2) ?_
    refine rh_Ex.blk 3 (s' := ((16, [some (.ref 0), some (.int p0), some (.int p1)], [.int (5 : Int32), .int (0 : Int32), .int p1]), (rh_up h 0 9 (0 : Int32), g, mw_R rd))) rfl ?_
    refine rh_Ex.call (j := 179) (rc := none) [.int p1, .int (0 : Int32), .int (5 : Int32)] [] (some (.int (f_Mo_in p1 (0 : Int32) (5 : Int32)))) rfl rfl trivial (Nat.le_of_ble_eq_true rfl) (R_Mo_in (d + 266) mw_L (mw_R rd) (rh_up h 0 9 (0 : Int32)) g p1 (0 : Int32) (5 : Int32) rfl) ?_
    show rh_Ex _ _ _ ((19, [some (.ref 0), some (.int p0), some (.int p1)], [.int (f_Mo_in p1 (0 : Int32) (5 : Int32))]), (rh_up h 0 9 (0 : Int32), g, mw_R rd)) _ _
    by_cases q3 : (f_Mo_in p1 (0 : Int32) (5 : Int32)) = 0
    · rw [if_pos q3] at hf
      refine rh_Ex.stp (s' := ((22, [some (.ref 0), some (.int p0), some (.int p1)], []), (rh_up h 0 9 (0 : Int32), g, mw_R rd))) rfl (st_ifne_p q3) ?_
      refine rh_Ex.blk 1 (s' := ((23, [some (.ref 0), some (.int p0), some (.int p1)], [.ref 0]), (rh_up h 0 9 (0 : Int32), g, mw_R rd))) rfl ?_
      refine rh_Ex.call (j := 181) (rc := some 11) [.ref 0] [] (some (.int ((f_Mo_lost (rh_up h 0 9 (0 : Int32))).1))) rfl rfl rfl (Nat.le_of_ble_eq_true rfl) (R_Mo_lost (d + 266) rd (rh_up h 0 9 (0 : Int32)) g  rfl) ?_
      show rh_Ex _ _ _ ((26, [some (.ref 0), some (.int p0), some (.int p1)], [.int ((f_Mo_lost (rh_up h 0 9 (0 : Int32))).1)]), ((f_Mo_lost (rh_up h 0 9 (0 : Int32))).2, g, mw_R rd)) _ _
      obtain rfl := Option.some.inj hf
      exact rh_Ex.ret rfl rfl
    · rw [if_neg q3] at hf
      refine rh_Ex.stp (s' := ((27, [some (.ref 0), some (.int p0), some (.int p1)], []), (rh_up h 0 9 (0 : Int32), g, mw_R rd))) rfl (st_ifne_n q3) ?_
      refine rh_Ex.blk 1 (s' := ((28, [some (.ref 0), some (.int p0), some (.int p1)], [.int p1]), (rh_up h 0 9 (0 : Int32), g, mw_R rd))) rfl ?_
      refine rh_Ex.stp (s' := ((rh_tw 0 [64, 73, 80, 93, 100] 112 p1, [some (.ref 0), some (.int p0), some (.int p1)], []), (rh_up h 0 9 (0 : Int32), g, mw_R rd))) rfl rfl ?_
      by_cases q4 : ((0 : Int) = p1.toInt)
      · rw [if_pos q4] at hf
        rw [rh_tw, if_pos (show (0 : Int) = p1.toInt from q4)]
        refine rh_Ex.blk 6 (s' := ((72, [some (.ref 0), some (.int p0), some (.int p1)], [.int (((h 0 2) >>> (p0 &&& 31)) &&& (1 : Int32))]), (rh_up h 0 9 (0 : Int32), g, mw_R rd))) rfl ?_
        obtain rfl := Option.some.inj hf
        exact rh_Ex.ret rfl rfl
      · rw [if_neg q4] at hf
        rw [rh_tw, if_neg (show ¬ (0 : Int) = p1.toInt from q4)]
        by_cases q5 : ((1 : Int) = p1.toInt)
        · rw [if_pos q5] at hf
          rw [rh_tw, if_pos (show (0 + 1 : Int) = p1.toInt from q5)]
          refine rh_Ex.blk 3 (s' := ((78, [some (.ref 0), some (.int p0), some (.int p1)], [.int p0, .ref 2]), (rh_up h 0 9 (0 : Int32), g, mw_R rd))) rfl ?_
          obtain ⟨q6, hf⟩ := rh_gq hf
          refine rh_Ex.stp (s' := ((79, [some (.ref 0), some (.int p0), some (.int p1)], [.int ((rh_up h 0 9 (0 : Int32)) 2 p0.toNatClampNeg)]), (rh_up h 0 9 (0 : Int32), g, mw_R rd))) rfl (st_iald (n := 9) rfl q6) ?_
          obtain rfl := Option.some.inj hf
          exact rh_Ex.ret rfl rfl
        · rw [if_neg q5] at hf
          rw [rh_tw, if_neg (show ¬ (0 + 1 : Int) = p1.toInt from q5)]
          by_cases q7 : ((2 : Int) = p1.toInt)
          · rw [if_pos q7] at hf
            rw [rh_tw, if_pos (show (0 + 1 + 1 : Int) = p1.toInt from q7)]
            refine rh_Ex.blk 5 (s' := ((88, [some (.ref 0), some (.int p0), some (.int p1)], [.int (10 : Int32), .ref 1, .int p0, .ref 0]), (rh_up h 0 9 (0 : Int32), g, mw_R rd))) rfl ?_
            refine rh_Ex.stp (s' := ((89, [some (.ref 0), some (.int p0), some (.int p1)], [.int ((rh_up h 0 9 (0 : Int32)) 1 (10 : Int32).toNatClampNeg), .int p0, .ref 0]), (rh_up h 0 9 (0 : Int32), g, mw_R rd))) rfl (st_iald (n := 11) rfl (by decide)) ?_
            obtain ⟨x8, hx8, hf⟩ := rh_bq hf
            refine rh_Ex.call (j := 205) (rc := some 11) [.ref 0, .int p0, .int ((rh_up h 0 9 (0 : Int32)) 1 (10 : Int32).toNatClampNeg)] [] (some (.int x8.1)) rfl rfl rfl (Nat.le_of_ble_eq_true rfl) (R_Mo_weightOf d rd (rh_up h 0 9 (0 : Int32)) g p0 ((rh_up h 0 9 (0 : Int32)) 1 (10 : Int32).toNatClampNeg) hx8) ?_
            show rh_Ex _ _ _ ((92, [some (.ref 0), some (.int p0), some (.int p1)], [.int x8.1]), (x8.2.1, g, mw_R x8.2.2)) _ _
            obtain rfl := Option.some.inj hf
            exact rh_Ex.ret rfl rfl
          · rw [if_neg q7] at hf
            rw [rh_tw, if_neg (show ¬ (0 + 1 + 1 : Int) = p1.toInt from q7)]
            by_cases q9 : ((3 : Int) = p1.toInt)
            · rw [if_pos q9] at hf
              rw [rh_tw, if_pos (show (0 + 1 + 1 + 1 : Int) = p1.toInt from q9)]
              refine rh_Ex.blk 3 (s' := ((98, [some (.ref 0), some (.int p0), some (.int p1)], [.int p0, .ref 1]), (rh_up h 0 9 (0 : Int32), g, mw_R rd))) rfl ?_
              obtain ⟨q10, hf⟩ := rh_gq hf
              refine rh_Ex.stp (s' := ((99, [some (.ref 0), some (.int p0), some (.int p1)], [.int ((rh_up h 0 9 (0 : Int32)) 1 p0.toNatClampNeg)]), (rh_up h 0 9 (0 : Int32), g, mw_R rd))) rfl (st_iald (n := 11) rfl q10) ?_
              obtain rfl := Option.some.inj hf
              exact rh_Ex.ret rfl rfl
            · rw [if_neg q9] at hf
              rw [rh_tw, if_neg (show ¬ (0 + 1 + 1 + 1 : Int) = p1.toInt from q9)]
              by_cases q11 : ((4 : Int) = p1.toInt)
              · rw [if_pos q11] at hf
                rw [rh_tw, if_pos (show (0 + 1 + 1 + 1 + 1 : Int) = p1.toInt from q11)]
                refine rh_Ex.blk 3 (s' := ((106, [some (.ref 0), some (.int p0), some (.int p1)], [.int (9 : Int32), .ref 1]), (rh_up h 0 9 (0 : Int32), g, mw_R rd))) rfl ?_
                refine rh_Ex.stp (s' := ((107, [some (.ref 0), some (.int p0), some (.int p1)], [.int ((rh_up h 0 9 (0 : Int32)) 1 (9 : Int32).toNatClampNeg)]), (rh_up h 0 9 (0 : Int32), g, mw_R rd))) rfl (st_iald (n := 11) rfl (by decide)) ?_
                refine rh_Ex.blk 4 (s' := ((111, [some (.ref 0), some (.int p0), some (.int p1)], [.int ((((rh_up h 0 9 (0 : Int32)) 1 (9 : Int32).toNatClampNeg) >>> (p0 &&& 31)) &&& (1 : Int32))]), (rh_up h 0 9 (0 : Int32), g, mw_R rd))) rfl ?_
                obtain rfl := Option.some.inj hf
                exact rh_Ex.ret rfl rfl
              · rw [if_neg q11] at hf
                rw [rh_tw, if_neg (show ¬ (0 + 1 + 1 + 1 + 1 : Int) = p1.toInt from q11)]
                rw [rh_tw]
                refine rh_Ex.blk 3 (s' := ((115, [some (.ref 0), some (.int p0), some (.int p1)], [.ref 0, .int p0, .ref 0]), (rh_up h 0 9 (0 : Int32), g, mw_R rd))) rfl ?_
                refine rh_Ex.call (j := 209) (rc := some 11) [.ref 0] [.int p0, .ref 0] (some (.int (f_Mo_dawn (rh_up h 0 9 (0 : Int32))))) rfl rfl rfl (Nat.le_of_ble_eq_true rfl) (R_Mo_dawn (d + 266) rd (rh_up h 0 9 (0 : Int32)) g  rfl) ?_
                show rh_Ex _ _ _ ((118, [some (.ref 0), some (.int p0), some (.int p1)], [.int (f_Mo_dawn (rh_up h 0 9 (0 : Int32))), .int p0, .ref 0]), (rh_up h 0 9 (0 : Int32), g, mw_R rd)) _ _
                refine rh_Ex.blk 2 (s' := ((121, [some (.ref 0), some (.int p0), some (.int p1)], [.int ((f_Mo_dawn (rh_up h 0 9 (0 : Int32))) + (8 : Int32)), .int p0, .ref 0]), (rh_up h 0 9 (0 : Int32), g, mw_R rd))) rfl ?_
                obtain ⟨x12, hx12, hf⟩ := rh_bq hf
                refine rh_Ex.call (j := 205) (rc := some 11) [.ref 0, .int p0, .int ((f_Mo_dawn (rh_up h 0 9 (0 : Int32))) + (8 : Int32))] [] (some (.int x12.1)) rfl rfl rfl (Nat.le_of_ble_eq_true rfl) (R_Mo_weightOf d rd (rh_up h 0 9 (0 : Int32)) g p0 ((f_Mo_dawn (rh_up h 0 9 (0 : Int32))) + (8 : Int32)) hx12) ?_
                show rh_Ex _ _ _ ((124, [some (.ref 0), some (.int p0), some (.int p1)], [.int x12.1]), (x12.2.1, g, mw_R x12.2.2)) _ _
                obtain rfl := Option.some.inj hf
                exact rh_Ex.ret rfl rfl
def f_Mo_weight (h : Nat → Nat → Int32) (rd : Option Nat) (p0 : Int32) (p1 : Int32) : Option (Int32 × (Nat → Nat → Int32) × (Option Nat)) :=
  (f_Mo_isOne (rh_up h 0 9 (0 : Int32)) p0).bind (fun x1 =>
    if x1 = 0 then
      some (((f_Mo_lost (rh_up h 0 9 (0 : Int32))).1, (f_Mo_lost (rh_up h 0 9 (0 : Int32))).2, rd))
    else
      if (f_Mo_in p1 (0 : Int32) (999 : Int32)) = 0 then
        some (((f_Mo_lost (rh_up h 0 9 (0 : Int32))).1, (f_Mo_lost (rh_up h 0 9 (0 : Int32))).2, rd))
      else
        (f_Mo_weightOf (rh_up h 0 9 (0 : Int32)) rd p0 (((rh_up h 0 9 (0 : Int32)) 1 (10 : Int32).toNatClampNeg) + p1)).bind (fun x4 =>
          some ((x4.1, x4.2.1, x4.2.2))
        )
  )
set_option maxRecDepth 20000 in
set_option maxHeartbeats 4000000 in
theorem R_Mo_weight (d : Nat) (rd : Option Nat) (h : Nat → Nat → Int32) (g : Nat → Nat → Int64) (p0 : Int32) (p1 : Int32) {z9 : Int32 × (Nat → Nat → Int32) × (Option Nat)} (hf : f_Mo_weight h rd p0 p1 = some z9) : rh_M rh_PT mw_L (d + 268) 211 [.ref 0, .int p0, .int p1] (h, g, mw_R rd) (some (.int z9.1)) (z9.2.1, g, mw_R z9.2.2) := by
  unfold f_Mo_weight at hf
  refine rh_go pt_211 (Nat.le_of_ble_eq_true rfl) (lv := [some (.ref 0), some (.int p0), some (.int p1)]) rfl ?_
  refine rh_Ex.blk 5 (s' := ((7, [some (.ref 0), some (.int p0), some (.int p1)], [.int p0, .ref 0]), (rh_up h 0 9 (0 : Int32), g, mw_R rd))) rfl ?_
  obtain ⟨x1, hx1, hf⟩ := rh_bq hf
  refine rh_Ex.call (j := 183) (rc := some 11) [.ref 0, .int p0] [] (some (.int x1)) rfl rfl rfl (Nat.le_of_ble_eq_true rfl) (R_Mo_isOne (d + 265) rd (rh_up h 0 9 (0 : Int32)) g p0 hx1) ?_
  show rh_Ex _ _ _ ((10, [some (.ref 0), some (.int p0), some (.int p1)], [.int x1]), (rh_up h 0 9 (0 : Int32), g, mw_R rd)) _ _
  by_cases q2 : x1 = 0
  · rw [if_pos q2] at hf
    refine rh_Ex.stp (s' := ((41, [some (.ref 0), some (.int p0), some (.int p1)], []), (rh_up h 0 9 (0 : Int32), g, mw_R rd))) rfl (st_ifeq_p q2) ?_
    refine rh_Ex.blk 1 (s' := ((42, [some (.ref 0), some (.int p0), some (.int p1)], [.ref 0]), (rh_up h 0 9 (0 : Int32), g, mw_R rd))) rfl ?_
    refine rh_Ex.call (j := 181) (rc := some 11) [.ref 0] [] (some (.int ((f_Mo_lost (rh_up h 0 9 (0 : Int32))).1))) rfl rfl rfl (Nat.le_of_ble_eq_true rfl) (R_Mo_lost (d + 266) rd (rh_up h 0 9 (0 : Int32)) g  rfl) ?_
    show rh_Ex _ _ _ ((45, [some (.ref 0), some (.int p0), some (.int p1)], [.int ((f_Mo_lost (rh_up h 0 9 (0 : Int32))).1)]), ((f_Mo_lost (rh_up h 0 9 (0 : Int32))).2, g, mw_R rd)) _ _
    obtain rfl := Option.some.inj hf
    exact rh_Ex.ret rfl rfl
  · rw [if_neg q2] at hf
    refine rh_Ex.stp (s' := ((13, [some (.ref 0), some (.int p0), some (.int p1)], []), (rh_up h 0 9 (0 : Int32), g, mw_R rd))) rfl (st_ifeq_n q2) ?_
    refine rh_Ex.blk 3 (s' := ((18, [some (.ref 0), some (.int p0), some (.int p1)], [.int (999 : Int32), .int (0 : Int32), .int p1]), (rh_up h 0 9 (0 : Int32), g, mw_R rd))) rfl ?_
    refine rh_Ex.call (j := 179) (rc := none) [.int p1, .int (0 : Int32), .int (999 : Int32)] [] (some (.int (f_Mo_in p1 (0 : Int32) (999 : Int32)))) rfl rfl trivial (Nat.le_of_ble_eq_true rfl) (R_Mo_in (d + 266) mw_L (mw_R rd) (rh_up h 0 9 (0 : Int32)) g p1 (0 : Int32) (999 : Int32) rfl) ?_
    show rh_Ex _ _ _ ((21, [some (.ref 0), some (.int p0), some (.int p1)], [.int (f_Mo_in p1 (0 : Int32) (999 : Int32))]), (rh_up h 0 9 (0 : Int32), g, mw_R rd)) _ _
    by_cases q3 : (f_Mo_in p1 (0 : Int32) (999 : Int32)) = 0
    · rw [if_pos q3] at hf
      refine rh_Ex.stp (s' := ((41, [some (.ref 0), some (.int p0), some (.int p1)], []), (rh_up h 0 9 (0 : Int32), g, mw_R rd))) rfl (st_ifeq_p q3) ?_
      refine rh_Ex.blk 1 (s' := ((42, [some (.ref 0), some (.int p0), some (.int p1)], [.ref 0]), (rh_up h 0 9 (0 : Int32), g, mw_R rd))) rfl ?_
      refine rh_Ex.call (j := 181) (rc := some 11) [.ref 0] [] (some (.int ((f_Mo_lost (rh_up h 0 9 (0 : Int32))).1))) rfl rfl rfl (Nat.le_of_ble_eq_true rfl) (R_Mo_lost (d + 266) rd (rh_up h 0 9 (0 : Int32)) g  rfl) ?_
      show rh_Ex _ _ _ ((45, [some (.ref 0), some (.int p0), some (.int p1)], [.int ((f_Mo_lost (rh_up h 0 9 (0 : Int32))).1)]), ((f_Mo_lost (rh_up h 0 9 (0 : Int32))).2, g, mw_R rd)) _ _
      obtain rfl := Option.some.inj hf
      exact rh_Ex.ret rfl rfl
    · rw [if_neg q3] at hf
      refine rh_Ex.stp (s' := ((24, [some (.ref 0), some (.int p0), some (.int p1)], []), (rh_up h 0 9 (0 : Int32), g, mw_R rd))) rfl (st_ifeq_n q3) ?_
      refine rh_Ex.blk 5 (s' := ((32, [some (.ref 0), some (.int p0), some (.int p1)], [.int (10 : Int32), .ref 1, .int p0, .ref 0]), (rh_up h 0 9 (0 : Int32), g, mw_R rd))) rfl ?_
      refine rh_Ex.stp (s' := ((33, [some (.ref 0), some (.int p0), some (.int p1)], [.int ((rh_up h 0 9 (0 : Int32)) 1 (10 : Int32).toNatClampNeg), .int p0, .ref 0]), (rh_up h 0 9 (0 : Int32), g, mw_R rd))) rfl (st_iald (n := 11) rfl (by decide)) ?_
      refine rh_Ex.blk 2 (s' := ((35, [some (.ref 0), some (.int p0), some (.int p1)], [.int (((rh_up h 0 9 (0 : Int32)) 1 (10 : Int32).toNatClampNeg) + p1), .int p0, .ref 0]), (rh_up h 0 9 (0 : Int32), g, mw_R rd))) rfl ?_
      obtain ⟨x4, hx4, hf⟩ := rh_bq hf
      refine rh_Ex.call (j := 205) (rc := some 11) [.ref 0, .int p0, .int (((rh_up h 0 9 (0 : Int32)) 1 (10 : Int32).toNatClampNeg) + p1)] [] (some (.int x4.1)) rfl rfl rfl (Nat.le_of_ble_eq_true rfl) (R_Mo_weightOf d rd (rh_up h 0 9 (0 : Int32)) g p0 (((rh_up h 0 9 (0 : Int32)) 1 (10 : Int32).toNatClampNeg) + p1) hx4) ?_
      show rh_Ex _ _ _ ((38, [some (.ref 0), some (.int p0), some (.int p1)], [.int x4.1]), (x4.2.1, g, mw_R x4.2.2)) _ _
      refine rh_Ex.blk 1 (s' := ((45, [some (.ref 0), some (.int p0), some (.int p1)], [.int x4.1]), (x4.2.1, g, mw_R x4.2.2))) rfl ?_
      obtain rfl := Option.some.inj hf
      exact rh_Ex.ret rfl rfl
def f_Mo_all (h : Nat → Nat → Int32) (rd : Option Nat) (p0 : Int32) (p1 : Int32) : Option (Int32 × (Nat → Nat → Int32) × (Option Nat)) :=
  (f_Mo_areFolk (rh_up h 0 9 (0 : Int32)) p0).bind (fun x1 =>
    if x1 = 0 then
      some (((-1 : Int32), rh_up h 0 9 (0 : Int32), rd))
    else
      if (f_Mo_in p1 (0 : Int32) (999 : Int32)) = 0 then
        some (((-1 : Int32), rh_up h 0 9 (0 : Int32), rd))
      else
        (f_Mo_weightOfAll (rh_up h 0 9 (0 : Int32)) rd p0 (((rh_up h 0 9 (0 : Int32)) 1 (10 : Int32).toNatClampNeg) + p1)).bind (fun x4 =>
          some ((x4.1, x4.2.1, x4.2.2))
        )
  )
set_option maxRecDepth 20000 in
set_option maxHeartbeats 4000000 in
theorem R_Mo_all (d : Nat) (rd : Option Nat) (h : Nat → Nat → Int32) (g : Nat → Nat → Int64) (p0 : Int32) (p1 : Int32) {z9 : Int32 × (Nat → Nat → Int32) × (Option Nat)} (hf : f_Mo_all h rd p0 p1 = some z9) : rh_M rh_PT mw_L (d + 269) 212 [.ref 0, .int p0, .int p1] (h, g, mw_R rd) (some (.int z9.1)) (z9.2.1, g, mw_R z9.2.2) := by
  unfold f_Mo_all at hf
  refine rh_go pt_212 (Nat.le_of_ble_eq_true rfl) (lv := [some (.ref 0), some (.int p0), some (.int p1)]) rfl ?_
  refine rh_Ex.blk 5 (s' := ((7, [some (.ref 0), some (.int p0), some (.int p1)], [.int p0, .ref 0]), (rh_up h 0 9 (0 : Int32), g, mw_R rd))) rfl ?_
  obtain ⟨x1, hx1, hf⟩ := rh_bq hf
  refine rh_Ex.call (j := 185) (rc := some 11) [.ref 0, .int p0] [] (some (.int x1)) rfl rfl rfl (Nat.le_of_ble_eq_true rfl) (R_Mo_areFolk (d + 266) rd (rh_up h 0 9 (0 : Int32)) g p0 hx1) ?_
  show rh_Ex _ _ _ ((10, [some (.ref 0), some (.int p0), some (.int p1)], [.int x1]), (rh_up h 0 9 (0 : Int32), g, mw_R rd)) _ _
  by_cases q2 : x1 = 0
  · rw [if_pos q2] at hf
    refine rh_Ex.stp (s' := ((41, [some (.ref 0), some (.int p0), some (.int p1)], []), (rh_up h 0 9 (0 : Int32), g, mw_R rd))) rfl (st_ifeq_p q2) ?_
    refine rh_Ex.blk 1 (s' := ((42, [some (.ref 0), some (.int p0), some (.int p1)], [.int (-1 : Int32)]), (rh_up h 0 9 (0 : Int32), g, mw_R rd))) rfl ?_
    obtain rfl := Option.some.inj hf
    exact rh_Ex.ret rfl rfl
  · rw [if_neg q2] at hf
    refine rh_Ex.stp (s' := ((13, [some (.ref 0), some (.int p0), some (.int p1)], []), (rh_up h 0 9 (0 : Int32), g, mw_R rd))) rfl (st_ifeq_n q2) ?_
    refine rh_Ex.blk 3 (s' := ((18, [some (.ref 0), some (.int p0), some (.int p1)], [.int (999 : Int32), .int (0 : Int32), .int p1]), (rh_up h 0 9 (0 : Int32), g, mw_R rd))) rfl ?_
    refine rh_Ex.call (j := 179) (rc := none) [.int p1, .int (0 : Int32), .int (999 : Int32)] [] (some (.int (f_Mo_in p1 (0 : Int32) (999 : Int32)))) rfl rfl trivial (Nat.le_of_ble_eq_true rfl) (R_Mo_in (d + 267) mw_L (mw_R rd) (rh_up h 0 9 (0 : Int32)) g p1 (0 : Int32) (999 : Int32) rfl) ?_
    show rh_Ex _ _ _ ((21, [some (.ref 0), some (.int p0), some (.int p1)], [.int (f_Mo_in p1 (0 : Int32) (999 : Int32))]), (rh_up h 0 9 (0 : Int32), g, mw_R rd)) _ _
    by_cases q3 : (f_Mo_in p1 (0 : Int32) (999 : Int32)) = 0
    · rw [if_pos q3] at hf
      refine rh_Ex.stp (s' := ((41, [some (.ref 0), some (.int p0), some (.int p1)], []), (rh_up h 0 9 (0 : Int32), g, mw_R rd))) rfl (st_ifeq_p q3) ?_
      refine rh_Ex.blk 1 (s' := ((42, [some (.ref 0), some (.int p0), some (.int p1)], [.int (-1 : Int32)]), (rh_up h 0 9 (0 : Int32), g, mw_R rd))) rfl ?_
      obtain rfl := Option.some.inj hf
      exact rh_Ex.ret rfl rfl
    · rw [if_neg q3] at hf
      refine rh_Ex.stp (s' := ((24, [some (.ref 0), some (.int p0), some (.int p1)], []), (rh_up h 0 9 (0 : Int32), g, mw_R rd))) rfl (st_ifeq_n q3) ?_
      refine rh_Ex.blk 5 (s' := ((32, [some (.ref 0), some (.int p0), some (.int p1)], [.int (10 : Int32), .ref 1, .int p0, .ref 0]), (rh_up h 0 9 (0 : Int32), g, mw_R rd))) rfl ?_
      refine rh_Ex.stp (s' := ((33, [some (.ref 0), some (.int p0), some (.int p1)], [.int ((rh_up h 0 9 (0 : Int32)) 1 (10 : Int32).toNatClampNeg), .int p0, .ref 0]), (rh_up h 0 9 (0 : Int32), g, mw_R rd))) rfl (st_iald (n := 11) rfl (by decide)) ?_
      refine rh_Ex.blk 2 (s' := ((35, [some (.ref 0), some (.int p0), some (.int p1)], [.int (((rh_up h 0 9 (0 : Int32)) 1 (10 : Int32).toNatClampNeg) + p1), .int p0, .ref 0]), (rh_up h 0 9 (0 : Int32), g, mw_R rd))) rfl ?_
      obtain ⟨x4, hx4, hf⟩ := rh_bq hf
      refine rh_Ex.call (j := 207) (rc := some 11) [.ref 0, .int p0, .int (((rh_up h 0 9 (0 : Int32)) 1 (10 : Int32).toNatClampNeg) + p1)] [] (some (.int x4.1)) rfl rfl rfl (Nat.le_of_ble_eq_true rfl) (R_Mo_weightOfAll d rd (rh_up h 0 9 (0 : Int32)) g p0 (((rh_up h 0 9 (0 : Int32)) 1 (10 : Int32).toNatClampNeg) + p1) hx4) ?_
      show rh_Ex _ _ _ ((38, [some (.ref 0), some (.int p0), some (.int p1)], [.int x4.1]), (x4.2.1, g, mw_R x4.2.2)) _ _
      refine rh_Ex.blk 1 (s' := ((42, [some (.ref 0), some (.int p0), some (.int p1)], [.int x4.1]), (x4.2.1, g, mw_R x4.2.2))) rfl ?_
      obtain rfl := Option.some.inj hf
      exact rh_Ex.ret rfl rfl
def f_Mo_bear (h : Nat → Nat → Int32) (p0 : Int32) (p1 : Int32) : Option (Int32 × (Nat → Nat → Int32)) :=
  if (f_Mo_in p0 (0 : Int32) (2 : Int32)) = 0 then
    some (((-1 : Int32), rh_up h 0 9 (0 : Int32)))
  else
    (f_Mo_isHeavy p1).bind (fun x2 =>
      if x2 = 0 then
        some (((-1 : Int32), rh_up h 0 9 (0 : Int32)))
      else
        rh_g (0 ≤ p0.toInt ∧ p0.toInt < ((3 : Nat) : Int)) (
          rh_g (0 ≤ p0.toInt ∧ p0.toInt < ((3 : Nat) : Int)) (
            some (((rh_up h 0 9 (0 : Int32)) 3 p0.toNatClampNeg, rh_up (rh_up h 0 9 (0 : Int32)) 3 p0.toNatClampNeg p1))
          )
        )
    )
set_option maxRecDepth 20000 in
set_option maxHeartbeats 4000000 in
theorem R_Mo_bear (d : Nat) (rd : Option Nat) (h : Nat → Nat → Int32) (g : Nat → Nat → Int64) (p0 : Int32) (p1 : Int32) {z9 : Int32 × (Nat → Nat → Int32)} (hf : f_Mo_bear h p0 p1 = some z9) : rh_M rh_PT mw_L (d + 3) 213 [.ref 0, .int p0, .int p1] (h, g, mw_R rd) (some (.int z9.1)) (z9.2, g, mw_R rd) := by
  unfold f_Mo_bear at hf
  refine rh_go pt_213 (Nat.le_of_ble_eq_true rfl) (lv := [some (.ref 0), some (.int p0), some (.int p1), none]) rfl ?_
  refine rh_Ex.blk 6 (s' := ((8, [some (.ref 0), some (.int p0), some (.int p1), none], [.int (2 : Int32), .int (0 : Int32), .int p0]), (rh_up h 0 9 (0 : Int32), g, mw_R rd))) rfl ?_
  refine rh_Ex.call (j := 179) (rc := none) [.int p0, .int (0 : Int32), .int (2 : Int32)] [] (some (.int (f_Mo_in p0 (0 : Int32) (2 : Int32)))) rfl rfl trivial (Nat.le_of_ble_eq_true rfl) (R_Mo_in (d + 1) mw_L (mw_R rd) (rh_up h 0 9 (0 : Int32)) g p0 (0 : Int32) (2 : Int32) rfl) ?_
  show rh_Ex _ _ _ ((11, [some (.ref 0), some (.int p0), some (.int p1), none], [.int (f_Mo_in p0 (0 : Int32) (2 : Int32))]), (rh_up h 0 9 (0 : Int32), g, mw_R rd)) _ _
  by_cases q1 : (f_Mo_in p0 (0 : Int32) (2 : Int32)) = 0
  · rw [if_pos q1] at hf
    refine rh_Ex.stp (s' := ((21, [some (.ref 0), some (.int p0), some (.int p1), none], []), (rh_up h 0 9 (0 : Int32), g, mw_R rd))) rfl (st_ifeq_p q1) ?_
    refine rh_Ex.blk 1 (s' := ((22, [some (.ref 0), some (.int p0), some (.int p1), none], [.int (-1 : Int32)]), (rh_up h 0 9 (0 : Int32), g, mw_R rd))) rfl ?_
    obtain rfl := Option.some.inj hf
    exact rh_Ex.ret rfl rfl
  · rw [if_neg q1] at hf
    refine rh_Ex.stp (s' := ((14, [some (.ref 0), some (.int p0), some (.int p1), none], []), (rh_up h 0 9 (0 : Int32), g, mw_R rd))) rfl (st_ifeq_n q1) ?_
    refine rh_Ex.blk 1 (s' := ((15, [some (.ref 0), some (.int p0), some (.int p1), none], [.int p1]), (rh_up h 0 9 (0 : Int32), g, mw_R rd))) rfl ?_
    obtain ⟨x2, hx2, hf⟩ := rh_bq hf
    refine rh_Ex.call (j := 187) (rc := none) [.int p1] [] (some (.int x2)) rfl rfl trivial (Nat.le_of_ble_eq_true rfl) (R_Mo_isHeavy d mw_L (mw_R rd) (rh_up h 0 9 (0 : Int32)) g p1 hx2) ?_
    show rh_Ex _ _ _ ((18, [some (.ref 0), some (.int p0), some (.int p1), none], [.int x2]), (rh_up h 0 9 (0 : Int32), g, mw_R rd)) _ _
    by_cases q3 : x2 = 0
    · rw [if_pos q3] at hf
      refine rh_Ex.stp (s' := ((21, [some (.ref 0), some (.int p0), some (.int p1), none], []), (rh_up h 0 9 (0 : Int32), g, mw_R rd))) rfl (st_ifne_p q3) ?_
      refine rh_Ex.blk 1 (s' := ((22, [some (.ref 0), some (.int p0), some (.int p1), none], [.int (-1 : Int32)]), (rh_up h 0 9 (0 : Int32), g, mw_R rd))) rfl ?_
      obtain rfl := Option.some.inj hf
      exact rh_Ex.ret rfl rfl
    · rw [if_neg q3] at hf
      refine rh_Ex.stp (s' := ((23, [some (.ref 0), some (.int p0), some (.int p1), none], []), (rh_up h 0 9 (0 : Int32), g, mw_R rd))) rfl (st_ifne_n q3) ?_
      refine rh_Ex.blk 3 (s' := ((28, [some (.ref 0), some (.int p0), some (.int p1), none], [.int p0, .ref 3]), (rh_up h 0 9 (0 : Int32), g, mw_R rd))) rfl ?_
      obtain ⟨q4, hf⟩ := rh_gq hf
      refine rh_Ex.stp (s' := ((29, [some (.ref 0), some (.int p0), some (.int p1), none], [.int ((rh_up h 0 9 (0 : Int32)) 3 p0.toNatClampNeg)]), (rh_up h 0 9 (0 : Int32), g, mw_R rd))) rfl (st_iald (n := 3) rfl q4) ?_
      refine rh_Ex.blk 5 (s' := ((36, [some (.ref 0), some (.int p0), some (.int p1), some (.int ((rh_up h 0 9 (0 : Int32)) 3 p0.toNatClampNeg))], [.int p1, .int p0, .ref 3]), (rh_up h 0 9 (0 : Int32), g, mw_R rd))) rfl ?_
      obtain ⟨q5, hf⟩ := rh_gq hf
      refine rh_Ex.stp (s' := ((37, [some (.ref 0), some (.int p0), some (.int p1), some (.int ((rh_up h 0 9 (0 : Int32)) 3 p0.toNatClampNeg))], []), (rh_up (rh_up h 0 9 (0 : Int32)) 3 p0.toNatClampNeg p1, g, mw_R rd))) rfl (st_iast (n := 3) rfl q5) ?_
      refine rh_Ex.blk 1 (s' := ((38, [some (.ref 0), some (.int p0), some (.int p1), some (.int ((rh_up h 0 9 (0 : Int32)) 3 p0.toNatClampNeg))], [.int ((rh_up h 0 9 (0 : Int32)) 3 p0.toNatClampNeg)]), (rh_up (rh_up h 0 9 (0 : Int32)) 3 p0.toNatClampNeg p1, g, mw_R rd))) rfl ?_
      obtain rfl := Option.some.inj hf
      exact rh_Ex.ret rfl rfl
def j_Mo_sheet_75 (h : Nat → Nat → Int32) (u1 : Int32) (u2 : Int32) (u4 : Int32) (j5 : Int32) (j6 : Int32) (j7 : Int32) (k0 : Int32) : Option ((Int32 × Int32 × Int32 × (Nat → Nat → Int32)) ⊕ (Int32 × (Nat → Nat → Int32))) :=
  if u1 = (3 : Int32) then
    rh_g (0 ≤ j7.toInt ∧ j7.toInt < ((9 : Nat) : Int)) (
      rh_g (0 ≤ j7.toInt ∧ j7.toInt < ((9 : Nat) : Int)) (
        some (.inl (j5 + ((rh_up h 2 j7.toNatClampNeg (1 : Int32)) 2 j7.toNatClampNeg), j6 + u4, j7 + (1 : Int32), rh_up h 2 j7.toNatClampNeg (1 : Int32)))
      )
    )
  else
    if j7 < u2 then
      rh_g (0 ≤ j7.toInt ∧ j7.toInt < ((9 : Nat) : Int)) (
        rh_g (0 ≤ j7.toInt ∧ j7.toInt < ((9 : Nat) : Int)) (
          some (.inl (j5 + ((rh_up h 2 j7.toNatClampNeg (if (1 : Int32) < (if k0 < (999 : Int32) then k0 else (999 : Int32)) then (if k0 < (999 : Int32) then k0 else (999 : Int32)) else (1 : Int32))) 2 j7.toNatClampNeg), j6 + u4, j7 + (1 : Int32), rh_up h 2 j7.toNatClampNeg (if (1 : Int32) < (if k0 < (999 : Int32) then k0 else (999 : Int32)) then (if k0 < (999 : Int32) then k0 else (999 : Int32)) else (1 : Int32))))
        )
      )
    else
      rh_g (0 ≤ j7.toInt ∧ j7.toInt < ((9 : Nat) : Int)) (
        rh_g (0 ≤ j7.toInt ∧ j7.toInt < ((9 : Nat) : Int)) (
          some (.inl (j5 + ((rh_up h 2 j7.toNatClampNeg (1 : Int32)) 2 j7.toNatClampNeg), j6 + u4, j7 + (1 : Int32), rh_up h 2 j7.toNatClampNeg (1 : Int32)))
        )
      )
def b_Mo_sheet_43 (u1 : Int32) (u2 : Int32) (u4 : Int32) : (Int32 × Int32 × Int32 × (Nat → Nat → Int32)) → Option ((Int32 × Int32 × Int32 × (Nat → Nat → Int32)) ⊕ (Int32 × (Nat → Nat → Int32))) := fun s43 =>
  if (s43.2.2.2 0 1) ≤ s43.2.2.1 then
    some (.inr (s43.1, s43.2.2.2))
  else
    if u1 = 0 then
      j_Mo_sheet_75 s43.2.2.2 u1 u2 u4 s43.1 s43.2.1 s43.2.2.1 s43.2.1.toInt8.toInt32
    else
      if u1 = (1 : Int32) then
        j_Mo_sheet_75 s43.2.2.2 u1 u2 u4 s43.1 s43.2.1 s43.2.2.1 s43.2.1.toInt16.toInt32
      else
        j_Mo_sheet_75 s43.2.2.2 u1 u2 u4 s43.1 s43.2.1 s43.2.2.1 s43.2.1
def j_Mo_sheet_34 (h : Nat → Nat → Int32) (p0 : Int32) (p1 : Int32) (p2 : Int32) (p3 : Int32) : Option (Int32 × (Nat → Nat → Int32)) :=
  (rh_loop (b_Mo_sheet_43 p0 p1 p3) rh_N ((0 : Int32), p2, (0 : Int32), h)).bind (fun r16 =>
    if p0 = (3 : Int32) then
      some (((-3 : Int32), r16.2))
    else
      some ((r16.1, r16.2))
  )
def f_Mo_sheet (h : Nat → Nat → Int32) (p0 : Int32) (p1 : Int32) (p2 : Int32) (p3 : Int32) : Option (Int32 × (Nat → Nat → Int32)) :=
  if (f_Mo_in p0 (0 : Int32) (3 : Int32)) = 0 then
    some (((-1 : Int32), rh_up h 0 9 (0 : Int32)))
  else
    if p1 ≤ (9 : Int32) then
      if (3 : Int32) ≤ p0 then
        j_Mo_sheet_34 (rh_up h 0 9 (0 : Int32)) p0 p1 p2 p3
      else
        if 0 ≤ p1 then
          j_Mo_sheet_34 (rh_up h 0 9 (0 : Int32)) p0 p1 p2 p3
        else
          some (((-2 : Int32), rh_up h 0 9 (0 : Int32)))
    else
      some (((-1 : Int32), rh_up h 0 9 (0 : Int32)))
set_option maxRecDepth 20000 in
set_option maxHeartbeats 4000000 in
theorem lj_Mo_sheet_75 (d : Nat) (rd : Option Nat) (h : Nat → Nat → Int32) (u1 : Int32) (u2 : Int32) (u4 : Int32) (j5 : Int32) (j6 : Int32) (j7 : Int32) (k0 : Int32) (g : Nat → Nat → Int64) (v9 : Option Value) (h9 : rh_H) (x9 : (Int32 × Int32 × Int32 × (Nat → Nat → Int32)) ⊕ (Int32 × (Nat → Nat → Int32))) (hf : j_Mo_sheet_75 h u1 u2 u4 j5 j6 j7 k0 = some x9) (hk : Sum.elim (fun s43 => rh_Ex (rh_M rh_PT mw_L (d + 1)) mw_L pg_X12_sheet ((43, [some (.ref 0), some (.int u1), some (.int u2), none, some (.int u4), some (.int s43.1), some (.int s43.2.1), some (.int s43.2.2.1), none], []), (s43.2.2.2, g, mw_R rd)) v9 h9) (fun e9 => rh_Ex (rh_M rh_PT mw_L (d + 1)) mw_L pg_X12_sheet ((136, [none, some (.int u1), none, none, none, some (.int e9.1), none, none, none], []), (e9.2, g, mw_R rd)) v9 h9) x9) : rh_Ex (rh_M rh_PT mw_L (d + 1)) mw_L pg_X12_sheet ((75, [some (.ref 0), some (.int u1), some (.int u2), none, some (.int u4), some (.int j5), some (.int j6), some (.int j7), none], [.int k0]), (h, g, mw_R rd)) v9 h9 := by
  unfold j_Mo_sheet_75 at hf
  refine rh_Ex.blk 6 (s' := ((85, [some (.ref 0), some (.int u1), some (.int u2), none, some (.int u4), some (.int j5), some (.int j6), some (.int j7), some (.int k0)], [.int (3 : Int32), .int u1, .int j7, .ref 2]), (h, g, mw_R rd))) rfl ?_
  by_cases q7 : u1 = (3 : Int32)
  · rw [if_pos q7] at hf
    refine rh_Ex.stp (s' := ((94, [some (.ref 0), some (.int u1), some (.int u2), none, some (.int u4), some (.int j5), some (.int j6), some (.int j7), some (.int k0)], [.int j7, .ref 2]), (h, g, mw_R rd))) rfl (st_iceq_p q7) ?_
    refine rh_Ex.blk 2 (s' := ((110, [some (.ref 0), some (.int u1), some (.int u2), none, some (.int u4), some (.int j5), some (.int j6), some (.int j7), some (.int k0)], [.int (1 : Int32), .int j7, .ref 2]), (h, g, mw_R rd))) rfl ?_
    obtain ⟨q8, hf⟩ := rh_gq hf
    refine rh_Ex.stp (s' := ((111, [some (.ref 0), some (.int u1), some (.int u2), none, some (.int u4), some (.int j5), some (.int j6), some (.int j7), some (.int k0)], []), (rh_up h 2 j7.toNatClampNeg (1 : Int32), g, mw_R rd))) rfl (st_iast (n := 9) rfl q8) ?_
    refine rh_Ex.blk 4 (s' := ((119, [some (.ref 0), some (.int u1), some (.int u2), none, some (.int u4), some (.int j5), some (.int j6), some (.int j7), some (.int k0)], [.int j7, .ref 2, .int j5]), (rh_up h 2 j7.toNatClampNeg (1 : Int32), g, mw_R rd))) rfl ?_
    obtain ⟨q9, hf⟩ := rh_gq hf
    refine rh_Ex.stp (s' := ((120, [some (.ref 0), some (.int u1), some (.int u2), none, some (.int u4), some (.int j5), some (.int j6), some (.int j7), some (.int k0)], [.int ((rh_up h 2 j7.toNatClampNeg (1 : Int32)) 2 j7.toNatClampNeg), .int j5]), (rh_up h 2 j7.toNatClampNeg (1 : Int32), g, mw_R rd))) rfl (st_iald (n := 9) rfl q9) ?_
    refine rh_Ex.blk 8 (s' := ((43, [some (.ref 0), some (.int u1), some (.int u2), none, some (.int u4), some (.int (j5 + ((rh_up h 2 j7.toNatClampNeg (1 : Int32)) 2 j7.toNatClampNeg))), some (.int (j6 + u4)), some (.int (j7 + (1 : Int32))), some (.int k0)], []), (rh_up h 2 j7.toNatClampNeg (1 : Int32), g, mw_R rd))) rfl ?_
    obtain rfl := Option.some.inj hf
    refine rh_Ex.fgt [some (.ref 0), some (.int u1), some (.int u2), none, some (.int u4), some (.int (j5 + ((rh_up h 2 j7.toNatClampNeg (1 : Int32)) 2 j7.toNatClampNeg))), some (.int (j6 + u4)), some (.int (j7 + (1 : Int32))), none] ⟨rfl, rfl, rfl, rfl, rfl, rfl, rfl, trivial⟩ ?_
    exact hk
  · rw [if_neg q7] at hf
    refine rh_Ex.stp (s' := ((88, [some (.ref 0), some (.int u1), some (.int u2), none, some (.int u4), some (.int j5), some (.int j6), some (.int j7), some (.int k0)], [.int j7, .ref 2]), (h, g, mw_R rd))) rfl (st_iceq_n q7) ?_
    refine rh_Ex.blk 2 (s' := ((91, [some (.ref 0), some (.int u1), some (.int u2), none, some (.int u4), some (.int j5), some (.int j6), some (.int j7), some (.int k0)], [.int u2, .int j7, .int j7, .ref 2]), (h, g, mw_R rd))) rfl ?_
    by_cases q10 : j7 < u2
    · rw [if_pos q10] at hf
      refine rh_Ex.stp (s' := ((98, [some (.ref 0), some (.int u1), some (.int u2), none, some (.int u4), some (.int j5), some (.int j6), some (.int j7), some (.int k0)], [.int j7, .ref 2]), (h, g, mw_R rd))) rfl (st_iclt_p q10) ?_
      refine rh_Ex.blk 3 (s' := ((104, [some (.ref 0), some (.int u1), some (.int u2), none, some (.int u4), some (.int j5), some (.int j6), some (.int j7), some (.int k0)], [.int k0, .int (999 : Int32), .int (1 : Int32), .int j7, .ref 2]), (h, g, mw_R rd))) rfl ?_
      refine rh_Ex.stp (s' := ((107, [some (.ref 0), some (.int u1), some (.int u2), none, some (.int u4), some (.int j5), some (.int j6), some (.int j7), some (.int k0)], [.int (if k0 < (999 : Int32) then k0 else (999 : Int32)), .int (1 : Int32), .int j7, .ref 2]), (h, g, mw_R rd))) rfl (st_mmin (Nat.le_of_ble_eq_true rfl)) ?_
      refine rh_Ex.stp (s' := ((110, [some (.ref 0), some (.int u1), some (.int u2), none, some (.int u4), some (.int j5), some (.int j6), some (.int j7), some (.int k0)], [.int (if (1 : Int32) < (if k0 < (999 : Int32) then k0 else (999 : Int32)) then (if k0 < (999 : Int32) then k0 else (999 : Int32)) else (1 : Int32)), .int j7, .ref 2]), (h, g, mw_R rd))) rfl (st_mmax (Nat.le_of_ble_eq_true rfl)) ?_
      obtain ⟨q11, hf⟩ := rh_gq hf
      refine rh_Ex.stp (s' := ((111, [some (.ref 0), some (.int u1), some (.int u2), none, some (.int u4), some (.int j5), some (.int j6), some (.int j7), some (.int k0)], []), (rh_up h 2 j7.toNatClampNeg (if (1 : Int32) < (if k0 < (999 : Int32) then k0 else (999 : Int32)) then (if k0 < (999 : Int32) then k0 else (999 : Int32)) else (1 : Int32)), g, mw_R rd))) rfl (st_iast (n := 9) rfl q11) ?_
      refine rh_Ex.blk 4 (s' := ((119, [some (.ref 0), some (.int u1), some (.int u2), none, some (.int u4), some (.int j5), some (.int j6), some (.int j7), some (.int k0)], [.int j7, .ref 2, .int j5]), (rh_up h 2 j7.toNatClampNeg (if (1 : Int32) < (if k0 < (999 : Int32) then k0 else (999 : Int32)) then (if k0 < (999 : Int32) then k0 else (999 : Int32)) else (1 : Int32)), g, mw_R rd))) rfl ?_
      obtain ⟨q12, hf⟩ := rh_gq hf
      refine rh_Ex.stp (s' := ((120, [some (.ref 0), some (.int u1), some (.int u2), none, some (.int u4), some (.int j5), some (.int j6), some (.int j7), some (.int k0)], [.int ((rh_up h 2 j7.toNatClampNeg (if (1 : Int32) < (if k0 < (999 : Int32) then k0 else (999 : Int32)) then (if k0 < (999 : Int32) then k0 else (999 : Int32)) else (1 : Int32))) 2 j7.toNatClampNeg), .int j5]), (rh_up h 2 j7.toNatClampNeg (if (1 : Int32) < (if k0 < (999 : Int32) then k0 else (999 : Int32)) then (if k0 < (999 : Int32) then k0 else (999 : Int32)) else (1 : Int32)), g, mw_R rd))) rfl (st_iald (n := 9) rfl q12) ?_
      refine rh_Ex.blk 8 (s' := ((43, [some (.ref 0), some (.int u1), some (.int u2), none, some (.int u4), some (.int (j5 + ((rh_up h 2 j7.toNatClampNeg (if (1 : Int32) < (if k0 < (999 : Int32) then k0 else (999 : Int32)) then (if k0 < (999 : Int32) then k0 else (999 : Int32)) else (1 : Int32))) 2 j7.toNatClampNeg))), some (.int (j6 + u4)), some (.int (j7 + (1 : Int32))), some (.int k0)], []), (rh_up h 2 j7.toNatClampNeg (if (1 : Int32) < (if k0 < (999 : Int32) then k0 else (999 : Int32)) then (if k0 < (999 : Int32) then k0 else (999 : Int32)) else (1 : Int32)), g, mw_R rd))) rfl ?_
      obtain rfl := Option.some.inj hf
      refine rh_Ex.fgt [some (.ref 0), some (.int u1), some (.int u2), none, some (.int u4), some (.int (j5 + ((rh_up h 2 j7.toNatClampNeg (if (1 : Int32) < (if k0 < (999 : Int32) then k0 else (999 : Int32)) then (if k0 < (999 : Int32) then k0 else (999 : Int32)) else (1 : Int32))) 2 j7.toNatClampNeg))), some (.int (j6 + u4)), some (.int (j7 + (1 : Int32))), none] ⟨rfl, rfl, rfl, rfl, rfl, rfl, rfl, trivial⟩ ?_
      exact hk
    · rw [if_neg q10] at hf
      refine rh_Ex.stp (s' := ((94, [some (.ref 0), some (.int u1), some (.int u2), none, some (.int u4), some (.int j5), some (.int j6), some (.int j7), some (.int k0)], [.int j7, .ref 2]), (h, g, mw_R rd))) rfl (st_iclt_n q10) ?_
      refine rh_Ex.blk 2 (s' := ((110, [some (.ref 0), some (.int u1), some (.int u2), none, some (.int u4), some (.int j5), some (.int j6), some (.int j7), some (.int k0)], [.int (1 : Int32), .int j7, .ref 2]), (h, g, mw_R rd))) rfl ?_
      obtain ⟨q13, hf⟩ := rh_gq hf
      refine rh_Ex.stp (s' := ((111, [some (.ref 0), some (.int u1), some (.int u2), none, some (.int u4), some (.int j5), some (.int j6), some (.int j7), some (.int k0)], []), (rh_up h 2 j7.toNatClampNeg (1 : Int32), g, mw_R rd))) rfl (st_iast (n := 9) rfl q13) ?_
      refine rh_Ex.blk 4 (s' := ((119, [some (.ref 0), some (.int u1), some (.int u2), none, some (.int u4), some (.int j5), some (.int j6), some (.int j7), some (.int k0)], [.int j7, .ref 2, .int j5]), (rh_up h 2 j7.toNatClampNeg (1 : Int32), g, mw_R rd))) rfl ?_
      obtain ⟨q14, hf⟩ := rh_gq hf
      refine rh_Ex.stp (s' := ((120, [some (.ref 0), some (.int u1), some (.int u2), none, some (.int u4), some (.int j5), some (.int j6), some (.int j7), some (.int k0)], [.int ((rh_up h 2 j7.toNatClampNeg (1 : Int32)) 2 j7.toNatClampNeg), .int j5]), (rh_up h 2 j7.toNatClampNeg (1 : Int32), g, mw_R rd))) rfl (st_iald (n := 9) rfl q14) ?_
      refine rh_Ex.blk 8 (s' := ((43, [some (.ref 0), some (.int u1), some (.int u2), none, some (.int u4), some (.int (j5 + ((rh_up h 2 j7.toNatClampNeg (1 : Int32)) 2 j7.toNatClampNeg))), some (.int (j6 + u4)), some (.int (j7 + (1 : Int32))), some (.int k0)], []), (rh_up h 2 j7.toNatClampNeg (1 : Int32), g, mw_R rd))) rfl ?_
      obtain rfl := Option.some.inj hf
      refine rh_Ex.fgt [some (.ref 0), some (.int u1), some (.int u2), none, some (.int u4), some (.int (j5 + ((rh_up h 2 j7.toNatClampNeg (1 : Int32)) 2 j7.toNatClampNeg))), some (.int (j6 + u4)), some (.int (j7 + (1 : Int32))), none] ⟨rfl, rfl, rfl, rfl, rfl, rfl, rfl, trivial⟩ ?_
      exact hk
set_option maxRecDepth 20000 in
set_option maxHeartbeats 4000000 in
theorem lb_Mo_sheet_43 (d : Nat) (rd : Option Nat) (u1 : Int32) (u2 : Int32) (u4 : Int32) (g : Nat → Nat → Int64) (v9 : Option Value) (h9 : rh_H) : ∀ s43 x9, b_Mo_sheet_43 u1 u2 u4 s43 = some x9 → Sum.elim (fun s43 => rh_Ex (rh_M rh_PT mw_L (d + 1)) mw_L pg_X12_sheet ((43, [some (.ref 0), some (.int u1), some (.int u2), none, some (.int u4), some (.int s43.1), some (.int s43.2.1), some (.int s43.2.2.1), none], []), (s43.2.2.2, g, mw_R rd)) v9 h9) (fun e9 => rh_Ex (rh_M rh_PT mw_L (d + 1)) mw_L pg_X12_sheet ((136, [none, some (.int u1), none, none, none, some (.int e9.1), none, none, none], []), (e9.2, g, mw_R rd)) v9 h9) x9 → rh_Ex (rh_M rh_PT mw_L (d + 1)) mw_L pg_X12_sheet ((43, [some (.ref 0), some (.int u1), some (.int u2), none, some (.int u4), some (.int s43.1), some (.int s43.2.1), some (.int s43.2.2.1), none], []), (s43.2.2.2, g, mw_R rd)) v9 h9 := by
  intro s43 x9 hf hk
  unfold b_Mo_sheet_43 at hf
  refine rh_Ex.blk 3 (s' := ((49, [some (.ref 0), some (.int u1), some (.int u2), none, some (.int u4), some (.int s43.1), some (.int s43.2.1), some (.int s43.2.2.1), none], [.int (s43.2.2.2 0 1), .int s43.2.2.1]), (s43.2.2.2, g, mw_R rd))) rfl ?_
  by_cases q5 : (s43.2.2.2 0 1) ≤ s43.2.2.1
  · rw [if_pos q5] at hf
    refine rh_Ex.stp (s' := ((136, [some (.ref 0), some (.int u1), some (.int u2), none, some (.int u4), some (.int s43.1), some (.int s43.2.1), some (.int s43.2.2.1), none], []), (s43.2.2.2, g, mw_R rd))) rfl (st_icge_p q5) ?_
    obtain rfl := Option.some.inj hf
    refine rh_Ex.fgt [none, some (.int u1), none, none, none, some (.int s43.1), none, none, none] ⟨rfl, rfl, trivial⟩ ?_
    exact hk
  · rw [if_neg q5] at hf
    refine rh_Ex.stp (s' := ((52, [some (.ref 0), some (.int u1), some (.int u2), none, some (.int u4), some (.int s43.1), some (.int s43.2.1), some (.int s43.2.2.1), none], []), (s43.2.2.2, g, mw_R rd))) rfl (st_icge_n q5) ?_
    refine rh_Ex.blk 1 (s' := ((53, [some (.ref 0), some (.int u1), some (.int u2), none, some (.int u4), some (.int s43.1), some (.int s43.2.1), some (.int s43.2.2.1), none], [.int u1]), (s43.2.2.2, g, mw_R rd))) rfl ?_
    by_cases q6 : u1 = 0
    · rw [if_pos q6] at hf
      refine rh_Ex.stp (s' := ((56, [some (.ref 0), some (.int u1), some (.int u2), none, some (.int u4), some (.int s43.1), some (.int s43.2.1), some (.int s43.2.2.1), none], []), (s43.2.2.2, g, mw_R rd))) rfl (st_ifne_p q6) ?_
      refine rh_Ex.blk 3 (s' := ((75, [some (.ref 0), some (.int u1), some (.int u2), none, some (.int u4), some (.int s43.1), some (.int s43.2.1), some (.int s43.2.2.1), none], [.int s43.2.1.toInt8.toInt32]), (s43.2.2.2, g, mw_R rd))) rfl ?_
      refine rh_Ex.fgt [some (.ref 0), some (.int u1), some (.int u2), none, some (.int u4), some (.int s43.1), some (.int s43.2.1), some (.int s43.2.2.1), none] ⟨rfl, rfl, rfl, rfl, rfl, rfl, rfl, trivial⟩ ?_
      exact lj_Mo_sheet_75 d rd s43.2.2.2 u1 u2 u4 s43.1 s43.2.1 s43.2.2.1 s43.2.1.toInt8.toInt32 g _ _ _ hf hk
    · rw [if_neg q6] at hf
      refine rh_Ex.stp (s' := ((62, [some (.ref 0), some (.int u1), some (.int u2), none, some (.int u4), some (.int s43.1), some (.int s43.2.1), some (.int s43.2.2.1), none], []), (s43.2.2.2, g, mw_R rd))) rfl (st_ifne_n q6) ?_
      refine rh_Ex.blk 2 (s' := ((64, [some (.ref 0), some (.int u1), some (.int u2), none, some (.int u4), some (.int s43.1), some (.int s43.2.1), some (.int s43.2.2.1), none], [.int (1 : Int32), .int u1]), (s43.2.2.2, g, mw_R rd))) rfl ?_
      by_cases q15 : u1 = (1 : Int32)
      · rw [if_pos q15] at hf
        refine rh_Ex.stp (s' := ((67, [some (.ref 0), some (.int u1), some (.int u2), none, some (.int u4), some (.int s43.1), some (.int s43.2.1), some (.int s43.2.2.1), none], []), (s43.2.2.2, g, mw_R rd))) rfl (st_icne_p q15) ?_
        refine rh_Ex.blk 3 (s' := ((75, [some (.ref 0), some (.int u1), some (.int u2), none, some (.int u4), some (.int s43.1), some (.int s43.2.1), some (.int s43.2.2.1), none], [.int s43.2.1.toInt16.toInt32]), (s43.2.2.2, g, mw_R rd))) rfl ?_
        refine rh_Ex.fgt [some (.ref 0), some (.int u1), some (.int u2), none, some (.int u4), some (.int s43.1), some (.int s43.2.1), some (.int s43.2.2.1), none] ⟨rfl, rfl, rfl, rfl, rfl, rfl, rfl, trivial⟩ ?_
        exact lj_Mo_sheet_75 d rd s43.2.2.2 u1 u2 u4 s43.1 s43.2.1 s43.2.2.1 s43.2.1.toInt16.toInt32 g _ _ _ hf hk
      · rw [if_neg q15] at hf
        refine rh_Ex.stp (s' := ((73, [some (.ref 0), some (.int u1), some (.int u2), none, some (.int u4), some (.int s43.1), some (.int s43.2.1), some (.int s43.2.2.1), none], []), (s43.2.2.2, g, mw_R rd))) rfl (st_icne_n q15) ?_
        refine rh_Ex.blk 1 (s' := ((75, [some (.ref 0), some (.int u1), some (.int u2), none, some (.int u4), some (.int s43.1), some (.int s43.2.1), some (.int s43.2.2.1), none], [.int s43.2.1]), (s43.2.2.2, g, mw_R rd))) rfl ?_
        refine rh_Ex.fgt [some (.ref 0), some (.int u1), some (.int u2), none, some (.int u4), some (.int s43.1), some (.int s43.2.1), some (.int s43.2.2.1), none] ⟨rfl, rfl, rfl, rfl, rfl, rfl, rfl, trivial⟩ ?_
        exact lj_Mo_sheet_75 d rd s43.2.2.2 u1 u2 u4 s43.1 s43.2.1 s43.2.2.1 s43.2.1 g _ _ _ hf hk
set_option maxRecDepth 20000 in
set_option maxHeartbeats 4000000 in
theorem lj_Mo_sheet_34 (d : Nat) (rd : Option Nat) (h : Nat → Nat → Int32) (p0 : Int32) (p1 : Int32) (p2 : Int32) (p3 : Int32) (g : Nat → Nat → Int64) {z9 : Int32 × (Nat → Nat → Int32)} (hf : j_Mo_sheet_34 h p0 p1 p2 p3 = some z9) : rh_Ex (rh_M rh_PT mw_L (d + 1)) mw_L pg_X12_sheet ((34, [some (.ref 0), some (.int p0), some (.int p1), some (.int p2), some (.int p3), none, none, none, none], []), (h, g, mw_R rd)) (some (.int z9.1)) (z9.2, g, mw_R rd) := by
  unfold j_Mo_sheet_34 at hf
  refine rh_Ex.blk 6 (s' := ((43, [some (.ref 0), some (.int p0), some (.int p1), some (.int p2), some (.int p3), some (.int (0 : Int32)), some (.int p2), some (.int (0 : Int32)), none], []), (h, g, mw_R rd))) rfl ?_
  obtain ⟨r16, hr16, hf⟩ := rh_bq hf
  refine rh_Ex.fgt [some (.ref 0), some (.int p0), some (.int p1), none, some (.int p3), some (.int (0 : Int32)), some (.int p2), some (.int (0 : Int32)), none] ⟨rfl, rfl, rfl, rfl, rfl, rfl, rfl, trivial⟩ ?_
  refine rh_Ex.loop _ _ _ (lb_Mo_sheet_43 d rd p0 p1 p3  g _ _) rh_N _ r16 hr16 ?_
  refine rh_Ex.blk 2 (s' := ((138, [none, some (.int p0), none, none, none, some (.int r16.1), none, none, none], [.int (3 : Int32), .int p0]), (r16.2, g, mw_R rd))) rfl ?_
  by_cases q17 : p0 = (3 : Int32)
  · rw [if_pos q17] at hf
    refine rh_Ex.stp (s' := ((141, [none, some (.int p0), none, none, none, some (.int r16.1), none, none, none], []), (r16.2, g, mw_R rd))) rfl (st_icne_p q17) ?_
    refine rh_Ex.blk 2 (s' := ((148, [none, some (.int p0), none, none, none, some (.int r16.1), none, none, none], [.int (-3 : Int32)]), (r16.2, g, mw_R rd))) rfl ?_
    obtain rfl := Option.some.inj hf
    exact rh_Ex.ret rfl rfl
  · rw [if_neg q17] at hf
    refine rh_Ex.stp (s' := ((146, [none, some (.int p0), none, none, none, some (.int r16.1), none, none, none], []), (r16.2, g, mw_R rd))) rfl (st_icne_n q17) ?_
    refine rh_Ex.blk 1 (s' := ((148, [none, some (.int p0), none, none, none, some (.int r16.1), none, none, none], [.int r16.1]), (r16.2, g, mw_R rd))) rfl ?_
    obtain rfl := Option.some.inj hf
    exact rh_Ex.ret rfl rfl
set_option maxRecDepth 20000 in
set_option maxHeartbeats 4000000 in
theorem R_Mo_sheet (d : Nat) (rd : Option Nat) (h : Nat → Nat → Int32) (g : Nat → Nat → Int64) (p0 : Int32) (p1 : Int32) (p2 : Int32) (p3 : Int32) {z9 : Int32 × (Nat → Nat → Int32)} (hf : f_Mo_sheet h p0 p1 p2 p3 = some z9) : rh_M rh_PT mw_L (d + 2) 214 [.ref 0, .int p0, .int p1, .int p2, .int p3] (h, g, mw_R rd) (some (.int z9.1)) (z9.2, g, mw_R rd) := by
  unfold f_Mo_sheet at hf
  refine rh_go pt_214 (Nat.le_of_ble_eq_true rfl) (lv := [some (.ref 0), some (.int p0), some (.int p1), some (.int p2), some (.int p3), none, none, none, none]) rfl ?_
  refine rh_Ex.blk 6 (s' := ((8, [some (.ref 0), some (.int p0), some (.int p1), some (.int p2), some (.int p3), none, none, none, none], [.int (3 : Int32), .int (0 : Int32), .int p0]), (rh_up h 0 9 (0 : Int32), g, mw_R rd))) rfl ?_
  refine rh_Ex.call (j := 179) (rc := none) [.int p0, .int (0 : Int32), .int (3 : Int32)] [] (some (.int (f_Mo_in p0 (0 : Int32) (3 : Int32)))) rfl rfl trivial (Nat.le_of_ble_eq_true rfl) (R_Mo_in d mw_L (mw_R rd) (rh_up h 0 9 (0 : Int32)) g p0 (0 : Int32) (3 : Int32) rfl) ?_
  show rh_Ex _ _ _ ((11, [some (.ref 0), some (.int p0), some (.int p1), some (.int p2), some (.int p3), none, none, none, none], [.int (f_Mo_in p0 (0 : Int32) (3 : Int32))]), (rh_up h 0 9 (0 : Int32), g, mw_R rd)) _ _
  by_cases q1 : (f_Mo_in p0 (0 : Int32) (3 : Int32)) = 0
  · rw [if_pos q1] at hf
    refine rh_Ex.stp (s' := ((20, [some (.ref 0), some (.int p0), some (.int p1), some (.int p2), some (.int p3), none, none, none, none], []), (rh_up h 0 9 (0 : Int32), g, mw_R rd))) rfl (st_ifeq_p q1) ?_
    refine rh_Ex.blk 1 (s' := ((21, [some (.ref 0), some (.int p0), some (.int p1), some (.int p2), some (.int p3), none, none, none, none], [.int (-1 : Int32)]), (rh_up h 0 9 (0 : Int32), g, mw_R rd))) rfl ?_
    obtain rfl := Option.some.inj hf
    exact rh_Ex.ret rfl rfl
  · rw [if_neg q1] at hf
    refine rh_Ex.stp (s' := ((14, [some (.ref 0), some (.int p0), some (.int p1), some (.int p2), some (.int p3), none, none, none, none], []), (rh_up h 0 9 (0 : Int32), g, mw_R rd))) rfl (st_ifeq_n q1) ?_
    refine rh_Ex.blk 2 (s' := ((17, [some (.ref 0), some (.int p0), some (.int p1), some (.int p2), some (.int p3), none, none, none, none], [.int (9 : Int32), .int p1]), (rh_up h 0 9 (0 : Int32), g, mw_R rd))) rfl ?_
    by_cases q2 : p1 ≤ (9 : Int32)
    · rw [if_pos q2] at hf
      refine rh_Ex.stp (s' := ((22, [some (.ref 0), some (.int p0), some (.int p1), some (.int p2), some (.int p3), none, none, none, none], []), (rh_up h 0 9 (0 : Int32), g, mw_R rd))) rfl (st_icle_p q2) ?_
      refine rh_Ex.blk 2 (s' := ((24, [some (.ref 0), some (.int p0), some (.int p1), some (.int p2), some (.int p3), none, none, none, none], [.int (3 : Int32), .int p0]), (rh_up h 0 9 (0 : Int32), g, mw_R rd))) rfl ?_
      by_cases q3 : (3 : Int32) ≤ p0
      · rw [if_pos q3] at hf
        refine rh_Ex.stp (s' := ((34, [some (.ref 0), some (.int p0), some (.int p1), some (.int p2), some (.int p3), none, none, none, none], []), (rh_up h 0 9 (0 : Int32), g, mw_R rd))) rfl (st_icge_p q3) ?_
        refine rh_Ex.fgt [some (.ref 0), some (.int p0), some (.int p1), some (.int p2), some (.int p3), none, none, none, none] ⟨rfl, rfl, rfl, rfl, rfl, trivial⟩ ?_
        exact lj_Mo_sheet_34 d rd (rh_up h 0 9 (0 : Int32)) p0 p1 p2 p3 g hf
      · rw [if_neg q3] at hf
        refine rh_Ex.stp (s' := ((27, [some (.ref 0), some (.int p0), some (.int p1), some (.int p2), some (.int p3), none, none, none, none], []), (rh_up h 0 9 (0 : Int32), g, mw_R rd))) rfl (st_icge_n q3) ?_
        refine rh_Ex.blk 1 (s' := ((28, [some (.ref 0), some (.int p0), some (.int p1), some (.int p2), some (.int p3), none, none, none, none], [.int p1]), (rh_up h 0 9 (0 : Int32), g, mw_R rd))) rfl ?_
        by_cases q18 : 0 ≤ p1
        · rw [if_pos q18] at hf
          refine rh_Ex.stp (s' := ((34, [some (.ref 0), some (.int p0), some (.int p1), some (.int p2), some (.int p3), none, none, none, none], []), (rh_up h 0 9 (0 : Int32), g, mw_R rd))) rfl (st_ifge_p q18) ?_
          refine rh_Ex.fgt [some (.ref 0), some (.int p0), some (.int p1), some (.int p2), some (.int p3), none, none, none, none] ⟨rfl, rfl, rfl, rfl, rfl, trivial⟩ ?_
          exact lj_Mo_sheet_34 d rd (rh_up h 0 9 (0 : Int32)) p0 p1 p2 p3 g hf
        · rw [if_neg q18] at hf
          refine rh_Ex.stp (s' := ((31, [some (.ref 0), some (.int p0), some (.int p1), some (.int p2), some (.int p3), none, none, none, none], []), (rh_up h 0 9 (0 : Int32), g, mw_R rd))) rfl (st_ifge_n q18) ?_
          refine rh_Ex.blk 1 (s' := ((33, [some (.ref 0), some (.int p0), some (.int p1), some (.int p2), some (.int p3), none, none, none, none], [.int (-2 : Int32)]), (rh_up h 0 9 (0 : Int32), g, mw_R rd))) rfl ?_
          obtain rfl := Option.some.inj hf
          exact rh_Ex.ret rfl rfl
    · rw [if_neg q2] at hf
      refine rh_Ex.stp (s' := ((20, [some (.ref 0), some (.int p0), some (.int p1), some (.int p2), some (.int p3), none, none, none, none], []), (rh_up h 0 9 (0 : Int32), g, mw_R rd))) rfl (st_icle_n q2) ?_
      refine rh_Ex.blk 1 (s' := ((21, [some (.ref 0), some (.int p0), some (.int p1), some (.int p2), some (.int p3), none, none, none, none], [.int (-1 : Int32)]), (rh_up h 0 9 (0 : Int32), g, mw_R rd))) rfl ?_
      obtain rfl := Option.some.inj hf
      exact rh_Ex.ret rfl rfl
def f_Mo_isTipping (h : Nat → Nat → Int32) (p0 : Int32) : Int32 :=
  if (if 0 ≤ p0 then p0 else 0 - p0) ≤ (h 3 (1 : Int32).toNatClampNeg) then
    (0 : Int32)
  else
    (1 : Int32)
set_option maxRecDepth 20000 in
set_option maxHeartbeats 4000000 in
theorem R_Mo_isTipping (d : Nat) (rd : Option Nat) (h : Nat → Nat → Int32) (g : Nat → Nat → Int64) (p0 : Int32) {z9 : Int32} (hf : f_Mo_isTipping h p0 = z9) : rh_M rh_PT mw_L (d + 1) 216 [.ref 0, .int p0] (h, g, mw_R rd) (some (.int z9)) (h, g, mw_R rd) := by
  unfold f_Mo_isTipping at hf
  refine rh_go pt_216 (Nat.le_of_ble_eq_true rfl) (lv := [some (.ref 0), some (.int p0)]) rfl ?_
  refine rh_Ex.blk 1 (s' := ((1, [some (.ref 0), some (.int p0)], [.int p0]), (h, g, mw_R rd))) rfl ?_
  refine rh_Ex.stp (s' := ((4, [some (.ref 0), some (.int p0)], [.int (if 0 ≤ p0 then p0 else 0 - p0)]), (h, g, mw_R rd))) rfl (st_mabs (Nat.le_of_ble_eq_true rfl)) ?_
  refine rh_Ex.blk 3 (s' := ((9, [some (.ref 0), some (.int p0)], [.int (1 : Int32), .ref 3, .int (if 0 ≤ p0 then p0 else 0 - p0)]), (h, g, mw_R rd))) rfl ?_
  refine rh_Ex.stp (s' := ((10, [some (.ref 0), some (.int p0)], [.int (h 3 (1 : Int32).toNatClampNeg), .int (if 0 ≤ p0 then p0 else 0 - p0)]), (h, g, mw_R rd))) rfl (st_iald (n := 3) rfl (by decide)) ?_
  by_cases q1 : (if 0 ≤ p0 then p0 else 0 - p0) ≤ (h 3 (1 : Int32).toNatClampNeg)
  · rw [if_pos q1] at hf
    refine rh_Ex.stp (s' := ((17, [some (.ref 0), some (.int p0)], []), (h, g, mw_R rd))) rfl (st_icle_p q1) ?_
    refine rh_Ex.blk 1 (s' := ((18, [some (.ref 0), some (.int p0)], [.int (0 : Int32)]), (h, g, mw_R rd))) rfl ?_
    subst hf
    exact rh_Ex.ret rfl ⟨rfl, Or.inl rfl⟩
  · rw [if_neg q1] at hf
    refine rh_Ex.stp (s' := ((13, [some (.ref 0), some (.int p0)], []), (h, g, mw_R rd))) rfl (st_icle_n q1) ?_
    refine rh_Ex.blk 2 (s' := ((18, [some (.ref 0), some (.int p0)], [.int (1 : Int32)]), (h, g, mw_R rd))) rfl ?_
    subst hf
    exact rh_Ex.ret rfl ⟨rfl, Or.inr rfl⟩
def b_Mo_leanOf_1_5 (u2 : Int32) : (Int32 × Int32 × (Nat → Nat → Int32) × (Option Nat)) → Option ((Int32 × Int32 × (Nat → Nat → Int32) × (Option Nat)) ⊕ (Int32 × (Nat → Nat → Int32) × (Option Nat))) := fun s5 =>
  if (s5.2.2.1 0 1) ≤ s5.2.1 then
    some (.inr (s5.1, s5.2.2.1, s5.2.2.2))
  else
    if (f_Mo_has (s5.2.2.1 1 (9 : Int32).toNatClampNeg) s5.2.1) = 0 then
      some (.inl (s5.1 + (0 : Int32), s5.2.1 + (1 : Int32), s5.2.2.1, s5.2.2.2))
    else
      rh_g (0 ≤ s5.2.1.toInt ∧ s5.2.1.toInt < ((11 : Nat) : Int)) (
        (f_Mo_weightOf s5.2.2.1 s5.2.2.2 s5.2.1 u2).bind (fun x5 =>
          some (.inl (s5.1 + ((s5.2.2.1 1 s5.2.1.toNatClampNeg) * x5.1), s5.2.1 + (1 : Int32), x5.2.1, x5.2.2))
        )
      )
def f_Mo_leanOf_1 (h : Nat → Nat → Int32) (rd : Option Nat) (p0 : Int32) : Option (Int32 × (Nat → Nat → Int32) × (Option Nat)) :=
  (rh_loop (b_Mo_leanOf_1_5 p0) rh_N ((0 : Int32), (0 : Int32), h, rd)).bind (fun r6 =>
    some ((r6.1, r6.2.1, r6.2.2))
  )
set_option maxRecDepth 20000 in
set_option maxHeartbeats 4000000 in
theorem lb_Mo_leanOf_1_5 (d : Nat) (u2 : Int32) (g : Nat → Nat → Int64) (v9 : Option Value) (h9 : rh_H) : ∀ s5 x9, b_Mo_leanOf_1_5 u2 s5 = some x9 → Sum.elim (fun s5 => rh_Ex (rh_M rh_PT mw_L (d + 267)) mw_L pg_X12_leanOf ((5, [some (.ref 0), some (.ref 1), some (.int u2), some (.int s5.1), some (.int s5.2.1)], []), (s5.2.2.1, g, mw_R s5.2.2.2)) v9 h9) (fun e9 => rh_Ex (rh_M rh_PT mw_L (d + 267)) mw_L pg_X12_leanOf ((51, [none, none, none, some (.int e9.1), none], []), (e9.2.1, g, mw_R e9.2.2)) v9 h9) x9 → rh_Ex (rh_M rh_PT mw_L (d + 267)) mw_L pg_X12_leanOf ((5, [some (.ref 0), some (.ref 1), some (.int u2), some (.int s5.1), some (.int s5.2.1)], []), (s5.2.2.1, g, mw_R s5.2.2.2)) v9 h9 := by
  intro s5 x9 hf hk
  unfold b_Mo_leanOf_1_5 at hf
  refine rh_Ex.blk 3 (s' := ((11, [some (.ref 0), some (.ref 1), some (.int u2), some (.int s5.1), some (.int s5.2.1)], [.int (s5.2.2.1 0 1), .int s5.2.1]), (s5.2.2.1, g, mw_R s5.2.2.2))) rfl ?_
  by_cases q2 : (s5.2.2.1 0 1) ≤ s5.2.1
  · rw [if_pos q2] at hf
    refine rh_Ex.stp (s' := ((51, [some (.ref 0), some (.ref 1), some (.int u2), some (.int s5.1), some (.int s5.2.1)], []), (s5.2.2.1, g, mw_R s5.2.2.2))) rfl (st_icge_p q2) ?_
    obtain rfl := Option.some.inj hf
    refine rh_Ex.fgt [none, none, none, some (.int s5.1), none] ⟨rfl, trivial⟩ ?_
    exact hk
  · rw [if_neg q2] at hf
    refine rh_Ex.stp (s' := ((14, [some (.ref 0), some (.ref 1), some (.int u2), some (.int s5.1), some (.int s5.2.1)], []), (s5.2.2.1, g, mw_R s5.2.2.2))) rfl (st_icge_n q2) ?_
    refine rh_Ex.blk 3 (s' := ((18, [some (.ref 0), some (.ref 1), some (.int u2), some (.int s5.1), some (.int s5.2.1)], [.int (9 : Int32), .ref 1, .int s5.1]), (s5.2.2.1, g, mw_R s5.2.2.2))) rfl ?_
    refine rh_Ex.stp (s' := ((19, [some (.ref 0), some (.ref 1), some (.int u2), some (.int s5.1), some (.int s5.2.1)], [.int (s5.2.2.1 1 (9 : Int32).toNatClampNeg), .int s5.1]), (s5.2.2.1, g, mw_R s5.2.2.2))) rfl (st_iald (n := 11) rfl (by decide)) ?_
    refine rh_Ex.blk 1 (s' := ((21, [some (.ref 0), some (.ref 1), some (.int u2), some (.int s5.1), some (.int s5.2.1)], [.int s5.2.1, .int (s5.2.2.1 1 (9 : Int32).toNatClampNeg), .int s5.1]), (s5.2.2.1, g, mw_R s5.2.2.2))) rfl ?_
    refine rh_Ex.call (j := 180) (rc := none) [.int (s5.2.2.1 1 (9 : Int32).toNatClampNeg), .int s5.2.1] [.int s5.1] (some (.int (f_Mo_has (s5.2.2.1 1 (9 : Int32).toNatClampNeg) s5.2.1))) rfl rfl trivial (Nat.le_of_ble_eq_true rfl) (R_Mo_has (d + 266) mw_L (mw_R s5.2.2.2) s5.2.2.1 g (s5.2.2.1 1 (9 : Int32).toNatClampNeg) s5.2.1 rfl) ?_
    show rh_Ex _ _ _ ((24, [some (.ref 0), some (.ref 1), some (.int u2), some (.int s5.1), some (.int s5.2.1)], [.int (f_Mo_has (s5.2.2.1 1 (9 : Int32).toNatClampNeg) s5.2.1), .int s5.1]), (s5.2.2.1, g, mw_R s5.2.2.2)) _ _
    by_cases q3 : (f_Mo_has (s5.2.2.1 1 (9 : Int32).toNatClampNeg) s5.2.1) = 0
    · rw [if_pos q3] at hf
      refine rh_Ex.stp (s' := ((42, [some (.ref 0), some (.ref 1), some (.int u2), some (.int s5.1), some (.int s5.2.1)], [.int s5.1]), (s5.2.2.1, g, mw_R s5.2.2.2))) rfl (st_ifeq_p q3) ?_
      refine rh_Ex.blk 5 (s' := ((5, [some (.ref 0), some (.ref 1), some (.int u2), some (.int (s5.1 + (0 : Int32))), some (.int (s5.2.1 + (1 : Int32)))], []), (s5.2.2.1, g, mw_R s5.2.2.2))) rfl ?_
      obtain rfl := Option.some.inj hf
      refine rh_Ex.fgt [some (.ref 0), some (.ref 1), some (.int u2), some (.int (s5.1 + (0 : Int32))), some (.int (s5.2.1 + (1 : Int32)))] ⟨rfl, rfl, rfl, rfl, rfl, trivial⟩ ?_
      exact hk
    · rw [if_neg q3] at hf
      refine rh_Ex.stp (s' := ((27, [some (.ref 0), some (.ref 1), some (.int u2), some (.int s5.1), some (.int s5.2.1)], [.int s5.1]), (s5.2.2.1, g, mw_R s5.2.2.2))) rfl (st_ifeq_n q3) ?_
      refine rh_Ex.blk 2 (s' := ((30, [some (.ref 0), some (.ref 1), some (.int u2), some (.int s5.1), some (.int s5.2.1)], [.int s5.2.1, .ref 1, .int s5.1]), (s5.2.2.1, g, mw_R s5.2.2.2))) rfl ?_
      obtain ⟨q4, hf⟩ := rh_gq hf
      refine rh_Ex.stp (s' := ((31, [some (.ref 0), some (.ref 1), some (.int u2), some (.int s5.1), some (.int s5.2.1)], [.int (s5.2.2.1 1 s5.2.1.toNatClampNeg), .int s5.1]), (s5.2.2.1, g, mw_R s5.2.2.2))) rfl (st_iald (n := 11) rfl q4) ?_
      refine rh_Ex.blk 3 (s' := ((35, [some (.ref 0), some (.ref 1), some (.int u2), some (.int s5.1), some (.int s5.2.1)], [.int u2, .int s5.2.1, .ref 0, .int (s5.2.2.1 1 s5.2.1.toNatClampNeg), .int s5.1]), (s5.2.2.1, g, mw_R s5.2.2.2))) rfl ?_
      obtain ⟨x5, hx5, hf⟩ := rh_bq hf
      refine rh_Ex.call (j := 205) (rc := some 11) [.ref 0, .int s5.2.1, .int u2] [.int (s5.2.2.1 1 s5.2.1.toNatClampNeg), .int s5.1] (some (.int x5.1)) rfl rfl rfl (Nat.le_of_ble_eq_true rfl) (R_Mo_weightOf d s5.2.2.2 s5.2.2.1 g s5.2.1 u2 hx5) ?_
      show rh_Ex _ _ _ ((38, [some (.ref 0), some (.ref 1), some (.int u2), some (.int s5.1), some (.int s5.2.1)], [.int x5.1, .int (s5.2.2.1 1 s5.2.1.toNatClampNeg), .int s5.1]), (x5.2.1, g, mw_R x5.2.2)) _ _
      refine rh_Ex.blk 6 (s' := ((5, [some (.ref 0), some (.ref 1), some (.int u2), some (.int (s5.1 + ((s5.2.2.1 1 s5.2.1.toNatClampNeg) * x5.1))), some (.int (s5.2.1 + (1 : Int32)))], []), (x5.2.1, g, mw_R x5.2.2))) rfl ?_
      obtain rfl := Option.some.inj hf
      refine rh_Ex.fgt [some (.ref 0), some (.ref 1), some (.int u2), some (.int (s5.1 + ((s5.2.2.1 1 s5.2.1.toNatClampNeg) * x5.1))), some (.int (s5.2.1 + (1 : Int32)))] ⟨rfl, rfl, rfl, rfl, rfl, trivial⟩ ?_
      exact hk
set_option maxRecDepth 20000 in
set_option maxHeartbeats 4000000 in
theorem R_Mo_leanOf_1 (d : Nat) (rd : Option Nat) (h : Nat → Nat → Int32) (g : Nat → Nat → Int64) (p0 : Int32) {z9 : Int32 × (Nat → Nat → Int32) × (Option Nat)} (hf : f_Mo_leanOf_1 h rd p0 = some z9) : rh_M rh_PT mw_L (d + 268) 215 [.ref 0, .ref 1, .int p0] (h, g, mw_R rd) (some (.int z9.1)) (z9.2.1, g, mw_R z9.2.2) := by
  unfold f_Mo_leanOf_1 at hf
  refine rh_go pt_215 (Nat.le_of_ble_eq_true rfl) (lv := [some (.ref 0), some (.ref 1), some (.int p0), none, none]) rfl ?_
  refine rh_Ex.blk 4 (s' := ((5, [some (.ref 0), some (.ref 1), some (.int p0), some (.int (0 : Int32)), some (.int (0 : Int32))], []), (h, g, mw_R rd))) rfl ?_
  obtain ⟨r6, hr6, hf⟩ := rh_bq hf
  refine rh_Ex.fgt [some (.ref 0), some (.ref 1), some (.int p0), some (.int (0 : Int32)), some (.int (0 : Int32))] ⟨rfl, rfl, rfl, rfl, rfl, trivial⟩ ?_
  refine rh_Ex.loop _ _ _ (lb_Mo_leanOf_1_5 d p0  g _ _) rh_N _ r6 hr6 ?_
  refine rh_Ex.blk 1 (s' := ((52, [none, none, none, some (.int r6.1), none], [.int r6.1]), (r6.2.1, g, mw_R r6.2.2))) rfl ?_
  obtain rfl := Option.some.inj hf
  exact rh_Ex.ret rfl rfl
def f_Mo_isTipping__1 (h : Nat → Nat → Int32) (rd : Option Nat) : Option (Int32 × (Nat → Nat → Int32) × (Option Nat)) :=
  (f_Mo_leanOf_1 h rd (h 1 (10 : Int32).toNatClampNeg)).bind (fun x1 =>
    rh_g ((f_Mo_isTipping x1.2.1 x1.1) = 0 ∨ (f_Mo_isTipping x1.2.1 x1.1) = 1) (
      some (((f_Mo_isTipping x1.2.1 x1.1), x1.2.1, x1.2.2))
    )
  )
set_option maxRecDepth 20000 in
set_option maxHeartbeats 4000000 in
theorem R_Mo_isTipping__1 (d : Nat) (rd : Option Nat) (h : Nat → Nat → Int32) (g : Nat → Nat → Int64)  {z9 : Int32 × (Nat → Nat → Int32) × (Option Nat)} (hf : f_Mo_isTipping__1 h rd = some z9) : rh_M rh_PT mw_L (d + 269) 217 [.ref 0, .ref 1] (h, g, mw_R rd) (some (.int z9.1)) (z9.2.1, g, mw_R z9.2.2) := by
  unfold f_Mo_isTipping__1 at hf
  refine rh_go pt_217 (Nat.le_of_ble_eq_true rfl) (lv := [some (.ref 0), some (.ref 1)]) rfl ?_
  refine rh_Ex.blk 5 (s' := ((6, [some (.ref 0), some (.ref 1)], [.int (10 : Int32), .ref 1, .ref 1, .ref 0, .ref 0]), (h, g, mw_R rd))) rfl ?_
  refine rh_Ex.stp (s' := ((7, [some (.ref 0), some (.ref 1)], [.int (h 1 (10 : Int32).toNatClampNeg), .ref 1, .ref 0, .ref 0]), (h, g, mw_R rd))) rfl (st_iald (n := 11) rfl (by decide)) ?_
  obtain ⟨x1, hx1, hf⟩ := rh_bq hf
  refine rh_Ex.call (j := 215) (rc := some 11) [.ref 0, .ref 1, .int (h 1 (10 : Int32).toNatClampNeg)] [.ref 0] (some (.int x1.1)) rfl rfl rfl (Nat.le_of_ble_eq_true rfl) (R_Mo_leanOf_1 d rd h g (h 1 (10 : Int32).toNatClampNeg) hx1) ?_
  show rh_Ex _ _ _ ((10, [some (.ref 0), some (.ref 1)], [.int x1.1, .ref 0]), (x1.2.1, g, mw_R x1.2.2)) _ _
  refine rh_Ex.call (j := 216) (rc := some 11) [.ref 0, .int x1.1] [] (some (.int (f_Mo_isTipping x1.2.1 x1.1))) rfl rfl rfl (Nat.le_of_ble_eq_true rfl) (R_Mo_isTipping (d + 267) x1.2.2 x1.2.1 g x1.1 rfl) ?_
  show rh_Ex _ _ _ ((13, [some (.ref 0), some (.ref 1)], [.int (f_Mo_isTipping x1.2.1 x1.1)]), (x1.2.1, g, mw_R x1.2.2)) _ _
  obtain ⟨q2, hf⟩ := rh_gq hf
  obtain rfl := Option.some.inj hf
  exact rh_Ex.ret rfl ⟨rfl, q2⟩
def b_Mo_lay_1_10_2 (u2 : Int32) : (Int32 × (Nat → Nat → Int32)) → Option ((Int32 × (Nat → Nat → Int32)) ⊕ ((Nat → Nat → Int32))) := fun s2 =>
  if (11 : Int32) ≤ s2.1 then
    some (.inr s2.2)
  else
    rh_g (0 ≤ s2.1.toInt ∧ s2.1.toInt < ((11 : Nat) : Int)) (
      rh_g (0 ≤ (u2 + s2.1).toInt ∧ (u2 + s2.1).toInt < ((132 : Nat) : Int)) (
        some (.inl (s2.1 + (1 : Int32), rh_up s2.2 10 (u2 + s2.1).toNatClampNeg (s2.2 1 s2.1.toNatClampNeg)))
      )
    )
def f_Mo_lay_1_10 (h : Nat → Nat → Int32) (p0 : Int32) : Option ((Nat → Nat → Int32)) :=
  (rh_loop (b_Mo_lay_1_10_2 p0) rh_N ((0 : Int32), h)).bind (fun r5 =>
    some (r5)
  )
set_option maxRecDepth 20000 in
set_option maxHeartbeats 4000000 in
theorem lb_Mo_lay_1_10_2 (d : Nat) (rd : Option Nat) (u2 : Int32) (g : Nat → Nat → Int64) (v9 : Option Value) (h9 : rh_H) : ∀ s2 x9, b_Mo_lay_1_10_2 u2 s2 = some x9 → Sum.elim (fun s2 => rh_Ex (rh_M rh_PT mw_L (d + 0)) mw_L pg_X12_lay ((2, [some (.ref 1), some (.ref 10), some (.int u2), some (.int s2.1)], []), (s2.2, g, mw_R rd)) v9 h9) (fun e9 => rh_Ex (rh_M rh_PT mw_L (d + 0)) mw_L pg_X12_lay ((22, [none, none, none, none], []), (e9, g, mw_R rd)) v9 h9) x9 → rh_Ex (rh_M rh_PT mw_L (d + 0)) mw_L pg_X12_lay ((2, [some (.ref 1), some (.ref 10), some (.int u2), some (.int s2.1)], []), (s2.2, g, mw_R rd)) v9 h9 := by
  intro s2 x9 hf hk
  unfold b_Mo_lay_1_10_2 at hf
  refine rh_Ex.blk 2 (s' := ((5, [some (.ref 1), some (.ref 10), some (.int u2), some (.int s2.1)], [.int (11 : Int32), .int s2.1]), (s2.2, g, mw_R rd))) rfl ?_
  by_cases q2 : (11 : Int32) ≤ s2.1
  · rw [if_pos q2] at hf
    refine rh_Ex.stp (s' := ((22, [some (.ref 1), some (.ref 10), some (.int u2), some (.int s2.1)], []), (s2.2, g, mw_R rd))) rfl (st_icge_p q2) ?_
    obtain rfl := Option.some.inj hf
    refine rh_Ex.fgt [none, none, none, none] trivial ?_
    exact hk
  · rw [if_neg q2] at hf
    refine rh_Ex.stp (s' := ((8, [some (.ref 1), some (.ref 10), some (.int u2), some (.int s2.1)], []), (s2.2, g, mw_R rd))) rfl (st_icge_n q2) ?_
    refine rh_Ex.blk 6 (s' := ((14, [some (.ref 1), some (.ref 10), some (.int u2), some (.int s2.1)], [.int s2.1, .ref 1, .int (u2 + s2.1), .ref 10]), (s2.2, g, mw_R rd))) rfl ?_
    obtain ⟨q3, hf⟩ := rh_gq hf
    refine rh_Ex.stp (s' := ((15, [some (.ref 1), some (.ref 10), some (.int u2), some (.int s2.1)], [.int (s2.2 1 s2.1.toNatClampNeg), .int (u2 + s2.1), .ref 10]), (s2.2, g, mw_R rd))) rfl (st_iald (n := 11) rfl q3) ?_
    obtain ⟨q4, hf⟩ := rh_gq hf
    refine rh_Ex.stp (s' := ((16, [some (.ref 1), some (.ref 10), some (.int u2), some (.int s2.1)], []), (rh_up s2.2 10 (u2 + s2.1).toNatClampNeg (s2.2 1 s2.1.toNatClampNeg), g, mw_R rd))) rfl (st_iast (n := 132) rfl q4) ?_
    refine rh_Ex.blk 2 (s' := ((2, [some (.ref 1), some (.ref 10), some (.int u2), some (.int (s2.1 + (1 : Int32)))], []), (rh_up s2.2 10 (u2 + s2.1).toNatClampNeg (s2.2 1 s2.1.toNatClampNeg), g, mw_R rd))) rfl ?_
    obtain rfl := Option.some.inj hf
    refine rh_Ex.fgt [some (.ref 1), some (.ref 10), some (.int u2), some (.int (s2.1 + (1 : Int32)))] ⟨rfl, rfl, rfl, rfl, trivial⟩ ?_
    exact hk
set_option maxRecDepth 20000 in
set_option maxHeartbeats 4000000 in
theorem R_Mo_lay_1_10 (d : Nat) (rd : Option Nat) (h : Nat → Nat → Int32) (g : Nat → Nat → Int64) (p0 : Int32) {z9 : (Nat → Nat → Int32)} (hf : f_Mo_lay_1_10 h p0 = some z9) : rh_M rh_PT mw_L (d + 1) 218 [.ref 1, .ref 10, .int p0] (h, g, mw_R rd) none (z9, g, mw_R rd) := by
  unfold f_Mo_lay_1_10 at hf
  refine rh_go pt_218 (Nat.le_of_ble_eq_true rfl) (lv := [some (.ref 1), some (.ref 10), some (.int p0), none]) rfl ?_
  refine rh_Ex.blk 2 (s' := ((2, [some (.ref 1), some (.ref 10), some (.int p0), some (.int (0 : Int32))], []), (h, g, mw_R rd))) rfl ?_
  obtain ⟨r5, hr5, hf⟩ := rh_bq hf
  refine rh_Ex.fgt [some (.ref 1), some (.ref 10), some (.int p0), some (.int (0 : Int32))] ⟨rfl, rfl, rfl, rfl, trivial⟩ ?_
  refine rh_Ex.loop _ _ _ (lb_Mo_lay_1_10_2 d rd p0  g _ _) rh_N _ r5 hr5 ?_
  obtain rfl := Option.some.inj hf
  exact rh_Ex.ret rfl trivial
def b_Mo_remember_1_11  : (Int32 × (Nat → Nat → Int32)) → Option ((Int32 × (Nat → Nat → Int32)) ⊕ ((Nat → Nat → Int32))) := fun s11 =>
  if (121 : Int32) ≤ s11.1 then
    some (.inr s11.2)
  else
    rh_g (0 ≤ (s11.1 + (11 : Int32)).toInt ∧ (s11.1 + (11 : Int32)).toInt < ((132 : Nat) : Int)) (
      rh_g (0 ≤ s11.1.toInt ∧ s11.1.toInt < ((132 : Nat) : Int)) (
        some (.inl (s11.1 + (1 : Int32), rh_up s11.2 10 s11.1.toNatClampNeg (s11.2 10 (s11.1 + (11 : Int32)).toNatClampNeg)))
      )
    )
def f_Mo_remember_1 (h : Nat → Nat → Int32) : Option ((Nat → Nat → Int32)) :=
  if (h 0 24) = (12 : Int32) then
    (rh_loop (b_Mo_remember_1_11 ) rh_N ((0 : Int32), h)).bind (fun r6 =>
      (f_Mo_lay_1_10 (rh_up r6 0 24 ((r6 0 24) - (1 : Int32))) ((11 : Int32) * ((r6 0 24) - (1 : Int32)))).bind (fun x7 =>
        some ((rh_up x7 0 24 ((x7 0 24) + (1 : Int32))))
      )
    )
  else
    (f_Mo_lay_1_10 h ((11 : Int32) * (h 0 24))).bind (fun x8 =>
      some ((rh_up x8 0 24 ((x8 0 24) + (1 : Int32))))
    )
set_option maxRecDepth 20000 in
set_option maxHeartbeats 4000000 in
theorem lb_Mo_remember_1_11 (d : Nat) (rd : Option Nat)  (g : Nat → Nat → Int64) (v9 : Option Value) (h9 : rh_H) : ∀ s11 x9, b_Mo_remember_1_11  s11 = some x9 → Sum.elim (fun s11 => rh_Ex (rh_M rh_PT mw_L (d + 1)) mw_L pg_X12_remember ((11, [some (.ref 0), some (.ref 1), some (.int s11.1)], []), (s11.2, g, mw_R rd)) v9 h9) (fun e9 => rh_Ex (rh_M rh_PT mw_L (d + 1)) mw_L pg_X12_remember ((38, [some (.ref 0), some (.ref 1), none], []), (e9, g, mw_R rd)) v9 h9) x9 → rh_Ex (rh_M rh_PT mw_L (d + 1)) mw_L pg_X12_remember ((11, [some (.ref 0), some (.ref 1), some (.int s11.1)], []), (s11.2, g, mw_R rd)) v9 h9 := by
  intro s11 x9 hf hk
  unfold b_Mo_remember_1_11 at hf
  refine rh_Ex.blk 2 (s' := ((14, [some (.ref 0), some (.ref 1), some (.int s11.1)], [.int (121 : Int32), .int s11.1]), (s11.2, g, mw_R rd))) rfl ?_
  by_cases q3 : (121 : Int32) ≤ s11.1
  · rw [if_pos q3] at hf
    refine rh_Ex.stp (s' := ((38, [some (.ref 0), some (.ref 1), some (.int s11.1)], []), (s11.2, g, mw_R rd))) rfl (st_icge_p q3) ?_
    obtain rfl := Option.some.inj hf
    refine rh_Ex.fgt [some (.ref 0), some (.ref 1), none] ⟨rfl, rfl, trivial⟩ ?_
    exact hk
  · rw [if_neg q3] at hf
    refine rh_Ex.stp (s' := ((17, [some (.ref 0), some (.ref 1), some (.int s11.1)], []), (s11.2, g, mw_R rd))) rfl (st_icge_n q3) ?_
    refine rh_Ex.blk 8 (s' := ((30, [some (.ref 0), some (.ref 1), some (.int s11.1)], [.int (s11.1 + (11 : Int32)), .ref 10, .int s11.1, .ref 10]), (s11.2, g, mw_R rd))) rfl ?_
    obtain ⟨q4, hf⟩ := rh_gq hf
    refine rh_Ex.stp (s' := ((31, [some (.ref 0), some (.ref 1), some (.int s11.1)], [.int (s11.2 10 (s11.1 + (11 : Int32)).toNatClampNeg), .int s11.1, .ref 10]), (s11.2, g, mw_R rd))) rfl (st_iald (n := 132) rfl q4) ?_
    obtain ⟨q5, hf⟩ := rh_gq hf
    refine rh_Ex.stp (s' := ((32, [some (.ref 0), some (.ref 1), some (.int s11.1)], []), (rh_up s11.2 10 s11.1.toNatClampNeg (s11.2 10 (s11.1 + (11 : Int32)).toNatClampNeg), g, mw_R rd))) rfl (st_iast (n := 132) rfl q5) ?_
    refine rh_Ex.blk 2 (s' := ((11, [some (.ref 0), some (.ref 1), some (.int (s11.1 + (1 : Int32)))], []), (rh_up s11.2 10 s11.1.toNatClampNeg (s11.2 10 (s11.1 + (11 : Int32)).toNatClampNeg), g, mw_R rd))) rfl ?_
    obtain rfl := Option.some.inj hf
    refine rh_Ex.fgt [some (.ref 0), some (.ref 1), some (.int (s11.1 + (1 : Int32)))] ⟨rfl, rfl, rfl, trivial⟩ ?_
    exact hk
set_option maxRecDepth 20000 in
set_option maxHeartbeats 4000000 in
theorem R_Mo_remember_1 (d : Nat) (rd : Option Nat) (h : Nat → Nat → Int32) (g : Nat → Nat → Int64)  {z9 : (Nat → Nat → Int32)} (hf : f_Mo_remember_1 h = some z9) : rh_M rh_PT mw_L (d + 2) 219 [.ref 0, .ref 1] (h, g, mw_R rd) none (z9, g, mw_R rd) := by
  unfold f_Mo_remember_1 at hf
  refine rh_go pt_219 (Nat.le_of_ble_eq_true rfl) (lv := [some (.ref 0), some (.ref 1), none]) rfl ?_
  refine rh_Ex.blk 3 (s' := ((6, [some (.ref 0), some (.ref 1), none], [.int (12 : Int32), .int (h 0 24)]), (h, g, mw_R rd))) rfl ?_
  by_cases q1 : (h 0 24) = (12 : Int32)
  · rw [if_pos q1] at hf
    refine rh_Ex.stp (s' := ((9, [some (.ref 0), some (.ref 1), none], []), (h, g, mw_R rd))) rfl (st_icne_p q1) ?_
    refine rh_Ex.blk 2 (s' := ((11, [some (.ref 0), some (.ref 1), some (.int (0 : Int32))], []), (h, g, mw_R rd))) rfl ?_
    obtain ⟨r6, hr6, hf⟩ := rh_bq hf
    refine rh_Ex.fgt [some (.ref 0), some (.ref 1), some (.int (0 : Int32))] ⟨rfl, rfl, rfl, trivial⟩ ?_
    refine rh_Ex.loop _ _ _ (lb_Mo_remember_1_11 d rd   g _ _) rh_N _ r6 hr6 ?_
    refine rh_Ex.blk 13 (s' := ((60, [some (.ref 0), some (.ref 1), none], [.int ((11 : Int32) * ((r6 0 24) - (1 : Int32))), .ref 10, .ref 1]), (rh_up r6 0 24 ((r6 0 24) - (1 : Int32)), g, mw_R rd))) rfl ?_
    obtain ⟨x7, hx7, hf⟩ := rh_bq hf
    refine rh_Ex.call (j := 218) (rc := none) [.ref 1, .ref 10, .int ((11 : Int32) * ((r6 0 24) - (1 : Int32)))] [] none rfl rfl trivial (Nat.le_of_ble_eq_true rfl) (R_Mo_lay_1_10 d rd (rh_up r6 0 24 ((r6 0 24) - (1 : Int32))) g ((11 : Int32) * ((r6 0 24) - (1 : Int32))) hx7) ?_
    show rh_Ex _ _ _ ((63, [some (.ref 0), some (.ref 1), none], []), (x7, g, mw_R rd)) _ _
    refine rh_Ex.blk 6 (s' := ((73, [some (.ref 0), some (.ref 1), none], []), (rh_up x7 0 24 ((x7 0 24) + (1 : Int32)), g, mw_R rd))) rfl ?_
    obtain rfl := Option.some.inj hf
    exact rh_Ex.ret rfl trivial
  · rw [if_neg q1] at hf
    refine rh_Ex.stp (s' := ((48, [some (.ref 0), some (.ref 1), none], []), (h, g, mw_R rd))) rfl (st_icne_n q1) ?_
    refine rh_Ex.blk 7 (s' := ((60, [some (.ref 0), some (.ref 1), none], [.int ((11 : Int32) * (h 0 24)), .ref 10, .ref 1]), (h, g, mw_R rd))) rfl ?_
    obtain ⟨x8, hx8, hf⟩ := rh_bq hf
    refine rh_Ex.call (j := 218) (rc := none) [.ref 1, .ref 10, .int ((11 : Int32) * (h 0 24))] [] none rfl rfl trivial (Nat.le_of_ble_eq_true rfl) (R_Mo_lay_1_10 d rd h g ((11 : Int32) * (h 0 24)) hx8) ?_
    show rh_Ex _ _ _ ((63, [some (.ref 0), some (.ref 1), none], []), (x8, g, mw_R rd)) _ _
    refine rh_Ex.blk 6 (s' := ((73, [some (.ref 0), some (.ref 1), none], []), (rh_up x8 0 24 ((x8 0 24) + (1 : Int32)), g, mw_R rd))) rfl ?_
    obtain rfl := Option.some.inj hf
    exact rh_Ex.ret rfl trivial
def b_Mo_ring_33 (u1 : Int32) : (Int32 × Int32 × (Nat → Nat → Int32) × (Option Nat)) → Option ((Int32 × Int32 × (Nat → Nat → Int32) × (Option Nat)) ⊕ (Int32 × (Nat → Nat → Int32) × (Option Nat))) := fun s33 =>
  if u1 < s33.2.1 then
    some (.inr (s33.1, s33.2.2.1, s33.2.2.2))
  else
    if s33.2.1 ≤ 0 then
      (f_Mo_isTipping__1 s33.2.2.1 s33.2.2.2).bind (fun x6 =>
        if x6.1 = 0 then
          some (.inl (s33.1, s33.2.1 + (1 : Int32), x6.2.1, x6.2.2))
        else
          some (.inl ((1 : Int32), s33.2.1 + (1 : Int32), x6.2.1, x6.2.2))
      )
    else
      (f_Mo_isTipping__1 (rh_up s33.2.2.1 1 (10 : Int32).toNatClampNeg ((s33.2.2.1 1 (10 : Int32).toNatClampNeg) + (1 : Int32))) s33.2.2.2).bind (fun x8 =>
        if x8.1 = 0 then
          some (.inl (s33.1, s33.2.1 + (1 : Int32), x8.2.1, x8.2.2))
        else
          some (.inl ((1 : Int32), s33.2.1 + (1 : Int32), x8.2.1, x8.2.2))
      )
def j_Mo_ring_29 (h : Nat → Nat → Int32) (rd : Option Nat) (p0 : Int32) : Option (Int32 × (Nat → Nat → Int32) × (Option Nat)) :=
  (rh_loop (b_Mo_ring_33 p0) rh_N ((0 : Int32), (0 : Int32), h, rd)).bind (fun r10 =>
    (f_Mo_tell (rh_up r10.2.1 0 8 (0 : Int32)) (((rh_up r10.2.1 0 8 (0 : Int32)) 1 (10 : Int32).toNatClampNeg) / (9 : Int32))).bind (fun x11 =>
      (f_Mo_weightOfAll x11 r10.2.2 (x11 1 (9 : Int32).toNatClampNeg) (x11 1 (10 : Int32).toNatClampNeg)).bind (fun x12 =>
        (f_Mo_tell x12.2.1 x12.1).bind (fun x13 =>
          (f_Mo_tell x13 r10.1).bind (fun x14 =>
            some (((x14 1 (10 : Int32).toNatClampNeg) - (x14 1 (10 : Int32).toNatClampNeg) / (9 : Int32) * (9 : Int32), x14, x12.2.2))
          )
        )
      )
    )
  )
def f_Mo_ring (h : Nat → Nat → Int32) (rd : Option Nat) (p0 : Int32) : Option (Int32 × (Nat → Nat → Int32) × (Option Nat)) :=
  if (f_Mo_in p0 (0 : Int32) (99 : Int32)) = 0 then
    some (((-1 : Int32), rh_up h 0 9 (0 : Int32), rd))
  else
    if p0 ≤ 0 then
      j_Mo_ring_29 (rh_up h 0 9 (0 : Int32)) rd p0
    else
      (f_Mo_remember_1 (rh_up h 0 9 (0 : Int32))).bind (fun x15 =>
        j_Mo_ring_29 x15 rd p0
      )
set_option maxRecDepth 20000 in
set_option maxHeartbeats 4000000 in
theorem lb_Mo_ring_33 (d : Nat) (u1 : Int32) (g : Nat → Nat → Int64) (v9 : Option Value) (h9 : rh_H) : ∀ s33 x9, b_Mo_ring_33 u1 s33 = some x9 → Sum.elim (fun s33 => rh_Ex (rh_M rh_PT mw_L (d + 269)) mw_L pg_X12_ring ((33, [some (.ref 0), some (.int u1), some (.int s33.1), some (.int s33.2.1)], []), (s33.2.2.1, g, mw_R s33.2.2.2)) v9 h9) (fun e9 => rh_Ex (rh_M rh_PT mw_L (d + 269)) mw_L pg_X12_ring ((72, [some (.ref 0), none, some (.int e9.1), none], []), (e9.2.1, g, mw_R e9.2.2)) v9 h9) x9 → rh_Ex (rh_M rh_PT mw_L (d + 269)) mw_L pg_X12_ring ((33, [some (.ref 0), some (.int u1), some (.int s33.1), some (.int s33.2.1)], []), (s33.2.2.1, g, mw_R s33.2.2.2)) v9 h9 := by
  intro s33 x9 hf hk
  unfold b_Mo_ring_33 at hf
  refine rh_Ex.blk 2 (s' := ((35, [some (.ref 0), some (.int u1), some (.int s33.1), some (.int s33.2.1)], [.int u1, .int s33.2.1]), (s33.2.2.1, g, mw_R s33.2.2.2))) rfl ?_
  by_cases q4 : u1 < s33.2.1
  · rw [if_pos q4] at hf
    refine rh_Ex.stp (s' := ((72, [some (.ref 0), some (.int u1), some (.int s33.1), some (.int s33.2.1)], []), (s33.2.2.1, g, mw_R s33.2.2.2))) rfl (st_icgt_p q4) ?_
    obtain rfl := Option.some.inj hf
    refine rh_Ex.fgt [some (.ref 0), none, some (.int s33.1), none] ⟨rfl, rfl, trivial⟩ ?_
    exact hk
  · rw [if_neg q4] at hf
    refine rh_Ex.stp (s' := ((38, [some (.ref 0), some (.int u1), some (.int s33.1), some (.int s33.2.1)], []), (s33.2.2.1, g, mw_R s33.2.2.2))) rfl (st_icgt_n q4) ?_
    refine rh_Ex.blk 1 (s' := ((39, [some (.ref 0), some (.int u1), some (.int s33.1), some (.int s33.2.1)], [.int s33.2.1]), (s33.2.2.1, g, mw_R s33.2.2.2))) rfl ?_
    by_cases q5 : s33.2.1 ≤ 0
    · rw [if_pos q5] at hf
      refine rh_Ex.stp (s' := ((53, [some (.ref 0), some (.int u1), some (.int s33.1), some (.int s33.2.1)], []), (s33.2.2.1, g, mw_R s33.2.2.2))) rfl (st_ifle_p q5) ?_
      refine rh_Ex.blk 3 (s' := ((58, [some (.ref 0), some (.int u1), some (.int s33.1), some (.int s33.2.1)], [.ref 1, .ref 0]), (s33.2.2.1, g, mw_R s33.2.2.2))) rfl ?_
      obtain ⟨x6, hx6, hf⟩ := rh_bq hf
      refine rh_Ex.call (j := 217) (rc := some 11) [.ref 0, .ref 1] [] (some (.int x6.1)) rfl rfl rfl (Nat.le_of_ble_eq_true rfl) (R_Mo_isTipping__1 d s33.2.2.2 s33.2.2.1 g  hx6) ?_
      show rh_Ex _ _ _ ((61, [some (.ref 0), some (.int u1), some (.int s33.1), some (.int s33.2.1)], [.int x6.1]), (x6.2.1, g, mw_R x6.2.2)) _ _
      by_cases q7 : x6.1 = 0
      · rw [if_pos q7] at hf
        refine rh_Ex.stp (s' := ((66, [some (.ref 0), some (.int u1), some (.int s33.1), some (.int s33.2.1)], []), (x6.2.1, g, mw_R x6.2.2))) rfl (st_ifeq_p q7) ?_
        refine rh_Ex.blk 2 (s' := ((33, [some (.ref 0), some (.int u1), some (.int s33.1), some (.int (s33.2.1 + (1 : Int32)))], []), (x6.2.1, g, mw_R x6.2.2))) rfl ?_
        obtain rfl := Option.some.inj hf
        refine rh_Ex.fgt [some (.ref 0), some (.int u1), some (.int s33.1), some (.int (s33.2.1 + (1 : Int32)))] ⟨rfl, rfl, rfl, rfl, trivial⟩ ?_
        exact hk
      · rw [if_neg q7] at hf
        refine rh_Ex.stp (s' := ((64, [some (.ref 0), some (.int u1), some (.int s33.1), some (.int s33.2.1)], []), (x6.2.1, g, mw_R x6.2.2))) rfl (st_ifeq_n q7) ?_
        refine rh_Ex.blk 4 (s' := ((33, [some (.ref 0), some (.int u1), some (.int (1 : Int32)), some (.int (s33.2.1 + (1 : Int32)))], []), (x6.2.1, g, mw_R x6.2.2))) rfl ?_
        obtain rfl := Option.some.inj hf
        refine rh_Ex.fgt [some (.ref 0), some (.int u1), some (.int (1 : Int32)), some (.int (s33.2.1 + (1 : Int32)))] ⟨rfl, rfl, rfl, rfl, trivial⟩ ?_
        exact hk
    · rw [if_neg q5] at hf
      refine rh_Ex.stp (s' := ((42, [some (.ref 0), some (.int u1), some (.int s33.1), some (.int s33.2.1)], []), (s33.2.2.1, g, mw_R s33.2.2.2))) rfl (st_ifle_n q5) ?_
      refine rh_Ex.blk 4 (s' := ((49, [some (.ref 0), some (.int u1), some (.int s33.1), some (.int s33.2.1)], [.int (10 : Int32), .ref 1, .int (10 : Int32), .ref 1]), (s33.2.2.1, g, mw_R s33.2.2.2))) rfl ?_
      refine rh_Ex.stp (s' := ((50, [some (.ref 0), some (.int u1), some (.int s33.1), some (.int s33.2.1)], [.int (s33.2.2.1 1 (10 : Int32).toNatClampNeg), .int (10 : Int32), .ref 1]), (s33.2.2.1, g, mw_R s33.2.2.2))) rfl (st_iald (n := 11) rfl (by decide)) ?_
      refine rh_Ex.blk 2 (s' := ((52, [some (.ref 0), some (.int u1), some (.int s33.1), some (.int s33.2.1)], [.int ((s33.2.2.1 1 (10 : Int32).toNatClampNeg) + (1 : Int32)), .int (10 : Int32), .ref 1]), (s33.2.2.1, g, mw_R s33.2.2.2))) rfl ?_
      refine rh_Ex.stp (s' := ((53, [some (.ref 0), some (.int u1), some (.int s33.1), some (.int s33.2.1)], []), (rh_up s33.2.2.1 1 (10 : Int32).toNatClampNeg ((s33.2.2.1 1 (10 : Int32).toNatClampNeg) + (1 : Int32)), g, mw_R s33.2.2.2))) rfl (st_iast (n := 11) rfl (by decide)) ?_
      refine rh_Ex.blk 3 (s' := ((58, [some (.ref 0), some (.int u1), some (.int s33.1), some (.int s33.2.1)], [.ref 1, .ref 0]), (rh_up s33.2.2.1 1 (10 : Int32).toNatClampNeg ((s33.2.2.1 1 (10 : Int32).toNatClampNeg) + (1 : Int32)), g, mw_R s33.2.2.2))) rfl ?_
      obtain ⟨x8, hx8, hf⟩ := rh_bq hf
      refine rh_Ex.call (j := 217) (rc := some 11) [.ref 0, .ref 1] [] (some (.int x8.1)) rfl rfl rfl (Nat.le_of_ble_eq_true rfl) (R_Mo_isTipping__1 d s33.2.2.2 (rh_up s33.2.2.1 1 (10 : Int32).toNatClampNeg ((s33.2.2.1 1 (10 : Int32).toNatClampNeg) + (1 : Int32))) g  hx8) ?_
      show rh_Ex _ _ _ ((61, [some (.ref 0), some (.int u1), some (.int s33.1), some (.int s33.2.1)], [.int x8.1]), (x8.2.1, g, mw_R x8.2.2)) _ _
      by_cases q9 : x8.1 = 0
      · rw [if_pos q9] at hf
        refine rh_Ex.stp (s' := ((66, [some (.ref 0), some (.int u1), some (.int s33.1), some (.int s33.2.1)], []), (x8.2.1, g, mw_R x8.2.2))) rfl (st_ifeq_p q9) ?_
        refine rh_Ex.blk 2 (s' := ((33, [some (.ref 0), some (.int u1), some (.int s33.1), some (.int (s33.2.1 + (1 : Int32)))], []), (x8.2.1, g, mw_R x8.2.2))) rfl ?_
        obtain rfl := Option.some.inj hf
        refine rh_Ex.fgt [some (.ref 0), some (.int u1), some (.int s33.1), some (.int (s33.2.1 + (1 : Int32)))] ⟨rfl, rfl, rfl, rfl, trivial⟩ ?_
        exact hk
      · rw [if_neg q9] at hf
        refine rh_Ex.stp (s' := ((64, [some (.ref 0), some (.int u1), some (.int s33.1), some (.int s33.2.1)], []), (x8.2.1, g, mw_R x8.2.2))) rfl (st_ifeq_n q9) ?_
        refine rh_Ex.blk 4 (s' := ((33, [some (.ref 0), some (.int u1), some (.int (1 : Int32)), some (.int (s33.2.1 + (1 : Int32)))], []), (x8.2.1, g, mw_R x8.2.2))) rfl ?_
        obtain rfl := Option.some.inj hf
        refine rh_Ex.fgt [some (.ref 0), some (.int u1), some (.int (1 : Int32)), some (.int (s33.2.1 + (1 : Int32)))] ⟨rfl, rfl, rfl, rfl, trivial⟩ ?_
        exact hk
set_option maxRecDepth 20000 in
set_option maxHeartbeats 4000000 in
theorem lj_Mo_ring_29 (d : Nat) (h : Nat → Nat → Int32) (rd : Option Nat) (p0 : Int32) (g : Nat → Nat → Int64) {z9 : Int32 × (Nat → Nat → Int32) × (Option Nat)} (hf : j_Mo_ring_29 h rd p0 = some z9) : rh_Ex (rh_M rh_PT mw_L (d + 269)) mw_L pg_X12_ring ((29, [some (.ref 0), some (.int p0), none, none], []), (h, g, mw_R rd)) (some (.int z9.1)) (z9.2.1, g, mw_R z9.2.2) := by
  unfold j_Mo_ring_29 at hf
  refine rh_Ex.blk 4 (s' := ((33, [some (.ref 0), some (.int p0), some (.int (0 : Int32)), some (.int (0 : Int32))], []), (h, g, mw_R rd))) rfl ?_
  obtain ⟨r10, hr10, hf⟩ := rh_bq hf
  refine rh_Ex.fgt [some (.ref 0), some (.int p0), some (.int (0 : Int32)), some (.int (0 : Int32))] ⟨rfl, rfl, rfl, rfl, trivial⟩ ?_
  refine rh_Ex.loop _ _ _ (lb_Mo_ring_33 d p0  g _ _) rh_N _ r10 hr10 ?_
  refine rh_Ex.blk 7 (s' := ((84, [some (.ref 0), none, some (.int r10.1), none], [.int (10 : Int32), .ref 1, .ref 0]), (rh_up r10.2.1 0 8 (0 : Int32), g, mw_R r10.2.2))) rfl ?_
  refine rh_Ex.stp (s' := ((85, [some (.ref 0), none, some (.int r10.1), none], [.int ((rh_up r10.2.1 0 8 (0 : Int32)) 1 (10 : Int32).toNatClampNeg), .ref 0]), (rh_up r10.2.1 0 8 (0 : Int32), g, mw_R r10.2.2))) rfl (st_iald (n := 11) rfl (by decide)) ?_
  refine rh_Ex.blk 1 (s' := ((87, [some (.ref 0), none, some (.int r10.1), none], [.int (9 : Int32), .int ((rh_up r10.2.1 0 8 (0 : Int32)) 1 (10 : Int32).toNatClampNeg), .ref 0]), (rh_up r10.2.1 0 8 (0 : Int32), g, mw_R r10.2.2))) rfl ?_
  refine rh_Ex.stp (s' := ((88, [some (.ref 0), none, some (.int r10.1), none], [.int (((rh_up r10.2.1 0 8 (0 : Int32)) 1 (10 : Int32).toNatClampNeg) / (9 : Int32)), .ref 0]), (rh_up r10.2.1 0 8 (0 : Int32), g, mw_R r10.2.2))) rfl (st_idiv (by decide)) ?_
  obtain ⟨x11, hx11, hf⟩ := rh_bq hf
  refine rh_Ex.call (j := 182) (rc := some 11) [.ref 0, .int (((rh_up r10.2.1 0 8 (0 : Int32)) 1 (10 : Int32).toNatClampNeg) / (9 : Int32))] [] none rfl rfl rfl (Nat.le_of_ble_eq_true rfl) (R_Mo_tell (d + 268) r10.2.2 (rh_up r10.2.1 0 8 (0 : Int32)) g (((rh_up r10.2.1 0 8 (0 : Int32)) 1 (10 : Int32).toNatClampNeg) / (9 : Int32)) hx11) ?_
  show rh_Ex _ _ _ ((91, [some (.ref 0), none, some (.int r10.1), none], []), (x11, g, mw_R r10.2.2)) _ _
  refine rh_Ex.blk 5 (s' := ((99, [some (.ref 0), none, some (.int r10.1), none], [.int (9 : Int32), .ref 1, .ref 0, .ref 0]), (x11, g, mw_R r10.2.2))) rfl ?_
  refine rh_Ex.stp (s' := ((100, [some (.ref 0), none, some (.int r10.1), none], [.int (x11 1 (9 : Int32).toNatClampNeg), .ref 0, .ref 0]), (x11, g, mw_R r10.2.2))) rfl (st_iald (n := 11) rfl (by decide)) ?_
  refine rh_Ex.blk 3 (s' := ((106, [some (.ref 0), none, some (.int r10.1), none], [.int (10 : Int32), .ref 1, .int (x11 1 (9 : Int32).toNatClampNeg), .ref 0, .ref 0]), (x11, g, mw_R r10.2.2))) rfl ?_
  refine rh_Ex.stp (s' := ((107, [some (.ref 0), none, some (.int r10.1), none], [.int (x11 1 (10 : Int32).toNatClampNeg), .int (x11 1 (9 : Int32).toNatClampNeg), .ref 0, .ref 0]), (x11, g, mw_R r10.2.2))) rfl (st_iald (n := 11) rfl (by decide)) ?_
  obtain ⟨x12, hx12, hf⟩ := rh_bq hf
  refine rh_Ex.call (j := 207) (rc := some 11) [.ref 0, .int (x11 1 (9 : Int32).toNatClampNeg), .int (x11 1 (10 : Int32).toNatClampNeg)] [.ref 0] (some (.int x12.1)) rfl rfl rfl (Nat.le_of_ble_eq_true rfl) (R_Mo_weightOfAll (d + 1) r10.2.2 x11 g (x11 1 (9 : Int32).toNatClampNeg) (x11 1 (10 : Int32).toNatClampNeg) hx12) ?_
  show rh_Ex _ _ _ ((110, [some (.ref 0), none, some (.int r10.1), none], [.int x12.1, .ref 0]), (x12.2.1, g, mw_R x12.2.2)) _ _
  obtain ⟨x13, hx13, hf⟩ := rh_bq hf
  refine rh_Ex.call (j := 182) (rc := some 11) [.ref 0, .int x12.1] [] none rfl rfl rfl (Nat.le_of_ble_eq_true rfl) (R_Mo_tell (d + 268) x12.2.2 x12.2.1 g x12.1 hx13) ?_
  show rh_Ex _ _ _ ((113, [some (.ref 0), none, some (.int r10.1), none], []), (x13, g, mw_R x12.2.2)) _ _
  refine rh_Ex.blk 2 (s' := ((115, [some (.ref 0), none, some (.int r10.1), none], [.int r10.1, .ref 0]), (x13, g, mw_R x12.2.2))) rfl ?_
  obtain ⟨x14, hx14, hf⟩ := rh_bq hf
  refine rh_Ex.call (j := 182) (rc := some 11) [.ref 0, .int r10.1] [] none rfl rfl rfl (Nat.le_of_ble_eq_true rfl) (R_Mo_tell (d + 268) x12.2.2 x13 g r10.1 hx14) ?_
  show rh_Ex _ _ _ ((118, [some (.ref 0), none, some (.int r10.1), none], []), (x14, g, mw_R x12.2.2)) _ _
  refine rh_Ex.blk 3 (s' := ((124, [some (.ref 0), none, some (.int r10.1), none], [.int (10 : Int32), .ref 1]), (x14, g, mw_R x12.2.2))) rfl ?_
  refine rh_Ex.stp (s' := ((125, [some (.ref 0), none, some (.int r10.1), none], [.int (x14 1 (10 : Int32).toNatClampNeg)]), (x14, g, mw_R x12.2.2))) rfl (st_iald (n := 11) rfl (by decide)) ?_
  refine rh_Ex.blk 1 (s' := ((127, [some (.ref 0), none, some (.int r10.1), none], [.int (9 : Int32), .int (x14 1 (10 : Int32).toNatClampNeg)]), (x14, g, mw_R x12.2.2))) rfl ?_
  refine rh_Ex.stp (s' := ((128, [some (.ref 0), none, some (.int r10.1), none], [.int ((x14 1 (10 : Int32).toNatClampNeg) - (x14 1 (10 : Int32).toNatClampNeg) / (9 : Int32) * (9 : Int32))]), (x14, g, mw_R x12.2.2))) rfl (st_irem (by decide)) ?_
  obtain rfl := Option.some.inj hf
  exact rh_Ex.ret rfl rfl
set_option maxRecDepth 20000 in
set_option maxHeartbeats 4000000 in
theorem R_Mo_ring (d : Nat) (rd : Option Nat) (h : Nat → Nat → Int32) (g : Nat → Nat → Int64) (p0 : Int32) {z9 : Int32 × (Nat → Nat → Int32) × (Option Nat)} (hf : f_Mo_ring h rd p0 = some z9) : rh_M rh_PT mw_L (d + 270) 220 [.ref 0, .int p0] (h, g, mw_R rd) (some (.int z9.1)) (z9.2.1, g, mw_R z9.2.2) := by
  unfold f_Mo_ring at hf
  refine rh_go pt_220 (Nat.le_of_ble_eq_true rfl) (lv := [some (.ref 0), some (.int p0), none, none]) rfl ?_
  refine rh_Ex.blk 6 (s' := ((9, [some (.ref 0), some (.int p0), none, none], [.int (99 : Int32), .int (0 : Int32), .int p0]), (rh_up h 0 9 (0 : Int32), g, mw_R rd))) rfl ?_
  refine rh_Ex.call (j := 179) (rc := none) [.int p0, .int (0 : Int32), .int (99 : Int32)] [] (some (.int (f_Mo_in p0 (0 : Int32) (99 : Int32)))) rfl rfl trivial (Nat.le_of_ble_eq_true rfl) (R_Mo_in (d + 268) mw_L (mw_R rd) (rh_up h 0 9 (0 : Int32)) g p0 (0 : Int32) (99 : Int32) rfl) ?_
  show rh_Ex _ _ _ ((12, [some (.ref 0), some (.int p0), none, none], [.int (f_Mo_in p0 (0 : Int32) (99 : Int32))]), (rh_up h 0 9 (0 : Int32), g, mw_R rd)) _ _
  by_cases q1 : (f_Mo_in p0 (0 : Int32) (99 : Int32)) = 0
  · rw [if_pos q1] at hf
    refine rh_Ex.stp (s' := ((15, [some (.ref 0), some (.int p0), none, none], []), (rh_up h 0 9 (0 : Int32), g, mw_R rd))) rfl (st_ifne_p q1) ?_
    refine rh_Ex.blk 1 (s' := ((16, [some (.ref 0), some (.int p0), none, none], [.int (-1 : Int32)]), (rh_up h 0 9 (0 : Int32), g, mw_R rd))) rfl ?_
    obtain rfl := Option.some.inj hf
    exact rh_Ex.ret rfl rfl
  · rw [if_neg q1] at hf
    refine rh_Ex.stp (s' := ((17, [some (.ref 0), some (.int p0), none, none], []), (rh_up h 0 9 (0 : Int32), g, mw_R rd))) rfl (st_ifne_n q1) ?_
    refine rh_Ex.blk 1 (s' := ((18, [some (.ref 0), some (.int p0), none, none], [.int p0]), (rh_up h 0 9 (0 : Int32), g, mw_R rd))) rfl ?_
    by_cases q2 : p0 ≤ 0
    · rw [if_pos q2] at hf
      refine rh_Ex.stp (s' := ((29, [some (.ref 0), some (.int p0), none, none], []), (rh_up h 0 9 (0 : Int32), g, mw_R rd))) rfl (st_ifle_p q2) ?_
      refine rh_Ex.fgt [some (.ref 0), some (.int p0), none, none] ⟨rfl, rfl, trivial⟩ ?_
      exact lj_Mo_ring_29 d (rh_up h 0 9 (0 : Int32)) rd p0 g hf
    · rw [if_neg q2] at hf
      refine rh_Ex.stp (s' := ((21, [some (.ref 0), some (.int p0), none, none], []), (rh_up h 0 9 (0 : Int32), g, mw_R rd))) rfl (st_ifle_n q2) ?_
      refine rh_Ex.blk 3 (s' := ((26, [some (.ref 0), some (.int p0), none, none], [.ref 1, .ref 0]), (rh_up h 0 9 (0 : Int32), g, mw_R rd))) rfl ?_
      obtain ⟨x15, hx15, hf⟩ := rh_bq hf
      refine rh_Ex.call (j := 219) (rc := some 11) [.ref 0, .ref 1] [] none rfl rfl rfl (Nat.le_of_ble_eq_true rfl) (R_Mo_remember_1 (d + 267) rd (rh_up h 0 9 (0 : Int32)) g  hx15) ?_
      show rh_Ex _ _ _ ((29, [some (.ref 0), some (.int p0), none, none], []), (x15, g, mw_R rd)) _ _
      refine rh_Ex.fgt [some (.ref 0), some (.int p0), none, none] ⟨rfl, rfl, trivial⟩ ?_
      exact lj_Mo_ring_29 d x15 rd p0 g hf
def b_Mo_lay_1_12_2 (u2 : Int32) : (Int32 × (Nat → Nat → Int32)) → Option ((Int32 × (Nat → Nat → Int32)) ⊕ ((Nat → Nat → Int32))) := fun s2 =>
  if (11 : Int32) ≤ s2.1 then
    some (.inr s2.2)
  else
    rh_g (0 ≤ s2.1.toInt ∧ s2.1.toInt < ((11 : Nat) : Int)) (
      rh_g (0 ≤ (u2 + s2.1).toInt ∧ (u2 + s2.1).toInt < ((11 : Nat) : Int)) (
        some (.inl (s2.1 + (1 : Int32), rh_up s2.2 12 (u2 + s2.1).toNatClampNeg (s2.2 1 s2.1.toNatClampNeg)))
      )
    )
def f_Mo_lay_1_12 (h : Nat → Nat → Int32) (p0 : Int32) : Option ((Nat → Nat → Int32)) :=
  (rh_loop (b_Mo_lay_1_12_2 p0) rh_N ((0 : Int32), h)).bind (fun r5 =>
    some (r5)
  )
set_option maxRecDepth 20000 in
set_option maxHeartbeats 4000000 in
theorem lb_Mo_lay_1_12_2 (d : Nat) (rd : Option Nat) (u2 : Int32) (g : Nat → Nat → Int64) (v9 : Option Value) (h9 : rh_H) : ∀ s2 x9, b_Mo_lay_1_12_2 u2 s2 = some x9 → Sum.elim (fun s2 => rh_Ex (rh_M rh_PT mw_L (d + 0)) mw_L pg_X12_lay ((2, [some (.ref 1), some (.ref 12), some (.int u2), some (.int s2.1)], []), (s2.2, g, mw_R rd)) v9 h9) (fun e9 => rh_Ex (rh_M rh_PT mw_L (d + 0)) mw_L pg_X12_lay ((22, [none, none, none, none], []), (e9, g, mw_R rd)) v9 h9) x9 → rh_Ex (rh_M rh_PT mw_L (d + 0)) mw_L pg_X12_lay ((2, [some (.ref 1), some (.ref 12), some (.int u2), some (.int s2.1)], []), (s2.2, g, mw_R rd)) v9 h9 := by
  intro s2 x9 hf hk
  unfold b_Mo_lay_1_12_2 at hf
  refine rh_Ex.blk 2 (s' := ((5, [some (.ref 1), some (.ref 12), some (.int u2), some (.int s2.1)], [.int (11 : Int32), .int s2.1]), (s2.2, g, mw_R rd))) rfl ?_
  by_cases q2 : (11 : Int32) ≤ s2.1
  · rw [if_pos q2] at hf
    refine rh_Ex.stp (s' := ((22, [some (.ref 1), some (.ref 12), some (.int u2), some (.int s2.1)], []), (s2.2, g, mw_R rd))) rfl (st_icge_p q2) ?_
    obtain rfl := Option.some.inj hf
    refine rh_Ex.fgt [none, none, none, none] trivial ?_
    exact hk
  · rw [if_neg q2] at hf
    refine rh_Ex.stp (s' := ((8, [some (.ref 1), some (.ref 12), some (.int u2), some (.int s2.1)], []), (s2.2, g, mw_R rd))) rfl (st_icge_n q2) ?_
    refine rh_Ex.blk 6 (s' := ((14, [some (.ref 1), some (.ref 12), some (.int u2), some (.int s2.1)], [.int s2.1, .ref 1, .int (u2 + s2.1), .ref 12]), (s2.2, g, mw_R rd))) rfl ?_
    obtain ⟨q3, hf⟩ := rh_gq hf
    refine rh_Ex.stp (s' := ((15, [some (.ref 1), some (.ref 12), some (.int u2), some (.int s2.1)], [.int (s2.2 1 s2.1.toNatClampNeg), .int (u2 + s2.1), .ref 12]), (s2.2, g, mw_R rd))) rfl (st_iald (n := 11) rfl q3) ?_
    obtain ⟨q4, hf⟩ := rh_gq hf
    refine rh_Ex.stp (s' := ((16, [some (.ref 1), some (.ref 12), some (.int u2), some (.int s2.1)], []), (rh_up s2.2 12 (u2 + s2.1).toNatClampNeg (s2.2 1 s2.1.toNatClampNeg), g, mw_R rd))) rfl (st_iast (n := 11) rfl q4) ?_
    refine rh_Ex.blk 2 (s' := ((2, [some (.ref 1), some (.ref 12), some (.int u2), some (.int (s2.1 + (1 : Int32)))], []), (rh_up s2.2 12 (u2 + s2.1).toNatClampNeg (s2.2 1 s2.1.toNatClampNeg), g, mw_R rd))) rfl ?_
    obtain rfl := Option.some.inj hf
    refine rh_Ex.fgt [some (.ref 1), some (.ref 12), some (.int u2), some (.int (s2.1 + (1 : Int32)))] ⟨rfl, rfl, rfl, rfl, trivial⟩ ?_
    exact hk
set_option maxRecDepth 20000 in
set_option maxHeartbeats 4000000 in
theorem R_Mo_lay_1_12 (d : Nat) (rd : Option Nat) (h : Nat → Nat → Int32) (g : Nat → Nat → Int64) (p0 : Int32) {z9 : (Nat → Nat → Int32)} (hf : f_Mo_lay_1_12 h p0 = some z9) : rh_M rh_PT mw_L (d + 1) 218 [.ref 1, .ref 12, .int p0] (h, g, mw_R rd) none (z9, g, mw_R rd) := by
  unfold f_Mo_lay_1_12 at hf
  refine rh_go pt_218 (Nat.le_of_ble_eq_true rfl) (lv := [some (.ref 1), some (.ref 12), some (.int p0), none]) rfl ?_
  refine rh_Ex.blk 2 (s' := ((2, [some (.ref 1), some (.ref 12), some (.int p0), some (.int (0 : Int32))], []), (h, g, mw_R rd))) rfl ?_
  obtain ⟨r5, hr5, hf⟩ := rh_bq hf
  refine rh_Ex.fgt [some (.ref 1), some (.ref 12), some (.int p0), some (.int (0 : Int32))] ⟨rfl, rfl, rfl, rfl, trivial⟩ ?_
  refine rh_Ex.loop _ _ _ (lb_Mo_lay_1_12_2 d rd p0  g _ _) rh_N _ r5 hr5 ?_
  obtain rfl := Option.some.inj hf
  exact rh_Ex.ret rfl trivial
def b_Mo_leanOf_12_5 (u2 : Int32) : (Int32 × Int32 × (Nat → Nat → Int32) × (Option Nat)) → Option ((Int32 × Int32 × (Nat → Nat → Int32) × (Option Nat)) ⊕ (Int32 × (Nat → Nat → Int32) × (Option Nat))) := fun s5 =>
  if (s5.2.2.1 0 1) ≤ s5.2.1 then
    some (.inr (s5.1, s5.2.2.1, s5.2.2.2))
  else
    if (f_Mo_has (s5.2.2.1 12 (9 : Int32).toNatClampNeg) s5.2.1) = 0 then
      some (.inl (s5.1 + (0 : Int32), s5.2.1 + (1 : Int32), s5.2.2.1, s5.2.2.2))
    else
      rh_g (0 ≤ s5.2.1.toInt ∧ s5.2.1.toInt < ((11 : Nat) : Int)) (
        (f_Mo_weightOf s5.2.2.1 s5.2.2.2 s5.2.1 u2).bind (fun x5 =>
          some (.inl (s5.1 + ((s5.2.2.1 12 s5.2.1.toNatClampNeg) * x5.1), s5.2.1 + (1 : Int32), x5.2.1, x5.2.2))
        )
      )
def f_Mo_leanOf_12 (h : Nat → Nat → Int32) (rd : Option Nat) (p0 : Int32) : Option (Int32 × (Nat → Nat → Int32) × (Option Nat)) :=
  (rh_loop (b_Mo_leanOf_12_5 p0) rh_N ((0 : Int32), (0 : Int32), h, rd)).bind (fun r6 =>
    some ((r6.1, r6.2.1, r6.2.2))
  )
set_option maxRecDepth 20000 in
set_option maxHeartbeats 4000000 in
theorem lb_Mo_leanOf_12_5 (d : Nat) (u2 : Int32) (g : Nat → Nat → Int64) (v9 : Option Value) (h9 : rh_H) : ∀ s5 x9, b_Mo_leanOf_12_5 u2 s5 = some x9 → Sum.elim (fun s5 => rh_Ex (rh_M rh_PT mw_L (d + 267)) mw_L pg_X12_leanOf ((5, [some (.ref 0), some (.ref 12), some (.int u2), some (.int s5.1), some (.int s5.2.1)], []), (s5.2.2.1, g, mw_R s5.2.2.2)) v9 h9) (fun e9 => rh_Ex (rh_M rh_PT mw_L (d + 267)) mw_L pg_X12_leanOf ((51, [none, none, none, some (.int e9.1), none], []), (e9.2.1, g, mw_R e9.2.2)) v9 h9) x9 → rh_Ex (rh_M rh_PT mw_L (d + 267)) mw_L pg_X12_leanOf ((5, [some (.ref 0), some (.ref 12), some (.int u2), some (.int s5.1), some (.int s5.2.1)], []), (s5.2.2.1, g, mw_R s5.2.2.2)) v9 h9 := by
  intro s5 x9 hf hk
  unfold b_Mo_leanOf_12_5 at hf
  refine rh_Ex.blk 3 (s' := ((11, [some (.ref 0), some (.ref 12), some (.int u2), some (.int s5.1), some (.int s5.2.1)], [.int (s5.2.2.1 0 1), .int s5.2.1]), (s5.2.2.1, g, mw_R s5.2.2.2))) rfl ?_
  by_cases q2 : (s5.2.2.1 0 1) ≤ s5.2.1
  · rw [if_pos q2] at hf
    refine rh_Ex.stp (s' := ((51, [some (.ref 0), some (.ref 12), some (.int u2), some (.int s5.1), some (.int s5.2.1)], []), (s5.2.2.1, g, mw_R s5.2.2.2))) rfl (st_icge_p q2) ?_
    obtain rfl := Option.some.inj hf
    refine rh_Ex.fgt [none, none, none, some (.int s5.1), none] ⟨rfl, trivial⟩ ?_
    exact hk
  · rw [if_neg q2] at hf
    refine rh_Ex.stp (s' := ((14, [some (.ref 0), some (.ref 12), some (.int u2), some (.int s5.1), some (.int s5.2.1)], []), (s5.2.2.1, g, mw_R s5.2.2.2))) rfl (st_icge_n q2) ?_
    refine rh_Ex.blk 3 (s' := ((18, [some (.ref 0), some (.ref 12), some (.int u2), some (.int s5.1), some (.int s5.2.1)], [.int (9 : Int32), .ref 12, .int s5.1]), (s5.2.2.1, g, mw_R s5.2.2.2))) rfl ?_
    refine rh_Ex.stp (s' := ((19, [some (.ref 0), some (.ref 12), some (.int u2), some (.int s5.1), some (.int s5.2.1)], [.int (s5.2.2.1 12 (9 : Int32).toNatClampNeg), .int s5.1]), (s5.2.2.1, g, mw_R s5.2.2.2))) rfl (st_iald (n := 11) rfl (by decide)) ?_
    refine rh_Ex.blk 1 (s' := ((21, [some (.ref 0), some (.ref 12), some (.int u2), some (.int s5.1), some (.int s5.2.1)], [.int s5.2.1, .int (s5.2.2.1 12 (9 : Int32).toNatClampNeg), .int s5.1]), (s5.2.2.1, g, mw_R s5.2.2.2))) rfl ?_
    refine rh_Ex.call (j := 180) (rc := none) [.int (s5.2.2.1 12 (9 : Int32).toNatClampNeg), .int s5.2.1] [.int s5.1] (some (.int (f_Mo_has (s5.2.2.1 12 (9 : Int32).toNatClampNeg) s5.2.1))) rfl rfl trivial (Nat.le_of_ble_eq_true rfl) (R_Mo_has (d + 266) mw_L (mw_R s5.2.2.2) s5.2.2.1 g (s5.2.2.1 12 (9 : Int32).toNatClampNeg) s5.2.1 rfl) ?_
    show rh_Ex _ _ _ ((24, [some (.ref 0), some (.ref 12), some (.int u2), some (.int s5.1), some (.int s5.2.1)], [.int (f_Mo_has (s5.2.2.1 12 (9 : Int32).toNatClampNeg) s5.2.1), .int s5.1]), (s5.2.2.1, g, mw_R s5.2.2.2)) _ _
    by_cases q3 : (f_Mo_has (s5.2.2.1 12 (9 : Int32).toNatClampNeg) s5.2.1) = 0
    · rw [if_pos q3] at hf
      refine rh_Ex.stp (s' := ((42, [some (.ref 0), some (.ref 12), some (.int u2), some (.int s5.1), some (.int s5.2.1)], [.int s5.1]), (s5.2.2.1, g, mw_R s5.2.2.2))) rfl (st_ifeq_p q3) ?_
      refine rh_Ex.blk 5 (s' := ((5, [some (.ref 0), some (.ref 12), some (.int u2), some (.int (s5.1 + (0 : Int32))), some (.int (s5.2.1 + (1 : Int32)))], []), (s5.2.2.1, g, mw_R s5.2.2.2))) rfl ?_
      obtain rfl := Option.some.inj hf
      refine rh_Ex.fgt [some (.ref 0), some (.ref 12), some (.int u2), some (.int (s5.1 + (0 : Int32))), some (.int (s5.2.1 + (1 : Int32)))] ⟨rfl, rfl, rfl, rfl, rfl, trivial⟩ ?_
      exact hk
    · rw [if_neg q3] at hf
      refine rh_Ex.stp (s' := ((27, [some (.ref 0), some (.ref 12), some (.int u2), some (.int s5.1), some (.int s5.2.1)], [.int s5.1]), (s5.2.2.1, g, mw_R s5.2.2.2))) rfl (st_ifeq_n q3) ?_
      refine rh_Ex.blk 2 (s' := ((30, [some (.ref 0), some (.ref 12), some (.int u2), some (.int s5.1), some (.int s5.2.1)], [.int s5.2.1, .ref 12, .int s5.1]), (s5.2.2.1, g, mw_R s5.2.2.2))) rfl ?_
      obtain ⟨q4, hf⟩ := rh_gq hf
      refine rh_Ex.stp (s' := ((31, [some (.ref 0), some (.ref 12), some (.int u2), some (.int s5.1), some (.int s5.2.1)], [.int (s5.2.2.1 12 s5.2.1.toNatClampNeg), .int s5.1]), (s5.2.2.1, g, mw_R s5.2.2.2))) rfl (st_iald (n := 11) rfl q4) ?_
      refine rh_Ex.blk 3 (s' := ((35, [some (.ref 0), some (.ref 12), some (.int u2), some (.int s5.1), some (.int s5.2.1)], [.int u2, .int s5.2.1, .ref 0, .int (s5.2.2.1 12 s5.2.1.toNatClampNeg), .int s5.1]), (s5.2.2.1, g, mw_R s5.2.2.2))) rfl ?_
      obtain ⟨x5, hx5, hf⟩ := rh_bq hf
      refine rh_Ex.call (j := 205) (rc := some 11) [.ref 0, .int s5.2.1, .int u2] [.int (s5.2.2.1 12 s5.2.1.toNatClampNeg), .int s5.1] (some (.int x5.1)) rfl rfl rfl (Nat.le_of_ble_eq_true rfl) (R_Mo_weightOf d s5.2.2.2 s5.2.2.1 g s5.2.1 u2 hx5) ?_
      show rh_Ex _ _ _ ((38, [some (.ref 0), some (.ref 12), some (.int u2), some (.int s5.1), some (.int s5.2.1)], [.int x5.1, .int (s5.2.2.1 12 s5.2.1.toNatClampNeg), .int s5.1]), (x5.2.1, g, mw_R x5.2.2)) _ _
      refine rh_Ex.blk 6 (s' := ((5, [some (.ref 0), some (.ref 12), some (.int u2), some (.int (s5.1 + ((s5.2.2.1 12 s5.2.1.toNatClampNeg) * x5.1))), some (.int (s5.2.1 + (1 : Int32)))], []), (x5.2.1, g, mw_R x5.2.2))) rfl ?_
      obtain rfl := Option.some.inj hf
      refine rh_Ex.fgt [some (.ref 0), some (.ref 12), some (.int u2), some (.int (s5.1 + ((s5.2.2.1 12 s5.2.1.toNatClampNeg) * x5.1))), some (.int (s5.2.1 + (1 : Int32)))] ⟨rfl, rfl, rfl, rfl, rfl, trivial⟩ ?_
      exact hk
set_option maxRecDepth 20000 in
set_option maxHeartbeats 4000000 in
theorem R_Mo_leanOf_12 (d : Nat) (rd : Option Nat) (h : Nat → Nat → Int32) (g : Nat → Nat → Int64) (p0 : Int32) {z9 : Int32 × (Nat → Nat → Int32) × (Option Nat)} (hf : f_Mo_leanOf_12 h rd p0 = some z9) : rh_M rh_PT mw_L (d + 268) 215 [.ref 0, .ref 12, .int p0] (h, g, mw_R rd) (some (.int z9.1)) (z9.2.1, g, mw_R z9.2.2) := by
  unfold f_Mo_leanOf_12 at hf
  refine rh_go pt_215 (Nat.le_of_ble_eq_true rfl) (lv := [some (.ref 0), some (.ref 12), some (.int p0), none, none]) rfl ?_
  refine rh_Ex.blk 4 (s' := ((5, [some (.ref 0), some (.ref 12), some (.int p0), some (.int (0 : Int32)), some (.int (0 : Int32))], []), (h, g, mw_R rd))) rfl ?_
  obtain ⟨r6, hr6, hf⟩ := rh_bq hf
  refine rh_Ex.fgt [some (.ref 0), some (.ref 12), some (.int p0), some (.int (0 : Int32)), some (.int (0 : Int32))] ⟨rfl, rfl, rfl, rfl, rfl, trivial⟩ ?_
  refine rh_Ex.loop _ _ _ (lb_Mo_leanOf_12_5 d p0  g _ _) rh_N _ r6 hr6 ?_
  refine rh_Ex.blk 1 (s' := ((52, [none, none, none, some (.int r6.1), none], [.int r6.1]), (r6.2.1, g, mw_R r6.2.2))) rfl ?_
  obtain rfl := Option.some.inj hf
  exact rh_Ex.ret rfl rfl
def f_Mo_isTipping__12 (h : Nat → Nat → Int32) (rd : Option Nat) : Option (Int32 × (Nat → Nat → Int32) × (Option Nat)) :=
  (f_Mo_leanOf_12 h rd (h 12 (10 : Int32).toNatClampNeg)).bind (fun x1 =>
    rh_g ((f_Mo_isTipping x1.2.1 x1.1) = 0 ∨ (f_Mo_isTipping x1.2.1 x1.1) = 1) (
      some (((f_Mo_isTipping x1.2.1 x1.1), x1.2.1, x1.2.2))
    )
  )
set_option maxRecDepth 20000 in
set_option maxHeartbeats 4000000 in
theorem R_Mo_isTipping__12 (d : Nat) (rd : Option Nat) (h : Nat → Nat → Int32) (g : Nat → Nat → Int64)  {z9 : Int32 × (Nat → Nat → Int32) × (Option Nat)} (hf : f_Mo_isTipping__12 h rd = some z9) : rh_M rh_PT mw_L (d + 269) 217 [.ref 0, .ref 12] (h, g, mw_R rd) (some (.int z9.1)) (z9.2.1, g, mw_R z9.2.2) := by
  unfold f_Mo_isTipping__12 at hf
  refine rh_go pt_217 (Nat.le_of_ble_eq_true rfl) (lv := [some (.ref 0), some (.ref 12)]) rfl ?_
  refine rh_Ex.blk 5 (s' := ((6, [some (.ref 0), some (.ref 12)], [.int (10 : Int32), .ref 12, .ref 12, .ref 0, .ref 0]), (h, g, mw_R rd))) rfl ?_
  refine rh_Ex.stp (s' := ((7, [some (.ref 0), some (.ref 12)], [.int (h 12 (10 : Int32).toNatClampNeg), .ref 12, .ref 0, .ref 0]), (h, g, mw_R rd))) rfl (st_iald (n := 11) rfl (by decide)) ?_
  obtain ⟨x1, hx1, hf⟩ := rh_bq hf
  refine rh_Ex.call (j := 215) (rc := some 11) [.ref 0, .ref 12, .int (h 12 (10 : Int32).toNatClampNeg)] [.ref 0] (some (.int x1.1)) rfl rfl rfl (Nat.le_of_ble_eq_true rfl) (R_Mo_leanOf_12 d rd h g (h 12 (10 : Int32).toNatClampNeg) hx1) ?_
  show rh_Ex _ _ _ ((10, [some (.ref 0), some (.ref 12)], [.int x1.1, .ref 0]), (x1.2.1, g, mw_R x1.2.2)) _ _
  refine rh_Ex.call (j := 216) (rc := some 11) [.ref 0, .int x1.1] [] (some (.int (f_Mo_isTipping x1.2.1 x1.1))) rfl rfl rfl (Nat.le_of_ble_eq_true rfl) (R_Mo_isTipping (d + 267) x1.2.2 x1.2.1 g x1.1 rfl) ?_
  show rh_Ex _ _ _ ((13, [some (.ref 0), some (.ref 12)], [.int (f_Mo_isTipping x1.2.1 x1.1)]), (x1.2.1, g, mw_R x1.2.2)) _ _
  obtain ⟨q2, hf⟩ := rh_gq hf
  obtain rfl := Option.some.inj hf
  exact rh_Ex.ret rfl ⟨rfl, q2⟩
def f_Mo_tryBoard (h : Nat → Nat → Int32) (rd : Option Nat) (p0 : Int32) (p1 : Int32) : Option (Int32 × (Nat → Nat → Int32) × (Option Nat)) :=
  (f_Mo_isOne h p0).bind (fun x1 =>
    if x1 = 0 then
      some (((-1 : Int32), h, rd))
    else
      if (f_Mo_has (h 1 (9 : Int32).toNatClampNeg) p0) = 0 then
        if (f_Mo_in p1 (-4 : Int32) (4 : Int32)) = 0 then
          some (((-1 : Int32), h, rd))
        else
          (f_Mo_lay_1_12 h (0 : Int32)).bind (fun x5 =>
            rh_g (0 ≤ p0.toInt ∧ p0.toInt < ((11 : Nat) : Int)) (
              (f_Mo_isTipping__12 (rh_up (rh_up x5 12 p0.toNatClampNeg p1) 12 (9 : Int32).toNatClampNeg (((rh_up x5 12 p0.toNatClampNeg p1) 12 (9 : Int32).toNatClampNeg) ||| ((1 : Int32) <<< (p0 &&& 31)))) rd).bind (fun x7 =>
                if x7.1 = 0 then
                  some (((0 : Int32), x7.2.1, x7.2.2))
                else
                  some (((-2 : Int32), x7.2.1, x7.2.2))
              )
            )
          )
      else
        some (((-1 : Int32), h, rd))
  )
set_option maxRecDepth 20000 in
set_option maxHeartbeats 4000000 in
theorem R_Mo_tryBoard (d : Nat) (rd : Option Nat) (h : Nat → Nat → Int32) (g : Nat → Nat → Int64) (p0 : Int32) (p1 : Int32) {z9 : Int32 × (Nat → Nat → Int32) × (Option Nat)} (hf : f_Mo_tryBoard h rd p0 p1 = some z9) : rh_M rh_PT mw_L (d + 270) 221 [.ref 0, .int p0, .int p1] (h, g, mw_R rd) (some (.int z9.1)) (z9.2.1, g, mw_R z9.2.2) := by
  unfold f_Mo_tryBoard at hf
  refine rh_go pt_221 (Nat.le_of_ble_eq_true rfl) (lv := [some (.ref 0), some (.int p0), some (.int p1)]) rfl ?_
  refine rh_Ex.blk 2 (s' := ((2, [some (.ref 0), some (.int p0), some (.int p1)], [.int p0, .ref 0]), (h, g, mw_R rd))) rfl ?_
  obtain ⟨x1, hx1, hf⟩ := rh_bq hf
  refine rh_Ex.call (j := 183) (rc := some 11) [.ref 0, .int p0] [] (some (.int x1)) rfl rfl rfl (Nat.le_of_ble_eq_true rfl) (R_Mo_isOne (d + 267) rd h g p0 hx1) ?_
  show rh_Ex _ _ _ ((5, [some (.ref 0), some (.int p0), some (.int p1)], [.int x1]), (h, g, mw_R rd)) _ _
  by_cases q2 : x1 = 0
  · rw [if_pos q2] at hf
    refine rh_Ex.stp (s' := ((32, [some (.ref 0), some (.int p0), some (.int p1)], []), (h, g, mw_R rd))) rfl (st_ifeq_p q2) ?_
    refine rh_Ex.blk 1 (s' := ((33, [some (.ref 0), some (.int p0), some (.int p1)], [.int (-1 : Int32)]), (h, g, mw_R rd))) rfl ?_
    obtain rfl := Option.some.inj hf
    exact rh_Ex.ret rfl rfl
  · rw [if_neg q2] at hf
    refine rh_Ex.stp (s' := ((8, [some (.ref 0), some (.int p0), some (.int p1)], []), (h, g, mw_R rd))) rfl (st_ifeq_n q2) ?_
    refine rh_Ex.blk 3 (s' := ((14, [some (.ref 0), some (.int p0), some (.int p1)], [.int (9 : Int32), .ref 1]), (h, g, mw_R rd))) rfl ?_
    refine rh_Ex.stp (s' := ((15, [some (.ref 0), some (.int p0), some (.int p1)], [.int (h 1 (9 : Int32).toNatClampNeg)]), (h, g, mw_R rd))) rfl (st_iald (n := 11) rfl (by decide)) ?_
    refine rh_Ex.blk 1 (s' := ((16, [some (.ref 0), some (.int p0), some (.int p1)], [.int p0, .int (h 1 (9 : Int32).toNatClampNeg)]), (h, g, mw_R rd))) rfl ?_
    refine rh_Ex.call (j := 180) (rc := none) [.int (h 1 (9 : Int32).toNatClampNeg), .int p0] [] (some (.int (f_Mo_has (h 1 (9 : Int32).toNatClampNeg) p0))) rfl rfl trivial (Nat.le_of_ble_eq_true rfl) (R_Mo_has (d + 268) mw_L (mw_R rd) h g (h 1 (9 : Int32).toNatClampNeg) p0 rfl) ?_
    show rh_Ex _ _ _ ((19, [some (.ref 0), some (.int p0), some (.int p1)], [.int (f_Mo_has (h 1 (9 : Int32).toNatClampNeg) p0)]), (h, g, mw_R rd)) _ _
    by_cases q3 : (f_Mo_has (h 1 (9 : Int32).toNatClampNeg) p0) = 0
    · rw [if_pos q3] at hf
      refine rh_Ex.stp (s' := ((22, [some (.ref 0), some (.int p0), some (.int p1)], []), (h, g, mw_R rd))) rfl (st_ifne_p q3) ?_
      refine rh_Ex.blk 3 (s' := ((26, [some (.ref 0), some (.int p0), some (.int p1)], [.int (4 : Int32), .int (-4 : Int32), .int p1]), (h, g, mw_R rd))) rfl ?_
      refine rh_Ex.call (j := 179) (rc := none) [.int p1, .int (-4 : Int32), .int (4 : Int32)] [] (some (.int (f_Mo_in p1 (-4 : Int32) (4 : Int32)))) rfl rfl trivial (Nat.le_of_ble_eq_true rfl) (R_Mo_in (d + 268) mw_L (mw_R rd) h g p1 (-4 : Int32) (4 : Int32) rfl) ?_
      show rh_Ex _ _ _ ((29, [some (.ref 0), some (.int p0), some (.int p1)], [.int (f_Mo_in p1 (-4 : Int32) (4 : Int32))]), (h, g, mw_R rd)) _ _
      by_cases q4 : (f_Mo_in p1 (-4 : Int32) (4 : Int32)) = 0
      · rw [if_pos q4] at hf
        refine rh_Ex.stp (s' := ((32, [some (.ref 0), some (.int p0), some (.int p1)], []), (h, g, mw_R rd))) rfl (st_ifne_p q4) ?_
        refine rh_Ex.blk 1 (s' := ((33, [some (.ref 0), some (.int p0), some (.int p1)], [.int (-1 : Int32)]), (h, g, mw_R rd))) rfl ?_
        obtain rfl := Option.some.inj hf
        exact rh_Ex.ret rfl rfl
      · rw [if_neg q4] at hf
        refine rh_Ex.stp (s' := ((34, [some (.ref 0), some (.int p0), some (.int p1)], []), (h, g, mw_R rd))) rfl (st_ifne_n q4) ?_
        refine rh_Ex.blk 5 (s' := ((43, [some (.ref 0), some (.int p0), some (.int p1)], [.int (0 : Int32), .ref 12, .ref 1]), (h, g, mw_R rd))) rfl ?_
        obtain ⟨x5, hx5, hf⟩ := rh_bq hf
        refine rh_Ex.call (j := 218) (rc := none) [.ref 1, .ref 12, .int (0 : Int32)] [] none rfl rfl trivial (Nat.le_of_ble_eq_true rfl) (R_Mo_lay_1_12 (d + 268) rd h g (0 : Int32) hx5) ?_
        show rh_Ex _ _ _ ((46, [some (.ref 0), some (.int p0), some (.int p1)], []), (x5, g, mw_R rd)) _ _
        refine rh_Ex.blk 4 (s' := ((52, [some (.ref 0), some (.int p0), some (.int p1)], [.int p1, .int p0, .ref 12]), (x5, g, mw_R rd))) rfl ?_
        obtain ⟨q6, hf⟩ := rh_gq hf
        refine rh_Ex.stp (s' := ((53, [some (.ref 0), some (.int p0), some (.int p1)], []), (rh_up x5 12 p0.toNatClampNeg p1, g, mw_R rd))) rfl (st_iast (n := 11) rfl q6) ?_
        refine rh_Ex.blk 4 (s' := ((60, [some (.ref 0), some (.int p0), some (.int p1)], [.int (9 : Int32), .ref 12, .int (9 : Int32), .ref 12]), (rh_up x5 12 p0.toNatClampNeg p1, g, mw_R rd))) rfl ?_
        refine rh_Ex.stp (s' := ((61, [some (.ref 0), some (.int p0), some (.int p1)], [.int ((rh_up x5 12 p0.toNatClampNeg p1) 12 (9 : Int32).toNatClampNeg), .int (9 : Int32), .ref 12]), (rh_up x5 12 p0.toNatClampNeg p1, g, mw_R rd))) rfl (st_iald (n := 11) rfl (by decide)) ?_
        refine rh_Ex.blk 4 (s' := ((65, [some (.ref 0), some (.int p0), some (.int p1)], [.int (((rh_up x5 12 p0.toNatClampNeg p1) 12 (9 : Int32).toNatClampNeg) ||| ((1 : Int32) <<< (p0 &&& 31))), .int (9 : Int32), .ref 12]), (rh_up x5 12 p0.toNatClampNeg p1, g, mw_R rd))) rfl ?_
        refine rh_Ex.stp (s' := ((66, [some (.ref 0), some (.int p0), some (.int p1)], []), (rh_up (rh_up x5 12 p0.toNatClampNeg p1) 12 (9 : Int32).toNatClampNeg (((rh_up x5 12 p0.toNatClampNeg p1) 12 (9 : Int32).toNatClampNeg) ||| ((1 : Int32) <<< (p0 &&& 31))), g, mw_R rd))) rfl (st_iast (n := 11) rfl (by decide)) ?_
        refine rh_Ex.blk 3 (s' := ((71, [some (.ref 0), some (.int p0), some (.int p1)], [.ref 12, .ref 0]), (rh_up (rh_up x5 12 p0.toNatClampNeg p1) 12 (9 : Int32).toNatClampNeg (((rh_up x5 12 p0.toNatClampNeg p1) 12 (9 : Int32).toNatClampNeg) ||| ((1 : Int32) <<< (p0 &&& 31))), g, mw_R rd))) rfl ?_
        obtain ⟨x7, hx7, hf⟩ := rh_bq hf
        refine rh_Ex.call (j := 217) (rc := some 11) [.ref 0, .ref 12] [] (some (.int x7.1)) rfl rfl rfl (Nat.le_of_ble_eq_true rfl) (R_Mo_isTipping__12 d rd (rh_up (rh_up x5 12 p0.toNatClampNeg p1) 12 (9 : Int32).toNatClampNeg (((rh_up x5 12 p0.toNatClampNeg p1) 12 (9 : Int32).toNatClampNeg) ||| ((1 : Int32) <<< (p0 &&& 31)))) g  hx7) ?_
        show rh_Ex _ _ _ ((74, [some (.ref 0), some (.int p0), some (.int p1)], [.int x7.1]), (x7.2.1, g, mw_R x7.2.2)) _ _
        by_cases q8 : x7.1 = 0
        · rw [if_pos q8] at hf
          refine rh_Ex.stp (s' := ((82, [some (.ref 0), some (.int p0), some (.int p1)], []), (x7.2.1, g, mw_R x7.2.2))) rfl (st_ifeq_p q8) ?_
          refine rh_Ex.blk 1 (s' := ((83, [some (.ref 0), some (.int p0), some (.int p1)], [.int (0 : Int32)]), (x7.2.1, g, mw_R x7.2.2))) rfl ?_
          obtain rfl := Option.some.inj hf
          exact rh_Ex.ret rfl rfl
        · rw [if_neg q8] at hf
          refine rh_Ex.stp (s' := ((77, [some (.ref 0), some (.int p0), some (.int p1)], []), (x7.2.1, g, mw_R x7.2.2))) rfl (st_ifeq_n q8) ?_
          refine rh_Ex.blk 2 (s' := ((83, [some (.ref 0), some (.int p0), some (.int p1)], [.int (-2 : Int32)]), (x7.2.1, g, mw_R x7.2.2))) rfl ?_
          obtain rfl := Option.some.inj hf
          exact rh_Ex.ret rfl rfl
    · rw [if_neg q3] at hf
      refine rh_Ex.stp (s' := ((32, [some (.ref 0), some (.int p0), some (.int p1)], []), (h, g, mw_R rd))) rfl (st_ifne_n q3) ?_
      refine rh_Ex.blk 1 (s' := ((33, [some (.ref 0), some (.int p0), some (.int p1)], [.int (-1 : Int32)]), (h, g, mw_R rd))) rfl ?_
      obtain rfl := Option.some.inj hf
      exact rh_Ex.ret rfl rfl
def f_Mo_tryOff (h : Nat → Nat → Int32) (rd : Option Nat) (p0 : Int32) : Option (Int32 × (Nat → Nat → Int32) × (Option Nat)) :=
  (f_Mo_isOne h p0).bind (fun x1 =>
    if x1 = 0 then
      some (((-1 : Int32), h, rd))
    else
      if (f_Mo_has (h 1 (9 : Int32).toNatClampNeg) p0) = 0 then
        some (((-1 : Int32), h, rd))
      else
        (f_Mo_lay_1_12 h (0 : Int32)).bind (fun x4 =>
          (f_Mo_isTipping__12 (rh_up x4 12 (9 : Int32).toNatClampNeg ((x4 12 (9 : Int32).toNatClampNeg) &&& (((1 : Int32) <<< (p0 &&& 31)) ^^^ (-1 : Int32)))) rd).bind (fun x5 =>
            if x5.1 = 0 then
              some (((0 : Int32), x5.2.1, x5.2.2))
            else
              some (((-2 : Int32), x5.2.1, x5.2.2))
          )
        )
  )
set_option maxRecDepth 20000 in
set_option maxHeartbeats 4000000 in
theorem R_Mo_tryOff (d : Nat) (rd : Option Nat) (h : Nat → Nat → Int32) (g : Nat → Nat → Int64) (p0 : Int32) {z9 : Int32 × (Nat → Nat → Int32) × (Option Nat)} (hf : f_Mo_tryOff h rd p0 = some z9) : rh_M rh_PT mw_L (d + 270) 222 [.ref 0, .int p0] (h, g, mw_R rd) (some (.int z9.1)) (z9.2.1, g, mw_R z9.2.2) := by
  unfold f_Mo_tryOff at hf
  refine rh_go pt_222 (Nat.le_of_ble_eq_true rfl) (lv := [some (.ref 0), some (.int p0)]) rfl ?_
  refine rh_Ex.blk 2 (s' := ((2, [some (.ref 0), some (.int p0)], [.int p0, .ref 0]), (h, g, mw_R rd))) rfl ?_
  obtain ⟨x1, hx1, hf⟩ := rh_bq hf
  refine rh_Ex.call (j := 183) (rc := some 11) [.ref 0, .int p0] [] (some (.int x1)) rfl rfl rfl (Nat.le_of_ble_eq_true rfl) (R_Mo_isOne (d + 267) rd h g p0 hx1) ?_
  show rh_Ex _ _ _ ((5, [some (.ref 0), some (.int p0)], [.int x1]), (h, g, mw_R rd)) _ _
  by_cases q2 : x1 = 0
  · rw [if_pos q2] at hf
    refine rh_Ex.stp (s' := ((22, [some (.ref 0), some (.int p0)], []), (h, g, mw_R rd))) rfl (st_ifeq_p q2) ?_
    refine rh_Ex.blk 1 (s' := ((23, [some (.ref 0), some (.int p0)], [.int (-1 : Int32)]), (h, g, mw_R rd))) rfl ?_
    obtain rfl := Option.some.inj hf
    exact rh_Ex.ret rfl rfl
  · rw [if_neg q2] at hf
    refine rh_Ex.stp (s' := ((8, [some (.ref 0), some (.int p0)], []), (h, g, mw_R rd))) rfl (st_ifeq_n q2) ?_
    refine rh_Ex.blk 3 (s' := ((14, [some (.ref 0), some (.int p0)], [.int (9 : Int32), .ref 1]), (h, g, mw_R rd))) rfl ?_
    refine rh_Ex.stp (s' := ((15, [some (.ref 0), some (.int p0)], [.int (h 1 (9 : Int32).toNatClampNeg)]), (h, g, mw_R rd))) rfl (st_iald (n := 11) rfl (by decide)) ?_
    refine rh_Ex.blk 1 (s' := ((16, [some (.ref 0), some (.int p0)], [.int p0, .int (h 1 (9 : Int32).toNatClampNeg)]), (h, g, mw_R rd))) rfl ?_
    refine rh_Ex.call (j := 180) (rc := none) [.int (h 1 (9 : Int32).toNatClampNeg), .int p0] [] (some (.int (f_Mo_has (h 1 (9 : Int32).toNatClampNeg) p0))) rfl rfl trivial (Nat.le_of_ble_eq_true rfl) (R_Mo_has (d + 268) mw_L (mw_R rd) h g (h 1 (9 : Int32).toNatClampNeg) p0 rfl) ?_
    show rh_Ex _ _ _ ((19, [some (.ref 0), some (.int p0)], [.int (f_Mo_has (h 1 (9 : Int32).toNatClampNeg) p0)]), (h, g, mw_R rd)) _ _
    by_cases q3 : (f_Mo_has (h 1 (9 : Int32).toNatClampNeg) p0) = 0
    · rw [if_pos q3] at hf
      refine rh_Ex.stp (s' := ((22, [some (.ref 0), some (.int p0)], []), (h, g, mw_R rd))) rfl (st_ifne_p q3) ?_
      refine rh_Ex.blk 1 (s' := ((23, [some (.ref 0), some (.int p0)], [.int (-1 : Int32)]), (h, g, mw_R rd))) rfl ?_
      obtain rfl := Option.some.inj hf
      exact rh_Ex.ret rfl rfl
    · rw [if_neg q3] at hf
      refine rh_Ex.stp (s' := ((24, [some (.ref 0), some (.int p0)], []), (h, g, mw_R rd))) rfl (st_ifne_n q3) ?_
      refine rh_Ex.blk 5 (s' := ((33, [some (.ref 0), some (.int p0)], [.int (0 : Int32), .ref 12, .ref 1]), (h, g, mw_R rd))) rfl ?_
      obtain ⟨x4, hx4, hf⟩ := rh_bq hf
      refine rh_Ex.call (j := 218) (rc := none) [.ref 1, .ref 12, .int (0 : Int32)] [] none rfl rfl trivial (Nat.le_of_ble_eq_true rfl) (R_Mo_lay_1_12 (d + 268) rd h g (0 : Int32) hx4) ?_
      show rh_Ex _ _ _ ((36, [some (.ref 0), some (.int p0)], []), (x4, g, mw_R rd)) _ _
      refine rh_Ex.blk 4 (s' := ((43, [some (.ref 0), some (.int p0)], [.int (9 : Int32), .ref 12, .int (9 : Int32), .ref 12]), (x4, g, mw_R rd))) rfl ?_
      refine rh_Ex.stp (s' := ((44, [some (.ref 0), some (.int p0)], [.int (x4 12 (9 : Int32).toNatClampNeg), .int (9 : Int32), .ref 12]), (x4, g, mw_R rd))) rfl (st_iald (n := 11) rfl (by decide)) ?_
      refine rh_Ex.blk 6 (s' := ((50, [some (.ref 0), some (.int p0)], [.int ((x4 12 (9 : Int32).toNatClampNeg) &&& (((1 : Int32) <<< (p0 &&& 31)) ^^^ (-1 : Int32))), .int (9 : Int32), .ref 12]), (x4, g, mw_R rd))) rfl ?_
      refine rh_Ex.stp (s' := ((51, [some (.ref 0), some (.int p0)], []), (rh_up x4 12 (9 : Int32).toNatClampNeg ((x4 12 (9 : Int32).toNatClampNeg) &&& (((1 : Int32) <<< (p0 &&& 31)) ^^^ (-1 : Int32))), g, mw_R rd))) rfl (st_iast (n := 11) rfl (by decide)) ?_
      refine rh_Ex.blk 3 (s' := ((56, [some (.ref 0), some (.int p0)], [.ref 12, .ref 0]), (rh_up x4 12 (9 : Int32).toNatClampNeg ((x4 12 (9 : Int32).toNatClampNeg) &&& (((1 : Int32) <<< (p0 &&& 31)) ^^^ (-1 : Int32))), g, mw_R rd))) rfl ?_
      obtain ⟨x5, hx5, hf⟩ := rh_bq hf
      refine rh_Ex.call (j := 217) (rc := some 11) [.ref 0, .ref 12] [] (some (.int x5.1)) rfl rfl rfl (Nat.le_of_ble_eq_true rfl) (R_Mo_isTipping__12 d rd (rh_up x4 12 (9 : Int32).toNatClampNeg ((x4 12 (9 : Int32).toNatClampNeg) &&& (((1 : Int32) <<< (p0 &&& 31)) ^^^ (-1 : Int32)))) g  hx5) ?_
      show rh_Ex _ _ _ ((59, [some (.ref 0), some (.int p0)], [.int x5.1]), (x5.2.1, g, mw_R x5.2.2)) _ _
      by_cases q6 : x5.1 = 0
      · rw [if_pos q6] at hf
        refine rh_Ex.stp (s' := ((67, [some (.ref 0), some (.int p0)], []), (x5.2.1, g, mw_R x5.2.2))) rfl (st_ifeq_p q6) ?_
        refine rh_Ex.blk 1 (s' := ((68, [some (.ref 0), some (.int p0)], [.int (0 : Int32)]), (x5.2.1, g, mw_R x5.2.2))) rfl ?_
        obtain rfl := Option.some.inj hf
        exact rh_Ex.ret rfl rfl
      · rw [if_neg q6] at hf
        refine rh_Ex.stp (s' := ((62, [some (.ref 0), some (.int p0)], []), (x5.2.1, g, mw_R x5.2.2))) rfl (st_ifeq_n q6) ?_
        refine rh_Ex.blk 2 (s' := ((68, [some (.ref 0), some (.int p0)], [.int (-2 : Int32)]), (x5.2.1, g, mw_R x5.2.2))) rfl ?_
        obtain rfl := Option.some.inj hf
        exact rh_Ex.ret rfl rfl
def j_Mo_tryStep_34 (h : Nat → Nat → Int32) (rd : Option Nat) (p0 : Int32) (p1 : Int32) : Option (Int32 × (Nat → Nat → Int32) × (Option Nat)) :=
  (f_Mo_lay_1_12 h (0 : Int32)).bind (fun x5 =>
    rh_g (0 ≤ p0.toInt ∧ p0.toInt < ((11 : Nat) : Int)) (
      rh_g (0 ≤ p0.toInt ∧ p0.toInt < ((11 : Nat) : Int)) (
        rh_g (0 ≤ p0.toInt ∧ p0.toInt < ((11 : Nat) : Int)) (
          if (f_Mo_in ((rh_up x5 12 p0.toNatClampNeg ((x5 12 p0.toNatClampNeg) + p1)) 12 p0.toNatClampNeg) (-4 : Int32) (4 : Int32)) = 0 then
            some (((-2 : Int32), rh_up x5 12 p0.toNatClampNeg ((x5 12 p0.toNatClampNeg) + p1), rd))
          else
            (f_Mo_isTipping__12 (rh_up x5 12 p0.toNatClampNeg ((x5 12 p0.toNatClampNeg) + p1)) rd).bind (fun x10 =>
              if x10.1 = 0 then
                some (((0 : Int32), x10.2.1, x10.2.2))
              else
                some (((-2 : Int32), x10.2.1, x10.2.2))
            )
        )
      )
    )
  )
def f_Mo_tryStep (h : Nat → Nat → Int32) (rd : Option Nat) (p0 : Int32) (p1 : Int32) : Option (Int32 × (Nat → Nat → Int32) × (Option Nat)) :=
  (f_Mo_isOne h p0).bind (fun x1 =>
    if x1 = 0 then
      some (((-1 : Int32), h, rd))
    else
      if (f_Mo_has (h 1 (9 : Int32).toNatClampNeg) p0) = 0 then
        some (((-1 : Int32), h, rd))
      else
        if p1 = (1 : Int32) then
          j_Mo_tryStep_34 h rd p0 p1
        else
          if p1 = (-1 : Int32) then
            j_Mo_tryStep_34 h rd p0 p1
          else
            some (((-1 : Int32), h, rd))
  )
set_option maxRecDepth 20000 in
set_option maxHeartbeats 4000000 in
theorem lj_Mo_tryStep_34 (d : Nat) (h : Nat → Nat → Int32) (rd : Option Nat) (p0 : Int32) (p1 : Int32) (g : Nat → Nat → Int64) {z9 : Int32 × (Nat → Nat → Int32) × (Option Nat)} (hf : j_Mo_tryStep_34 h rd p0 p1 = some z9) : rh_Ex (rh_M rh_PT mw_L (d + 269)) mw_L pg_X12_tryStep ((34, [some (.ref 0), some (.int p0), some (.int p1)], []), (h, g, mw_R rd)) (some (.int z9.1)) (z9.2.1, g, mw_R z9.2.2) := by
  unfold j_Mo_tryStep_34 at hf
  refine rh_Ex.blk 5 (s' := ((43, [some (.ref 0), some (.int p0), some (.int p1)], [.int (0 : Int32), .ref 12, .ref 1]), (h, g, mw_R rd))) rfl ?_
  obtain ⟨x5, hx5, hf⟩ := rh_bq hf
  refine rh_Ex.call (j := 218) (rc := none) [.ref 1, .ref 12, .int (0 : Int32)] [] none rfl rfl trivial (Nat.le_of_ble_eq_true rfl) (R_Mo_lay_1_12 (d + 268) rd h g (0 : Int32) hx5) ?_
  show rh_Ex _ _ _ ((46, [some (.ref 0), some (.int p0), some (.int p1)], []), (x5, g, mw_R rd)) _ _
  refine rh_Ex.blk 4 (s' := ((52, [some (.ref 0), some (.int p0), some (.int p1)], [.int p0, .ref 12, .int p0, .ref 12]), (x5, g, mw_R rd))) rfl ?_
  obtain ⟨q6, hf⟩ := rh_gq hf
  refine rh_Ex.stp (s' := ((53, [some (.ref 0), some (.int p0), some (.int p1)], [.int (x5 12 p0.toNatClampNeg), .int p0, .ref 12]), (x5, g, mw_R rd))) rfl (st_iald (n := 11) rfl q6) ?_
  refine rh_Ex.blk 2 (s' := ((55, [some (.ref 0), some (.int p0), some (.int p1)], [.int ((x5 12 p0.toNatClampNeg) + p1), .int p0, .ref 12]), (x5, g, mw_R rd))) rfl ?_
  obtain ⟨q7, hf⟩ := rh_gq hf
  refine rh_Ex.stp (s' := ((56, [some (.ref 0), some (.int p0), some (.int p1)], []), (rh_up x5 12 p0.toNatClampNeg ((x5 12 p0.toNatClampNeg) + p1), g, mw_R rd))) rfl (st_iast (n := 11) rfl q7) ?_
  refine rh_Ex.blk 3 (s' := ((61, [some (.ref 0), some (.int p0), some (.int p1)], [.int p0, .ref 12]), (rh_up x5 12 p0.toNatClampNeg ((x5 12 p0.toNatClampNeg) + p1), g, mw_R rd))) rfl ?_
  obtain ⟨q8, hf⟩ := rh_gq hf
  refine rh_Ex.stp (s' := ((62, [some (.ref 0), some (.int p0), some (.int p1)], [.int ((rh_up x5 12 p0.toNatClampNeg ((x5 12 p0.toNatClampNeg) + p1)) 12 p0.toNatClampNeg)]), (rh_up x5 12 p0.toNatClampNeg ((x5 12 p0.toNatClampNeg) + p1), g, mw_R rd))) rfl (st_iald (n := 11) rfl q8) ?_
  refine rh_Ex.blk 2 (s' := ((65, [some (.ref 0), some (.int p0), some (.int p1)], [.int (4 : Int32), .int (-4 : Int32), .int ((rh_up x5 12 p0.toNatClampNeg ((x5 12 p0.toNatClampNeg) + p1)) 12 p0.toNatClampNeg)]), (rh_up x5 12 p0.toNatClampNeg ((x5 12 p0.toNatClampNeg) + p1), g, mw_R rd))) rfl ?_
  refine rh_Ex.call (j := 179) (rc := none) [.int ((rh_up x5 12 p0.toNatClampNeg ((x5 12 p0.toNatClampNeg) + p1)) 12 p0.toNatClampNeg), .int (-4 : Int32), .int (4 : Int32)] [] (some (.int (f_Mo_in ((rh_up x5 12 p0.toNatClampNeg ((x5 12 p0.toNatClampNeg) + p1)) 12 p0.toNatClampNeg) (-4 : Int32) (4 : Int32)))) rfl rfl trivial (Nat.le_of_ble_eq_true rfl) (R_Mo_in (d + 268) mw_L (mw_R rd) (rh_up x5 12 p0.toNatClampNeg ((x5 12 p0.toNatClampNeg) + p1)) g ((rh_up x5 12 p0.toNatClampNeg ((x5 12 p0.toNatClampNeg) + p1)) 12 p0.toNatClampNeg) (-4 : Int32) (4 : Int32) rfl) ?_
  show rh_Ex _ _ _ ((68, [some (.ref 0), some (.int p0), some (.int p1)], [.int (f_Mo_in ((rh_up x5 12 p0.toNatClampNeg ((x5 12 p0.toNatClampNeg) + p1)) 12 p0.toNatClampNeg) (-4 : Int32) (4 : Int32))]), (rh_up x5 12 p0.toNatClampNeg ((x5 12 p0.toNatClampNeg) + p1), g, mw_R rd)) _ _
  by_cases q9 : (f_Mo_in ((rh_up x5 12 p0.toNatClampNeg ((x5 12 p0.toNatClampNeg) + p1)) 12 p0.toNatClampNeg) (-4 : Int32) (4 : Int32)) = 0
  · rw [if_pos q9] at hf
    refine rh_Ex.stp (s' := ((82, [some (.ref 0), some (.int p0), some (.int p1)], []), (rh_up x5 12 p0.toNatClampNeg ((x5 12 p0.toNatClampNeg) + p1), g, mw_R rd))) rfl (st_ifeq_p q9) ?_
    refine rh_Ex.blk 2 (s' := ((88, [some (.ref 0), some (.int p0), some (.int p1)], [.int (-2 : Int32)]), (rh_up x5 12 p0.toNatClampNeg ((x5 12 p0.toNatClampNeg) + p1), g, mw_R rd))) rfl ?_
    obtain rfl := Option.some.inj hf
    exact rh_Ex.ret rfl rfl
  · rw [if_neg q9] at hf
    refine rh_Ex.stp (s' := ((71, [some (.ref 0), some (.int p0), some (.int p1)], []), (rh_up x5 12 p0.toNatClampNeg ((x5 12 p0.toNatClampNeg) + p1), g, mw_R rd))) rfl (st_ifeq_n q9) ?_
    refine rh_Ex.blk 3 (s' := ((76, [some (.ref 0), some (.int p0), some (.int p1)], [.ref 12, .ref 0]), (rh_up x5 12 p0.toNatClampNeg ((x5 12 p0.toNatClampNeg) + p1), g, mw_R rd))) rfl ?_
    obtain ⟨x10, hx10, hf⟩ := rh_bq hf
    refine rh_Ex.call (j := 217) (rc := some 11) [.ref 0, .ref 12] [] (some (.int x10.1)) rfl rfl rfl (Nat.le_of_ble_eq_true rfl) (R_Mo_isTipping__12 d rd (rh_up x5 12 p0.toNatClampNeg ((x5 12 p0.toNatClampNeg) + p1)) g  hx10) ?_
    show rh_Ex _ _ _ ((79, [some (.ref 0), some (.int p0), some (.int p1)], [.int x10.1]), (x10.2.1, g, mw_R x10.2.2)) _ _
    by_cases q11 : x10.1 = 0
    · rw [if_pos q11] at hf
      refine rh_Ex.stp (s' := ((87, [some (.ref 0), some (.int p0), some (.int p1)], []), (x10.2.1, g, mw_R x10.2.2))) rfl (st_ifeq_p q11) ?_
      refine rh_Ex.blk 1 (s' := ((88, [some (.ref 0), some (.int p0), some (.int p1)], [.int (0 : Int32)]), (x10.2.1, g, mw_R x10.2.2))) rfl ?_
      obtain rfl := Option.some.inj hf
      exact rh_Ex.ret rfl rfl
    · rw [if_neg q11] at hf
      refine rh_Ex.stp (s' := ((82, [some (.ref 0), some (.int p0), some (.int p1)], []), (x10.2.1, g, mw_R x10.2.2))) rfl (st_ifeq_n q11) ?_
      refine rh_Ex.blk 2 (s' := ((88, [some (.ref 0), some (.int p0), some (.int p1)], [.int (-2 : Int32)]), (x10.2.1, g, mw_R x10.2.2))) rfl ?_
      obtain rfl := Option.some.inj hf
      exact rh_Ex.ret rfl rfl
set_option maxRecDepth 20000 in
set_option maxHeartbeats 4000000 in
theorem R_Mo_tryStep (d : Nat) (rd : Option Nat) (h : Nat → Nat → Int32) (g : Nat → Nat → Int64) (p0 : Int32) (p1 : Int32) {z9 : Int32 × (Nat → Nat → Int32) × (Option Nat)} (hf : f_Mo_tryStep h rd p0 p1 = some z9) : rh_M rh_PT mw_L (d + 270) 223 [.ref 0, .int p0, .int p1] (h, g, mw_R rd) (some (.int z9.1)) (z9.2.1, g, mw_R z9.2.2) := by
  unfold f_Mo_tryStep at hf
  refine rh_go pt_223 (Nat.le_of_ble_eq_true rfl) (lv := [some (.ref 0), some (.int p0), some (.int p1)]) rfl ?_
  refine rh_Ex.blk 2 (s' := ((2, [some (.ref 0), some (.int p0), some (.int p1)], [.int p0, .ref 0]), (h, g, mw_R rd))) rfl ?_
  obtain ⟨x1, hx1, hf⟩ := rh_bq hf
  refine rh_Ex.call (j := 183) (rc := some 11) [.ref 0, .int p0] [] (some (.int x1)) rfl rfl rfl (Nat.le_of_ble_eq_true rfl) (R_Mo_isOne (d + 267) rd h g p0 hx1) ?_
  show rh_Ex _ _ _ ((5, [some (.ref 0), some (.int p0), some (.int p1)], [.int x1]), (h, g, mw_R rd)) _ _
  by_cases q2 : x1 = 0
  · rw [if_pos q2] at hf
    refine rh_Ex.stp (s' := ((32, [some (.ref 0), some (.int p0), some (.int p1)], []), (h, g, mw_R rd))) rfl (st_ifeq_p q2) ?_
    refine rh_Ex.blk 1 (s' := ((33, [some (.ref 0), some (.int p0), some (.int p1)], [.int (-1 : Int32)]), (h, g, mw_R rd))) rfl ?_
    obtain rfl := Option.some.inj hf
    exact rh_Ex.ret rfl rfl
  · rw [if_neg q2] at hf
    refine rh_Ex.stp (s' := ((8, [some (.ref 0), some (.int p0), some (.int p1)], []), (h, g, mw_R rd))) rfl (st_ifeq_n q2) ?_
    refine rh_Ex.blk 3 (s' := ((14, [some (.ref 0), some (.int p0), some (.int p1)], [.int (9 : Int32), .ref 1]), (h, g, mw_R rd))) rfl ?_
    refine rh_Ex.stp (s' := ((15, [some (.ref 0), some (.int p0), some (.int p1)], [.int (h 1 (9 : Int32).toNatClampNeg)]), (h, g, mw_R rd))) rfl (st_iald (n := 11) rfl (by decide)) ?_
    refine rh_Ex.blk 1 (s' := ((16, [some (.ref 0), some (.int p0), some (.int p1)], [.int p0, .int (h 1 (9 : Int32).toNatClampNeg)]), (h, g, mw_R rd))) rfl ?_
    refine rh_Ex.call (j := 180) (rc := none) [.int (h 1 (9 : Int32).toNatClampNeg), .int p0] [] (some (.int (f_Mo_has (h 1 (9 : Int32).toNatClampNeg) p0))) rfl rfl trivial (Nat.le_of_ble_eq_true rfl) (R_Mo_has (d + 268) mw_L (mw_R rd) h g (h 1 (9 : Int32).toNatClampNeg) p0 rfl) ?_
    show rh_Ex _ _ _ ((19, [some (.ref 0), some (.int p0), some (.int p1)], [.int (f_Mo_has (h 1 (9 : Int32).toNatClampNeg) p0)]), (h, g, mw_R rd)) _ _
    by_cases q3 : (f_Mo_has (h 1 (9 : Int32).toNatClampNeg) p0) = 0
    · rw [if_pos q3] at hf
      refine rh_Ex.stp (s' := ((32, [some (.ref 0), some (.int p0), some (.int p1)], []), (h, g, mw_R rd))) rfl (st_ifeq_p q3) ?_
      refine rh_Ex.blk 1 (s' := ((33, [some (.ref 0), some (.int p0), some (.int p1)], [.int (-1 : Int32)]), (h, g, mw_R rd))) rfl ?_
      obtain rfl := Option.some.inj hf
      exact rh_Ex.ret rfl rfl
    · rw [if_neg q3] at hf
      refine rh_Ex.stp (s' := ((22, [some (.ref 0), some (.int p0), some (.int p1)], []), (h, g, mw_R rd))) rfl (st_ifeq_n q3) ?_
      refine rh_Ex.blk 2 (s' := ((24, [some (.ref 0), some (.int p0), some (.int p1)], [.int (1 : Int32), .int p1]), (h, g, mw_R rd))) rfl ?_
      by_cases q4 : p1 = (1 : Int32)
      · rw [if_pos q4] at hf
        refine rh_Ex.stp (s' := ((34, [some (.ref 0), some (.int p0), some (.int p1)], []), (h, g, mw_R rd))) rfl (st_iceq_p q4) ?_
        refine rh_Ex.fgt [some (.ref 0), some (.int p0), some (.int p1)] ⟨rfl, rfl, rfl, trivial⟩ ?_
        exact lj_Mo_tryStep_34 d h rd p0 p1 g hf
      · rw [if_neg q4] at hf
        refine rh_Ex.stp (s' := ((27, [some (.ref 0), some (.int p0), some (.int p1)], []), (h, g, mw_R rd))) rfl (st_iceq_n q4) ?_
        refine rh_Ex.blk 2 (s' := ((29, [some (.ref 0), some (.int p0), some (.int p1)], [.int (-1 : Int32), .int p1]), (h, g, mw_R rd))) rfl ?_
        by_cases q12 : p1 = (-1 : Int32)
        · rw [if_pos q12] at hf
          refine rh_Ex.stp (s' := ((34, [some (.ref 0), some (.int p0), some (.int p1)], []), (h, g, mw_R rd))) rfl (st_iceq_p q12) ?_
          refine rh_Ex.fgt [some (.ref 0), some (.int p0), some (.int p1)] ⟨rfl, rfl, rfl, trivial⟩ ?_
          exact lj_Mo_tryStep_34 d h rd p0 p1 g hf
        · rw [if_neg q12] at hf
          refine rh_Ex.stp (s' := ((32, [some (.ref 0), some (.int p0), some (.int p1)], []), (h, g, mw_R rd))) rfl (st_iceq_n q12) ?_
          refine rh_Ex.blk 1 (s' := ((33, [some (.ref 0), some (.int p0), some (.int p1)], [.int (-1 : Int32)]), (h, g, mw_R rd))) rfl ?_
          obtain rfl := Option.some.inj hf
          exact rh_Ex.ret rfl rfl
