def b_Mo_split_37 (u1 : Int32) (h : Nat → Nat → Int32) (rd : Option Nat) : (Int32 × Int32) → Option ((Int32 × Int32) ⊕ (Int32)) := fun s37 =>
  if u1 < s37.2 then
    some (.inr s37.1)
  else
    if (s37.2 &&& (u1 ^^^ (-1 : Int32))) = 0 then
      rh_g (0 ≤ s37.2.toInt ∧ s37.2.toInt < ((512 : Nat) : Int)) (
        rh_g (0 ≤ u1.toInt ∧ u1.toInt < ((512 : Nat) : Int)) (
          rh_g (0 ≤ s37.1.toInt ∧ s37.1.toInt < ((512 : Nat) : Int)) (
            rh_g (0 ≤ u1.toInt ∧ u1.toInt < ((512 : Nat) : Int)) (
              if (if 0 ≤ (((2 : Int32) * (h 9 s37.1.toNatClampNeg)) - (h 9 u1.toNatClampNeg)) then (((2 : Int32) * (h 9 s37.1.toNatClampNeg)) - (h 9 u1.toNatClampNeg)) else 0 - (((2 : Int32) * (h 9 s37.1.toNatClampNeg)) - (h 9 u1.toNatClampNeg))) ≤ (if 0 ≤ (((2 : Int32) * (h 9 s37.2.toNatClampNeg)) - (h 9 u1.toNatClampNeg)) then (((2 : Int32) * (h 9 s37.2.toNatClampNeg)) - (h 9 u1.toNatClampNeg)) else 0 - (((2 : Int32) * (h 9 s37.2.toNatClampNeg)) - (h 9 u1.toNatClampNeg))) then
                some (.inl (s37.1, s37.2 + (1 : Int32)))
              else
                some (.inl (s37.2, s37.2 + (1 : Int32)))
            )
          )
        )
      )
    else
      some (.inl (s37.1, s37.2 + (1 : Int32)))
def f_Mo_split (h : Nat → Nat → Int32) (rd : Option Nat) (p0 : Int32) (p1 : Int32) : Option (Int32 × (Nat → Nat → Int32) × (Option Nat)) :=
  (f_Mo_areFolk (rh_up h 0 9 (0 : Int32)) p0).bind (fun x1 =>
    if x1 = 0 then
      some (((-1 : Int32), rh_up h 0 9 (0 : Int32), rd))
    else
      (f_Mo_isBell p1).bind (fun x3 =>
        if x3 = 0 then
          some (((-1 : Int32), rh_up h 0 9 (0 : Int32), rd))
        else
          (f_Mo_findSets (rh_up h 0 9 (0 : Int32)) rd ((f_Mo_dawn (rh_up h 0 9 (0 : Int32))) + p1)).bind (fun x5 =>
            (rh_loop (b_Mo_split_37 p0 x5.1 x5.2) rh_N ((0 : Int32), (1 : Int32))).bind (fun r14 =>
              (f_Mo_tell (rh_up x5.1 0 8 (0 : Int32)) r14).bind (fun x15 =>
                rh_g (0 ≤ r14.toInt ∧ r14.toInt < ((512 : Nat) : Int)) (
                  rh_g (0 ≤ p0.toInt ∧ p0.toInt < ((512 : Nat) : Int)) (
                    some (((if 0 ≤ (((2 : Int32) * (x15 9 r14.toNatClampNeg)) - (x15 9 p0.toNatClampNeg)) then (((2 : Int32) * (x15 9 r14.toNatClampNeg)) - (x15 9 p0.toNatClampNeg)) else 0 - (((2 : Int32) * (x15 9 r14.toNatClampNeg)) - (x15 9 p0.toNatClampNeg))), x15, x5.2))
                  )
                )
              )
            )
          )
      )
  )
set_option maxRecDepth 20000 in
set_option maxHeartbeats 4000000 in
theorem lb_Mo_split_37 (d : Nat) (u1 : Int32) (h : Nat → Nat → Int32) (rd : Option Nat) (g : Nat → Nat → Int64) (v9 : Option Value) (h9 : rh_H) : ∀ s37 x9, b_Mo_split_37 u1 h rd s37 = some x9 → Sum.elim (fun s37 => rh_Ex (rh_M rh_PT mw_L (d + 268)) mw_L pg_X12_split ((37, [some (.ref 0), some (.int u1), none, some (.int s37.1), some (.int s37.2)], []), (h, g, mw_R rd)) v9 h9) (fun e9 => rh_Ex (rh_M rh_PT mw_L (d + 268)) mw_L pg_X12_split ((104, [some (.ref 0), some (.int u1), none, some (.int e9), none], []), (h, g, mw_R rd)) v9 h9) x9 → rh_Ex (rh_M rh_PT mw_L (d + 268)) mw_L pg_X12_split ((37, [some (.ref 0), some (.int u1), none, some (.int s37.1), some (.int s37.2)], []), (h, g, mw_R rd)) v9 h9 := by
  intro s37 x9 hf hk
  unfold b_Mo_split_37 at hf
  refine rh_Ex.blk 2 (s' := ((40, [some (.ref 0), some (.int u1), none, some (.int s37.1), some (.int s37.2)], [.int u1, .int s37.2]), (h, g, mw_R rd))) rfl ?_
  by_cases q7 : u1 < s37.2
  · rw [if_pos q7] at hf
    refine rh_Ex.stp (s' := ((104, [some (.ref 0), some (.int u1), none, some (.int s37.1), some (.int s37.2)], []), (h, g, mw_R rd))) rfl (st_icgt_p q7) ?_
    obtain rfl := Option.some.inj hf
    refine rh_Ex.fgt [some (.ref 0), some (.int u1), none, some (.int s37.1), none] ⟨rfl, rfl, rfl, trivial⟩ ?_
    exact hk
  · rw [if_neg q7] at hf
    refine rh_Ex.stp (s' := ((43, [some (.ref 0), some (.int u1), none, some (.int s37.1), some (.int s37.2)], []), (h, g, mw_R rd))) rfl (st_icgt_n q7) ?_
    refine rh_Ex.blk 5 (s' := ((49, [some (.ref 0), some (.int u1), none, some (.int s37.1), some (.int s37.2)], [.int (s37.2 &&& (u1 ^^^ (-1 : Int32)))]), (h, g, mw_R rd))) rfl ?_
    by_cases q8 : (s37.2 &&& (u1 ^^^ (-1 : Int32))) = 0
    · rw [if_pos q8] at hf
      refine rh_Ex.stp (s' := ((55, [some (.ref 0), some (.int u1), none, some (.int s37.1), some (.int s37.2)], []), (h, g, mw_R rd))) rfl (st_ifeq_p q8) ?_
      refine rh_Ex.blk 4 (s' := ((62, [some (.ref 0), some (.int u1), none, some (.int s37.1), some (.int s37.2)], [.int s37.2, .ref 9, .int (2 : Int32)]), (h, g, mw_R rd))) rfl ?_
      obtain ⟨q9, hf⟩ := rh_gq hf
      refine rh_Ex.stp (s' := ((63, [some (.ref 0), some (.int u1), none, some (.int s37.1), some (.int s37.2)], [.int (h 9 s37.2.toNatClampNeg), .int (2 : Int32)]), (h, g, mw_R rd))) rfl (st_iald (n := 512) rfl q9) ?_
      refine rh_Ex.blk 4 (s' := ((69, [some (.ref 0), some (.int u1), none, some (.int s37.1), some (.int s37.2)], [.int u1, .ref 9, .int ((2 : Int32) * (h 9 s37.2.toNatClampNeg))]), (h, g, mw_R rd))) rfl ?_
      obtain ⟨q10, hf⟩ := rh_gq hf
      refine rh_Ex.stp (s' := ((70, [some (.ref 0), some (.int u1), none, some (.int s37.1), some (.int s37.2)], [.int (h 9 u1.toNatClampNeg), .int ((2 : Int32) * (h 9 s37.2.toNatClampNeg))]), (h, g, mw_R rd))) rfl (st_iald (n := 512) rfl q10) ?_
      refine rh_Ex.blk 1 (s' := ((71, [some (.ref 0), some (.int u1), none, some (.int s37.1), some (.int s37.2)], [.int (((2 : Int32) * (h 9 s37.2.toNatClampNeg)) - (h 9 u1.toNatClampNeg))]), (h, g, mw_R rd))) rfl ?_
      refine rh_Ex.stp (s' := ((74, [some (.ref 0), some (.int u1), none, some (.int s37.1), some (.int s37.2)], [.int (if 0 ≤ (((2 : Int32) * (h 9 s37.2.toNatClampNeg)) - (h 9 u1.toNatClampNeg)) then (((2 : Int32) * (h 9 s37.2.toNatClampNeg)) - (h 9 u1.toNatClampNeg)) else 0 - (((2 : Int32) * (h 9 s37.2.toNatClampNeg)) - (h 9 u1.toNatClampNeg)))]), (h, g, mw_R rd))) rfl (st_mabs (Nat.le_of_ble_eq_true rfl)) ?_
      refine rh_Ex.blk 4 (s' := ((80, [some (.ref 0), some (.int u1), none, some (.int s37.1), some (.int s37.2)], [.int s37.1, .ref 9, .int (2 : Int32), .int (if 0 ≤ (((2 : Int32) * (h 9 s37.2.toNatClampNeg)) - (h 9 u1.toNatClampNeg)) then (((2 : Int32) * (h 9 s37.2.toNatClampNeg)) - (h 9 u1.toNatClampNeg)) else 0 - (((2 : Int32) * (h 9 s37.2.toNatClampNeg)) - (h 9 u1.toNatClampNeg)))]), (h, g, mw_R rd))) rfl ?_
      obtain ⟨q11, hf⟩ := rh_gq hf
      refine rh_Ex.stp (s' := ((81, [some (.ref 0), some (.int u1), none, some (.int s37.1), some (.int s37.2)], [.int (h 9 s37.1.toNatClampNeg), .int (2 : Int32), .int (if 0 ≤ (((2 : Int32) * (h 9 s37.2.toNatClampNeg)) - (h 9 u1.toNatClampNeg)) then (((2 : Int32) * (h 9 s37.2.toNatClampNeg)) - (h 9 u1.toNatClampNeg)) else 0 - (((2 : Int32) * (h 9 s37.2.toNatClampNeg)) - (h 9 u1.toNatClampNeg)))]), (h, g, mw_R rd))) rfl (st_iald (n := 512) rfl q11) ?_
      refine rh_Ex.blk 4 (s' := ((87, [some (.ref 0), some (.int u1), none, some (.int s37.1), some (.int s37.2)], [.int u1, .ref 9, .int ((2 : Int32) * (h 9 s37.1.toNatClampNeg)), .int (if 0 ≤ (((2 : Int32) * (h 9 s37.2.toNatClampNeg)) - (h 9 u1.toNatClampNeg)) then (((2 : Int32) * (h 9 s37.2.toNatClampNeg)) - (h 9 u1.toNatClampNeg)) else 0 - (((2 : Int32) * (h 9 s37.2.toNatClampNeg)) - (h 9 u1.toNatClampNeg)))]), (h, g, mw_R rd))) rfl ?_
      obtain ⟨q12, hf⟩ := rh_gq hf
      refine rh_Ex.stp (s' := ((88, [some (.ref 0), some (.int u1), none, some (.int s37.1), some (.int s37.2)], [.int (h 9 u1.toNatClampNeg), .int ((2 : Int32) * (h 9 s37.1.toNatClampNeg)), .int (if 0 ≤ (((2 : Int32) * (h 9 s37.2.toNatClampNeg)) - (h 9 u1.toNatClampNeg)) then (((2 : Int32) * (h 9 s37.2.toNatClampNeg)) - (h 9 u1.toNatClampNeg)) else 0 - (((2 : Int32) * (h 9 s37.2.toNatClampNeg)) - (h 9 u1.toNatClampNeg)))]), (h, g, mw_R rd))) rfl (st_iald (n := 512) rfl q12) ?_
      refine rh_Ex.blk 1 (s' := ((89, [some (.ref 0), some (.int u1), none, some (.int s37.1), some (.int s37.2)], [.int (((2 : Int32) * (h 9 s37.1.toNatClampNeg)) - (h 9 u1.toNatClampNeg)), .int (if 0 ≤ (((2 : Int32) * (h 9 s37.2.toNatClampNeg)) - (h 9 u1.toNatClampNeg)) then (((2 : Int32) * (h 9 s37.2.toNatClampNeg)) - (h 9 u1.toNatClampNeg)) else 0 - (((2 : Int32) * (h 9 s37.2.toNatClampNeg)) - (h 9 u1.toNatClampNeg)))]), (h, g, mw_R rd))) rfl ?_
      refine rh_Ex.stp (s' := ((92, [some (.ref 0), some (.int u1), none, some (.int s37.1), some (.int s37.2)], [.int (if 0 ≤ (((2 : Int32) * (h 9 s37.1.toNatClampNeg)) - (h 9 u1.toNatClampNeg)) then (((2 : Int32) * (h 9 s37.1.toNatClampNeg)) - (h 9 u1.toNatClampNeg)) else 0 - (((2 : Int32) * (h 9 s37.1.toNatClampNeg)) - (h 9 u1.toNatClampNeg))), .int (if 0 ≤ (((2 : Int32) * (h 9 s37.2.toNatClampNeg)) - (h 9 u1.toNatClampNeg)) then (((2 : Int32) * (h 9 s37.2.toNatClampNeg)) - (h 9 u1.toNatClampNeg)) else 0 - (((2 : Int32) * (h 9 s37.2.toNatClampNeg)) - (h 9 u1.toNatClampNeg)))]), (h, g, mw_R rd))) rfl (st_mabs (Nat.le_of_ble_eq_true rfl)) ?_
      by_cases q13 : (if 0 ≤ (((2 : Int32) * (h 9 s37.1.toNatClampNeg)) - (h 9 u1.toNatClampNeg)) then (((2 : Int32) * (h 9 s37.1.toNatClampNeg)) - (h 9 u1.toNatClampNeg)) else 0 - (((2 : Int32) * (h 9 s37.1.toNatClampNeg)) - (h 9 u1.toNatClampNeg))) ≤ (if 0 ≤ (((2 : Int32) * (h 9 s37.2.toNatClampNeg)) - (h 9 u1.toNatClampNeg)) then (((2 : Int32) * (h 9 s37.2.toNatClampNeg)) - (h 9 u1.toNatClampNeg)) else 0 - (((2 : Int32) * (h 9 s37.2.toNatClampNeg)) - (h 9 u1.toNatClampNeg)))
      · rw [if_pos q13] at hf
        refine rh_Ex.stp (s' := ((98, [some (.ref 0), some (.int u1), none, some (.int s37.1), some (.int s37.2)], []), (h, g, mw_R rd))) rfl (st_icge_p q13) ?_
        refine rh_Ex.blk 2 (s' := ((37, [some (.ref 0), some (.int u1), none, some (.int s37.1), some (.int (s37.2 + (1 : Int32)))], []), (h, g, mw_R rd))) rfl ?_
        obtain rfl := Option.some.inj hf
        refine rh_Ex.fgt [some (.ref 0), some (.int u1), none, some (.int s37.1), some (.int (s37.2 + (1 : Int32)))] ⟨rfl, rfl, rfl, rfl, trivial⟩ ?_
        exact hk
      · rw [if_neg q13] at hf
        refine rh_Ex.stp (s' := ((95, [some (.ref 0), some (.int u1), none, some (.int s37.1), some (.int s37.2)], []), (h, g, mw_R rd))) rfl (st_icge_n q13) ?_
        refine rh_Ex.blk 4 (s' := ((37, [some (.ref 0), some (.int u1), none, some (.int s37.2), some (.int (s37.2 + (1 : Int32)))], []), (h, g, mw_R rd))) rfl ?_
        obtain rfl := Option.some.inj hf
        refine rh_Ex.fgt [some (.ref 0), some (.int u1), none, some (.int s37.2), some (.int (s37.2 + (1 : Int32)))] ⟨rfl, rfl, rfl, rfl, trivial⟩ ?_
        exact hk
    · rw [if_neg q8] at hf
      refine rh_Ex.stp (s' := ((52, [some (.ref 0), some (.int u1), none, some (.int s37.1), some (.int s37.2)], []), (h, g, mw_R rd))) rfl (st_ifeq_n q8) ?_
      refine rh_Ex.blk 3 (s' := ((37, [some (.ref 0), some (.int u1), none, some (.int s37.1), some (.int (s37.2 + (1 : Int32)))], []), (h, g, mw_R rd))) rfl ?_
      obtain rfl := Option.some.inj hf
      refine rh_Ex.fgt [some (.ref 0), some (.int u1), none, some (.int s37.1), some (.int (s37.2 + (1 : Int32)))] ⟨rfl, rfl, rfl, rfl, trivial⟩ ?_
      exact hk
set_option maxRecDepth 20000 in
set_option maxHeartbeats 4000000 in
theorem R_Mo_split (d : Nat) (rd : Option Nat) (h : Nat → Nat → Int32) (g : Nat → Nat → Int64) (p0 : Int32) (p1 : Int32) {z9 : Int32 × (Nat → Nat → Int32) × (Option Nat)} (hf : f_Mo_split h rd p0 p1 = some z9) : rh_M rh_PT mw_L (d + 269) 277 [.ref 0, .int p0, .int p1] (h, g, mw_R rd) (some (.int z9.1)) (z9.2.1, g, mw_R z9.2.2) := by
  unfold f_Mo_split at hf
  refine rh_go pt_277 (Nat.le_of_ble_eq_true rfl) (lv := [some (.ref 0), some (.int p0), some (.int p1), none, none]) rfl ?_
  refine rh_Ex.blk 5 (s' := ((7, [some (.ref 0), some (.int p0), some (.int p1), none, none], [.int p0, .ref 0]), (rh_up h 0 9 (0 : Int32), g, mw_R rd))) rfl ?_
  obtain ⟨x1, hx1, hf⟩ := rh_bq hf
  refine rh_Ex.call (j := 185) (rc := some 11) [.ref 0, .int p0] [] (some (.int x1)) rfl rfl rfl (Nat.le_of_ble_eq_true rfl) (R_Mo_areFolk (d + 266) rd (rh_up h 0 9 (0 : Int32)) g p0 hx1) ?_
  show rh_Ex _ _ _ ((10, [some (.ref 0), some (.int p0), some (.int p1), none, none], [.int x1]), (rh_up h 0 9 (0 : Int32), g, mw_R rd)) _ _
  by_cases q2 : x1 = 0
  · rw [if_pos q2] at hf
    refine rh_Ex.stp (s' := ((20, [some (.ref 0), some (.int p0), some (.int p1), none, none], []), (rh_up h 0 9 (0 : Int32), g, mw_R rd))) rfl (st_ifeq_p q2) ?_
    refine rh_Ex.blk 1 (s' := ((21, [some (.ref 0), some (.int p0), some (.int p1), none, none], [.int (-1 : Int32)]), (rh_up h 0 9 (0 : Int32), g, mw_R rd))) rfl ?_
    obtain rfl := Option.some.inj hf
    exact rh_Ex.ret rfl rfl
  · rw [if_neg q2] at hf
    refine rh_Ex.stp (s' := ((13, [some (.ref 0), some (.int p0), some (.int p1), none, none], []), (rh_up h 0 9 (0 : Int32), g, mw_R rd))) rfl (st_ifeq_n q2) ?_
    refine rh_Ex.blk 1 (s' := ((14, [some (.ref 0), some (.int p0), some (.int p1), none, none], [.int p1]), (rh_up h 0 9 (0 : Int32), g, mw_R rd))) rfl ?_
    obtain ⟨x3, hx3, hf⟩ := rh_bq hf
    refine rh_Ex.call (j := 186) (rc := none) [.int p1] [] (some (.int x3)) rfl rfl trivial (Nat.le_of_ble_eq_true rfl) (R_Mo_isBell (d + 266) mw_L (mw_R rd) (rh_up h 0 9 (0 : Int32)) g p1 hx3) ?_
    show rh_Ex _ _ _ ((17, [some (.ref 0), some (.int p0), some (.int p1), none, none], [.int x3]), (rh_up h 0 9 (0 : Int32), g, mw_R rd)) _ _
    by_cases q4 : x3 = 0
    · rw [if_pos q4] at hf
      refine rh_Ex.stp (s' := ((20, [some (.ref 0), some (.int p0), some (.int p1), none, none], []), (rh_up h 0 9 (0 : Int32), g, mw_R rd))) rfl (st_ifne_p q4) ?_
      refine rh_Ex.blk 1 (s' := ((21, [some (.ref 0), some (.int p0), some (.int p1), none, none], [.int (-1 : Int32)]), (rh_up h 0 9 (0 : Int32), g, mw_R rd))) rfl ?_
      obtain rfl := Option.some.inj hf
      exact rh_Ex.ret rfl rfl
    · rw [if_neg q4] at hf
      refine rh_Ex.stp (s' := ((22, [some (.ref 0), some (.int p0), some (.int p1), none, none], []), (rh_up h 0 9 (0 : Int32), g, mw_R rd))) rfl (st_ifne_n q4) ?_
      refine rh_Ex.blk 2 (s' := ((24, [some (.ref 0), some (.int p0), some (.int p1), none, none], [.ref 0, .ref 0]), (rh_up h 0 9 (0 : Int32), g, mw_R rd))) rfl ?_
      refine rh_Ex.call (j := 209) (rc := some 11) [.ref 0] [.ref 0] (some (.int (f_Mo_dawn (rh_up h 0 9 (0 : Int32))))) rfl rfl rfl (Nat.le_of_ble_eq_true rfl) (R_Mo_dawn (d + 267) rd (rh_up h 0 9 (0 : Int32)) g  rfl) ?_
      show rh_Ex _ _ _ ((27, [some (.ref 0), some (.int p0), some (.int p1), none, none], [.int (f_Mo_dawn (rh_up h 0 9 (0 : Int32))), .ref 0]), (rh_up h 0 9 (0 : Int32), g, mw_R rd)) _ _
      refine rh_Ex.blk 2 (s' := ((29, [some (.ref 0), some (.int p0), some (.int p1), none, none], [.int ((f_Mo_dawn (rh_up h 0 9 (0 : Int32))) + p1), .ref 0]), (rh_up h 0 9 (0 : Int32), g, mw_R rd))) rfl ?_
      obtain ⟨x5, hx5, hf⟩ := rh_bq hf
      refine rh_Ex.call (j := 208) (rc := some 11) [.ref 0, .int ((f_Mo_dawn (rh_up h 0 9 (0 : Int32))) + p1)] [] none rfl rfl rfl (Nat.le_of_ble_eq_true rfl) (R_Mo_findSets d rd (rh_up h 0 9 (0 : Int32)) g ((f_Mo_dawn (rh_up h 0 9 (0 : Int32))) + p1) hx5) ?_
      show rh_Ex _ _ _ ((32, [some (.ref 0), some (.int p0), some (.int p1), none, none], []), (x5.1, g, mw_R x5.2)) _ _
      refine rh_Ex.blk 4 (s' := ((37, [some (.ref 0), some (.int p0), some (.int p1), some (.int (0 : Int32)), some (.int (1 : Int32))], []), (x5.1, g, mw_R x5.2))) rfl ?_
      obtain ⟨r14, hr14, hf⟩ := rh_bq hf
      refine rh_Ex.fgt [some (.ref 0), some (.int p0), none, some (.int (0 : Int32)), some (.int (1 : Int32))] ⟨rfl, rfl, rfl, rfl, trivial⟩ ?_
      refine rh_Ex.loop _ _ _ (lb_Mo_split_37 d p0 x5.1 x5.2  g _ _) rh_N _ r14 hr14 ?_
      refine rh_Ex.blk 5 (s' := ((111, [some (.ref 0), some (.int p0), none, some (.int r14), none], [.int r14, .ref 0]), (rh_up x5.1 0 8 (0 : Int32), g, mw_R x5.2))) rfl ?_
      obtain ⟨x15, hx15, hf⟩ := rh_bq hf
      refine rh_Ex.call (j := 182) (rc := some 11) [.ref 0, .int r14] [] none rfl rfl rfl (Nat.le_of_ble_eq_true rfl) (R_Mo_tell (d + 267) x5.2 (rh_up x5.1 0 8 (0 : Int32)) g r14 hx15) ?_
      show rh_Ex _ _ _ ((114, [some (.ref 0), some (.int p0), none, some (.int r14), none], []), (x15, g, mw_R x5.2)) _ _
      refine rh_Ex.blk 4 (s' := ((120, [some (.ref 0), some (.int p0), none, some (.int r14), none], [.int r14, .ref 9, .int (2 : Int32)]), (x15, g, mw_R x5.2))) rfl ?_
      obtain ⟨q16, hf⟩ := rh_gq hf
      refine rh_Ex.stp (s' := ((121, [some (.ref 0), some (.int p0), none, some (.int r14), none], [.int (x15 9 r14.toNatClampNeg), .int (2 : Int32)]), (x15, g, mw_R x5.2))) rfl (st_iald (n := 512) rfl q16) ?_
      refine rh_Ex.blk 4 (s' := ((127, [some (.ref 0), some (.int p0), none, some (.int r14), none], [.int p0, .ref 9, .int ((2 : Int32) * (x15 9 r14.toNatClampNeg))]), (x15, g, mw_R x5.2))) rfl ?_
      obtain ⟨q17, hf⟩ := rh_gq hf
      refine rh_Ex.stp (s' := ((128, [some (.ref 0), some (.int p0), none, some (.int r14), none], [.int (x15 9 p0.toNatClampNeg), .int ((2 : Int32) * (x15 9 r14.toNatClampNeg))]), (x15, g, mw_R x5.2))) rfl (st_iald (n := 512) rfl q17) ?_
      refine rh_Ex.blk 1 (s' := ((129, [some (.ref 0), some (.int p0), none, some (.int r14), none], [.int (((2 : Int32) * (x15 9 r14.toNatClampNeg)) - (x15 9 p0.toNatClampNeg))]), (x15, g, mw_R x5.2))) rfl ?_
      refine rh_Ex.stp (s' := ((132, [some (.ref 0), some (.int p0), none, some (.int r14), none], [.int (if 0 ≤ (((2 : Int32) * (x15 9 r14.toNatClampNeg)) - (x15 9 p0.toNatClampNeg)) then (((2 : Int32) * (x15 9 r14.toNatClampNeg)) - (x15 9 p0.toNatClampNeg)) else 0 - (((2 : Int32) * (x15 9 r14.toNatClampNeg)) - (x15 9 p0.toNatClampNeg)))]), (x15, g, mw_R x5.2))) rfl (st_mabs (Nat.le_of_ble_eq_true rfl)) ?_
      obtain rfl := Option.some.inj hf
      exact rh_Ex.ret rfl rfl
def b_Mo_pair_72 (u1 : Int32) (u6 : Int32) (h : Nat → Nat → Int32) (rd : Option Nat) : (Int32 × Int32 × Int32 × Int32) → Option ((Int32 × Int32 × Int32 × Int32) ⊕ (Int32 × Int32 × Int32)) := fun s72 =>
  if (h 0 1) ≤ s72.2.2.2 then
    some (.inr (s72.1, s72.2.1, s72.2.2.1))
  else
    rh_g (0 ≤ u6.toInt ∧ u6.toInt < ((9 : Nat) : Int)) (
      rh_g (0 ≤ s72.2.2.2.toInt ∧ s72.2.2.2.toInt < ((9 : Nat) : Int)) (
        if s72.1 = (-1 : Int32) then
          some (.inl (u6, s72.2.2.2, ((h 8 u6.toNatClampNeg) + (h 8 s72.2.2.2.toNatClampNeg)) - u1, s72.2.2.2 + (1 : Int32)))
        else
          if (if 0 ≤ (((h 8 u6.toNatClampNeg) + (h 8 s72.2.2.2.toNatClampNeg)) - u1) then (((h 8 u6.toNatClampNeg) + (h 8 s72.2.2.2.toNatClampNeg)) - u1) else 0 - (((h 8 u6.toNatClampNeg) + (h 8 s72.2.2.2.toNatClampNeg)) - u1)) < (if 0 ≤ s72.2.2.1 then s72.2.2.1 else 0 - s72.2.2.1) then
            some (.inl (u6, s72.2.2.2, ((h 8 u6.toNatClampNeg) + (h 8 s72.2.2.2.toNatClampNeg)) - u1, s72.2.2.2 + (1 : Int32)))
          else
            some (.inl (s72.1, s72.2.1, s72.2.2.1, s72.2.2.2 + (1 : Int32)))
      )
    )
def b_Mo_pair_57 (u1 : Int32) (h : Nat → Nat → Int32) (rd : Option Nat) : (Int32 × Int32 × Int32 × Int32) → Option ((Int32 × Int32 × Int32 × Int32) ⊕ (Int32 × Int32 × Int32)) := fun s57 =>
  if (h 0 1) ≤ s57.2.2.2 then
    some (.inr (s57.1, s57.2.1, s57.2.2.1))
  else
    (rh_loop (b_Mo_pair_72 u1 s57.2.2.2 h rd) rh_N (s57.1, s57.2.1, s57.2.2.1, s57.2.2.2 + (1 : Int32))).bind (fun r15 =>
      some (.inl (r15.1, r15.2.1, r15.2.2, s57.2.2.2 + (1 : Int32)))
    )
def f_Mo_pair (h : Nat → Nat → Int32) (rd : Option Nat) (p0 : Int32) (p1 : Int32) : Option (Int32 × (Nat → Nat → Int32) × (Option Nat)) :=
  (f_Mo_isHeavy p0).bind (fun x1 =>
    if x1 = 0 then
      some (((f_Mo_lost (rh_up h 0 9 (0 : Int32))).1, (f_Mo_lost (rh_up h 0 9 (0 : Int32))).2, rd))
    else
      (f_Mo_isBell p1).bind (fun x3 =>
        if x3 = 0 then
          some (((f_Mo_lost (rh_up h 0 9 (0 : Int32))).1, (f_Mo_lost (rh_up h 0 9 (0 : Int32))).2, rd))
        else
          if (2 : Int32) ≤ (h 0 1) then
            (f_Mo_findSets (rh_up h 0 9 (0 : Int32)) rd ((f_Mo_dawn (rh_up h 0 9 (0 : Int32))) + p1)).bind (fun x6 =>
              (rh_loop (b_Mo_pair_57 p0 x6.1 x6.2) rh_N ((-1 : Int32), (-1 : Int32), (0 : Int32), (0 : Int32))).bind (fun r16 =>
                (f_Mo_tell (rh_up x6.1 0 8 (0 : Int32)) r16.1).bind (fun x17 =>
                  (f_Mo_tell x17 r16.2.1).bind (fun x18 =>
                    some ((r16.2.2, x18, x6.2))
                  )
                )
              )
            )
          else
            some (((-100000 : Int32), rh_up h 0 9 (0 : Int32), rd))
      )
  )
set_option maxRecDepth 20000 in
set_option maxHeartbeats 4000000 in
theorem lb_Mo_pair_72 (d : Nat) (u1 : Int32) (u6 : Int32) (h : Nat → Nat → Int32) (rd : Option Nat) (g : Nat → Nat → Int64) (v9 : Option Value) (h9 : rh_H) : ∀ s72 x9, b_Mo_pair_72 u1 u6 h rd s72 = some x9 → Sum.elim (fun s72 => rh_Ex (rh_M rh_PT mw_L (d + 268)) mw_L pg_X12_pair ((72, [some (.ref 0), some (.int u1), none, some (.int s72.1), some (.int s72.2.1), some (.int s72.2.2.1), some (.int u6), some (.int s72.2.2.2), none], []), (h, g, mw_R rd)) v9 h9) (fun e9 => rh_Ex (rh_M rh_PT mw_L (d + 268)) mw_L pg_X12_pair ((138, [some (.ref 0), some (.int u1), none, some (.int e9.1), some (.int e9.2.1), some (.int e9.2.2), some (.int u6), none, none], []), (h, g, mw_R rd)) v9 h9) x9 → rh_Ex (rh_M rh_PT mw_L (d + 268)) mw_L pg_X12_pair ((72, [some (.ref 0), some (.int u1), none, some (.int s72.1), some (.int s72.2.1), some (.int s72.2.2.1), some (.int u6), some (.int s72.2.2.2), none], []), (h, g, mw_R rd)) v9 h9 := by
  intro s72 x9 hf hk
  unfold b_Mo_pair_72 at hf
  refine rh_Ex.blk 3 (s' := ((78, [some (.ref 0), some (.int u1), none, some (.int s72.1), some (.int s72.2.1), some (.int s72.2.2.1), some (.int u6), some (.int s72.2.2.2), none], [.int (h 0 1), .int s72.2.2.2]), (h, g, mw_R rd))) rfl ?_
  by_cases q10 : (h 0 1) ≤ s72.2.2.2
  · rw [if_pos q10] at hf
    refine rh_Ex.stp (s' := ((138, [some (.ref 0), some (.int u1), none, some (.int s72.1), some (.int s72.2.1), some (.int s72.2.2.1), some (.int u6), some (.int s72.2.2.2), none], []), (h, g, mw_R rd))) rfl (st_icge_p q10) ?_
    obtain rfl := Option.some.inj hf
    refine rh_Ex.fgt [some (.ref 0), some (.int u1), none, some (.int s72.1), some (.int s72.2.1), some (.int s72.2.2.1), some (.int u6), none, none] ⟨rfl, rfl, rfl, rfl, rfl, rfl, trivial⟩ ?_
    exact hk
  · rw [if_neg q10] at hf
    refine rh_Ex.stp (s' := ((81, [some (.ref 0), some (.int u1), none, some (.int s72.1), some (.int s72.2.1), some (.int s72.2.2.1), some (.int u6), some (.int s72.2.2.2), none], []), (h, g, mw_R rd))) rfl (st_icge_n q10) ?_
    refine rh_Ex.blk 3 (s' := ((87, [some (.ref 0), some (.int u1), none, some (.int s72.1), some (.int s72.2.1), some (.int s72.2.2.1), some (.int u6), some (.int s72.2.2.2), none], [.int u6, .ref 8]), (h, g, mw_R rd))) rfl ?_
    obtain ⟨q11, hf⟩ := rh_gq hf
    refine rh_Ex.stp (s' := ((88, [some (.ref 0), some (.int u1), none, some (.int s72.1), some (.int s72.2.1), some (.int s72.2.2.1), some (.int u6), some (.int s72.2.2.2), none], [.int (h 8 u6.toNatClampNeg)]), (h, g, mw_R rd))) rfl (st_iald (n := 9) rfl q11) ?_
    refine rh_Ex.blk 3 (s' := ((94, [some (.ref 0), some (.int u1), none, some (.int s72.1), some (.int s72.2.1), some (.int s72.2.2.1), some (.int u6), some (.int s72.2.2.2), none], [.int s72.2.2.2, .ref 8, .int (h 8 u6.toNatClampNeg)]), (h, g, mw_R rd))) rfl ?_
    obtain ⟨q12, hf⟩ := rh_gq hf
    refine rh_Ex.stp (s' := ((95, [some (.ref 0), some (.int u1), none, some (.int s72.1), some (.int s72.2.1), some (.int s72.2.2.1), some (.int u6), some (.int s72.2.2.2), none], [.int (h 8 s72.2.2.2.toNatClampNeg), .int (h 8 u6.toNatClampNeg)]), (h, g, mw_R rd))) rfl (st_iald (n := 9) rfl q12) ?_
    refine rh_Ex.blk 6 (s' := ((102, [some (.ref 0), some (.int u1), none, some (.int s72.1), some (.int s72.2.1), some (.int s72.2.2.1), some (.int u6), some (.int s72.2.2.2), some (.int (((h 8 u6.toNatClampNeg) + (h 8 s72.2.2.2.toNatClampNeg)) - u1))], [.int (-1 : Int32), .int s72.1]), (h, g, mw_R rd))) rfl ?_
    by_cases q13 : s72.1 = (-1 : Int32)
    · rw [if_pos q13] at hf
      refine rh_Ex.stp (s' := ((121, [some (.ref 0), some (.int u1), none, some (.int s72.1), some (.int s72.2.1), some (.int s72.2.2.1), some (.int u6), some (.int s72.2.2.2), some (.int (((h 8 u6.toNatClampNeg) + (h 8 s72.2.2.2.toNatClampNeg)) - u1))], []), (h, g, mw_R rd))) rfl (st_iceq_p q13) ?_
      refine rh_Ex.blk 8 (s' := ((72, [some (.ref 0), some (.int u1), none, some (.int u6), some (.int s72.2.2.2), some (.int (((h 8 u6.toNatClampNeg) + (h 8 s72.2.2.2.toNatClampNeg)) - u1)), some (.int u6), some (.int (s72.2.2.2 + (1 : Int32))), some (.int (((h 8 u6.toNatClampNeg) + (h 8 s72.2.2.2.toNatClampNeg)) - u1))], []), (h, g, mw_R rd))) rfl ?_
      obtain rfl := Option.some.inj hf
      refine rh_Ex.fgt [some (.ref 0), some (.int u1), none, some (.int u6), some (.int s72.2.2.2), some (.int (((h 8 u6.toNatClampNeg) + (h 8 s72.2.2.2.toNatClampNeg)) - u1)), some (.int u6), some (.int (s72.2.2.2 + (1 : Int32))), none] ⟨rfl, rfl, rfl, rfl, rfl, rfl, rfl, trivial⟩ ?_
      exact hk
    · rw [if_neg q13] at hf
      refine rh_Ex.stp (s' := ((105, [some (.ref 0), some (.int u1), none, some (.int s72.1), some (.int s72.2.1), some (.int s72.2.2.1), some (.int u6), some (.int s72.2.2.2), some (.int (((h 8 u6.toNatClampNeg) + (h 8 s72.2.2.2.toNatClampNeg)) - u1))], []), (h, g, mw_R rd))) rfl (st_iceq_n q13) ?_
      refine rh_Ex.blk 1 (s' := ((107, [some (.ref 0), some (.int u1), none, some (.int s72.1), some (.int s72.2.1), some (.int s72.2.2.1), some (.int u6), some (.int s72.2.2.2), some (.int (((h 8 u6.toNatClampNeg) + (h 8 s72.2.2.2.toNatClampNeg)) - u1))], [.int (((h 8 u6.toNatClampNeg) + (h 8 s72.2.2.2.toNatClampNeg)) - u1)]), (h, g, mw_R rd))) rfl ?_
      refine rh_Ex.stp (s' := ((110, [some (.ref 0), some (.int u1), none, some (.int s72.1), some (.int s72.2.1), some (.int s72.2.2.1), some (.int u6), some (.int s72.2.2.2), some (.int (((h 8 u6.toNatClampNeg) + (h 8 s72.2.2.2.toNatClampNeg)) - u1))], [.int (if 0 ≤ (((h 8 u6.toNatClampNeg) + (h 8 s72.2.2.2.toNatClampNeg)) - u1) then (((h 8 u6.toNatClampNeg) + (h 8 s72.2.2.2.toNatClampNeg)) - u1) else 0 - (((h 8 u6.toNatClampNeg) + (h 8 s72.2.2.2.toNatClampNeg)) - u1))]), (h, g, mw_R rd))) rfl (st_mabs (Nat.le_of_ble_eq_true rfl)) ?_
      refine rh_Ex.blk 1 (s' := ((112, [some (.ref 0), some (.int u1), none, some (.int s72.1), some (.int s72.2.1), some (.int s72.2.2.1), some (.int u6), some (.int s72.2.2.2), some (.int (((h 8 u6.toNatClampNeg) + (h 8 s72.2.2.2.toNatClampNeg)) - u1))], [.int s72.2.2.1, .int (if 0 ≤ (((h 8 u6.toNatClampNeg) + (h 8 s72.2.2.2.toNatClampNeg)) - u1) then (((h 8 u6.toNatClampNeg) + (h 8 s72.2.2.2.toNatClampNeg)) - u1) else 0 - (((h 8 u6.toNatClampNeg) + (h 8 s72.2.2.2.toNatClampNeg)) - u1))]), (h, g, mw_R rd))) rfl ?_
      refine rh_Ex.stp (s' := ((115, [some (.ref 0), some (.int u1), none, some (.int s72.1), some (.int s72.2.1), some (.int s72.2.2.1), some (.int u6), some (.int s72.2.2.2), some (.int (((h 8 u6.toNatClampNeg) + (h 8 s72.2.2.2.toNatClampNeg)) - u1))], [.int (if 0 ≤ s72.2.2.1 then s72.2.2.1 else 0 - s72.2.2.1), .int (if 0 ≤ (((h 8 u6.toNatClampNeg) + (h 8 s72.2.2.2.toNatClampNeg)) - u1) then (((h 8 u6.toNatClampNeg) + (h 8 s72.2.2.2.toNatClampNeg)) - u1) else 0 - (((h 8 u6.toNatClampNeg) + (h 8 s72.2.2.2.toNatClampNeg)) - u1))]), (h, g, mw_R rd))) rfl (st_mabs (Nat.le_of_ble_eq_true rfl)) ?_
      by_cases q14 : (if 0 ≤ (((h 8 u6.toNatClampNeg) + (h 8 s72.2.2.2.toNatClampNeg)) - u1) then (((h 8 u6.toNatClampNeg) + (h 8 s72.2.2.2.toNatClampNeg)) - u1) else 0 - (((h 8 u6.toNatClampNeg) + (h 8 s72.2.2.2.toNatClampNeg)) - u1)) < (if 0 ≤ s72.2.2.1 then s72.2.2.1 else 0 - s72.2.2.1)
      · rw [if_pos q14] at hf
        refine rh_Ex.stp (s' := ((121, [some (.ref 0), some (.int u1), none, some (.int s72.1), some (.int s72.2.1), some (.int s72.2.2.1), some (.int u6), some (.int s72.2.2.2), some (.int (((h 8 u6.toNatClampNeg) + (h 8 s72.2.2.2.toNatClampNeg)) - u1))], []), (h, g, mw_R rd))) rfl (st_iclt_p q14) ?_
        refine rh_Ex.blk 8 (s' := ((72, [some (.ref 0), some (.int u1), none, some (.int u6), some (.int s72.2.2.2), some (.int (((h 8 u6.toNatClampNeg) + (h 8 s72.2.2.2.toNatClampNeg)) - u1)), some (.int u6), some (.int (s72.2.2.2 + (1 : Int32))), some (.int (((h 8 u6.toNatClampNeg) + (h 8 s72.2.2.2.toNatClampNeg)) - u1))], []), (h, g, mw_R rd))) rfl ?_
        obtain rfl := Option.some.inj hf
        refine rh_Ex.fgt [some (.ref 0), some (.int u1), none, some (.int u6), some (.int s72.2.2.2), some (.int (((h 8 u6.toNatClampNeg) + (h 8 s72.2.2.2.toNatClampNeg)) - u1)), some (.int u6), some (.int (s72.2.2.2 + (1 : Int32))), none] ⟨rfl, rfl, rfl, rfl, rfl, rfl, rfl, trivial⟩ ?_
        exact hk
      · rw [if_neg q14] at hf
        refine rh_Ex.stp (s' := ((118, [some (.ref 0), some (.int u1), none, some (.int s72.1), some (.int s72.2.1), some (.int s72.2.2.1), some (.int u6), some (.int s72.2.2.2), some (.int (((h 8 u6.toNatClampNeg) + (h 8 s72.2.2.2.toNatClampNeg)) - u1))], []), (h, g, mw_R rd))) rfl (st_iclt_n q14) ?_
        refine rh_Ex.blk 3 (s' := ((72, [some (.ref 0), some (.int u1), none, some (.int s72.1), some (.int s72.2.1), some (.int s72.2.2.1), some (.int u6), some (.int (s72.2.2.2 + (1 : Int32))), some (.int (((h 8 u6.toNatClampNeg) + (h 8 s72.2.2.2.toNatClampNeg)) - u1))], []), (h, g, mw_R rd))) rfl ?_
        obtain rfl := Option.some.inj hf
        refine rh_Ex.fgt [some (.ref 0), some (.int u1), none, some (.int s72.1), some (.int s72.2.1), some (.int s72.2.2.1), some (.int u6), some (.int (s72.2.2.2 + (1 : Int32))), none] ⟨rfl, rfl, rfl, rfl, rfl, rfl, rfl, trivial⟩ ?_
        exact hk
set_option maxRecDepth 20000 in
set_option maxHeartbeats 4000000 in
theorem lb_Mo_pair_57 (d : Nat) (u1 : Int32) (h : Nat → Nat → Int32) (rd : Option Nat) (g : Nat → Nat → Int64) (v9 : Option Value) (h9 : rh_H) : ∀ s57 x9, b_Mo_pair_57 u1 h rd s57 = some x9 → Sum.elim (fun s57 => rh_Ex (rh_M rh_PT mw_L (d + 268)) mw_L pg_X12_pair ((57, [some (.ref 0), some (.int u1), none, some (.int s57.1), some (.int s57.2.1), some (.int s57.2.2.1), some (.int s57.2.2.2), none, none], []), (h, g, mw_R rd)) v9 h9) (fun e9 => rh_Ex (rh_M rh_PT mw_L (d + 268)) mw_L pg_X12_pair ((144, [some (.ref 0), none, none, some (.int e9.1), some (.int e9.2.1), some (.int e9.2.2), none, none, none], []), (h, g, mw_R rd)) v9 h9) x9 → rh_Ex (rh_M rh_PT mw_L (d + 268)) mw_L pg_X12_pair ((57, [some (.ref 0), some (.int u1), none, some (.int s57.1), some (.int s57.2.1), some (.int s57.2.2.1), some (.int s57.2.2.2), none, none], []), (h, g, mw_R rd)) v9 h9 := by
  intro s57 x9 hf hk
  unfold b_Mo_pair_57 at hf
  refine rh_Ex.blk 3 (s' := ((63, [some (.ref 0), some (.int u1), none, some (.int s57.1), some (.int s57.2.1), some (.int s57.2.2.1), some (.int s57.2.2.2), none, none], [.int (h 0 1), .int s57.2.2.2]), (h, g, mw_R rd))) rfl ?_
  by_cases q8 : (h 0 1) ≤ s57.2.2.2
  · rw [if_pos q8] at hf
    refine rh_Ex.stp (s' := ((144, [some (.ref 0), some (.int u1), none, some (.int s57.1), some (.int s57.2.1), some (.int s57.2.2.1), some (.int s57.2.2.2), none, none], []), (h, g, mw_R rd))) rfl (st_icge_p q8) ?_
    obtain rfl := Option.some.inj hf
    refine rh_Ex.fgt [some (.ref 0), none, none, some (.int s57.1), some (.int s57.2.1), some (.int s57.2.2.1), none, none, none] ⟨rfl, rfl, rfl, rfl, trivial⟩ ?_
    exact hk
  · rw [if_neg q8] at hf
    refine rh_Ex.stp (s' := ((66, [some (.ref 0), some (.int u1), none, some (.int s57.1), some (.int s57.2.1), some (.int s57.2.2.1), some (.int s57.2.2.2), none, none], []), (h, g, mw_R rd))) rfl (st_icge_n q8) ?_
    refine rh_Ex.blk 4 (s' := ((72, [some (.ref 0), some (.int u1), none, some (.int s57.1), some (.int s57.2.1), some (.int s57.2.2.1), some (.int s57.2.2.2), some (.int (s57.2.2.2 + (1 : Int32))), none], []), (h, g, mw_R rd))) rfl ?_
    obtain ⟨r15, hr15, hf⟩ := rh_bq hf
    refine rh_Ex.fgt [some (.ref 0), some (.int u1), none, some (.int s57.1), some (.int s57.2.1), some (.int s57.2.2.1), some (.int s57.2.2.2), some (.int (s57.2.2.2 + (1 : Int32))), none] ⟨rfl, rfl, rfl, rfl, rfl, rfl, rfl, trivial⟩ ?_
    refine rh_Ex.loop _ _ _ (lb_Mo_pair_72 d u1 s57.2.2.2 h rd  g _ _) rh_N _ r15 hr15 ?_
    refine rh_Ex.blk 2 (s' := ((57, [some (.ref 0), some (.int u1), none, some (.int r15.1), some (.int r15.2.1), some (.int r15.2.2), some (.int (s57.2.2.2 + (1 : Int32))), none, none], []), (h, g, mw_R rd))) rfl ?_
    obtain rfl := Option.some.inj hf
    refine rh_Ex.fgt [some (.ref 0), some (.int u1), none, some (.int r15.1), some (.int r15.2.1), some (.int r15.2.2), some (.int (s57.2.2.2 + (1 : Int32))), none, none] ⟨rfl, rfl, rfl, rfl, rfl, rfl, trivial⟩ ?_
    exact hk
set_option maxRecDepth 20000 in
set_option maxHeartbeats 4000000 in
theorem R_Mo_pair (d : Nat) (rd : Option Nat) (h : Nat → Nat → Int32) (g : Nat → Nat → Int64) (p0 : Int32) (p1 : Int32) {z9 : Int32 × (Nat → Nat → Int32) × (Option Nat)} (hf : f_Mo_pair h rd p0 p1 = some z9) : rh_M rh_PT mw_L (d + 269) 278 [.ref 0, .int p0, .int p1] (h, g, mw_R rd) (some (.int z9.1)) (z9.2.1, g, mw_R z9.2.2) := by
  unfold f_Mo_pair at hf
  refine rh_go pt_278 (Nat.le_of_ble_eq_true rfl) (lv := [some (.ref 0), some (.int p0), some (.int p1), none, none, none, none, none, none]) rfl ?_
  refine rh_Ex.blk 4 (s' := ((6, [some (.ref 0), some (.int p0), some (.int p1), none, none, none, none, none, none], [.int p0]), (rh_up h 0 9 (0 : Int32), g, mw_R rd))) rfl ?_
  obtain ⟨x1, hx1, hf⟩ := rh_bq hf
  refine rh_Ex.call (j := 187) (rc := none) [.int p0] [] (some (.int x1)) rfl rfl trivial (Nat.le_of_ble_eq_true rfl) (R_Mo_isHeavy (d + 266) mw_L (mw_R rd) (rh_up h 0 9 (0 : Int32)) g p0 hx1) ?_
  show rh_Ex _ _ _ ((9, [some (.ref 0), some (.int p0), some (.int p1), none, none, none, none, none, none], [.int x1]), (rh_up h 0 9 (0 : Int32), g, mw_R rd)) _ _
  by_cases q2 : x1 = 0
  · rw [if_pos q2] at hf
    refine rh_Ex.stp (s' := ((19, [some (.ref 0), some (.int p0), some (.int p1), none, none, none, none, none, none], []), (rh_up h 0 9 (0 : Int32), g, mw_R rd))) rfl (st_ifeq_p q2) ?_
    refine rh_Ex.blk 1 (s' := ((20, [some (.ref 0), some (.int p0), some (.int p1), none, none, none, none, none, none], [.ref 0]), (rh_up h 0 9 (0 : Int32), g, mw_R rd))) rfl ?_
    refine rh_Ex.call (j := 181) (rc := some 11) [.ref 0] [] (some (.int ((f_Mo_lost (rh_up h 0 9 (0 : Int32))).1))) rfl rfl rfl (Nat.le_of_ble_eq_true rfl) (R_Mo_lost (d + 267) rd (rh_up h 0 9 (0 : Int32)) g  rfl) ?_
    show rh_Ex _ _ _ ((23, [some (.ref 0), some (.int p0), some (.int p1), none, none, none, none, none, none], [.int ((f_Mo_lost (rh_up h 0 9 (0 : Int32))).1)]), ((f_Mo_lost (rh_up h 0 9 (0 : Int32))).2, g, mw_R rd)) _ _
    obtain rfl := Option.some.inj hf
    exact rh_Ex.ret rfl rfl
  · rw [if_neg q2] at hf
    refine rh_Ex.stp (s' := ((12, [some (.ref 0), some (.int p0), some (.int p1), none, none, none, none, none, none], []), (rh_up h 0 9 (0 : Int32), g, mw_R rd))) rfl (st_ifeq_n q2) ?_
    refine rh_Ex.blk 1 (s' := ((13, [some (.ref 0), some (.int p0), some (.int p1), none, none, none, none, none, none], [.int p1]), (rh_up h 0 9 (0 : Int32), g, mw_R rd))) rfl ?_
    obtain ⟨x3, hx3, hf⟩ := rh_bq hf
    refine rh_Ex.call (j := 186) (rc := none) [.int p1] [] (some (.int x3)) rfl rfl trivial (Nat.le_of_ble_eq_true rfl) (R_Mo_isBell (d + 266) mw_L (mw_R rd) (rh_up h 0 9 (0 : Int32)) g p1 hx3) ?_
    show rh_Ex _ _ _ ((16, [some (.ref 0), some (.int p0), some (.int p1), none, none, none, none, none, none], [.int x3]), (rh_up h 0 9 (0 : Int32), g, mw_R rd)) _ _
    by_cases q4 : x3 = 0
    · rw [if_pos q4] at hf
      refine rh_Ex.stp (s' := ((19, [some (.ref 0), some (.int p0), some (.int p1), none, none, none, none, none, none], []), (rh_up h 0 9 (0 : Int32), g, mw_R rd))) rfl (st_ifne_p q4) ?_
      refine rh_Ex.blk 1 (s' := ((20, [some (.ref 0), some (.int p0), some (.int p1), none, none, none, none, none, none], [.ref 0]), (rh_up h 0 9 (0 : Int32), g, mw_R rd))) rfl ?_
      refine rh_Ex.call (j := 181) (rc := some 11) [.ref 0] [] (some (.int ((f_Mo_lost (rh_up h 0 9 (0 : Int32))).1))) rfl rfl rfl (Nat.le_of_ble_eq_true rfl) (R_Mo_lost (d + 267) rd (rh_up h 0 9 (0 : Int32)) g  rfl) ?_
      show rh_Ex _ _ _ ((23, [some (.ref 0), some (.int p0), some (.int p1), none, none, none, none, none, none], [.int ((f_Mo_lost (rh_up h 0 9 (0 : Int32))).1)]), ((f_Mo_lost (rh_up h 0 9 (0 : Int32))).2, g, mw_R rd)) _ _
      obtain rfl := Option.some.inj hf
      exact rh_Ex.ret rfl rfl
    · rw [if_neg q4] at hf
      refine rh_Ex.stp (s' := ((24, [some (.ref 0), some (.int p0), some (.int p1), none, none, none, none, none, none], []), (rh_up h 0 9 (0 : Int32), g, mw_R rd))) rfl (st_ifne_n q4) ?_
      refine rh_Ex.blk 3 (s' := ((29, [some (.ref 0), some (.int p0), some (.int p1), none, none, none, none, none, none], [.int (2 : Int32), .int (h 0 1)]), (rh_up h 0 9 (0 : Int32), g, mw_R rd))) rfl ?_
      by_cases q5 : (2 : Int32) ≤ (h 0 1)
      · rw [if_pos q5] at hf
        refine rh_Ex.stp (s' := ((36, [some (.ref 0), some (.int p0), some (.int p1), none, none, none, none, none, none], []), (rh_up h 0 9 (0 : Int32), g, mw_R rd))) rfl (st_icge_p q5) ?_
        refine rh_Ex.blk 2 (s' := ((38, [some (.ref 0), some (.int p0), some (.int p1), none, none, none, none, none, none], [.ref 0, .ref 0]), (rh_up h 0 9 (0 : Int32), g, mw_R rd))) rfl ?_
        refine rh_Ex.call (j := 209) (rc := some 11) [.ref 0] [.ref 0] (some (.int (f_Mo_dawn (rh_up h 0 9 (0 : Int32))))) rfl rfl rfl (Nat.le_of_ble_eq_true rfl) (R_Mo_dawn (d + 267) rd (rh_up h 0 9 (0 : Int32)) g  rfl) ?_
        show rh_Ex _ _ _ ((41, [some (.ref 0), some (.int p0), some (.int p1), none, none, none, none, none, none], [.int (f_Mo_dawn (rh_up h 0 9 (0 : Int32))), .ref 0]), (rh_up h 0 9 (0 : Int32), g, mw_R rd)) _ _
        refine rh_Ex.blk 2 (s' := ((43, [some (.ref 0), some (.int p0), some (.int p1), none, none, none, none, none, none], [.int ((f_Mo_dawn (rh_up h 0 9 (0 : Int32))) + p1), .ref 0]), (rh_up h 0 9 (0 : Int32), g, mw_R rd))) rfl ?_
        obtain ⟨x6, hx6, hf⟩ := rh_bq hf
        refine rh_Ex.call (j := 208) (rc := some 11) [.ref 0, .int ((f_Mo_dawn (rh_up h 0 9 (0 : Int32))) + p1)] [] none rfl rfl rfl (Nat.le_of_ble_eq_true rfl) (R_Mo_findSets d rd (rh_up h 0 9 (0 : Int32)) g ((f_Mo_dawn (rh_up h 0 9 (0 : Int32))) + p1) hx6) ?_
        show rh_Ex _ _ _ ((46, [some (.ref 0), some (.int p0), some (.int p1), none, none, none, none, none, none], []), (x6.1, g, mw_R x6.2)) _ _
        refine rh_Ex.blk 8 (s' := ((57, [some (.ref 0), some (.int p0), some (.int p1), some (.int (-1 : Int32)), some (.int (-1 : Int32)), some (.int (0 : Int32)), some (.int (0 : Int32)), none, none], []), (x6.1, g, mw_R x6.2))) rfl ?_
        obtain ⟨r16, hr16, hf⟩ := rh_bq hf
        refine rh_Ex.fgt [some (.ref 0), some (.int p0), none, some (.int (-1 : Int32)), some (.int (-1 : Int32)), some (.int (0 : Int32)), some (.int (0 : Int32)), none, none] ⟨rfl, rfl, rfl, rfl, rfl, rfl, trivial⟩ ?_
        refine rh_Ex.loop _ _ _ (lb_Mo_pair_57 d p0 x6.1 x6.2  g _ _) rh_N _ r16 hr16 ?_
        refine rh_Ex.blk 5 (s' := ((151, [some (.ref 0), none, none, some (.int r16.1), some (.int r16.2.1), some (.int r16.2.2), none, none, none], [.int r16.1, .ref 0]), (rh_up x6.1 0 8 (0 : Int32), g, mw_R x6.2))) rfl ?_
        obtain ⟨x17, hx17, hf⟩ := rh_bq hf
        refine rh_Ex.call (j := 182) (rc := some 11) [.ref 0, .int r16.1] [] none rfl rfl rfl (Nat.le_of_ble_eq_true rfl) (R_Mo_tell (d + 267) x6.2 (rh_up x6.1 0 8 (0 : Int32)) g r16.1 hx17) ?_
        show rh_Ex _ _ _ ((154, [some (.ref 0), none, none, some (.int r16.1), some (.int r16.2.1), some (.int r16.2.2), none, none, none], []), (x17, g, mw_R x6.2)) _ _
        refine rh_Ex.blk 2 (s' := ((157, [some (.ref 0), none, none, some (.int r16.1), some (.int r16.2.1), some (.int r16.2.2), none, none, none], [.int r16.2.1, .ref 0]), (x17, g, mw_R x6.2))) rfl ?_
        obtain ⟨x18, hx18, hf⟩ := rh_bq hf
        refine rh_Ex.call (j := 182) (rc := some 11) [.ref 0, .int r16.2.1] [] none rfl rfl rfl (Nat.le_of_ble_eq_true rfl) (R_Mo_tell (d + 267) x6.2 x17 g r16.2.1 hx18) ?_
        show rh_Ex _ _ _ ((160, [some (.ref 0), none, none, some (.int r16.1), some (.int r16.2.1), some (.int r16.2.2), none, none, none], []), (x18, g, mw_R x6.2)) _ _
        refine rh_Ex.blk 1 (s' := ((162, [some (.ref 0), none, none, some (.int r16.1), some (.int r16.2.1), some (.int r16.2.2), none, none, none], [.int r16.2.2]), (x18, g, mw_R x6.2))) rfl ?_
        obtain rfl := Option.some.inj hf
        exact rh_Ex.ret rfl rfl
      · rw [if_neg q5] at hf
        refine rh_Ex.stp (s' := ((32, [some (.ref 0), some (.int p0), some (.int p1), none, none, none, none, none, none], []), (rh_up h 0 9 (0 : Int32), g, mw_R rd))) rfl (st_icge_n q5) ?_
        refine rh_Ex.blk 1 (s' := ((35, [some (.ref 0), some (.int p0), some (.int p1), none, none, none, none, none, none], [.int (-100000 : Int32)]), (rh_up h 0 9 (0 : Int32), g, mw_R rd))) rfl ?_
        obtain rfl := Option.some.inj hf
        exact rh_Ex.ret rfl rfl
def f_Mo_weighed (h : Nat → Nat → Int32) (p0 : Int32) (p1 : Int32) (p2 : Int32) : Option (Int32 × (Nat → Nat → Int32)) :=
  (f_Mo_areFolk (rh_up h 0 9 (0 : Int32)) p0).bind (fun x1 =>
    if x1 = 0 then
      some (((-1 : Int32), rh_up h 0 9 (0 : Int32)))
    else
      if (f_Mo_in p1 (0 : Int32) (99 : Int32)) = 0 then
        some (((-1 : Int32), rh_up h 0 9 (0 : Int32)))
      else
        (f_Mo_isHeavy p2).bind (fun x4 =>
          if x4 = 0 then
            some (((-1 : Int32), rh_up h 0 9 (0 : Int32)))
          else
            if (h 0 39) = (10 : Int32) then
              some (((-2 : Int32), rh_up h 0 9 (0 : Int32)))
            else
              rh_g (0 ≤ ((3 : Int32) * (h 0 39)).toInt ∧ ((3 : Int32) * (h 0 39)).toInt < ((30 : Nat) : Int)) (
                rh_g (0 ≤ (((3 : Int32) * (h 0 39)) + (1 : Int32)).toInt ∧ (((3 : Int32) * (h 0 39)) + (1 : Int32)).toInt < ((30 : Nat) : Int)) (
                  rh_g (0 ≤ (((3 : Int32) * (h 0 39)) + (2 : Int32)).toInt ∧ (((3 : Int32) * (h 0 39)) + (2 : Int32)).toInt < ((30 : Nat) : Int)) (
                    some ((((h 0 39) + (1 : Int32)), rh_up (rh_up (rh_up (rh_up (rh_up h 0 9 (0 : Int32)) 23 ((3 : Int32) * (h 0 39)).toNatClampNeg p0) 23 (((3 : Int32) * (h 0 39)) + (1 : Int32)).toNatClampNeg p1) 23 (((3 : Int32) * (h 0 39)) + (2 : Int32)).toNatClampNeg p2) 0 39 ((h 0 39) + (1 : Int32))))
                  )
                )
              )
        )
  )
set_option maxRecDepth 20000 in
set_option maxHeartbeats 4000000 in
theorem R_Mo_weighed (d : Nat) (rd : Option Nat) (h : Nat → Nat → Int32) (g : Nat → Nat → Int64) (p0 : Int32) (p1 : Int32) (p2 : Int32) {z9 : Int32 × (Nat → Nat → Int32)} (hf : f_Mo_weighed h p0 p1 p2 = some z9) : rh_M rh_PT mw_L (d + 3) 279 [.ref 0, .int p0, .int p1, .int p2] (h, g, mw_R rd) (some (.int z9.1)) (z9.2, g, mw_R rd) := by
  unfold f_Mo_weighed at hf
  refine rh_go pt_279 (Nat.le_of_ble_eq_true rfl) (lv := [some (.ref 0), some (.int p0), some (.int p1), some (.int p2)]) rfl ?_
  refine rh_Ex.blk 5 (s' := ((7, [some (.ref 0), some (.int p0), some (.int p1), some (.int p2)], [.int p0, .ref 0]), (rh_up h 0 9 (0 : Int32), g, mw_R rd))) rfl ?_
  obtain ⟨x1, hx1, hf⟩ := rh_bq hf
  refine rh_Ex.call (j := 185) (rc := some 11) [.ref 0, .int p0] [] (some (.int x1)) rfl rfl rfl (Nat.le_of_ble_eq_true rfl) (R_Mo_areFolk d rd (rh_up h 0 9 (0 : Int32)) g p0 hx1) ?_
  show rh_Ex _ _ _ ((10, [some (.ref 0), some (.int p0), some (.int p1), some (.int p2)], [.int x1]), (rh_up h 0 9 (0 : Int32), g, mw_R rd)) _ _
  by_cases q2 : x1 = 0
  · rw [if_pos q2] at hf
    refine rh_Ex.stp (s' := ((30, [some (.ref 0), some (.int p0), some (.int p1), some (.int p2)], []), (rh_up h 0 9 (0 : Int32), g, mw_R rd))) rfl (st_ifeq_p q2) ?_
    refine rh_Ex.blk 1 (s' := ((31, [some (.ref 0), some (.int p0), some (.int p1), some (.int p2)], [.int (-1 : Int32)]), (rh_up h 0 9 (0 : Int32), g, mw_R rd))) rfl ?_
    obtain rfl := Option.some.inj hf
    exact rh_Ex.ret rfl rfl
  · rw [if_neg q2] at hf
    refine rh_Ex.stp (s' := ((13, [some (.ref 0), some (.int p0), some (.int p1), some (.int p2)], []), (rh_up h 0 9 (0 : Int32), g, mw_R rd))) rfl (st_ifeq_n q2) ?_
    refine rh_Ex.blk 3 (s' := ((17, [some (.ref 0), some (.int p0), some (.int p1), some (.int p2)], [.int (99 : Int32), .int (0 : Int32), .int p1]), (rh_up h 0 9 (0 : Int32), g, mw_R rd))) rfl ?_
    refine rh_Ex.call (j := 179) (rc := none) [.int p1, .int (0 : Int32), .int (99 : Int32)] [] (some (.int (f_Mo_in p1 (0 : Int32) (99 : Int32)))) rfl rfl trivial (Nat.le_of_ble_eq_true rfl) (R_Mo_in (d + 1) mw_L (mw_R rd) (rh_up h 0 9 (0 : Int32)) g p1 (0 : Int32) (99 : Int32) rfl) ?_
    show rh_Ex _ _ _ ((20, [some (.ref 0), some (.int p0), some (.int p1), some (.int p2)], [.int (f_Mo_in p1 (0 : Int32) (99 : Int32))]), (rh_up h 0 9 (0 : Int32), g, mw_R rd)) _ _
    by_cases q3 : (f_Mo_in p1 (0 : Int32) (99 : Int32)) = 0
    · rw [if_pos q3] at hf
      refine rh_Ex.stp (s' := ((30, [some (.ref 0), some (.int p0), some (.int p1), some (.int p2)], []), (rh_up h 0 9 (0 : Int32), g, mw_R rd))) rfl (st_ifeq_p q3) ?_
      refine rh_Ex.blk 1 (s' := ((31, [some (.ref 0), some (.int p0), some (.int p1), some (.int p2)], [.int (-1 : Int32)]), (rh_up h 0 9 (0 : Int32), g, mw_R rd))) rfl ?_
      obtain rfl := Option.some.inj hf
      exact rh_Ex.ret rfl rfl
    · rw [if_neg q3] at hf
      refine rh_Ex.stp (s' := ((23, [some (.ref 0), some (.int p0), some (.int p1), some (.int p2)], []), (rh_up h 0 9 (0 : Int32), g, mw_R rd))) rfl (st_ifeq_n q3) ?_
      refine rh_Ex.blk 1 (s' := ((24, [some (.ref 0), some (.int p0), some (.int p1), some (.int p2)], [.int p2]), (rh_up h 0 9 (0 : Int32), g, mw_R rd))) rfl ?_
      obtain ⟨x4, hx4, hf⟩ := rh_bq hf
      refine rh_Ex.call (j := 187) (rc := none) [.int p2] [] (some (.int x4)) rfl rfl trivial (Nat.le_of_ble_eq_true rfl) (R_Mo_isHeavy d mw_L (mw_R rd) (rh_up h 0 9 (0 : Int32)) g p2 hx4) ?_
      show rh_Ex _ _ _ ((27, [some (.ref 0), some (.int p0), some (.int p1), some (.int p2)], [.int x4]), (rh_up h 0 9 (0 : Int32), g, mw_R rd)) _ _
      by_cases q5 : x4 = 0
      · rw [if_pos q5] at hf
        refine rh_Ex.stp (s' := ((30, [some (.ref 0), some (.int p0), some (.int p1), some (.int p2)], []), (rh_up h 0 9 (0 : Int32), g, mw_R rd))) rfl (st_ifne_p q5) ?_
        refine rh_Ex.blk 1 (s' := ((31, [some (.ref 0), some (.int p0), some (.int p1), some (.int p2)], [.int (-1 : Int32)]), (rh_up h 0 9 (0 : Int32), g, mw_R rd))) rfl ?_
        obtain rfl := Option.some.inj hf
        exact rh_Ex.ret rfl rfl
      · rw [if_neg q5] at hf
        refine rh_Ex.stp (s' := ((32, [some (.ref 0), some (.int p0), some (.int p1), some (.int p2)], []), (rh_up h 0 9 (0 : Int32), g, mw_R rd))) rfl (st_ifne_n q5) ?_
        refine rh_Ex.blk 3 (s' := ((38, [some (.ref 0), some (.int p0), some (.int p1), some (.int p2)], [.int (10 : Int32), .int (h 0 39)]), (rh_up h 0 9 (0 : Int32), g, mw_R rd))) rfl ?_
        by_cases q6 : (h 0 39) = (10 : Int32)
        · rw [if_pos q6] at hf
          refine rh_Ex.stp (s' := ((41, [some (.ref 0), some (.int p0), some (.int p1), some (.int p2)], []), (rh_up h 0 9 (0 : Int32), g, mw_R rd))) rfl (st_icne_p q6) ?_
          refine rh_Ex.blk 1 (s' := ((43, [some (.ref 0), some (.int p0), some (.int p1), some (.int p2)], [.int (-2 : Int32)]), (rh_up h 0 9 (0 : Int32), g, mw_R rd))) rfl ?_
          obtain rfl := Option.some.inj hf
          exact rh_Ex.ret rfl rfl
        · rw [if_neg q6] at hf
          refine rh_Ex.stp (s' := ((44, [some (.ref 0), some (.int p0), some (.int p1), some (.int p2)], []), (rh_up h 0 9 (0 : Int32), g, mw_R rd))) rfl (st_icne_n q6) ?_
          refine rh_Ex.blk 7 (s' := ((55, [some (.ref 0), some (.int p0), some (.int p1), some (.int p2)], [.int p0, .int ((3 : Int32) * (h 0 39)), .ref 23]), (rh_up h 0 9 (0 : Int32), g, mw_R rd))) rfl ?_
          obtain ⟨q7, hf⟩ := rh_gq hf
          refine rh_Ex.stp (s' := ((56, [some (.ref 0), some (.int p0), some (.int p1), some (.int p2)], []), (rh_up (rh_up h 0 9 (0 : Int32)) 23 ((3 : Int32) * (h 0 39)).toNatClampNeg p0, g, mw_R rd))) rfl (st_iast (n := 30) rfl q7) ?_
          refine rh_Ex.blk 9 (s' := ((69, [some (.ref 0), some (.int p0), some (.int p1), some (.int p2)], [.int p1, .int (((3 : Int32) * (h 0 39)) + (1 : Int32)), .ref 23]), (rh_up (rh_up h 0 9 (0 : Int32)) 23 ((3 : Int32) * (h 0 39)).toNatClampNeg p0, g, mw_R rd))) rfl ?_
          obtain ⟨q8, hf⟩ := rh_gq hf
          refine rh_Ex.stp (s' := ((70, [some (.ref 0), some (.int p0), some (.int p1), some (.int p2)], []), (rh_up (rh_up (rh_up h 0 9 (0 : Int32)) 23 ((3 : Int32) * (h 0 39)).toNatClampNeg p0) 23 (((3 : Int32) * (h 0 39)) + (1 : Int32)).toNatClampNeg p1, g, mw_R rd))) rfl (st_iast (n := 30) rfl q8) ?_
          refine rh_Ex.blk 9 (s' := ((83, [some (.ref 0), some (.int p0), some (.int p1), some (.int p2)], [.int p2, .int (((3 : Int32) * (h 0 39)) + (2 : Int32)), .ref 23]), (rh_up (rh_up (rh_up h 0 9 (0 : Int32)) 23 ((3 : Int32) * (h 0 39)).toNatClampNeg p0) 23 (((3 : Int32) * (h 0 39)) + (1 : Int32)).toNatClampNeg p1, g, mw_R rd))) rfl ?_
          obtain ⟨q9, hf⟩ := rh_gq hf
          refine rh_Ex.stp (s' := ((84, [some (.ref 0), some (.int p0), some (.int p1), some (.int p2)], []), (rh_up (rh_up (rh_up (rh_up h 0 9 (0 : Int32)) 23 ((3 : Int32) * (h 0 39)).toNatClampNeg p0) 23 (((3 : Int32) * (h 0 39)) + (1 : Int32)).toNatClampNeg p1) 23 (((3 : Int32) * (h 0 39)) + (2 : Int32)).toNatClampNeg p2, g, mw_R rd))) rfl (st_iast (n := 30) rfl q9) ?_
          refine rh_Ex.blk 8 (s' := ((98, [some (.ref 0), some (.int p0), some (.int p1), some (.int p2)], [.int ((h 0 39) + (1 : Int32))]), (rh_up (rh_up (rh_up (rh_up (rh_up h 0 9 (0 : Int32)) 23 ((3 : Int32) * (h 0 39)).toNatClampNeg p0) 23 (((3 : Int32) * (h 0 39)) + (1 : Int32)).toNatClampNeg p1) 23 (((3 : Int32) * (h 0 39)) + (2 : Int32)).toNatClampNeg p2) 0 39 ((h 0 39) + (1 : Int32)), g, mw_R rd))) rfl ?_
          obtain rfl := Option.some.inj hf
          exact rh_Ex.ret rfl rfl
def f_Mo_unsay (h : Nat → Nat → Int32) : Int32 × (Nat → Nat → Int32) :=
  (h 0 39, rh_up (rh_up h 0 9 (0 : Int32)) 0 39 (0 : Int32))
set_option maxRecDepth 20000 in
set_option maxHeartbeats 4000000 in
theorem R_Mo_unsay (d : Nat) (rd : Option Nat) (h : Nat → Nat → Int32) (g : Nat → Nat → Int64)  {z9 : Int32 × (Nat → Nat → Int32)} (hf : f_Mo_unsay h = z9) : rh_M rh_PT mw_L (d + 1) 280 [.ref 0] (h, g, mw_R rd) (some (.int z9.1)) (z9.2, g, mw_R rd) := by
  unfold f_Mo_unsay at hf
  refine rh_go pt_280 (Nat.le_of_ble_eq_true rfl) (lv := [some (.ref 0), none]) rfl ?_
  refine rh_Ex.blk 10 (s' := ((16, [some (.ref 0), some (.int (h 0 39))], [.int (h 0 39)]), (rh_up (rh_up h 0 9 (0 : Int32)) 0 39 (0 : Int32), g, mw_R rd))) rfl ?_
  subst hf
  exact rh_Ex.ret rfl rfl
def b_Mo_falseOnes_4  : (Int32 × Int32 × (Nat → Nat → Int32) × (Option Nat)) → Option ((Int32 × Int32 × (Nat → Nat → Int32) × (Option Nat)) ⊕ (Int32 × (Nat → Nat → Int32) × (Option Nat))) := fun s4 =>
  if (s4.2.2.1 0 39) ≤ s4.2.1 then
    some (.inr (s4.1, s4.2.2.1, s4.2.2.2))
  else
    rh_g (0 ≤ ((3 : Int32) * s4.2.1).toInt ∧ ((3 : Int32) * s4.2.1).toInt < ((30 : Nat) : Int)) (
      rh_g (0 ≤ (((3 : Int32) * s4.2.1) + (1 : Int32)).toInt ∧ (((3 : Int32) * s4.2.1) + (1 : Int32)).toInt < ((30 : Nat) : Int)) (
        (f_Mo_weightOfAll s4.2.2.1 s4.2.2.2 (s4.2.2.1 23 ((3 : Int32) * s4.2.1).toNatClampNeg) ((s4.2.2.1 1 (10 : Int32).toNatClampNeg) + (s4.2.2.1 23 (((3 : Int32) * s4.2.1) + (1 : Int32)).toNatClampNeg))).bind (fun x5 =>
          rh_g (0 ≤ (((3 : Int32) * s4.2.1) + (2 : Int32)).toInt ∧ (((3 : Int32) * s4.2.1) + (2 : Int32)).toInt < ((30 : Nat) : Int)) (
            if x5.1 = (x5.2.1 23 (((3 : Int32) * s4.2.1) + (2 : Int32)).toNatClampNeg) then
              some (.inl (s4.1 ||| (0 : Int32), s4.2.1 + (1 : Int32), x5.2.1, x5.2.2))
            else
              some (.inl (s4.1 ||| ((1 : Int32) <<< (s4.2.1 &&& 31)), s4.2.1 + (1 : Int32), x5.2.1, x5.2.2))
          )
        )
      )
    )
def f_Mo_falseOnes (h : Nat → Nat → Int32) (rd : Option Nat) : Option (Int32 × (Nat → Nat → Int32) × (Option Nat)) :=
  (rh_loop (b_Mo_falseOnes_4 ) rh_N ((0 : Int32), (0 : Int32), h, rd)).bind (fun r8 =>
    some ((r8.1, r8.2.1, r8.2.2))
  )
set_option maxRecDepth 20000 in
set_option maxHeartbeats 4000000 in
theorem lb_Mo_falseOnes_4 (d : Nat)  (g : Nat → Nat → Int64) (v9 : Option Value) (h9 : rh_H) : ∀ s4 x9, b_Mo_falseOnes_4  s4 = some x9 → Sum.elim (fun s4 => rh_Ex (rh_M rh_PT mw_L (d + 268)) mw_L pg_X12_falseOnes ((4, [some (.ref 0), some (.int s4.1), some (.int s4.2.1)], []), (s4.2.2.1, g, mw_R s4.2.2.2)) v9 h9) (fun e9 => rh_Ex (rh_M rh_PT mw_L (d + 268)) mw_L pg_X12_falseOnes ((71, [none, some (.int e9.1), none], []), (e9.2.1, g, mw_R e9.2.2)) v9 h9) x9 → rh_Ex (rh_M rh_PT mw_L (d + 268)) mw_L pg_X12_falseOnes ((4, [some (.ref 0), some (.int s4.1), some (.int s4.2.1)], []), (s4.2.2.1, g, mw_R s4.2.2.2)) v9 h9 := by
  intro s4 x9 hf hk
  unfold b_Mo_falseOnes_4 at hf
  refine rh_Ex.blk 3 (s' := ((9, [some (.ref 0), some (.int s4.1), some (.int s4.2.1)], [.int (s4.2.2.1 0 39), .int s4.2.1]), (s4.2.2.1, g, mw_R s4.2.2.2))) rfl ?_
  by_cases q2 : (s4.2.2.1 0 39) ≤ s4.2.1
  · rw [if_pos q2] at hf
    refine rh_Ex.stp (s' := ((71, [some (.ref 0), some (.int s4.1), some (.int s4.2.1)], []), (s4.2.2.1, g, mw_R s4.2.2.2))) rfl (st_icge_p q2) ?_
    obtain rfl := Option.some.inj hf
    refine rh_Ex.fgt [none, some (.int s4.1), none] ⟨rfl, trivial⟩ ?_
    exact hk
  · rw [if_neg q2] at hf
    refine rh_Ex.stp (s' := ((12, [some (.ref 0), some (.int s4.1), some (.int s4.2.1)], []), (s4.2.2.1, g, mw_R s4.2.2.2))) rfl (st_icge_n q2) ?_
    refine rh_Ex.blk 7 (s' := ((21, [some (.ref 0), some (.int s4.1), some (.int s4.2.1)], [.int ((3 : Int32) * s4.2.1), .ref 23, .ref 0, .int s4.1]), (s4.2.2.1, g, mw_R s4.2.2.2))) rfl ?_
    obtain ⟨q3, hf⟩ := rh_gq hf
    refine rh_Ex.stp (s' := ((22, [some (.ref 0), some (.int s4.1), some (.int s4.2.1)], [.int (s4.2.2.1 23 ((3 : Int32) * s4.2.1).toNatClampNeg), .ref 0, .int s4.1]), (s4.2.2.1, g, mw_R s4.2.2.2))) rfl (st_iald (n := 30) rfl q3) ?_
    refine rh_Ex.blk 3 (s' := ((28, [some (.ref 0), some (.int s4.1), some (.int s4.2.1)], [.int (10 : Int32), .ref 1, .int (s4.2.2.1 23 ((3 : Int32) * s4.2.1).toNatClampNeg), .ref 0, .int s4.1]), (s4.2.2.1, g, mw_R s4.2.2.2))) rfl ?_
    refine rh_Ex.stp (s' := ((29, [some (.ref 0), some (.int s4.1), some (.int s4.2.1)], [.int (s4.2.2.1 1 (10 : Int32).toNatClampNeg), .int (s4.2.2.1 23 ((3 : Int32) * s4.2.1).toNatClampNeg), .ref 0, .int s4.1]), (s4.2.2.1, g, mw_R s4.2.2.2))) rfl (st_iald (n := 11) rfl (by decide)) ?_
    refine rh_Ex.blk 7 (s' := ((38, [some (.ref 0), some (.int s4.1), some (.int s4.2.1)], [.int (((3 : Int32) * s4.2.1) + (1 : Int32)), .ref 23, .int (s4.2.2.1 1 (10 : Int32).toNatClampNeg), .int (s4.2.2.1 23 ((3 : Int32) * s4.2.1).toNatClampNeg), .ref 0, .int s4.1]), (s4.2.2.1, g, mw_R s4.2.2.2))) rfl ?_
    obtain ⟨q4, hf⟩ := rh_gq hf
    refine rh_Ex.stp (s' := ((39, [some (.ref 0), some (.int s4.1), some (.int s4.2.1)], [.int (s4.2.2.1 23 (((3 : Int32) * s4.2.1) + (1 : Int32)).toNatClampNeg), .int (s4.2.2.1 1 (10 : Int32).toNatClampNeg), .int (s4.2.2.1 23 ((3 : Int32) * s4.2.1).toNatClampNeg), .ref 0, .int s4.1]), (s4.2.2.1, g, mw_R s4.2.2.2))) rfl (st_iald (n := 30) rfl q4) ?_
    refine rh_Ex.blk 1 (s' := ((40, [some (.ref 0), some (.int s4.1), some (.int s4.2.1)], [.int ((s4.2.2.1 1 (10 : Int32).toNatClampNeg) + (s4.2.2.1 23 (((3 : Int32) * s4.2.1) + (1 : Int32)).toNatClampNeg)), .int (s4.2.2.1 23 ((3 : Int32) * s4.2.1).toNatClampNeg), .ref 0, .int s4.1]), (s4.2.2.1, g, mw_R s4.2.2.2))) rfl ?_
    obtain ⟨x5, hx5, hf⟩ := rh_bq hf
    refine rh_Ex.call (j := 207) (rc := some 11) [.ref 0, .int (s4.2.2.1 23 ((3 : Int32) * s4.2.1).toNatClampNeg), .int ((s4.2.2.1 1 (10 : Int32).toNatClampNeg) + (s4.2.2.1 23 (((3 : Int32) * s4.2.1) + (1 : Int32)).toNatClampNeg))] [.int s4.1] (some (.int x5.1)) rfl rfl rfl (Nat.le_of_ble_eq_true rfl) (R_Mo_weightOfAll d s4.2.2.2 s4.2.2.1 g (s4.2.2.1 23 ((3 : Int32) * s4.2.1).toNatClampNeg) ((s4.2.2.1 1 (10 : Int32).toNatClampNeg) + (s4.2.2.1 23 (((3 : Int32) * s4.2.1) + (1 : Int32)).toNatClampNeg)) hx5) ?_
    show rh_Ex _ _ _ ((43, [some (.ref 0), some (.int s4.1), some (.int s4.2.1)], [.int x5.1, .int s4.1]), (x5.2.1, g, mw_R x5.2.2)) _ _
    refine rh_Ex.blk 7 (s' := ((52, [some (.ref 0), some (.int s4.1), some (.int s4.2.1)], [.int (((3 : Int32) * s4.2.1) + (2 : Int32)), .ref 23, .int x5.1, .int s4.1]), (x5.2.1, g, mw_R x5.2.2))) rfl ?_
    obtain ⟨q6, hf⟩ := rh_gq hf
    refine rh_Ex.stp (s' := ((53, [some (.ref 0), some (.int s4.1), some (.int s4.2.1)], [.int (x5.2.1 23 (((3 : Int32) * s4.2.1) + (2 : Int32)).toNatClampNeg), .int x5.1, .int s4.1]), (x5.2.1, g, mw_R x5.2.2))) rfl (st_iald (n := 30) rfl q6) ?_
    by_cases q7 : x5.1 = (x5.2.1 23 (((3 : Int32) * s4.2.1) + (2 : Int32)).toNatClampNeg)
    · rw [if_pos q7] at hf
      refine rh_Ex.stp (s' := ((56, [some (.ref 0), some (.int s4.1), some (.int s4.2.1)], [.int s4.1]), (x5.2.1, g, mw_R x5.2.2))) rfl (st_icne_p q7) ?_
      refine rh_Ex.blk 6 (s' := ((4, [some (.ref 0), some (.int (s4.1 ||| (0 : Int32))), some (.int (s4.2.1 + (1 : Int32)))], []), (x5.2.1, g, mw_R x5.2.2))) rfl ?_
      obtain rfl := Option.some.inj hf
      refine rh_Ex.fgt [some (.ref 0), some (.int (s4.1 ||| (0 : Int32))), some (.int (s4.2.1 + (1 : Int32)))] ⟨rfl, rfl, rfl, trivial⟩ ?_
      exact hk
    · rw [if_neg q7] at hf
      refine rh_Ex.stp (s' := ((60, [some (.ref 0), some (.int s4.1), some (.int s4.2.1)], [.int s4.1]), (x5.2.1, g, mw_R x5.2.2))) rfl (st_icne_n q7) ?_
      refine rh_Ex.blk 7 (s' := ((4, [some (.ref 0), some (.int (s4.1 ||| ((1 : Int32) <<< (s4.2.1 &&& 31)))), some (.int (s4.2.1 + (1 : Int32)))], []), (x5.2.1, g, mw_R x5.2.2))) rfl ?_
      obtain rfl := Option.some.inj hf
      refine rh_Ex.fgt [some (.ref 0), some (.int (s4.1 ||| ((1 : Int32) <<< (s4.2.1 &&& 31)))), some (.int (s4.2.1 + (1 : Int32)))] ⟨rfl, rfl, rfl, trivial⟩ ?_
      exact hk
set_option maxRecDepth 20000 in
set_option maxHeartbeats 4000000 in
theorem R_Mo_falseOnes (d : Nat) (rd : Option Nat) (h : Nat → Nat → Int32) (g : Nat → Nat → Int64)  {z9 : Int32 × (Nat → Nat → Int32) × (Option Nat)} (hf : f_Mo_falseOnes h rd = some z9) : rh_M rh_PT mw_L (d + 269) 281 [.ref 0] (h, g, mw_R rd) (some (.int z9.1)) (z9.2.1, g, mw_R z9.2.2) := by
  unfold f_Mo_falseOnes at hf
  refine rh_go pt_281 (Nat.le_of_ble_eq_true rfl) (lv := [some (.ref 0), none, none]) rfl ?_
  refine rh_Ex.blk 4 (s' := ((4, [some (.ref 0), some (.int (0 : Int32)), some (.int (0 : Int32))], []), (h, g, mw_R rd))) rfl ?_
  obtain ⟨r8, hr8, hf⟩ := rh_bq hf
  refine rh_Ex.fgt [some (.ref 0), some (.int (0 : Int32)), some (.int (0 : Int32))] ⟨rfl, rfl, rfl, trivial⟩ ?_
  refine rh_Ex.loop _ _ _ (lb_Mo_falseOnes_4 d   g _ _) rh_N _ r8 hr8 ?_
  refine rh_Ex.blk 1 (s' := ((72, [none, some (.int r8.1), none], [.int r8.1]), (r8.2.1, g, mw_R r8.2.2))) rfl ?_
  obtain rfl := Option.some.inj hf
  exact rh_Ex.ret rfl rfl
def f_Mo_believed (h : Nat → Nat → Int32) (rd : Option Nat) : Option (Int32 × (Nat → Nat → Int32) × (Option Nat)) :=
  (f_Mo_falseOnes (rh_up h 0 9 (0 : Int32)) rd).bind (fun x1 =>
    (f_Mo_tell (rh_up x1.2.1 0 8 (0 : Int32)) x1.1).bind (fun x2 =>
      if x1.1 = 0 then
        some (((1 : Int32), x2, x1.2.2))
      else
        some (((0 : Int32), x2, x1.2.2))
    )
  )
set_option maxRecDepth 20000 in
set_option maxHeartbeats 4000000 in
theorem R_Mo_believed (d : Nat) (rd : Option Nat) (h : Nat → Nat → Int32) (g : Nat → Nat → Int64)  {z9 : Int32 × (Nat → Nat → Int32) × (Option Nat)} (hf : f_Mo_believed h rd = some z9) : rh_M rh_PT mw_L (d + 270) 282 [.ref 0] (h, g, mw_R rd) (some (.int z9.1)) (z9.2.1, g, mw_R z9.2.2) := by
  unfold f_Mo_believed at hf
  refine rh_go pt_282 (Nat.le_of_ble_eq_true rfl) (lv := [some (.ref 0), none]) rfl ?_
  refine rh_Ex.blk 4 (s' := ((6, [some (.ref 0), none], [.ref 0]), (rh_up h 0 9 (0 : Int32), g, mw_R rd))) rfl ?_
  obtain ⟨x1, hx1, hf⟩ := rh_bq hf
  refine rh_Ex.call (j := 281) (rc := some 11) [.ref 0] [] (some (.int x1.1)) rfl rfl rfl (Nat.le_of_ble_eq_true rfl) (R_Mo_falseOnes d rd (rh_up h 0 9 (0 : Int32)) g  hx1) ?_
  show rh_Ex _ _ _ ((9, [some (.ref 0), none], [.int x1.1]), (x1.2.1, g, mw_R x1.2.2)) _ _
  refine rh_Ex.blk 6 (s' := ((17, [some (.ref 0), some (.int x1.1)], [.int x1.1, .ref 0]), (rh_up x1.2.1 0 8 (0 : Int32), g, mw_R x1.2.2))) rfl ?_
  obtain ⟨x2, hx2, hf⟩ := rh_bq hf
  refine rh_Ex.call (j := 182) (rc := some 11) [.ref 0, .int x1.1] [] none rfl rfl rfl (Nat.le_of_ble_eq_true rfl) (R_Mo_tell (d + 268) x1.2.2 (rh_up x1.2.1 0 8 (0 : Int32)) g x1.1 hx2) ?_
  show rh_Ex _ _ _ ((20, [some (.ref 0), some (.int x1.1)], []), (x2, g, mw_R x1.2.2)) _ _
  refine rh_Ex.blk 1 (s' := ((21, [some (.ref 0), some (.int x1.1)], [.int x1.1]), (x2, g, mw_R x1.2.2))) rfl ?_
  by_cases q3 : x1.1 = 0
  · rw [if_pos q3] at hf
    refine rh_Ex.stp (s' := ((24, [some (.ref 0), some (.int x1.1)], []), (x2, g, mw_R x1.2.2))) rfl (st_ifne_p q3) ?_
    refine rh_Ex.blk 2 (s' := ((29, [some (.ref 0), some (.int x1.1)], [.int (1 : Int32)]), (x2, g, mw_R x1.2.2))) rfl ?_
    obtain rfl := Option.some.inj hf
    exact rh_Ex.ret rfl rfl
  · rw [if_neg q3] at hf
    refine rh_Ex.stp (s' := ((28, [some (.ref 0), some (.int x1.1)], []), (x2, g, mw_R x1.2.2))) rfl (st_ifne_n q3) ?_
    refine rh_Ex.blk 1 (s' := ((29, [some (.ref 0), some (.int x1.1)], [.int (0 : Int32)]), (x2, g, mw_R x1.2.2))) rfl ?_
    obtain rfl := Option.some.inj hf
    exact rh_Ex.ret rfl rfl
def b_Mo_findBases_12 (u1 : Int32) : (Int32 × (Nat → Nat → Int32) × (Option Nat)) → Option ((Int32 × (Nat → Nat → Int32) × (Option Nat)) ⊕ ((Nat → Nat → Int32) × (Option Nat))) := fun s12 =>
  if (s12.2.1 0 39) ≤ s12.1 then
    some (.inr (s12.2.1, s12.2.2))
  else
    rh_g (0 ≤ (((3 : Int32) * s12.1) + (2 : Int32)).toInt ∧ (((3 : Int32) * s12.1) + (2 : Int32)).toInt < ((30 : Nat) : Int)) (
      rh_g (0 ≤ ((3 : Int32) * s12.1).toInt ∧ ((3 : Int32) * s12.1).toInt < ((30 : Nat) : Int)) (
        rh_g (0 ≤ (((3 : Int32) * s12.1) + (1 : Int32)).toInt ∧ (((3 : Int32) * s12.1) + (1 : Int32)).toInt < ((30 : Nat) : Int)) (
          (f_Mo_weightOfAll s12.2.1 s12.2.2 ((s12.2.1 23 ((3 : Int32) * s12.1).toNatClampNeg) &&& (((1 : Int32) <<< (u1 &&& 31)) ^^^ (-1 : Int32))) ((s12.2.1 1 (10 : Int32).toNatClampNeg) + (s12.2.1 23 (((3 : Int32) * s12.1) + (1 : Int32)).toNatClampNeg))).bind (fun x6 =>
            rh_g (0 ≤ s12.1.toInt ∧ s12.1.toInt < ((10 : Nat) : Int)) (
              some (.inl (s12.1 + (1 : Int32), rh_up x6.2.1 24 s12.1.toNatClampNeg ((s12.2.1 23 (((3 : Int32) * s12.1) + (2 : Int32)).toNatClampNeg) - x6.1), x6.2.2))
            )
          )
        )
      )
    )
def b_Mo_findBases_93 (u1 : Int32) (u2 : Int32) : (Int32 × Int32 × (Nat → Nat → Int32) × (Option Nat)) → Option ((Int32 × Int32 × (Nat → Nat → Int32) × (Option Nat)) ⊕ (Int32 × (Nat → Nat → Int32) × (Option Nat))) := fun s93 =>
  if (s93.2.2.1 0 39) ≤ s93.2.1 then
    some (.inr (s93.1, s93.2.2.1, s93.2.2.2))
  else
    if s93.1 = 0 then
      some (.inr (s93.1, s93.2.2.1, s93.2.2.2))
    else
      rh_g (0 ≤ ((3 : Int32) * s93.2.1).toInt ∧ ((3 : Int32) * s93.2.1).toInt < ((30 : Nat) : Int)) (
        if (f_Mo_has (s93.2.2.1 23 ((3 : Int32) * s93.2.1).toNatClampNeg) u1) = 0 then
          rh_g (0 ≤ s93.2.1.toInt ∧ s93.2.1.toInt < ((10 : Nat) : Int)) (
            if (0 : Int32) = (s93.2.2.1 24 s93.2.1.toNatClampNeg) then
              some (.inl ((1 : Int32), s93.2.1 + (1 : Int32), s93.2.2.1, s93.2.2.2))
            else
              some (.inl ((0 : Int32), s93.2.1 + (1 : Int32), s93.2.2.1, s93.2.2.2))
          )
        else
          rh_g (0 ≤ (((3 : Int32) * s93.2.1) + (1 : Int32)).toInt ∧ (((3 : Int32) * s93.2.1) + (1 : Int32)).toInt < ((30 : Nat) : Int)) (
            (f_Mo_weightBy s93.2.2.1 s93.2.2.2 u1 u2 ((s93.2.2.1 1 (10 : Int32).toNatClampNeg) + (s93.2.2.1 23 (((3 : Int32) * s93.2.1) + (1 : Int32)).toNatClampNeg))).bind (fun x19 =>
              rh_g (0 ≤ s93.2.1.toInt ∧ s93.2.1.toInt < ((10 : Nat) : Int)) (
                if x19.1 = (x19.2.1 24 s93.2.1.toNatClampNeg) then
                  some (.inl ((1 : Int32), s93.2.1 + (1 : Int32), x19.2.1, x19.2.2))
                else
                  some (.inl ((0 : Int32), s93.2.1 + (1 : Int32), x19.2.1, x19.2.2))
              )
            )
          )
      )
def j_Mo_findBases_173 (h : Nat → Nat → Int32) (rd : Option Nat) (u1 : Int32) (j2 : Int32) (j3 : Int32) : Option ((Int32 × (Nat → Nat → Int32) × (Option Nat)) ⊕ ((Nat → Nat → Int32) × (Option Nat))) :=
  if j3 = 0 then
    some (.inl (j2 + (1 : Int32), h, rd))
  else
    if (h 0 42) = 0 then
      rh_g (0 ≤ u1.toInt ∧ u1.toInt < ((9 : Nat) : Int)) (
        if j2 = ((rh_up (rh_up (rh_up h 0 40 j2) 0 41 j2) 0 42 ((h 0 42) + (1 : Int32))) 2 u1.toNatClampNeg) then
          some (.inl (j2 + (1 : Int32), rh_up (rh_up (rh_up h 0 40 j2) 0 41 j2) 0 42 ((h 0 42) + (1 : Int32)), rd))
        else
          some (.inl (j2 + (1 : Int32), rh_up (rh_up (rh_up (rh_up h 0 40 j2) 0 41 j2) 0 42 ((h 0 42) + (1 : Int32))) 0 43 ((h 0 43) + (1 : Int32)), rd))
      )
    else
      rh_g (0 ≤ u1.toInt ∧ u1.toInt < ((9 : Nat) : Int)) (
        if j2 = ((rh_up (rh_up h 0 41 j2) 0 42 ((h 0 42) + (1 : Int32))) 2 u1.toNatClampNeg) then
          some (.inl (j2 + (1 : Int32), rh_up (rh_up h 0 41 j2) 0 42 ((h 0 42) + (1 : Int32)), rd))
        else
          some (.inl (j2 + (1 : Int32), rh_up (rh_up (rh_up h 0 41 j2) 0 42 ((h 0 42) + (1 : Int32))) 0 43 ((h 0 43) + (1 : Int32)), rd))
      )
def b_Mo_findBases_81 (u1 : Int32) : (Int32 × (Nat → Nat → Int32) × (Option Nat)) → Option ((Int32 × (Nat → Nat → Int32) × (Option Nat)) ⊕ ((Nat → Nat → Int32) × (Option Nat))) := fun s81 =>
  if (999 : Int32) < s81.1 then
    some (.inr (s81.2.1, s81.2.2))
  else
    (rh_loop (b_Mo_findBases_93 u1 s81.1) rh_N ((1 : Int32), (0 : Int32), s81.2.1, s81.2.2)).bind (fun r22 =>
      j_Mo_findBases_173 r22.2.1 r22.2.2 u1 s81.1 r22.1
    )
def f_Mo_findBases (h : Nat → Nat → Int32) (rd : Option Nat) (p0 : Int32) : Option ((Nat → Nat → Int32) × (Option Nat)) :=
  (rh_loop (b_Mo_findBases_12 p0) rh_N ((0 : Int32), rh_up (rh_up h 0 42 (0 : Int32)) 0 43 (0 : Int32), rd)).bind (fun r8 =>
    (rh_loop (b_Mo_findBases_81 p0) rh_N ((1 : Int32), r8.1, r8.2)).bind (fun r29 =>
      some ((r29.1, r29.2))
    )
  )
set_option maxRecDepth 20000 in
set_option maxHeartbeats 4000000 in
theorem lb_Mo_findBases_12 (d : Nat) (u1 : Int32) (g : Nat → Nat → Int64) (v9 : Option Value) (h9 : rh_H) : ∀ s12 x9, b_Mo_findBases_12 u1 s12 = some x9 → Sum.elim (fun s12 => rh_Ex (rh_M rh_PT mw_L (d + 268)) mw_L pg_X12_findBases ((12, [some (.ref 0), some (.int u1), some (.int s12.1), none, none], []), (s12.2.1, g, mw_R s12.2.2)) v9 h9) (fun e9 => rh_Ex (rh_M rh_PT mw_L (d + 268)) mw_L pg_X12_findBases ((79, [some (.ref 0), some (.int u1), none, none, none], []), (e9.1, g, mw_R e9.2)) v9 h9) x9 → rh_Ex (rh_M rh_PT mw_L (d + 268)) mw_L pg_X12_findBases ((12, [some (.ref 0), some (.int u1), some (.int s12.1), none, none], []), (s12.2.1, g, mw_R s12.2.2)) v9 h9 := by
  intro s12 x9 hf hk
  unfold b_Mo_findBases_12 at hf
  refine rh_Ex.blk 3 (s' := ((17, [some (.ref 0), some (.int u1), some (.int s12.1), none, none], [.int (s12.2.1 0 39), .int s12.1]), (s12.2.1, g, mw_R s12.2.2))) rfl ?_
  by_cases q2 : (s12.2.1 0 39) ≤ s12.1
  · rw [if_pos q2] at hf
    refine rh_Ex.stp (s' := ((79, [some (.ref 0), some (.int u1), some (.int s12.1), none, none], []), (s12.2.1, g, mw_R s12.2.2))) rfl (st_icge_p q2) ?_
    obtain rfl := Option.some.inj hf
    refine rh_Ex.fgt [some (.ref 0), some (.int u1), none, none, none] ⟨rfl, rfl, trivial⟩ ?_
    exact hk
  · rw [if_neg q2] at hf
    refine rh_Ex.stp (s' := ((20, [some (.ref 0), some (.int u1), some (.int s12.1), none, none], []), (s12.2.1, g, mw_R s12.2.2))) rfl (st_icge_n q2) ?_
    refine rh_Ex.blk 10 (s' := ((34, [some (.ref 0), some (.int u1), some (.int s12.1), none, none], [.int (((3 : Int32) * s12.1) + (2 : Int32)), .ref 23, .int s12.1, .ref 24]), (s12.2.1, g, mw_R s12.2.2))) rfl ?_
    obtain ⟨q3, hf⟩ := rh_gq hf
    refine rh_Ex.stp (s' := ((35, [some (.ref 0), some (.int u1), some (.int s12.1), none, none], [.int (s12.2.1 23 (((3 : Int32) * s12.1) + (2 : Int32)).toNatClampNeg), .int s12.1, .ref 24]), (s12.2.1, g, mw_R s12.2.2))) rfl (st_iald (n := 30) rfl q3) ?_
    refine rh_Ex.blk 6 (s' := ((43, [some (.ref 0), some (.int u1), some (.int s12.1), none, none], [.int ((3 : Int32) * s12.1), .ref 23, .ref 0, .int (s12.2.1 23 (((3 : Int32) * s12.1) + (2 : Int32)).toNatClampNeg), .int s12.1, .ref 24]), (s12.2.1, g, mw_R s12.2.2))) rfl ?_
    obtain ⟨q4, hf⟩ := rh_gq hf
    refine rh_Ex.stp (s' := ((44, [some (.ref 0), some (.int u1), some (.int s12.1), none, none], [.int (s12.2.1 23 ((3 : Int32) * s12.1).toNatClampNeg), .ref 0, .int (s12.2.1 23 (((3 : Int32) * s12.1) + (2 : Int32)).toNatClampNeg), .int s12.1, .ref 24]), (s12.2.1, g, mw_R s12.2.2))) rfl (st_iald (n := 30) rfl q4) ?_
    refine rh_Ex.blk 9 (s' := ((56, [some (.ref 0), some (.int u1), some (.int s12.1), none, none], [.int (10 : Int32), .ref 1, .int ((s12.2.1 23 ((3 : Int32) * s12.1).toNatClampNeg) &&& (((1 : Int32) <<< (u1 &&& 31)) ^^^ (-1 : Int32))), .ref 0, .int (s12.2.1 23 (((3 : Int32) * s12.1) + (2 : Int32)).toNatClampNeg), .int s12.1, .ref 24]), (s12.2.1, g, mw_R s12.2.2))) rfl ?_
    refine rh_Ex.stp (s' := ((57, [some (.ref 0), some (.int u1), some (.int s12.1), none, none], [.int (s12.2.1 1 (10 : Int32).toNatClampNeg), .int ((s12.2.1 23 ((3 : Int32) * s12.1).toNatClampNeg) &&& (((1 : Int32) <<< (u1 &&& 31)) ^^^ (-1 : Int32))), .ref 0, .int (s12.2.1 23 (((3 : Int32) * s12.1) + (2 : Int32)).toNatClampNeg), .int s12.1, .ref 24]), (s12.2.1, g, mw_R s12.2.2))) rfl (st_iald (n := 11) rfl (by decide)) ?_
    refine rh_Ex.blk 7 (s' := ((66, [some (.ref 0), some (.int u1), some (.int s12.1), none, none], [.int (((3 : Int32) * s12.1) + (1 : Int32)), .ref 23, .int (s12.2.1 1 (10 : Int32).toNatClampNeg), .int ((s12.2.1 23 ((3 : Int32) * s12.1).toNatClampNeg) &&& (((1 : Int32) <<< (u1 &&& 31)) ^^^ (-1 : Int32))), .ref 0, .int (s12.2.1 23 (((3 : Int32) * s12.1) + (2 : Int32)).toNatClampNeg), .int s12.1, .ref 24]), (s12.2.1, g, mw_R s12.2.2))) rfl ?_
    obtain ⟨q5, hf⟩ := rh_gq hf
    refine rh_Ex.stp (s' := ((67, [some (.ref 0), some (.int u1), some (.int s12.1), none, none], [.int (s12.2.1 23 (((3 : Int32) * s12.1) + (1 : Int32)).toNatClampNeg), .int (s12.2.1 1 (10 : Int32).toNatClampNeg), .int ((s12.2.1 23 ((3 : Int32) * s12.1).toNatClampNeg) &&& (((1 : Int32) <<< (u1 &&& 31)) ^^^ (-1 : Int32))), .ref 0, .int (s12.2.1 23 (((3 : Int32) * s12.1) + (2 : Int32)).toNatClampNeg), .int s12.1, .ref 24]), (s12.2.1, g, mw_R s12.2.2))) rfl (st_iald (n := 30) rfl q5) ?_
    refine rh_Ex.blk 1 (s' := ((68, [some (.ref 0), some (.int u1), some (.int s12.1), none, none], [.int ((s12.2.1 1 (10 : Int32).toNatClampNeg) + (s12.2.1 23 (((3 : Int32) * s12.1) + (1 : Int32)).toNatClampNeg)), .int ((s12.2.1 23 ((3 : Int32) * s12.1).toNatClampNeg) &&& (((1 : Int32) <<< (u1 &&& 31)) ^^^ (-1 : Int32))), .ref 0, .int (s12.2.1 23 (((3 : Int32) * s12.1) + (2 : Int32)).toNatClampNeg), .int s12.1, .ref 24]), (s12.2.1, g, mw_R s12.2.2))) rfl ?_
    obtain ⟨x6, hx6, hf⟩ := rh_bq hf
    refine rh_Ex.call (j := 207) (rc := some 11) [.ref 0, .int ((s12.2.1 23 ((3 : Int32) * s12.1).toNatClampNeg) &&& (((1 : Int32) <<< (u1 &&& 31)) ^^^ (-1 : Int32))), .int ((s12.2.1 1 (10 : Int32).toNatClampNeg) + (s12.2.1 23 (((3 : Int32) * s12.1) + (1 : Int32)).toNatClampNeg))] [.int (s12.2.1 23 (((3 : Int32) * s12.1) + (2 : Int32)).toNatClampNeg), .int s12.1, .ref 24] (some (.int x6.1)) rfl rfl rfl (Nat.le_of_ble_eq_true rfl) (R_Mo_weightOfAll d s12.2.2 s12.2.1 g ((s12.2.1 23 ((3 : Int32) * s12.1).toNatClampNeg) &&& (((1 : Int32) <<< (u1 &&& 31)) ^^^ (-1 : Int32))) ((s12.2.1 1 (10 : Int32).toNatClampNeg) + (s12.2.1 23 (((3 : Int32) * s12.1) + (1 : Int32)).toNatClampNeg)) hx6) ?_
    show rh_Ex _ _ _ ((71, [some (.ref 0), some (.int u1), some (.int s12.1), none, none], [.int x6.1, .int (s12.2.1 23 (((3 : Int32) * s12.1) + (2 : Int32)).toNatClampNeg), .int s12.1, .ref 24]), (x6.2.1, g, mw_R x6.2.2)) _ _
    refine rh_Ex.blk 1 (s' := ((72, [some (.ref 0), some (.int u1), some (.int s12.1), none, none], [.int ((s12.2.1 23 (((3 : Int32) * s12.1) + (2 : Int32)).toNatClampNeg) - x6.1), .int s12.1, .ref 24]), (x6.2.1, g, mw_R x6.2.2))) rfl ?_
    obtain ⟨q7, hf⟩ := rh_gq hf
    refine rh_Ex.stp (s' := ((73, [some (.ref 0), some (.int u1), some (.int s12.1), none, none], []), (rh_up x6.2.1 24 s12.1.toNatClampNeg ((s12.2.1 23 (((3 : Int32) * s12.1) + (2 : Int32)).toNatClampNeg) - x6.1), g, mw_R x6.2.2))) rfl (st_iast (n := 10) rfl q7) ?_
    refine rh_Ex.blk 2 (s' := ((12, [some (.ref 0), some (.int u1), some (.int (s12.1 + (1 : Int32))), none, none], []), (rh_up x6.2.1 24 s12.1.toNatClampNeg ((s12.2.1 23 (((3 : Int32) * s12.1) + (2 : Int32)).toNatClampNeg) - x6.1), g, mw_R x6.2.2))) rfl ?_
    obtain rfl := Option.some.inj hf
    refine rh_Ex.fgt [some (.ref 0), some (.int u1), some (.int (s12.1 + (1 : Int32))), none, none] ⟨rfl, rfl, rfl, trivial⟩ ?_
    exact hk
set_option maxRecDepth 20000 in
set_option maxHeartbeats 4000000 in
theorem lb_Mo_findBases_93 (d : Nat) (u1 : Int32) (u2 : Int32) (g : Nat → Nat → Int64) (v9 : Option Value) (h9 : rh_H) : ∀ s93 x9, b_Mo_findBases_93 u1 u2 s93 = some x9 → Sum.elim (fun s93 => rh_Ex (rh_M rh_PT mw_L (d + 268)) mw_L pg_X12_findBases ((93, [some (.ref 0), some (.int u1), some (.int u2), some (.int s93.1), some (.int s93.2.1)], []), (s93.2.2.1, g, mw_R s93.2.2.2)) v9 h9) (fun e9 => rh_Ex (rh_M rh_PT mw_L (d + 268)) mw_L pg_X12_findBases ((173, [some (.ref 0), some (.int u1), some (.int u2), some (.int e9.1), none], []), (e9.2.1, g, mw_R e9.2.2)) v9 h9) x9 → rh_Ex (rh_M rh_PT mw_L (d + 268)) mw_L pg_X12_findBases ((93, [some (.ref 0), some (.int u1), some (.int u2), some (.int s93.1), some (.int s93.2.1)], []), (s93.2.2.1, g, mw_R s93.2.2.2)) v9 h9 := by
  intro s93 x9 hf hk
  unfold b_Mo_findBases_93 at hf
  refine rh_Ex.blk 3 (s' := ((99, [some (.ref 0), some (.int u1), some (.int u2), some (.int s93.1), some (.int s93.2.1)], [.int (s93.2.2.1 0 39), .int s93.2.1]), (s93.2.2.1, g, mw_R s93.2.2.2))) rfl ?_
  by_cases q12 : (s93.2.2.1 0 39) ≤ s93.2.1
  · rw [if_pos q12] at hf
    refine rh_Ex.stp (s' := ((173, [some (.ref 0), some (.int u1), some (.int u2), some (.int s93.1), some (.int s93.2.1)], []), (s93.2.2.1, g, mw_R s93.2.2.2))) rfl (st_icge_p q12) ?_
    obtain rfl := Option.some.inj hf
    refine rh_Ex.fgt [some (.ref 0), some (.int u1), some (.int u2), some (.int s93.1), none] ⟨rfl, rfl, rfl, rfl, trivial⟩ ?_
    exact hk
  · rw [if_neg q12] at hf
    refine rh_Ex.stp (s' := ((102, [some (.ref 0), some (.int u1), some (.int u2), some (.int s93.1), some (.int s93.2.1)], []), (s93.2.2.1, g, mw_R s93.2.2.2))) rfl (st_icge_n q12) ?_
    refine rh_Ex.blk 1 (s' := ((103, [some (.ref 0), some (.int u1), some (.int u2), some (.int s93.1), some (.int s93.2.1)], [.int s93.1]), (s93.2.2.1, g, mw_R s93.2.2.2))) rfl ?_
    by_cases q13 : s93.1 = 0
    · rw [if_pos q13] at hf
      refine rh_Ex.stp (s' := ((173, [some (.ref 0), some (.int u1), some (.int u2), some (.int s93.1), some (.int s93.2.1)], []), (s93.2.2.1, g, mw_R s93.2.2.2))) rfl (st_ifeq_p q13) ?_
      obtain rfl := Option.some.inj hf
      refine rh_Ex.fgt [some (.ref 0), some (.int u1), some (.int u2), some (.int s93.1), none] ⟨rfl, rfl, rfl, rfl, trivial⟩ ?_
      exact hk
    · rw [if_neg q13] at hf
      refine rh_Ex.stp (s' := ((106, [some (.ref 0), some (.int u1), some (.int u2), some (.int s93.1), some (.int s93.2.1)], []), (s93.2.2.1, g, mw_R s93.2.2.2))) rfl (st_ifeq_n q13) ?_
      refine rh_Ex.blk 5 (s' := ((114, [some (.ref 0), some (.int u1), some (.int u2), some (.int s93.1), some (.int s93.2.1)], [.int ((3 : Int32) * s93.2.1), .ref 23]), (s93.2.2.1, g, mw_R s93.2.2.2))) rfl ?_
      obtain ⟨q14, hf⟩ := rh_gq hf
      refine rh_Ex.stp (s' := ((115, [some (.ref 0), some (.int u1), some (.int u2), some (.int s93.1), some (.int s93.2.1)], [.int (s93.2.2.1 23 ((3 : Int32) * s93.2.1).toNatClampNeg)]), (s93.2.2.1, g, mw_R s93.2.2.2))) rfl (st_iald (n := 30) rfl q14) ?_
      refine rh_Ex.blk 1 (s' := ((116, [some (.ref 0), some (.int u1), some (.int u2), some (.int s93.1), some (.int s93.2.1)], [.int u1, .int (s93.2.2.1 23 ((3 : Int32) * s93.2.1).toNatClampNeg)]), (s93.2.2.1, g, mw_R s93.2.2.2))) rfl ?_
      refine rh_Ex.call (j := 180) (rc := none) [.int (s93.2.2.1 23 ((3 : Int32) * s93.2.1).toNatClampNeg), .int u1] [] (some (.int (f_Mo_has (s93.2.2.1 23 ((3 : Int32) * s93.2.1).toNatClampNeg) u1))) rfl rfl trivial (Nat.le_of_ble_eq_true rfl) (R_Mo_has (d + 267) mw_L (mw_R s93.2.2.2) s93.2.2.1 g (s93.2.2.1 23 ((3 : Int32) * s93.2.1).toNatClampNeg) u1 rfl) ?_
      show rh_Ex _ _ _ ((119, [some (.ref 0), some (.int u1), some (.int u2), some (.int s93.1), some (.int s93.2.1)], [.int (f_Mo_has (s93.2.2.1 23 ((3 : Int32) * s93.2.1).toNatClampNeg) u1)]), (s93.2.2.1, g, mw_R s93.2.2.2)) _ _
      by_cases q15 : (f_Mo_has (s93.2.2.1 23 ((3 : Int32) * s93.2.1).toNatClampNeg) u1) = 0
      · rw [if_pos q15] at hf
        refine rh_Ex.stp (s' := ((150, [some (.ref 0), some (.int u1), some (.int u2), some (.int s93.1), some (.int s93.2.1)], []), (s93.2.2.1, g, mw_R s93.2.2.2))) rfl (st_ifeq_p q15) ?_
        refine rh_Ex.blk 4 (s' := ((157, [some (.ref 0), some (.int u1), some (.int u2), some (.int s93.1), some (.int s93.2.1)], [.int s93.2.1, .ref 24, .int (0 : Int32)]), (s93.2.2.1, g, mw_R s93.2.2.2))) rfl ?_
        obtain ⟨q16, hf⟩ := rh_gq hf
        refine rh_Ex.stp (s' := ((158, [some (.ref 0), some (.int u1), some (.int u2), some (.int s93.1), some (.int s93.2.1)], [.int (s93.2.2.1 24 s93.2.1.toNatClampNeg), .int (0 : Int32)]), (s93.2.2.1, g, mw_R s93.2.2.2))) rfl (st_iald (n := 10) rfl q16) ?_
        by_cases q17 : (0 : Int32) = (s93.2.2.1 24 s93.2.1.toNatClampNeg)
        · rw [if_pos q17] at hf
          refine rh_Ex.stp (s' := ((161, [some (.ref 0), some (.int u1), some (.int u2), some (.int s93.1), some (.int s93.2.1)], []), (s93.2.2.1, g, mw_R s93.2.2.2))) rfl (st_icne_p q17) ?_
          refine rh_Ex.blk 5 (s' := ((93, [some (.ref 0), some (.int u1), some (.int u2), some (.int (1 : Int32)), some (.int (s93.2.1 + (1 : Int32)))], []), (s93.2.2.1, g, mw_R s93.2.2.2))) rfl ?_
          obtain rfl := Option.some.inj hf
          refine rh_Ex.fgt [some (.ref 0), some (.int u1), some (.int u2), some (.int (1 : Int32)), some (.int (s93.2.1 + (1 : Int32)))] ⟨rfl, rfl, rfl, rfl, rfl, trivial⟩ ?_
          exact hk
        · rw [if_neg q17] at hf
          refine rh_Ex.stp (s' := ((165, [some (.ref 0), some (.int u1), some (.int u2), some (.int s93.1), some (.int s93.2.1)], []), (s93.2.2.1, g, mw_R s93.2.2.2))) rfl (st_icne_n q17) ?_
          refine rh_Ex.blk 4 (s' := ((93, [some (.ref 0), some (.int u1), some (.int u2), some (.int (0 : Int32)), some (.int (s93.2.1 + (1 : Int32)))], []), (s93.2.2.1, g, mw_R s93.2.2.2))) rfl ?_
          obtain rfl := Option.some.inj hf
          refine rh_Ex.fgt [some (.ref 0), some (.int u1), some (.int u2), some (.int (0 : Int32)), some (.int (s93.2.1 + (1 : Int32)))] ⟨rfl, rfl, rfl, rfl, rfl, trivial⟩ ?_
          exact hk
      · rw [if_neg q15] at hf
        refine rh_Ex.stp (s' := ((122, [some (.ref 0), some (.int u1), some (.int u2), some (.int s93.1), some (.int s93.2.1)], []), (s93.2.2.1, g, mw_R s93.2.2.2))) rfl (st_ifeq_n q15) ?_
        refine rh_Ex.blk 6 (s' := ((131, [some (.ref 0), some (.int u1), some (.int u2), some (.int s93.1), some (.int s93.2.1)], [.int (10 : Int32), .ref 1, .int u2, .int u1, .ref 0]), (s93.2.2.1, g, mw_R s93.2.2.2))) rfl ?_
        refine rh_Ex.stp (s' := ((132, [some (.ref 0), some (.int u1), some (.int u2), some (.int s93.1), some (.int s93.2.1)], [.int (s93.2.2.1 1 (10 : Int32).toNatClampNeg), .int u2, .int u1, .ref 0]), (s93.2.2.1, g, mw_R s93.2.2.2))) rfl (st_iald (n := 11) rfl (by decide)) ?_
        refine rh_Ex.blk 7 (s' := ((142, [some (.ref 0), some (.int u1), some (.int u2), some (.int s93.1), some (.int s93.2.1)], [.int (((3 : Int32) * s93.2.1) + (1 : Int32)), .ref 23, .int (s93.2.2.1 1 (10 : Int32).toNatClampNeg), .int u2, .int u1, .ref 0]), (s93.2.2.1, g, mw_R s93.2.2.2))) rfl ?_
        obtain ⟨q18, hf⟩ := rh_gq hf
        refine rh_Ex.stp (s' := ((143, [some (.ref 0), some (.int u1), some (.int u2), some (.int s93.1), some (.int s93.2.1)], [.int (s93.2.2.1 23 (((3 : Int32) * s93.2.1) + (1 : Int32)).toNatClampNeg), .int (s93.2.2.1 1 (10 : Int32).toNatClampNeg), .int u2, .int u1, .ref 0]), (s93.2.2.1, g, mw_R s93.2.2.2))) rfl (st_iald (n := 30) rfl q18) ?_
        refine rh_Ex.blk 1 (s' := ((144, [some (.ref 0), some (.int u1), some (.int u2), some (.int s93.1), some (.int s93.2.1)], [.int ((s93.2.2.1 1 (10 : Int32).toNatClampNeg) + (s93.2.2.1 23 (((3 : Int32) * s93.2.1) + (1 : Int32)).toNatClampNeg)), .int u2, .int u1, .ref 0]), (s93.2.2.1, g, mw_R s93.2.2.2))) rfl ?_
        obtain ⟨x19, hx19, hf⟩ := rh_bq hf
        refine rh_Ex.call (j := 206) (rc := some 11) [.ref 0, .int u1, .int u2, .int ((s93.2.2.1 1 (10 : Int32).toNatClampNeg) + (s93.2.2.1 23 (((3 : Int32) * s93.2.1) + (1 : Int32)).toNatClampNeg))] [] (some (.int x19.1)) rfl rfl rfl (Nat.le_of_ble_eq_true rfl) (R_Mo_weightBy (d + 2) s93.2.2.2 s93.2.2.1 g u1 u2 ((s93.2.2.1 1 (10 : Int32).toNatClampNeg) + (s93.2.2.1 23 (((3 : Int32) * s93.2.1) + (1 : Int32)).toNatClampNeg)) hx19) ?_
        show rh_Ex _ _ _ ((147, [some (.ref 0), some (.int u1), some (.int u2), some (.int s93.1), some (.int s93.2.1)], [.int x19.1]), (x19.2.1, g, mw_R x19.2.2)) _ _
        refine rh_Ex.blk 4 (s' := ((157, [some (.ref 0), some (.int u1), some (.int u2), some (.int s93.1), some (.int s93.2.1)], [.int s93.2.1, .ref 24, .int x19.1]), (x19.2.1, g, mw_R x19.2.2))) rfl ?_
        obtain ⟨q20, hf⟩ := rh_gq hf
        refine rh_Ex.stp (s' := ((158, [some (.ref 0), some (.int u1), some (.int u2), some (.int s93.1), some (.int s93.2.1)], [.int (x19.2.1 24 s93.2.1.toNatClampNeg), .int x19.1]), (x19.2.1, g, mw_R x19.2.2))) rfl (st_iald (n := 10) rfl q20) ?_
        by_cases q21 : x19.1 = (x19.2.1 24 s93.2.1.toNatClampNeg)
        · rw [if_pos q21] at hf
          refine rh_Ex.stp (s' := ((161, [some (.ref 0), some (.int u1), some (.int u2), some (.int s93.1), some (.int s93.2.1)], []), (x19.2.1, g, mw_R x19.2.2))) rfl (st_icne_p q21) ?_
          refine rh_Ex.blk 5 (s' := ((93, [some (.ref 0), some (.int u1), some (.int u2), some (.int (1 : Int32)), some (.int (s93.2.1 + (1 : Int32)))], []), (x19.2.1, g, mw_R x19.2.2))) rfl ?_
          obtain rfl := Option.some.inj hf
          refine rh_Ex.fgt [some (.ref 0), some (.int u1), some (.int u2), some (.int (1 : Int32)), some (.int (s93.2.1 + (1 : Int32)))] ⟨rfl, rfl, rfl, rfl, rfl, trivial⟩ ?_
          exact hk
        · rw [if_neg q21] at hf
          refine rh_Ex.stp (s' := ((165, [some (.ref 0), some (.int u1), some (.int u2), some (.int s93.1), some (.int s93.2.1)], []), (x19.2.1, g, mw_R x19.2.2))) rfl (st_icne_n q21) ?_
          refine rh_Ex.blk 4 (s' := ((93, [some (.ref 0), some (.int u1), some (.int u2), some (.int (0 : Int32)), some (.int (s93.2.1 + (1 : Int32)))], []), (x19.2.1, g, mw_R x19.2.2))) rfl ?_
          obtain rfl := Option.some.inj hf
          refine rh_Ex.fgt [some (.ref 0), some (.int u1), some (.int u2), some (.int (0 : Int32)), some (.int (s93.2.1 + (1 : Int32)))] ⟨rfl, rfl, rfl, rfl, rfl, trivial⟩ ?_
          exact hk
set_option maxRecDepth 20000 in
set_option maxHeartbeats 4000000 in
theorem lj_Mo_findBases_173 (d : Nat) (h : Nat → Nat → Int32) (rd : Option Nat) (u1 : Int32) (j2 : Int32) (j3 : Int32) (g : Nat → Nat → Int64) (v9 : Option Value) (h9 : rh_H) (x9 : (Int32 × (Nat → Nat → Int32) × (Option Nat)) ⊕ ((Nat → Nat → Int32) × (Option Nat))) (hf : j_Mo_findBases_173 h rd u1 j2 j3 = some x9) (hk : Sum.elim (fun s81 => rh_Ex (rh_M rh_PT mw_L (d + 268)) mw_L pg_X12_findBases ((81, [some (.ref 0), some (.int u1), some (.int s81.1), none, none], []), (s81.2.1, g, mw_R s81.2.2)) v9 h9) (fun e9 => rh_Ex (rh_M rh_PT mw_L (d + 268)) mw_L pg_X12_findBases ((233, [none, none, none, none, none], []), (e9.1, g, mw_R e9.2)) v9 h9) x9) : rh_Ex (rh_M rh_PT mw_L (d + 268)) mw_L pg_X12_findBases ((173, [some (.ref 0), some (.int u1), some (.int j2), some (.int j3), none], []), (h, g, mw_R rd)) v9 h9 := by
  unfold j_Mo_findBases_173 at hf
  refine rh_Ex.blk 1 (s' := ((174, [some (.ref 0), some (.int u1), some (.int j2), some (.int j3), none], [.int j3]), (h, g, mw_R rd))) rfl ?_
  by_cases q23 : j3 = 0
  · rw [if_pos q23] at hf
    refine rh_Ex.stp (s' := ((177, [some (.ref 0), some (.int u1), some (.int j2), some (.int j3), none], []), (h, g, mw_R rd))) rfl (st_ifne_p q23) ?_
    refine rh_Ex.blk 3 (s' := ((81, [some (.ref 0), some (.int u1), some (.int (j2 + (1 : Int32))), some (.int j3), none], []), (h, g, mw_R rd))) rfl ?_
    obtain rfl := Option.some.inj hf
    refine rh_Ex.fgt [some (.ref 0), some (.int u1), some (.int (j2 + (1 : Int32))), none, none] ⟨rfl, rfl, rfl, trivial⟩ ?_
    exact hk
  · rw [if_neg q23] at hf
    refine rh_Ex.stp (s' := ((180, [some (.ref 0), some (.int u1), some (.int j2), some (.int j3), none], []), (h, g, mw_R rd))) rfl (st_ifne_n q23) ?_
    refine rh_Ex.blk 2 (s' := ((184, [some (.ref 0), some (.int u1), some (.int j2), some (.int j3), none], [.int (h 0 42)]), (h, g, mw_R rd))) rfl ?_
    by_cases q24 : (h 0 42) = 0
    · rw [if_pos q24] at hf
      refine rh_Ex.stp (s' := ((187, [some (.ref 0), some (.int u1), some (.int j2), some (.int j3), none], []), (h, g, mw_R rd))) rfl (st_ifne_p q24) ?_
      refine rh_Ex.blk 16 (s' := ((213, [some (.ref 0), some (.int u1), some (.int j2), some (.int j3), none], [.int u1, .ref 2, .int j2]), (rh_up (rh_up (rh_up h 0 40 j2) 0 41 j2) 0 42 ((h 0 42) + (1 : Int32)), g, mw_R rd))) rfl ?_
      obtain ⟨q25, hf⟩ := rh_gq hf
      refine rh_Ex.stp (s' := ((214, [some (.ref 0), some (.int u1), some (.int j2), some (.int j3), none], [.int ((rh_up (rh_up (rh_up h 0 40 j2) 0 41 j2) 0 42 ((h 0 42) + (1 : Int32))) 2 u1.toNatClampNeg), .int j2]), (rh_up (rh_up (rh_up h 0 40 j2) 0 41 j2) 0 42 ((h 0 42) + (1 : Int32)), g, mw_R rd))) rfl (st_iald (n := 9) rfl q25) ?_
      by_cases q26 : j2 = ((rh_up (rh_up (rh_up h 0 40 j2) 0 41 j2) 0 42 ((h 0 42) + (1 : Int32))) 2 u1.toNatClampNeg)
      · rw [if_pos q26] at hf
        refine rh_Ex.stp (s' := ((227, [some (.ref 0), some (.int u1), some (.int j2), some (.int j3), none], []), (rh_up (rh_up (rh_up h 0 40 j2) 0 41 j2) 0 42 ((h 0 42) + (1 : Int32)), g, mw_R rd))) rfl (st_iceq_p q26) ?_
        refine rh_Ex.blk 2 (s' := ((81, [some (.ref 0), some (.int u1), some (.int (j2 + (1 : Int32))), some (.int j3), none], []), (rh_up (rh_up (rh_up h 0 40 j2) 0 41 j2) 0 42 ((h 0 42) + (1 : Int32)), g, mw_R rd))) rfl ?_
        obtain rfl := Option.some.inj hf
        refine rh_Ex.fgt [some (.ref 0), some (.int u1), some (.int (j2 + (1 : Int32))), none, none] ⟨rfl, rfl, rfl, trivial⟩ ?_
        exact hk
      · rw [if_neg q26] at hf
        refine rh_Ex.stp (s' := ((217, [some (.ref 0), some (.int u1), some (.int j2), some (.int j3), none], []), (rh_up (rh_up (rh_up h 0 40 j2) 0 41 j2) 0 42 ((h 0 42) + (1 : Int32)), g, mw_R rd))) rfl (st_iceq_n q26) ?_
        refine rh_Ex.blk 8 (s' := ((81, [some (.ref 0), some (.int u1), some (.int (j2 + (1 : Int32))), some (.int j3), none], []), (rh_up (rh_up (rh_up (rh_up h 0 40 j2) 0 41 j2) 0 42 ((h 0 42) + (1 : Int32))) 0 43 ((h 0 43) + (1 : Int32)), g, mw_R rd))) rfl ?_
        obtain rfl := Option.some.inj hf
        refine rh_Ex.fgt [some (.ref 0), some (.int u1), some (.int (j2 + (1 : Int32))), none, none] ⟨rfl, rfl, rfl, trivial⟩ ?_
        exact hk
    · rw [if_neg q24] at hf
      refine rh_Ex.stp (s' := ((192, [some (.ref 0), some (.int u1), some (.int j2), some (.int j3), none], []), (h, g, mw_R rd))) rfl (st_ifne_n q24) ?_
      refine rh_Ex.blk 13 (s' := ((213, [some (.ref 0), some (.int u1), some (.int j2), some (.int j3), none], [.int u1, .ref 2, .int j2]), (rh_up (rh_up h 0 41 j2) 0 42 ((h 0 42) + (1 : Int32)), g, mw_R rd))) rfl ?_
      obtain ⟨q27, hf⟩ := rh_gq hf
      refine rh_Ex.stp (s' := ((214, [some (.ref 0), some (.int u1), some (.int j2), some (.int j3), none], [.int ((rh_up (rh_up h 0 41 j2) 0 42 ((h 0 42) + (1 : Int32))) 2 u1.toNatClampNeg), .int j2]), (rh_up (rh_up h 0 41 j2) 0 42 ((h 0 42) + (1 : Int32)), g, mw_R rd))) rfl (st_iald (n := 9) rfl q27) ?_
      by_cases q28 : j2 = ((rh_up (rh_up h 0 41 j2) 0 42 ((h 0 42) + (1 : Int32))) 2 u1.toNatClampNeg)
      · rw [if_pos q28] at hf
        refine rh_Ex.stp (s' := ((227, [some (.ref 0), some (.int u1), some (.int j2), some (.int j3), none], []), (rh_up (rh_up h 0 41 j2) 0 42 ((h 0 42) + (1 : Int32)), g, mw_R rd))) rfl (st_iceq_p q28) ?_
        refine rh_Ex.blk 2 (s' := ((81, [some (.ref 0), some (.int u1), some (.int (j2 + (1 : Int32))), some (.int j3), none], []), (rh_up (rh_up h 0 41 j2) 0 42 ((h 0 42) + (1 : Int32)), g, mw_R rd))) rfl ?_
        obtain rfl := Option.some.inj hf
        refine rh_Ex.fgt [some (.ref 0), some (.int u1), some (.int (j2 + (1 : Int32))), none, none] ⟨rfl, rfl, rfl, trivial⟩ ?_
        exact hk
      · rw [if_neg q28] at hf
        refine rh_Ex.stp (s' := ((217, [some (.ref 0), some (.int u1), some (.int j2), some (.int j3), none], []), (rh_up (rh_up h 0 41 j2) 0 42 ((h 0 42) + (1 : Int32)), g, mw_R rd))) rfl (st_iceq_n q28) ?_
        refine rh_Ex.blk 8 (s' := ((81, [some (.ref 0), some (.int u1), some (.int (j2 + (1 : Int32))), some (.int j3), none], []), (rh_up (rh_up (rh_up h 0 41 j2) 0 42 ((h 0 42) + (1 : Int32))) 0 43 ((h 0 43) + (1 : Int32)), g, mw_R rd))) rfl ?_
        obtain rfl := Option.some.inj hf
        refine rh_Ex.fgt [some (.ref 0), some (.int u1), some (.int (j2 + (1 : Int32))), none, none] ⟨rfl, rfl, rfl, trivial⟩ ?_
        exact hk
set_option maxRecDepth 20000 in
set_option maxHeartbeats 4000000 in
theorem lb_Mo_findBases_81 (d : Nat) (u1 : Int32) (g : Nat → Nat → Int64) (v9 : Option Value) (h9 : rh_H) : ∀ s81 x9, b_Mo_findBases_81 u1 s81 = some x9 → Sum.elim (fun s81 => rh_Ex (rh_M rh_PT mw_L (d + 268)) mw_L pg_X12_findBases ((81, [some (.ref 0), some (.int u1), some (.int s81.1), none, none], []), (s81.2.1, g, mw_R s81.2.2)) v9 h9) (fun e9 => rh_Ex (rh_M rh_PT mw_L (d + 268)) mw_L pg_X12_findBases ((233, [none, none, none, none, none], []), (e9.1, g, mw_R e9.2)) v9 h9) x9 → rh_Ex (rh_M rh_PT mw_L (d + 268)) mw_L pg_X12_findBases ((81, [some (.ref 0), some (.int u1), some (.int s81.1), none, none], []), (s81.2.1, g, mw_R s81.2.2)) v9 h9 := by
  intro s81 x9 hf hk
  unfold b_Mo_findBases_81 at hf
  refine rh_Ex.blk 2 (s' := ((85, [some (.ref 0), some (.int u1), some (.int s81.1), none, none], [.int (999 : Int32), .int s81.1]), (s81.2.1, g, mw_R s81.2.2))) rfl ?_
  by_cases q10 : (999 : Int32) < s81.1
  · rw [if_pos q10] at hf
    refine rh_Ex.stp (s' := ((233, [some (.ref 0), some (.int u1), some (.int s81.1), none, none], []), (s81.2.1, g, mw_R s81.2.2))) rfl (st_icgt_p q10) ?_
    obtain rfl := Option.some.inj hf
    refine rh_Ex.fgt [none, none, none, none, none] trivial ?_
    exact hk
  · rw [if_neg q10] at hf
    refine rh_Ex.stp (s' := ((88, [some (.ref 0), some (.int u1), some (.int s81.1), none, none], []), (s81.2.1, g, mw_R s81.2.2))) rfl (st_icgt_n q10) ?_
    refine rh_Ex.blk 4 (s' := ((93, [some (.ref 0), some (.int u1), some (.int s81.1), some (.int (1 : Int32)), some (.int (0 : Int32))], []), (s81.2.1, g, mw_R s81.2.2))) rfl ?_
    obtain ⟨r22, hr22, hf⟩ := rh_bq hf
    refine rh_Ex.fgt [some (.ref 0), some (.int u1), some (.int s81.1), some (.int (1 : Int32)), some (.int (0 : Int32))] ⟨rfl, rfl, rfl, rfl, rfl, trivial⟩ ?_
    refine rh_Ex.loop _ _ _ (lb_Mo_findBases_93 d u1 s81.1  g _ _) rh_N _ r22 hr22 ?_
    refine rh_Ex.fgt [some (.ref 0), some (.int u1), some (.int s81.1), some (.int r22.1), none] ⟨rfl, rfl, rfl, rfl, trivial⟩ ?_
    exact lj_Mo_findBases_173 d r22.2.1 r22.2.2 u1 s81.1 r22.1 g _ _ _ hf hk
set_option maxRecDepth 20000 in
set_option maxHeartbeats 4000000 in
theorem R_Mo_findBases (d : Nat) (rd : Option Nat) (h : Nat → Nat → Int32) (g : Nat → Nat → Int64) (p0 : Int32) {z9 : (Nat → Nat → Int32) × (Option Nat)} (hf : f_Mo_findBases h rd p0 = some z9) : rh_M rh_PT mw_L (d + 269) 283 [.ref 0, .int p0] (h, g, mw_R rd) none (z9.1, g, mw_R z9.2) := by
  unfold f_Mo_findBases at hf
  refine rh_go pt_283 (Nat.le_of_ble_eq_true rfl) (lv := [some (.ref 0), some (.int p0), none, none, none]) rfl ?_
  refine rh_Ex.blk 8 (s' := ((12, [some (.ref 0), some (.int p0), some (.int (0 : Int32)), none, none], []), (rh_up (rh_up h 0 42 (0 : Int32)) 0 43 (0 : Int32), g, mw_R rd))) rfl ?_
  obtain ⟨r8, hr8, hf⟩ := rh_bq hf
  refine rh_Ex.fgt [some (.ref 0), some (.int p0), some (.int (0 : Int32)), none, none] ⟨rfl, rfl, rfl, trivial⟩ ?_
  refine rh_Ex.loop _ _ _ (lb_Mo_findBases_12 d p0  g _ _) rh_N _ r8 hr8 ?_
  refine rh_Ex.blk 2 (s' := ((81, [some (.ref 0), some (.int p0), some (.int (1 : Int32)), none, none], []), (r8.1, g, mw_R r8.2))) rfl ?_
  obtain ⟨r29, hr29, hf⟩ := rh_bq hf
  refine rh_Ex.fgt [some (.ref 0), some (.int p0), some (.int (1 : Int32)), none, none] ⟨rfl, rfl, rfl, trivial⟩ ?_
  refine rh_Ex.loop _ _ _ (lb_Mo_findBases_81 d p0  g _ _) rh_N _ r29 hr29 ?_
  obtain rfl := Option.some.inj hf
  exact rh_Ex.ret rfl trivial
def f_Mo_fits (h : Nat → Nat → Int32) (rd : Option Nat) (p0 : Int32) : Option (Int32 × (Nat → Nat → Int32) × (Option Nat)) :=
  (f_Mo_isOne (rh_up h 0 9 (0 : Int32)) p0).bind (fun x1 =>
    if x1 = 0 then
      some (((-1 : Int32), rh_up h 0 9 (0 : Int32), rd))
    else
      (f_Mo_findBases (rh_up h 0 9 (0 : Int32)) rd p0).bind (fun x3 =>
        if (x3.1 0 42) = 0 then
          some (((-2 : Int32), x3.1, x3.2))
        else
          (f_Mo_tell (rh_up x3.1 0 8 (0 : Int32)) (x3.1 0 41)).bind (fun x5 =>
            (f_Mo_tell x5 (x5 0 42)).bind (fun x6 =>
              some ((x6 0 40, x6, x3.2))
            )
          )
      )
  )
set_option maxRecDepth 20000 in
set_option maxHeartbeats 4000000 in
theorem R_Mo_fits (d : Nat) (rd : Option Nat) (h : Nat → Nat → Int32) (g : Nat → Nat → Int64) (p0 : Int32) {z9 : Int32 × (Nat → Nat → Int32) × (Option Nat)} (hf : f_Mo_fits h rd p0 = some z9) : rh_M rh_PT mw_L (d + 270) 284 [.ref 0, .int p0] (h, g, mw_R rd) (some (.int z9.1)) (z9.2.1, g, mw_R z9.2.2) := by
  unfold f_Mo_fits at hf
  refine rh_go pt_284 (Nat.le_of_ble_eq_true rfl) (lv := [some (.ref 0), some (.int p0)]) rfl ?_
  refine rh_Ex.blk 5 (s' := ((7, [some (.ref 0), some (.int p0)], [.int p0, .ref 0]), (rh_up h 0 9 (0 : Int32), g, mw_R rd))) rfl ?_
  obtain ⟨x1, hx1, hf⟩ := rh_bq hf
  refine rh_Ex.call (j := 183) (rc := some 11) [.ref 0, .int p0] [] (some (.int x1)) rfl rfl rfl (Nat.le_of_ble_eq_true rfl) (R_Mo_isOne (d + 267) rd (rh_up h 0 9 (0 : Int32)) g p0 hx1) ?_
  show rh_Ex _ _ _ ((10, [some (.ref 0), some (.int p0)], [.int x1]), (rh_up h 0 9 (0 : Int32), g, mw_R rd)) _ _
  by_cases q2 : x1 = 0
  · rw [if_pos q2] at hf
    refine rh_Ex.stp (s' := ((13, [some (.ref 0), some (.int p0)], []), (rh_up h 0 9 (0 : Int32), g, mw_R rd))) rfl (st_ifne_p q2) ?_
    refine rh_Ex.blk 1 (s' := ((14, [some (.ref 0), some (.int p0)], [.int (-1 : Int32)]), (rh_up h 0 9 (0 : Int32), g, mw_R rd))) rfl ?_
    obtain rfl := Option.some.inj hf
    exact rh_Ex.ret rfl rfl
  · rw [if_neg q2] at hf
    refine rh_Ex.stp (s' := ((15, [some (.ref 0), some (.int p0)], []), (rh_up h 0 9 (0 : Int32), g, mw_R rd))) rfl (st_ifne_n q2) ?_
    refine rh_Ex.blk 2 (s' := ((17, [some (.ref 0), some (.int p0)], [.int p0, .ref 0]), (rh_up h 0 9 (0 : Int32), g, mw_R rd))) rfl ?_
    obtain ⟨x3, hx3, hf⟩ := rh_bq hf
    refine rh_Ex.call (j := 283) (rc := some 11) [.ref 0, .int p0] [] none rfl rfl rfl (Nat.le_of_ble_eq_true rfl) (R_Mo_findBases d rd (rh_up h 0 9 (0 : Int32)) g p0 hx3) ?_
    show rh_Ex _ _ _ ((20, [some (.ref 0), some (.int p0)], []), (x3.1, g, mw_R x3.2)) _ _
    refine rh_Ex.blk 2 (s' := ((24, [some (.ref 0), some (.int p0)], [.int (x3.1 0 42)]), (x3.1, g, mw_R x3.2))) rfl ?_
    by_cases q4 : (x3.1 0 42) = 0
    · rw [if_pos q4] at hf
      refine rh_Ex.stp (s' := ((27, [some (.ref 0), some (.int p0)], []), (x3.1, g, mw_R x3.2))) rfl (st_ifne_p q4) ?_
      refine rh_Ex.blk 1 (s' := ((29, [some (.ref 0), some (.int p0)], [.int (-2 : Int32)]), (x3.1, g, mw_R x3.2))) rfl ?_
      obtain rfl := Option.some.inj hf
      exact rh_Ex.ret rfl rfl
    · rw [if_neg q4] at hf
      refine rh_Ex.stp (s' := ((30, [some (.ref 0), some (.int p0)], []), (x3.1, g, mw_R x3.2))) rfl (st_ifne_n q4) ?_
      refine rh_Ex.blk 6 (s' := ((40, [some (.ref 0), some (.int p0)], [.int (x3.1 0 41), .ref 0]), (rh_up x3.1 0 8 (0 : Int32), g, mw_R x3.2))) rfl ?_
      obtain ⟨x5, hx5, hf⟩ := rh_bq hf
      refine rh_Ex.call (j := 182) (rc := some 11) [.ref 0, .int (x3.1 0 41)] [] none rfl rfl rfl (Nat.le_of_ble_eq_true rfl) (R_Mo_tell (d + 268) x3.2 (rh_up x3.1 0 8 (0 : Int32)) g (x3.1 0 41) hx5) ?_
      show rh_Ex _ _ _ ((43, [some (.ref 0), some (.int p0)], []), (x5, g, mw_R x3.2)) _ _
      refine rh_Ex.blk 3 (s' := ((48, [some (.ref 0), some (.int p0)], [.int (x5 0 42), .ref 0]), (x5, g, mw_R x3.2))) rfl ?_
      obtain ⟨x6, hx6, hf⟩ := rh_bq hf
      refine rh_Ex.call (j := 182) (rc := some 11) [.ref 0, .int (x5 0 42)] [] none rfl rfl rfl (Nat.le_of_ble_eq_true rfl) (R_Mo_tell (d + 268) x3.2 x5 g (x5 0 42) hx6) ?_
      show rh_Ex _ _ _ ((51, [some (.ref 0), some (.int p0)], []), (x6, g, mw_R x3.2)) _ _
      refine rh_Ex.blk 2 (s' := ((55, [some (.ref 0), some (.int p0)], [.int (x6 0 40)]), (x6, g, mw_R x3.2))) rfl ?_
      obtain rfl := Option.some.inj hf
      exact rh_Ex.ret rfl rfl
def b_Mo_liars_9  : (Int32 × Int32 × (Nat → Nat → Int32) × (Option Nat)) → Option ((Int32 × Int32 × (Nat → Nat → Int32) × (Option Nat)) ⊕ (Int32 × (Nat → Nat → Int32) × (Option Nat))) := fun s9 =>
  if (s9.2.2.1 0 1) ≤ s9.2.1 then
    some (.inr (s9.1, s9.2.2.1, s9.2.2.2))
  else
    (f_Mo_findBases s9.2.2.1 s9.2.2.2 s9.2.1).bind (fun x3 =>
      if (x3.1 0 43) ≤ 0 then
        some (.inl (s9.1 ||| (0 : Int32), s9.2.1 + (1 : Int32), x3.1, x3.2))
      else
        some (.inl (s9.1 ||| ((1 : Int32) <<< (s9.2.1 &&& 31)), s9.2.1 + (1 : Int32), x3.1, x3.2))
    )
def f_Mo_liars (h : Nat → Nat → Int32) (rd : Option Nat) : Option (Int32 × (Nat → Nat → Int32) × (Option Nat)) :=
  (rh_loop (b_Mo_liars_9 ) rh_N ((0 : Int32), (0 : Int32), rh_up h 0 9 (0 : Int32), rd)).bind (fun r5 =>
    some ((r5.1, r5.2.1, r5.2.2))
  )
set_option maxRecDepth 20000 in
set_option maxHeartbeats 4000000 in
theorem lb_Mo_liars_9 (d : Nat)  (g : Nat → Nat → Int64) (v9 : Option Value) (h9 : rh_H) : ∀ s9 x9, b_Mo_liars_9  s9 = some x9 → Sum.elim (fun s9 => rh_Ex (rh_M rh_PT mw_L (d + 269)) mw_L pg_X12_liars ((9, [some (.ref 0), some (.int s9.1), some (.int s9.2.1)], []), (s9.2.2.1, g, mw_R s9.2.2.2)) v9 h9) (fun e9 => rh_Ex (rh_M rh_PT mw_L (d + 269)) mw_L pg_X12_liars ((45, [none, some (.int e9.1), none], []), (e9.2.1, g, mw_R e9.2.2)) v9 h9) x9 → rh_Ex (rh_M rh_PT mw_L (d + 269)) mw_L pg_X12_liars ((9, [some (.ref 0), some (.int s9.1), some (.int s9.2.1)], []), (s9.2.2.1, g, mw_R s9.2.2.2)) v9 h9 := by
  intro s9 x9 hf hk
  unfold b_Mo_liars_9 at hf
  refine rh_Ex.blk 3 (s' := ((14, [some (.ref 0), some (.int s9.1), some (.int s9.2.1)], [.int (s9.2.2.1 0 1), .int s9.2.1]), (s9.2.2.1, g, mw_R s9.2.2.2))) rfl ?_
  by_cases q2 : (s9.2.2.1 0 1) ≤ s9.2.1
  · rw [if_pos q2] at hf
    refine rh_Ex.stp (s' := ((45, [some (.ref 0), some (.int s9.1), some (.int s9.2.1)], []), (s9.2.2.1, g, mw_R s9.2.2.2))) rfl (st_icge_p q2) ?_
    obtain rfl := Option.some.inj hf
    refine rh_Ex.fgt [none, some (.int s9.1), none] ⟨rfl, trivial⟩ ?_
    exact hk
  · rw [if_neg q2] at hf
    refine rh_Ex.stp (s' := ((17, [some (.ref 0), some (.int s9.1), some (.int s9.2.1)], []), (s9.2.2.1, g, mw_R s9.2.2.2))) rfl (st_icge_n q2) ?_
    refine rh_Ex.blk 2 (s' := ((19, [some (.ref 0), some (.int s9.1), some (.int s9.2.1)], [.int s9.2.1, .ref 0]), (s9.2.2.1, g, mw_R s9.2.2.2))) rfl ?_
    obtain ⟨x3, hx3, hf⟩ := rh_bq hf
    refine rh_Ex.call (j := 283) (rc := some 11) [.ref 0, .int s9.2.1] [] none rfl rfl rfl (Nat.le_of_ble_eq_true rfl) (R_Mo_findBases d s9.2.2.2 s9.2.2.1 g s9.2.1 hx3) ?_
    show rh_Ex _ _ _ ((22, [some (.ref 0), some (.int s9.1), some (.int s9.2.1)], []), (x3.1, g, mw_R x3.2)) _ _
    refine rh_Ex.blk 3 (s' := ((27, [some (.ref 0), some (.int s9.1), some (.int s9.2.1)], [.int (x3.1 0 43), .int s9.1]), (x3.1, g, mw_R x3.2))) rfl ?_
    by_cases q4 : (x3.1 0 43) ≤ 0
    · rw [if_pos q4] at hf
      refine rh_Ex.stp (s' := ((36, [some (.ref 0), some (.int s9.1), some (.int s9.2.1)], [.int s9.1]), (x3.1, g, mw_R x3.2))) rfl (st_ifle_p q4) ?_
      refine rh_Ex.blk 5 (s' := ((9, [some (.ref 0), some (.int (s9.1 ||| (0 : Int32))), some (.int (s9.2.1 + (1 : Int32)))], []), (x3.1, g, mw_R x3.2))) rfl ?_
      obtain rfl := Option.some.inj hf
      refine rh_Ex.fgt [some (.ref 0), some (.int (s9.1 ||| (0 : Int32))), some (.int (s9.2.1 + (1 : Int32)))] ⟨rfl, rfl, rfl, trivial⟩ ?_
      exact hk
    · rw [if_neg q4] at hf
      refine rh_Ex.stp (s' := ((30, [some (.ref 0), some (.int s9.1), some (.int s9.2.1)], [.int s9.1]), (x3.1, g, mw_R x3.2))) rfl (st_ifle_n q4) ?_
      refine rh_Ex.blk 8 (s' := ((9, [some (.ref 0), some (.int (s9.1 ||| ((1 : Int32) <<< (s9.2.1 &&& 31)))), some (.int (s9.2.1 + (1 : Int32)))], []), (x3.1, g, mw_R x3.2))) rfl ?_
      obtain rfl := Option.some.inj hf
      refine rh_Ex.fgt [some (.ref 0), some (.int (s9.1 ||| ((1 : Int32) <<< (s9.2.1 &&& 31)))), some (.int (s9.2.1 + (1 : Int32)))] ⟨rfl, rfl, rfl, trivial⟩ ?_
      exact hk
set_option maxRecDepth 20000 in
set_option maxHeartbeats 4000000 in
theorem R_Mo_liars (d : Nat) (rd : Option Nat) (h : Nat → Nat → Int32) (g : Nat → Nat → Int64)  {z9 : Int32 × (Nat → Nat → Int32) × (Option Nat)} (hf : f_Mo_liars h rd = some z9) : rh_M rh_PT mw_L (d + 270) 285 [.ref 0] (h, g, mw_R rd) (some (.int z9.1)) (z9.2.1, g, mw_R z9.2.2) := by
  unfold f_Mo_liars at hf
  refine rh_go pt_285 (Nat.le_of_ble_eq_true rfl) (lv := [some (.ref 0), none, none]) rfl ?_
  refine rh_Ex.blk 7 (s' := ((9, [some (.ref 0), some (.int (0 : Int32)), some (.int (0 : Int32))], []), (rh_up h 0 9 (0 : Int32), g, mw_R rd))) rfl ?_
  obtain ⟨r5, hr5, hf⟩ := rh_bq hf
  refine rh_Ex.fgt [some (.ref 0), some (.int (0 : Int32)), some (.int (0 : Int32))] ⟨rfl, rfl, rfl, trivial⟩ ?_
  refine rh_Ex.loop _ _ _ (lb_Mo_liars_9 d   g _ _) rh_N _ r5 hr5 ?_
  refine rh_Ex.blk 1 (s' := ((46, [none, some (.int r5.1), none], [.int r5.1]), (r5.2.1, g, mw_R r5.2.2))) rfl ?_
  obtain rfl := Option.some.inj hf
  exact rh_Ex.ret rfl rfl
def b_Mo_print_122 (u1 : Int32) (u2 : Int32) (u3 : Int32) (u4 : Int32) (u7 : Int32) (u8 : Int32) (h : Nat → Nat → Int32) (rd : Option Nat) : (Int32 × Int32 × Int32) → Option ((Int32 × Int32 × Int32) ⊕ (Int32 × Int32)) := fun s122 =>
  if (h 0 1) ≤ s122.2.2 then
    some (.inr (s122.1, s122.2.1))
  else
    if (f_Mo_has (h 0 2) s122.2.2) = 0 then
      rh_g (0 ≤ s122.2.2.toInt ∧ s122.2.2.toInt < ((9 : Nat) : Int)) (
        if (if 0 ≤ ((u8 + (h 2 s122.2.2.toNatClampNeg)) - u2) then ((u8 + (h 2 s122.2.2.toNatClampNeg)) - u2) else 0 - ((u8 + (h 2 s122.2.2.toNatClampNeg)) - u2)) ≤ u3 then
          some (.inl (s122.1 ||| ((1 : Int32) <<< (u7 &&& 31)), s122.2.1 ||| ((1 : Int32) <<< (s122.2.2 &&& 31)), s122.2.2 + (1 : Int32)))
        else
          some (.inl (s122.1, s122.2.1, s122.2.2 + (1 : Int32)))
      )
    else
      some (.inl (s122.1, s122.2.1, s122.2.2 + (1 : Int32)))
def j_Mo_print_119 (h : Nat → Nat → Int32) (rd : Option Nat) (u1 : Int32) (u2 : Int32) (u3 : Int32) (j4 : Int32) (j5 : Int32) (j6 : Int32) (j7 : Int32) (j8 : Int32) : Option ((Int32 × Int32 × Int32 × Int32 × (Nat → Nat → Int32) × (Option Nat)) ⊕ (Int32 × Int32 × Int32 × (Nat → Nat → Int32) × (Option Nat))) :=
  (rh_loop (b_Mo_print_122 u1 u2 u3 j4 j7 j8 h rd) rh_N (j5, j6, (0 : Int32))).bind (fun r16 =>
    some (.inl (j4, r16.1, r16.2, j7 + (1 : Int32), h, rd))
  )
def b_Mo_print_58 (u1 : Int32) (u2 : Int32) (u3 : Int32) : (Int32 × Int32 × Int32 × Int32 × (Nat → Nat → Int32) × (Option Nat)) → Option ((Int32 × Int32 × Int32 × Int32 × (Nat → Nat → Int32) × (Option Nat)) ⊕ (Int32 × Int32 × Int32 × (Nat → Nat → Int32) × (Option Nat))) := fun s58 =>
  if (s58.2.2.2.2.1 0 1) ≤ s58.2.2.2.1 then
    some (.inr (s58.1, s58.2.1, s58.2.2.1, s58.2.2.2.2.1, s58.2.2.2.2.2))
  else
    if (f_Mo_has (s58.2.2.2.2.1 0 2) s58.2.2.2.1) = 0 then
      some (.inl (s58.1, s58.2.1, s58.2.2.1, s58.2.2.2.1 + (1 : Int32), s58.2.2.2.2.1, s58.2.2.2.2.2))
    else
      (f_Mo_weightOf s58.2.2.2.2.1 s58.2.2.2.2.2 s58.2.2.2.1 ((s58.2.2.2.2.1 1 (10 : Int32).toNatClampNeg) - u1)).bind (fun x9 =>
        if u3 < (if 0 ≤ (x9.1 - u2) then (x9.1 - u2) else 0 - (x9.1 - u2)) then
          j_Mo_print_119 x9.2.1 x9.2.2 u1 u2 u3 s58.1 s58.2.1 s58.2.2.1 s58.2.2.2.1 x9.1
        else
          j_Mo_print_119 x9.2.1 x9.2.2 u1 u2 u3 (s58.1 ||| ((1 : Int32) <<< (s58.2.2.2.1 &&& 31))) s58.2.1 s58.2.2.1 s58.2.2.2.1 x9.1
      )
def f_Mo_print (h : Nat → Nat → Int32) (rd : Option Nat) (p0 : Int32) (p1 : Int32) (p2 : Int32) : Option (Int32 × (Nat → Nat → Int32) × (Option Nat)) :=
  if (f_Mo_in p0 (0 : Int32) (99 : Int32)) = 0 then
    some (((-1 : Int32), rh_up h 0 9 (0 : Int32), rd))
  else
    if ((rh_up h 0 9 (0 : Int32)) 1 (10 : Int32).toNatClampNeg) < p0 then
      some (((-1 : Int32), rh_up h 0 9 (0 : Int32), rd))
    else
      (f_Mo_isHeavy p1).bind (fun x3 =>
        if x3 = 0 then
          some (((-1 : Int32), rh_up h 0 9 (0 : Int32), rd))
        else
          if (f_Mo_in p2 (0 : Int32) (999 : Int32)) = 0 then
            some (((-1 : Int32), rh_up h 0 9 (0 : Int32), rd))
          else
            (rh_loop (b_Mo_print_58 p0 p1 p2) rh_N ((0 : Int32), (0 : Int32), (0 : Int32), (0 : Int32), rh_up h 0 9 (0 : Int32), rd)).bind (fun r17 =>
              (f_Mo_tell (rh_up r17.2.2.2.1 0 8 (0 : Int32)) (r17.1 ||| r17.2.1)).bind (fun x18 =>
                (f_Mo_tell x18 r17.2.2.1).bind (fun x19 =>
                  some ((r17.1, x19, r17.2.2.2.2))
                )
              )
            )
      )
set_option maxRecDepth 20000 in
set_option maxHeartbeats 4000000 in
theorem lb_Mo_print_122 (d : Nat) (u1 : Int32) (u2 : Int32) (u3 : Int32) (u4 : Int32) (u7 : Int32) (u8 : Int32) (h : Nat → Nat → Int32) (rd : Option Nat) (g : Nat → Nat → Int64) (v9 : Option Value) (h9 : rh_H) : ∀ s122 x9, b_Mo_print_122 u1 u2 u3 u4 u7 u8 h rd s122 = some x9 → Sum.elim (fun s122 => rh_Ex (rh_M rh_PT mw_L (d + 267)) mw_L pg_X12_print ((122, [some (.ref 0), some (.int u1), some (.int u2), some (.int u3), some (.int u4), some (.int s122.1), some (.int s122.2.1), some (.int u7), some (.int u8), some (.int s122.2.2)], []), (h, g, mw_R rd)) v9 h9) (fun e9 => rh_Ex (rh_M rh_PT mw_L (d + 267)) mw_L pg_X12_print ((189, [some (.ref 0), some (.int u1), some (.int u2), some (.int u3), some (.int u4), some (.int e9.1), some (.int e9.2), some (.int u7), none, none], []), (h, g, mw_R rd)) v9 h9) x9 → rh_Ex (rh_M rh_PT mw_L (d + 267)) mw_L pg_X12_print ((122, [some (.ref 0), some (.int u1), some (.int u2), some (.int u3), some (.int u4), some (.int s122.1), some (.int s122.2.1), some (.int u7), some (.int u8), some (.int s122.2.2)], []), (h, g, mw_R rd)) v9 h9 := by
  intro s122 x9 hf hk
  unfold b_Mo_print_122 at hf
  refine rh_Ex.blk 3 (s' := ((128, [some (.ref 0), some (.int u1), some (.int u2), some (.int u3), some (.int u4), some (.int s122.1), some (.int s122.2.1), some (.int u7), some (.int u8), some (.int s122.2.2)], [.int (h 0 1), .int s122.2.2]), (h, g, mw_R rd))) rfl ?_
  by_cases q12 : (h 0 1) ≤ s122.2.2
  · rw [if_pos q12] at hf
    refine rh_Ex.stp (s' := ((189, [some (.ref 0), some (.int u1), some (.int u2), some (.int u3), some (.int u4), some (.int s122.1), some (.int s122.2.1), some (.int u7), some (.int u8), some (.int s122.2.2)], []), (h, g, mw_R rd))) rfl (st_icge_p q12) ?_
    obtain rfl := Option.some.inj hf
    refine rh_Ex.fgt [some (.ref 0), some (.int u1), some (.int u2), some (.int u3), some (.int u4), some (.int s122.1), some (.int s122.2.1), some (.int u7), none, none] ⟨rfl, rfl, rfl, rfl, rfl, rfl, rfl, rfl, trivial⟩ ?_
    exact hk
  · rw [if_neg q12] at hf
    refine rh_Ex.stp (s' := ((131, [some (.ref 0), some (.int u1), some (.int u2), some (.int u3), some (.int u4), some (.int s122.1), some (.int s122.2.1), some (.int u7), some (.int u8), some (.int s122.2.2)], []), (h, g, mw_R rd))) rfl (st_icge_n q12) ?_
    refine rh_Ex.blk 3 (s' := ((137, [some (.ref 0), some (.int u1), some (.int u2), some (.int u3), some (.int u4), some (.int s122.1), some (.int s122.2.1), some (.int u7), some (.int u8), some (.int s122.2.2)], [.int s122.2.2, .int (h 0 2)]), (h, g, mw_R rd))) rfl ?_
    refine rh_Ex.call (j := 180) (rc := none) [.int (h 0 2), .int s122.2.2] [] (some (.int (f_Mo_has (h 0 2) s122.2.2))) rfl rfl trivial (Nat.le_of_ble_eq_true rfl) (R_Mo_has (d + 266) mw_L (mw_R rd) h g (h 0 2) s122.2.2 rfl) ?_
    show rh_Ex _ _ _ ((140, [some (.ref 0), some (.int u1), some (.int u2), some (.int u3), some (.int u4), some (.int s122.1), some (.int s122.2.1), some (.int u7), some (.int u8), some (.int s122.2.2)], [.int (f_Mo_has (h 0 2) s122.2.2)]), (h, g, mw_R rd)) _ _
    by_cases q13 : (f_Mo_has (h 0 2) s122.2.2) = 0
    · rw [if_pos q13] at hf
      refine rh_Ex.stp (s' := ((143, [some (.ref 0), some (.int u1), some (.int u2), some (.int u3), some (.int u4), some (.int s122.1), some (.int s122.2.1), some (.int u7), some (.int u8), some (.int s122.2.2)], []), (h, g, mw_R rd))) rfl (st_ifne_p q13) ?_
      refine rh_Ex.blk 4 (s' := ((151, [some (.ref 0), some (.int u1), some (.int u2), some (.int u3), some (.int u4), some (.int s122.1), some (.int s122.2.1), some (.int u7), some (.int u8), some (.int s122.2.2)], [.int s122.2.2, .ref 2, .int u8]), (h, g, mw_R rd))) rfl ?_
      obtain ⟨q14, hf⟩ := rh_gq hf
      refine rh_Ex.stp (s' := ((152, [some (.ref 0), some (.int u1), some (.int u2), some (.int u3), some (.int u4), some (.int s122.1), some (.int s122.2.1), some (.int u7), some (.int u8), some (.int s122.2.2)], [.int (h 2 s122.2.2.toNatClampNeg), .int u8]), (h, g, mw_R rd))) rfl (st_iald (n := 9) rfl q14) ?_
      refine rh_Ex.blk 3 (s' := ((155, [some (.ref 0), some (.int u1), some (.int u2), some (.int u3), some (.int u4), some (.int s122.1), some (.int s122.2.1), some (.int u7), some (.int u8), some (.int s122.2.2)], [.int ((u8 + (h 2 s122.2.2.toNatClampNeg)) - u2)]), (h, g, mw_R rd))) rfl ?_
      refine rh_Ex.stp (s' := ((158, [some (.ref 0), some (.int u1), some (.int u2), some (.int u3), some (.int u4), some (.int s122.1), some (.int s122.2.1), some (.int u7), some (.int u8), some (.int s122.2.2)], [.int (if 0 ≤ ((u8 + (h 2 s122.2.2.toNatClampNeg)) - u2) then ((u8 + (h 2 s122.2.2.toNatClampNeg)) - u2) else 0 - ((u8 + (h 2 s122.2.2.toNatClampNeg)) - u2))]), (h, g, mw_R rd))) rfl (st_mabs (Nat.le_of_ble_eq_true rfl)) ?_
      refine rh_Ex.blk 1 (s' := ((159, [some (.ref 0), some (.int u1), some (.int u2), some (.int u3), some (.int u4), some (.int s122.1), some (.int s122.2.1), some (.int u7), some (.int u8), some (.int s122.2.2)], [.int u3, .int (if 0 ≤ ((u8 + (h 2 s122.2.2.toNatClampNeg)) - u2) then ((u8 + (h 2 s122.2.2.toNatClampNeg)) - u2) else 0 - ((u8 + (h 2 s122.2.2.toNatClampNeg)) - u2))]), (h, g, mw_R rd))) rfl ?_
      by_cases q15 : (if 0 ≤ ((u8 + (h 2 s122.2.2.toNatClampNeg)) - u2) then ((u8 + (h 2 s122.2.2.toNatClampNeg)) - u2) else 0 - ((u8 + (h 2 s122.2.2.toNatClampNeg)) - u2)) ≤ u3
      · rw [if_pos q15] at hf
        refine rh_Ex.stp (s' := ((165, [some (.ref 0), some (.int u1), some (.int u2), some (.int u3), some (.int u4), some (.int s122.1), some (.int s122.2.1), some (.int u7), some (.int u8), some (.int s122.2.2)], []), (h, g, mw_R rd))) rfl (st_icle_p q15) ?_
        refine rh_Ex.blk 14 (s' := ((122, [some (.ref 0), some (.int u1), some (.int u2), some (.int u3), some (.int u4), some (.int (s122.1 ||| ((1 : Int32) <<< (u7 &&& 31)))), some (.int (s122.2.1 ||| ((1 : Int32) <<< (s122.2.2 &&& 31)))), some (.int u7), some (.int u8), some (.int (s122.2.2 + (1 : Int32)))], []), (h, g, mw_R rd))) rfl ?_
        obtain rfl := Option.some.inj hf
        refine rh_Ex.fgt [some (.ref 0), some (.int u1), some (.int u2), some (.int u3), some (.int u4), some (.int (s122.1 ||| ((1 : Int32) <<< (u7 &&& 31)))), some (.int (s122.2.1 ||| ((1 : Int32) <<< (s122.2.2 &&& 31)))), some (.int u7), some (.int u8), some (.int (s122.2.2 + (1 : Int32)))] ⟨rfl, rfl, rfl, rfl, rfl, rfl, rfl, rfl, rfl, rfl, trivial⟩ ?_
        exact hk
      · rw [if_neg q15] at hf
        refine rh_Ex.stp (s' := ((162, [some (.ref 0), some (.int u1), some (.int u2), some (.int u3), some (.int u4), some (.int s122.1), some (.int s122.2.1), some (.int u7), some (.int u8), some (.int s122.2.2)], []), (h, g, mw_R rd))) rfl (st_icle_n q15) ?_
        refine rh_Ex.blk 3 (s' := ((122, [some (.ref 0), some (.int u1), some (.int u2), some (.int u3), some (.int u4), some (.int s122.1), some (.int s122.2.1), some (.int u7), some (.int u8), some (.int (s122.2.2 + (1 : Int32)))], []), (h, g, mw_R rd))) rfl ?_
        obtain rfl := Option.some.inj hf
        refine rh_Ex.fgt [some (.ref 0), some (.int u1), some (.int u2), some (.int u3), some (.int u4), some (.int s122.1), some (.int s122.2.1), some (.int u7), some (.int u8), some (.int (s122.2.2 + (1 : Int32)))] ⟨rfl, rfl, rfl, rfl, rfl, rfl, rfl, rfl, rfl, rfl, trivial⟩ ?_
        exact hk
    · rw [if_neg q13] at hf
      refine rh_Ex.stp (s' := ((183, [some (.ref 0), some (.int u1), some (.int u2), some (.int u3), some (.int u4), some (.int s122.1), some (.int s122.2.1), some (.int u7), some (.int u8), some (.int s122.2.2)], []), (h, g, mw_R rd))) rfl (st_ifne_n q13) ?_
      refine rh_Ex.blk 2 (s' := ((122, [some (.ref 0), some (.int u1), some (.int u2), some (.int u3), some (.int u4), some (.int s122.1), some (.int s122.2.1), some (.int u7), some (.int u8), some (.int (s122.2.2 + (1 : Int32)))], []), (h, g, mw_R rd))) rfl ?_
      obtain rfl := Option.some.inj hf
      refine rh_Ex.fgt [some (.ref 0), some (.int u1), some (.int u2), some (.int u3), some (.int u4), some (.int s122.1), some (.int s122.2.1), some (.int u7), some (.int u8), some (.int (s122.2.2 + (1 : Int32)))] ⟨rfl, rfl, rfl, rfl, rfl, rfl, rfl, rfl, rfl, rfl, trivial⟩ ?_
      exact hk
set_option maxRecDepth 20000 in
set_option maxHeartbeats 4000000 in
theorem lj_Mo_print_119 (d : Nat) (h : Nat → Nat → Int32) (rd : Option Nat) (u1 : Int32) (u2 : Int32) (u3 : Int32) (j4 : Int32) (j5 : Int32) (j6 : Int32) (j7 : Int32) (j8 : Int32) (g : Nat → Nat → Int64) (v9 : Option Value) (h9 : rh_H) (x9 : (Int32 × Int32 × Int32 × Int32 × (Nat → Nat → Int32) × (Option Nat)) ⊕ (Int32 × Int32 × Int32 × (Nat → Nat → Int32) × (Option Nat))) (hf : j_Mo_print_119 h rd u1 u2 u3 j4 j5 j6 j7 j8 = some x9) (hk : Sum.elim (fun s58 => rh_Ex (rh_M rh_PT mw_L (d + 267)) mw_L pg_X12_print ((58, [some (.ref 0), some (.int u1), some (.int u2), some (.int u3), some (.int s58.1), some (.int s58.2.1), some (.int s58.2.2.1), some (.int s58.2.2.2.1), none, none], []), (s58.2.2.2.2.1, g, mw_R s58.2.2.2.2.2)) v9 h9) (fun e9 => rh_Ex (rh_M rh_PT mw_L (d + 267)) mw_L pg_X12_print ((195, [some (.ref 0), none, none, none, some (.int e9.1), some (.int e9.2.1), some (.int e9.2.2.1), none, none, none], []), (e9.2.2.2.1, g, mw_R e9.2.2.2.2)) v9 h9) x9) : rh_Ex (rh_M rh_PT mw_L (d + 267)) mw_L pg_X12_print ((119, [some (.ref 0), some (.int u1), some (.int u2), some (.int u3), some (.int j4), some (.int j5), some (.int j6), some (.int j7), some (.int j8), none], []), (h, g, mw_R rd)) v9 h9 := by
  unfold j_Mo_print_119 at hf
  refine rh_Ex.blk 2 (s' := ((122, [some (.ref 0), some (.int u1), some (.int u2), some (.int u3), some (.int j4), some (.int j5), some (.int j6), some (.int j7), some (.int j8), some (.int (0 : Int32))], []), (h, g, mw_R rd))) rfl ?_
  obtain ⟨r16, hr16, hf⟩ := rh_bq hf
  refine rh_Ex.fgt [some (.ref 0), some (.int u1), some (.int u2), some (.int u3), some (.int j4), some (.int j5), some (.int j6), some (.int j7), some (.int j8), some (.int (0 : Int32))] ⟨rfl, rfl, rfl, rfl, rfl, rfl, rfl, rfl, rfl, rfl, trivial⟩ ?_
  refine rh_Ex.loop _ _ _ (lb_Mo_print_122 d u1 u2 u3 j4 j7 j8 h rd  g _ _) rh_N _ r16 hr16 ?_
  refine rh_Ex.blk 2 (s' := ((58, [some (.ref 0), some (.int u1), some (.int u2), some (.int u3), some (.int j4), some (.int r16.1), some (.int r16.2), some (.int (j7 + (1 : Int32))), none, none], []), (h, g, mw_R rd))) rfl ?_
  obtain rfl := Option.some.inj hf
  refine rh_Ex.fgt [some (.ref 0), some (.int u1), some (.int u2), some (.int u3), some (.int j4), some (.int r16.1), some (.int r16.2), some (.int (j7 + (1 : Int32))), none, none] ⟨rfl, rfl, rfl, rfl, rfl, rfl, rfl, rfl, trivial⟩ ?_
  exact hk
set_option maxRecDepth 20000 in
set_option maxHeartbeats 4000000 in
theorem lb_Mo_print_58 (d : Nat) (u1 : Int32) (u2 : Int32) (u3 : Int32) (g : Nat → Nat → Int64) (v9 : Option Value) (h9 : rh_H) : ∀ s58 x9, b_Mo_print_58 u1 u2 u3 s58 = some x9 → Sum.elim (fun s58 => rh_Ex (rh_M rh_PT mw_L (d + 267)) mw_L pg_X12_print ((58, [some (.ref 0), some (.int u1), some (.int u2), some (.int u3), some (.int s58.1), some (.int s58.2.1), some (.int s58.2.2.1), some (.int s58.2.2.2.1), none, none], []), (s58.2.2.2.2.1, g, mw_R s58.2.2.2.2.2)) v9 h9) (fun e9 => rh_Ex (rh_M rh_PT mw_L (d + 267)) mw_L pg_X12_print ((195, [some (.ref 0), none, none, none, some (.int e9.1), some (.int e9.2.1), some (.int e9.2.2.1), none, none, none], []), (e9.2.2.2.1, g, mw_R e9.2.2.2.2)) v9 h9) x9 → rh_Ex (rh_M rh_PT mw_L (d + 267)) mw_L pg_X12_print ((58, [some (.ref 0), some (.int u1), some (.int u2), some (.int u3), some (.int s58.1), some (.int s58.2.1), some (.int s58.2.2.1), some (.int s58.2.2.2.1), none, none], []), (s58.2.2.2.2.1, g, mw_R s58.2.2.2.2.2)) v9 h9 := by
  intro s58 x9 hf hk
  unfold b_Mo_print_58 at hf
  refine rh_Ex.blk 3 (s' := ((64, [some (.ref 0), some (.int u1), some (.int u2), some (.int u3), some (.int s58.1), some (.int s58.2.1), some (.int s58.2.2.1), some (.int s58.2.2.2.1), none, none], [.int (s58.2.2.2.2.1 0 1), .int s58.2.2.2.1]), (s58.2.2.2.2.1, g, mw_R s58.2.2.2.2.2))) rfl ?_
  by_cases q7 : (s58.2.2.2.2.1 0 1) ≤ s58.2.2.2.1
  · rw [if_pos q7] at hf
    refine rh_Ex.stp (s' := ((195, [some (.ref 0), some (.int u1), some (.int u2), some (.int u3), some (.int s58.1), some (.int s58.2.1), some (.int s58.2.2.1), some (.int s58.2.2.2.1), none, none], []), (s58.2.2.2.2.1, g, mw_R s58.2.2.2.2.2))) rfl (st_icge_p q7) ?_
    obtain rfl := Option.some.inj hf
    refine rh_Ex.fgt [some (.ref 0), none, none, none, some (.int s58.1), some (.int s58.2.1), some (.int s58.2.2.1), none, none, none] ⟨rfl, rfl, rfl, rfl, trivial⟩ ?_
    exact hk
  · rw [if_neg q7] at hf
    refine rh_Ex.stp (s' := ((67, [some (.ref 0), some (.int u1), some (.int u2), some (.int u3), some (.int s58.1), some (.int s58.2.1), some (.int s58.2.2.1), some (.int s58.2.2.2.1), none, none], []), (s58.2.2.2.2.1, g, mw_R s58.2.2.2.2.2))) rfl (st_icge_n q7) ?_
    refine rh_Ex.blk 3 (s' := ((73, [some (.ref 0), some (.int u1), some (.int u2), some (.int u3), some (.int s58.1), some (.int s58.2.1), some (.int s58.2.2.1), some (.int s58.2.2.2.1), none, none], [.int s58.2.2.2.1, .int (s58.2.2.2.2.1 0 2)]), (s58.2.2.2.2.1, g, mw_R s58.2.2.2.2.2))) rfl ?_
    refine rh_Ex.call (j := 180) (rc := none) [.int (s58.2.2.2.2.1 0 2), .int s58.2.2.2.1] [] (some (.int (f_Mo_has (s58.2.2.2.2.1 0 2) s58.2.2.2.1))) rfl rfl trivial (Nat.le_of_ble_eq_true rfl) (R_Mo_has (d + 266) mw_L (mw_R s58.2.2.2.2.2) s58.2.2.2.2.1 g (s58.2.2.2.2.1 0 2) s58.2.2.2.1 rfl) ?_
    show rh_Ex _ _ _ ((76, [some (.ref 0), some (.int u1), some (.int u2), some (.int u3), some (.int s58.1), some (.int s58.2.1), some (.int s58.2.2.1), some (.int s58.2.2.2.1), none, none], [.int (f_Mo_has (s58.2.2.2.2.1 0 2) s58.2.2.2.1)]), (s58.2.2.2.2.1, g, mw_R s58.2.2.2.2.2)) _ _
    by_cases q8 : (f_Mo_has (s58.2.2.2.2.1 0 2) s58.2.2.2.1) = 0
    · rw [if_pos q8] at hf
      refine rh_Ex.stp (s' := ((79, [some (.ref 0), some (.int u1), some (.int u2), some (.int u3), some (.int s58.1), some (.int s58.2.1), some (.int s58.2.2.1), some (.int s58.2.2.2.1), none, none], []), (s58.2.2.2.2.1, g, mw_R s58.2.2.2.2.2))) rfl (st_ifne_p q8) ?_
      refine rh_Ex.blk 3 (s' := ((58, [some (.ref 0), some (.int u1), some (.int u2), some (.int u3), some (.int s58.1), some (.int s58.2.1), some (.int s58.2.2.1), some (.int (s58.2.2.2.1 + (1 : Int32))), none, none], []), (s58.2.2.2.2.1, g, mw_R s58.2.2.2.2.2))) rfl ?_
      obtain rfl := Option.some.inj hf
      refine rh_Ex.fgt [some (.ref 0), some (.int u1), some (.int u2), some (.int u3), some (.int s58.1), some (.int s58.2.1), some (.int s58.2.2.1), some (.int (s58.2.2.2.1 + (1 : Int32))), none, none] ⟨rfl, rfl, rfl, rfl, rfl, rfl, rfl, rfl, trivial⟩ ?_
      exact hk
    · rw [if_neg q8] at hf
      refine rh_Ex.stp (s' := ((82, [some (.ref 0), some (.int u1), some (.int u2), some (.int u3), some (.int s58.1), some (.int s58.2.1), some (.int s58.2.2.1), some (.int s58.2.2.2.1), none, none], []), (s58.2.2.2.2.1, g, mw_R s58.2.2.2.2.2))) rfl (st_ifne_n q8) ?_
      refine rh_Ex.blk 5 (s' := ((91, [some (.ref 0), some (.int u1), some (.int u2), some (.int u3), some (.int s58.1), some (.int s58.2.1), some (.int s58.2.2.1), some (.int s58.2.2.2.1), none, none], [.int (10 : Int32), .ref 1, .int s58.2.2.2.1, .ref 0]), (s58.2.2.2.2.1, g, mw_R s58.2.2.2.2.2))) rfl ?_
      refine rh_Ex.stp (s' := ((92, [some (.ref 0), some (.int u1), some (.int u2), some (.int u3), some (.int s58.1), some (.int s58.2.1), some (.int s58.2.2.1), some (.int s58.2.2.2.1), none, none], [.int (s58.2.2.2.2.1 1 (10 : Int32).toNatClampNeg), .int s58.2.2.2.1, .ref 0]), (s58.2.2.2.2.1, g, mw_R s58.2.2.2.2.2))) rfl (st_iald (n := 11) rfl (by decide)) ?_
      refine rh_Ex.blk 2 (s' := ((94, [some (.ref 0), some (.int u1), some (.int u2), some (.int u3), some (.int s58.1), some (.int s58.2.1), some (.int s58.2.2.1), some (.int s58.2.2.2.1), none, none], [.int ((s58.2.2.2.2.1 1 (10 : Int32).toNatClampNeg) - u1), .int s58.2.2.2.1, .ref 0]), (s58.2.2.2.2.1, g, mw_R s58.2.2.2.2.2))) rfl ?_
      obtain ⟨x9, hx9, hf⟩ := rh_bq hf
      refine rh_Ex.call (j := 205) (rc := some 11) [.ref 0, .int s58.2.2.2.1, .int ((s58.2.2.2.2.1 1 (10 : Int32).toNatClampNeg) - u1)] [] (some (.int x9.1)) rfl rfl rfl (Nat.le_of_ble_eq_true rfl) (R_Mo_weightOf d s58.2.2.2.2.2 s58.2.2.2.2.1 g s58.2.2.2.1 ((s58.2.2.2.2.1 1 (10 : Int32).toNatClampNeg) - u1) hx9) ?_
      show rh_Ex _ _ _ ((97, [some (.ref 0), some (.int u1), some (.int u2), some (.int u3), some (.int s58.1), some (.int s58.2.1), some (.int s58.2.2.1), some (.int s58.2.2.2.1), none, none], [.int x9.1]), (x9.2.1, g, mw_R x9.2.2)) _ _
      refine rh_Ex.blk 4 (s' := ((103, [some (.ref 0), some (.int u1), some (.int u2), some (.int u3), some (.int s58.1), some (.int s58.2.1), some (.int s58.2.2.1), some (.int s58.2.2.2.1), some (.int x9.1), none], [.int (x9.1 - u2)]), (x9.2.1, g, mw_R x9.2.2))) rfl ?_
      refine rh_Ex.stp (s' := ((106, [some (.ref 0), some (.int u1), some (.int u2), some (.int u3), some (.int s58.1), some (.int s58.2.1), some (.int s58.2.2.1), some (.int s58.2.2.2.1), some (.int x9.1), none], [.int (if 0 ≤ (x9.1 - u2) then (x9.1 - u2) else 0 - (x9.1 - u2))]), (x9.2.1, g, mw_R x9.2.2))) rfl (st_mabs (Nat.le_of_ble_eq_true rfl)) ?_
      refine rh_Ex.blk 1 (s' := ((107, [some (.ref 0), some (.int u1), some (.int u2), some (.int u3), some (.int s58.1), some (.int s58.2.1), some (.int s58.2.2.1), some (.int s58.2.2.2.1), some (.int x9.1), none], [.int u3, .int (if 0 ≤ (x9.1 - u2) then (x9.1 - u2) else 0 - (x9.1 - u2))]), (x9.2.1, g, mw_R x9.2.2))) rfl ?_
      by_cases q10 : u3 < (if 0 ≤ (x9.1 - u2) then (x9.1 - u2) else 0 - (x9.1 - u2))
      · rw [if_pos q10] at hf
        refine rh_Ex.stp (s' := ((119, [some (.ref 0), some (.int u1), some (.int u2), some (.int u3), some (.int s58.1), some (.int s58.2.1), some (.int s58.2.2.1), some (.int s58.2.2.2.1), some (.int x9.1), none], []), (x9.2.1, g, mw_R x9.2.2))) rfl (st_icgt_p q10) ?_
        refine rh_Ex.fgt [some (.ref 0), some (.int u1), some (.int u2), some (.int u3), some (.int s58.1), some (.int s58.2.1), some (.int s58.2.2.1), some (.int s58.2.2.2.1), some (.int x9.1), none] ⟨rfl, rfl, rfl, rfl, rfl, rfl, rfl, rfl, rfl, trivial⟩ ?_
        exact lj_Mo_print_119 d x9.2.1 x9.2.2 u1 u2 u3 s58.1 s58.2.1 s58.2.2.1 s58.2.2.2.1 x9.1 g _ _ _ hf hk
      · rw [if_neg q10] at hf
        refine rh_Ex.stp (s' := ((110, [some (.ref 0), some (.int u1), some (.int u2), some (.int u3), some (.int s58.1), some (.int s58.2.1), some (.int s58.2.2.1), some (.int s58.2.2.2.1), some (.int x9.1), none], []), (x9.2.1, g, mw_R x9.2.2))) rfl (st_icgt_n q10) ?_
        refine rh_Ex.blk 6 (s' := ((119, [some (.ref 0), some (.int u1), some (.int u2), some (.int u3), some (.int (s58.1 ||| ((1 : Int32) <<< (s58.2.2.2.1 &&& 31)))), some (.int s58.2.1), some (.int s58.2.2.1), some (.int s58.2.2.2.1), some (.int x9.1), none], []), (x9.2.1, g, mw_R x9.2.2))) rfl ?_
        refine rh_Ex.fgt [some (.ref 0), some (.int u1), some (.int u2), some (.int u3), some (.int (s58.1 ||| ((1 : Int32) <<< (s58.2.2.2.1 &&& 31)))), some (.int s58.2.1), some (.int s58.2.2.1), some (.int s58.2.2.2.1), some (.int x9.1), none] ⟨rfl, rfl, rfl, rfl, rfl, rfl, rfl, rfl, rfl, trivial⟩ ?_
        exact lj_Mo_print_119 d x9.2.1 x9.2.2 u1 u2 u3 (s58.1 ||| ((1 : Int32) <<< (s58.2.2.2.1 &&& 31))) s58.2.1 s58.2.2.1 s58.2.2.2.1 x9.1 g _ _ _ hf hk
set_option maxRecDepth 20000 in
set_option maxHeartbeats 4000000 in
theorem R_Mo_print (d : Nat) (rd : Option Nat) (h : Nat → Nat → Int32) (g : Nat → Nat → Int64) (p0 : Int32) (p1 : Int32) (p2 : Int32) {z9 : Int32 × (Nat → Nat → Int32) × (Option Nat)} (hf : f_Mo_print h rd p0 p1 p2 = some z9) : rh_M rh_PT mw_L (d + 268) 286 [.ref 0, .int p0, .int p1, .int p2] (h, g, mw_R rd) (some (.int z9.1)) (z9.2.1, g, mw_R z9.2.2) := by
  unfold f_Mo_print at hf
  refine rh_go pt_286 (Nat.le_of_ble_eq_true rfl) (lv := [some (.ref 0), some (.int p0), some (.int p1), some (.int p2), none, none, none, none, none, none]) rfl ?_
  refine rh_Ex.blk 6 (s' := ((9, [some (.ref 0), some (.int p0), some (.int p1), some (.int p2), none, none, none, none, none, none], [.int (99 : Int32), .int (0 : Int32), .int p0]), (rh_up h 0 9 (0 : Int32), g, mw_R rd))) rfl ?_
  refine rh_Ex.call (j := 179) (rc := none) [.int p0, .int (0 : Int32), .int (99 : Int32)] [] (some (.int (f_Mo_in p0 (0 : Int32) (99 : Int32)))) rfl rfl trivial (Nat.le_of_ble_eq_true rfl) (R_Mo_in (d + 266) mw_L (mw_R rd) (rh_up h 0 9 (0 : Int32)) g p0 (0 : Int32) (99 : Int32) rfl) ?_
  show rh_Ex _ _ _ ((12, [some (.ref 0), some (.int p0), some (.int p1), some (.int p2), none, none, none, none, none, none], [.int (f_Mo_in p0 (0 : Int32) (99 : Int32))]), (rh_up h 0 9 (0 : Int32), g, mw_R rd)) _ _
  by_cases q1 : (f_Mo_in p0 (0 : Int32) (99 : Int32)) = 0
  · rw [if_pos q1] at hf
    refine rh_Ex.stp (s' := ((44, [some (.ref 0), some (.int p0), some (.int p1), some (.int p2), none, none, none, none, none, none], []), (rh_up h 0 9 (0 : Int32), g, mw_R rd))) rfl (st_ifeq_p q1) ?_
    refine rh_Ex.blk 1 (s' := ((45, [some (.ref 0), some (.int p0), some (.int p1), some (.int p2), none, none, none, none, none, none], [.int (-1 : Int32)]), (rh_up h 0 9 (0 : Int32), g, mw_R rd))) rfl ?_
    obtain rfl := Option.some.inj hf
    exact rh_Ex.ret rfl rfl
  · rw [if_neg q1] at hf
    refine rh_Ex.stp (s' := ((15, [some (.ref 0), some (.int p0), some (.int p1), some (.int p2), none, none, none, none, none, none], []), (rh_up h 0 9 (0 : Int32), g, mw_R rd))) rfl (st_ifeq_n q1) ?_
    refine rh_Ex.blk 4 (s' := ((22, [some (.ref 0), some (.int p0), some (.int p1), some (.int p2), none, none, none, none, none, none], [.int (10 : Int32), .ref 1, .int p0]), (rh_up h 0 9 (0 : Int32), g, mw_R rd))) rfl ?_
    refine rh_Ex.stp (s' := ((23, [some (.ref 0), some (.int p0), some (.int p1), some (.int p2), none, none, none, none, none, none], [.int ((rh_up h 0 9 (0 : Int32)) 1 (10 : Int32).toNatClampNeg), .int p0]), (rh_up h 0 9 (0 : Int32), g, mw_R rd))) rfl (st_iald (n := 11) rfl (by decide)) ?_
    by_cases q2 : ((rh_up h 0 9 (0 : Int32)) 1 (10 : Int32).toNatClampNeg) < p0
    · rw [if_pos q2] at hf
      refine rh_Ex.stp (s' := ((44, [some (.ref 0), some (.int p0), some (.int p1), some (.int p2), none, none, none, none, none, none], []), (rh_up h 0 9 (0 : Int32), g, mw_R rd))) rfl (st_icgt_p q2) ?_
      refine rh_Ex.blk 1 (s' := ((45, [some (.ref 0), some (.int p0), some (.int p1), some (.int p2), none, none, none, none, none, none], [.int (-1 : Int32)]), (rh_up h 0 9 (0 : Int32), g, mw_R rd))) rfl ?_
      obtain rfl := Option.some.inj hf
      exact rh_Ex.ret rfl rfl
    · rw [if_neg q2] at hf
      refine rh_Ex.stp (s' := ((26, [some (.ref 0), some (.int p0), some (.int p1), some (.int p2), none, none, none, none, none, none], []), (rh_up h 0 9 (0 : Int32), g, mw_R rd))) rfl (st_icgt_n q2) ?_
      refine rh_Ex.blk 1 (s' := ((27, [some (.ref 0), some (.int p0), some (.int p1), some (.int p2), none, none, none, none, none, none], [.int p1]), (rh_up h 0 9 (0 : Int32), g, mw_R rd))) rfl ?_
      obtain ⟨x3, hx3, hf⟩ := rh_bq hf
      refine rh_Ex.call (j := 187) (rc := none) [.int p1] [] (some (.int x3)) rfl rfl trivial (Nat.le_of_ble_eq_true rfl) (R_Mo_isHeavy (d + 265) mw_L (mw_R rd) (rh_up h 0 9 (0 : Int32)) g p1 hx3) ?_
      show rh_Ex _ _ _ ((30, [some (.ref 0), some (.int p0), some (.int p1), some (.int p2), none, none, none, none, none, none], [.int x3]), (rh_up h 0 9 (0 : Int32), g, mw_R rd)) _ _
      by_cases q4 : x3 = 0
      · rw [if_pos q4] at hf
        refine rh_Ex.stp (s' := ((44, [some (.ref 0), some (.int p0), some (.int p1), some (.int p2), none, none, none, none, none, none], []), (rh_up h 0 9 (0 : Int32), g, mw_R rd))) rfl (st_ifeq_p q4) ?_
        refine rh_Ex.blk 1 (s' := ((45, [some (.ref 0), some (.int p0), some (.int p1), some (.int p2), none, none, none, none, none, none], [.int (-1 : Int32)]), (rh_up h 0 9 (0 : Int32), g, mw_R rd))) rfl ?_
        obtain rfl := Option.some.inj hf
        exact rh_Ex.ret rfl rfl
      · rw [if_neg q4] at hf
        refine rh_Ex.stp (s' := ((33, [some (.ref 0), some (.int p0), some (.int p1), some (.int p2), none, none, none, none, none, none], []), (rh_up h 0 9 (0 : Int32), g, mw_R rd))) rfl (st_ifeq_n q4) ?_
        refine rh_Ex.blk 3 (s' := ((38, [some (.ref 0), some (.int p0), some (.int p1), some (.int p2), none, none, none, none, none, none], [.int (999 : Int32), .int (0 : Int32), .int p2]), (rh_up h 0 9 (0 : Int32), g, mw_R rd))) rfl ?_
        refine rh_Ex.call (j := 179) (rc := none) [.int p2, .int (0 : Int32), .int (999 : Int32)] [] (some (.int (f_Mo_in p2 (0 : Int32) (999 : Int32)))) rfl rfl trivial (Nat.le_of_ble_eq_true rfl) (R_Mo_in (d + 266) mw_L (mw_R rd) (rh_up h 0 9 (0 : Int32)) g p2 (0 : Int32) (999 : Int32) rfl) ?_
        show rh_Ex _ _ _ ((41, [some (.ref 0), some (.int p0), some (.int p1), some (.int p2), none, none, none, none, none, none], [.int (f_Mo_in p2 (0 : Int32) (999 : Int32))]), (rh_up h 0 9 (0 : Int32), g, mw_R rd)) _ _
        by_cases q5 : (f_Mo_in p2 (0 : Int32) (999 : Int32)) = 0
        · rw [if_pos q5] at hf
          refine rh_Ex.stp (s' := ((44, [some (.ref 0), some (.int p0), some (.int p1), some (.int p2), none, none, none, none, none, none], []), (rh_up h 0 9 (0 : Int32), g, mw_R rd))) rfl (st_ifne_p q5) ?_
          refine rh_Ex.blk 1 (s' := ((45, [some (.ref 0), some (.int p0), some (.int p1), some (.int p2), none, none, none, none, none, none], [.int (-1 : Int32)]), (rh_up h 0 9 (0 : Int32), g, mw_R rd))) rfl ?_
          obtain rfl := Option.some.inj hf
          exact rh_Ex.ret rfl rfl
        · rw [if_neg q5] at hf
          refine rh_Ex.stp (s' := ((46, [some (.ref 0), some (.int p0), some (.int p1), some (.int p2), none, none, none, none, none, none], []), (rh_up h 0 9 (0 : Int32), g, mw_R rd))) rfl (st_ifne_n q5) ?_
          refine rh_Ex.blk 8 (s' := ((58, [some (.ref 0), some (.int p0), some (.int p1), some (.int p2), some (.int (0 : Int32)), some (.int (0 : Int32)), some (.int (0 : Int32)), some (.int (0 : Int32)), none, none], []), (rh_up h 0 9 (0 : Int32), g, mw_R rd))) rfl ?_
          obtain ⟨r17, hr17, hf⟩ := rh_bq hf
          refine rh_Ex.fgt [some (.ref 0), some (.int p0), some (.int p1), some (.int p2), some (.int (0 : Int32)), some (.int (0 : Int32)), some (.int (0 : Int32)), some (.int (0 : Int32)), none, none] ⟨rfl, rfl, rfl, rfl, rfl, rfl, rfl, rfl, trivial⟩ ?_
          refine rh_Ex.loop _ _ _ (lb_Mo_print_58 d p0 p1 p2  g _ _) rh_N _ r17 hr17 ?_
          refine rh_Ex.blk 7 (s' := ((206, [some (.ref 0), none, none, none, some (.int r17.1), some (.int r17.2.1), some (.int r17.2.2.1), none, none, none], [.int (r17.1 ||| r17.2.1), .ref 0]), (rh_up r17.2.2.2.1 0 8 (0 : Int32), g, mw_R r17.2.2.2.2))) rfl ?_
          obtain ⟨x18, hx18, hf⟩ := rh_bq hf
          refine rh_Ex.call (j := 182) (rc := some 11) [.ref 0, .int (r17.1 ||| r17.2.1)] [] none rfl rfl rfl (Nat.le_of_ble_eq_true rfl) (R_Mo_tell (d + 266) r17.2.2.2.2 (rh_up r17.2.2.2.1 0 8 (0 : Int32)) g (r17.1 ||| r17.2.1) hx18) ?_
          show rh_Ex _ _ _ ((209, [some (.ref 0), none, none, none, some (.int r17.1), some (.int r17.2.1), some (.int r17.2.2.1), none, none, none], []), (x18, g, mw_R r17.2.2.2.2)) _ _
          refine rh_Ex.blk 2 (s' := ((212, [some (.ref 0), none, none, none, some (.int r17.1), some (.int r17.2.1), some (.int r17.2.2.1), none, none, none], [.int r17.2.2.1, .ref 0]), (x18, g, mw_R r17.2.2.2.2))) rfl ?_
          obtain ⟨x19, hx19, hf⟩ := rh_bq hf
          refine rh_Ex.call (j := 182) (rc := some 11) [.ref 0, .int r17.2.2.1] [] none rfl rfl rfl (Nat.le_of_ble_eq_true rfl) (R_Mo_tell (d + 266) r17.2.2.2.2 x18 g r17.2.2.1 hx19) ?_
          show rh_Ex _ _ _ ((215, [some (.ref 0), none, none, none, some (.int r17.1), some (.int r17.2.1), some (.int r17.2.2.1), none, none, none], []), (x19, g, mw_R r17.2.2.2.2)) _ _
          refine rh_Ex.blk 1 (s' := ((217, [some (.ref 0), none, none, none, some (.int r17.1), some (.int r17.2.1), some (.int r17.2.2.1), none, none, none], [.int r17.1]), (x19, g, mw_R r17.2.2.2.2))) rfl ?_
          obtain rfl := Option.some.inj hf
          exact rh_Ex.ret rfl rfl
def b_Mo_hour_68 (u1 : Int32) (u2 : Int32) (u3 : Int32) (u4 : Int32) : (Int32 × Int32 × (Nat → Nat → Int32) × (Option Nat)) → Option ((Int32 × Int32 × (Nat → Nat → Int32) × (Option Nat)) ⊕ (Int32 × (Nat → Nat → Int32) × (Option Nat))) := fun s68 =>
  if (9 : Int32) ≤ s68.2.1 then
    some (.inr (s68.1, s68.2.2.1, s68.2.2.2))
  else
    (f_Mo_weightOfAll s68.2.2.1 s68.2.2.2 (u2 ||| ((1 : Int32) <<< (u1 &&& 31))) ((f_Mo_dawn s68.2.2.1) + s68.2.1)).bind (fun x12 =>
      if u4 < (if 0 ≤ (x12.1 - u3) then (x12.1 - u3) else 0 - (x12.1 - u3)) then
        some (.inl (s68.1 ||| (0 : Int32), s68.2.1 + (1 : Int32), x12.2.1, x12.2.2))
      else
        some (.inl (s68.1 ||| ((1 : Int32) <<< (s68.2.1 &&& 31)), s68.2.1 + (1 : Int32), x12.2.1, x12.2.2))
    )
def f_Mo_hour (h : Nat → Nat → Int32) (rd : Option Nat) (p0 : Int32) (p1 : Int32) (p2 : Int32) (p3 : Int32) : Option (Int32 × (Nat → Nat → Int32) × (Option Nat)) :=
  (f_Mo_isOne (rh_up h 0 9 (0 : Int32)) p0).bind (fun x1 =>
    if x1 = 0 then
      some (((-1 : Int32), rh_up h 0 9 (0 : Int32), rd))
    else
      if (f_Mo_has (h 0 2) p0) = 0 then
        some (((-1 : Int32), rh_up h 0 9 (0 : Int32), rd))
      else
        (f_Mo_areFolk (rh_up h 0 9 (0 : Int32)) p1).bind (fun x4 =>
          if x4 = 0 then
            some (((-1 : Int32), rh_up h 0 9 (0 : Int32), rd))
          else
            if (p1 &&& (h 0 2)) = 0 then
              (f_Mo_isHeavy p2).bind (fun x7 =>
                if x7 = 0 then
                  some (((-1 : Int32), rh_up h 0 9 (0 : Int32), rd))
                else
                  if (f_Mo_in p3 (0 : Int32) (999 : Int32)) = 0 then
                    some (((-1 : Int32), rh_up h 0 9 (0 : Int32), rd))
                  else
                    (rh_loop (b_Mo_hour_68 p0 p1 p2 p3) rh_N ((0 : Int32), (0 : Int32), rh_up h 0 9 (0 : Int32), rd)).bind (fun r14 =>
                      some ((r14.1, r14.2.1, r14.2.2))
                    )
              )
            else
              some (((-1 : Int32), rh_up h 0 9 (0 : Int32), rd))
        )
  )
set_option maxRecDepth 20000 in
set_option maxHeartbeats 4000000 in
theorem lb_Mo_hour_68 (d : Nat) (u1 : Int32) (u2 : Int32) (u3 : Int32) (u4 : Int32) (g : Nat → Nat → Int64) (v9 : Option Value) (h9 : rh_H) : ∀ s68 x9, b_Mo_hour_68 u1 u2 u3 u4 s68 = some x9 → Sum.elim (fun s68 => rh_Ex (rh_M rh_PT mw_L (d + 268)) mw_L pg_X12_hour ((68, [some (.ref 0), some (.int u1), some (.int u2), some (.int u3), some (.int u4), some (.int s68.1), some (.int s68.2.1)], []), (s68.2.2.1, g, mw_R s68.2.2.2)) v9 h9) (fun e9 => rh_Ex (rh_M rh_PT mw_L (d + 268)) mw_L pg_X12_hour ((120, [none, none, none, none, none, some (.int e9.1), none], []), (e9.2.1, g, mw_R e9.2.2)) v9 h9) x9 → rh_Ex (rh_M rh_PT mw_L (d + 268)) mw_L pg_X12_hour ((68, [some (.ref 0), some (.int u1), some (.int u2), some (.int u3), some (.int u4), some (.int s68.1), some (.int s68.2.1)], []), (s68.2.2.1, g, mw_R s68.2.2.2)) v9 h9 := by
  intro s68 x9 hf hk
  unfold b_Mo_hour_68 at hf
  refine rh_Ex.blk 2 (s' := ((72, [some (.ref 0), some (.int u1), some (.int u2), some (.int u3), some (.int u4), some (.int s68.1), some (.int s68.2.1)], [.int (9 : Int32), .int s68.2.1]), (s68.2.2.1, g, mw_R s68.2.2.2))) rfl ?_
  by_cases q11 : (9 : Int32) ≤ s68.2.1
  · rw [if_pos q11] at hf
    refine rh_Ex.stp (s' := ((120, [some (.ref 0), some (.int u1), some (.int u2), some (.int u3), some (.int u4), some (.int s68.1), some (.int s68.2.1)], []), (s68.2.2.1, g, mw_R s68.2.2.2))) rfl (st_icge_p q11) ?_
    obtain rfl := Option.some.inj hf
    refine rh_Ex.fgt [none, none, none, none, none, some (.int s68.1), none] ⟨rfl, trivial⟩ ?_
    exact hk
  · rw [if_neg q11] at hf
    refine rh_Ex.stp (s' := ((75, [some (.ref 0), some (.int u1), some (.int u2), some (.int u3), some (.int u4), some (.int s68.1), some (.int s68.2.1)], []), (s68.2.2.1, g, mw_R s68.2.2.2))) rfl (st_icge_n q11) ?_
    refine rh_Ex.blk 8 (s' := ((84, [some (.ref 0), some (.int u1), some (.int u2), some (.int u3), some (.int u4), some (.int s68.1), some (.int s68.2.1)], [.ref 0, .int (u2 ||| ((1 : Int32) <<< (u1 &&& 31))), .ref 0, .int s68.1]), (s68.2.2.1, g, mw_R s68.2.2.2))) rfl ?_
    refine rh_Ex.call (j := 209) (rc := some 11) [.ref 0] [.int (u2 ||| ((1 : Int32) <<< (u1 &&& 31))), .ref 0, .int s68.1] (some (.int (f_Mo_dawn s68.2.2.1))) rfl rfl rfl (Nat.le_of_ble_eq_true rfl) (R_Mo_dawn (d + 267) s68.2.2.2 s68.2.2.1 g  rfl) ?_
    show rh_Ex _ _ _ ((87, [some (.ref 0), some (.int u1), some (.int u2), some (.int u3), some (.int u4), some (.int s68.1), some (.int s68.2.1)], [.int (f_Mo_dawn s68.2.2.1), .int (u2 ||| ((1 : Int32) <<< (u1 &&& 31))), .ref 0, .int s68.1]), (s68.2.2.1, g, mw_R s68.2.2.2)) _ _
    refine rh_Ex.blk 2 (s' := ((90, [some (.ref 0), some (.int u1), some (.int u2), some (.int u3), some (.int u4), some (.int s68.1), some (.int s68.2.1)], [.int ((f_Mo_dawn s68.2.2.1) + s68.2.1), .int (u2 ||| ((1 : Int32) <<< (u1 &&& 31))), .ref 0, .int s68.1]), (s68.2.2.1, g, mw_R s68.2.2.2))) rfl ?_
    obtain ⟨x12, hx12, hf⟩ := rh_bq hf
    refine rh_Ex.call (j := 207) (rc := some 11) [.ref 0, .int (u2 ||| ((1 : Int32) <<< (u1 &&& 31))), .int ((f_Mo_dawn s68.2.2.1) + s68.2.1)] [.int s68.1] (some (.int x12.1)) rfl rfl rfl (Nat.le_of_ble_eq_true rfl) (R_Mo_weightOfAll d s68.2.2.2 s68.2.2.1 g (u2 ||| ((1 : Int32) <<< (u1 &&& 31))) ((f_Mo_dawn s68.2.2.1) + s68.2.1) hx12) ?_
    show rh_Ex _ _ _ ((93, [some (.ref 0), some (.int u1), some (.int u2), some (.int u3), some (.int u4), some (.int s68.1), some (.int s68.2.1)], [.int x12.1, .int s68.1]), (x12.2.1, g, mw_R x12.2.2)) _ _
    refine rh_Ex.blk 2 (s' := ((95, [some (.ref 0), some (.int u1), some (.int u2), some (.int u3), some (.int u4), some (.int s68.1), some (.int s68.2.1)], [.int (x12.1 - u3), .int s68.1]), (x12.2.1, g, mw_R x12.2.2))) rfl ?_
    refine rh_Ex.stp (s' := ((98, [some (.ref 0), some (.int u1), some (.int u2), some (.int u3), some (.int u4), some (.int s68.1), some (.int s68.2.1)], [.int (if 0 ≤ (x12.1 - u3) then (x12.1 - u3) else 0 - (x12.1 - u3)), .int s68.1]), (x12.2.1, g, mw_R x12.2.2))) rfl (st_mabs (Nat.le_of_ble_eq_true rfl)) ?_
    refine rh_Ex.blk 1 (s' := ((100, [some (.ref 0), some (.int u1), some (.int u2), some (.int u3), some (.int u4), some (.int s68.1), some (.int s68.2.1)], [.int u4, .int (if 0 ≤ (x12.1 - u3) then (x12.1 - u3) else 0 - (x12.1 - u3)), .int s68.1]), (x12.2.1, g, mw_R x12.2.2))) rfl ?_
    by_cases q13 : u4 < (if 0 ≤ (x12.1 - u3) then (x12.1 - u3) else 0 - (x12.1 - u3))
    · rw [if_pos q13] at hf
      refine rh_Ex.stp (s' := ((110, [some (.ref 0), some (.int u1), some (.int u2), some (.int u3), some (.int u4), some (.int s68.1), some (.int s68.2.1)], [.int s68.1]), (x12.2.1, g, mw_R x12.2.2))) rfl (st_icgt_p q13) ?_
      refine rh_Ex.blk 5 (s' := ((68, [some (.ref 0), some (.int u1), some (.int u2), some (.int u3), some (.int u4), some (.int (s68.1 ||| (0 : Int32))), some (.int (s68.2.1 + (1 : Int32)))], []), (x12.2.1, g, mw_R x12.2.2))) rfl ?_
      obtain rfl := Option.some.inj hf
      refine rh_Ex.fgt [some (.ref 0), some (.int u1), some (.int u2), some (.int u3), some (.int u4), some (.int (s68.1 ||| (0 : Int32))), some (.int (s68.2.1 + (1 : Int32)))] ⟨rfl, rfl, rfl, rfl, rfl, rfl, rfl, trivial⟩ ?_
      exact hk
    · rw [if_neg q13] at hf
      refine rh_Ex.stp (s' := ((103, [some (.ref 0), some (.int u1), some (.int u2), some (.int u3), some (.int u4), some (.int s68.1), some (.int s68.2.1)], [.int s68.1]), (x12.2.1, g, mw_R x12.2.2))) rfl (st_icgt_n q13) ?_
      refine rh_Ex.blk 8 (s' := ((68, [some (.ref 0), some (.int u1), some (.int u2), some (.int u3), some (.int u4), some (.int (s68.1 ||| ((1 : Int32) <<< (s68.2.1 &&& 31)))), some (.int (s68.2.1 + (1 : Int32)))], []), (x12.2.1, g, mw_R x12.2.2))) rfl ?_
      obtain rfl := Option.some.inj hf
      refine rh_Ex.fgt [some (.ref 0), some (.int u1), some (.int u2), some (.int u3), some (.int u4), some (.int (s68.1 ||| ((1 : Int32) <<< (s68.2.1 &&& 31)))), some (.int (s68.2.1 + (1 : Int32)))] ⟨rfl, rfl, rfl, rfl, rfl, rfl, rfl, trivial⟩ ?_
      exact hk
set_option maxRecDepth 20000 in
set_option maxHeartbeats 4000000 in
theorem R_Mo_hour (d : Nat) (rd : Option Nat) (h : Nat → Nat → Int32) (g : Nat → Nat → Int64) (p0 : Int32) (p1 : Int32) (p2 : Int32) (p3 : Int32) {z9 : Int32 × (Nat → Nat → Int32) × (Option Nat)} (hf : f_Mo_hour h rd p0 p1 p2 p3 = some z9) : rh_M rh_PT mw_L (d + 269) 287 [.ref 0, .int p0, .int p1, .int p2, .int p3] (h, g, mw_R rd) (some (.int z9.1)) (z9.2.1, g, mw_R z9.2.2) := by
  unfold f_Mo_hour at hf
  refine rh_go pt_287 (Nat.le_of_ble_eq_true rfl) (lv := [some (.ref 0), some (.int p0), some (.int p1), some (.int p2), some (.int p3), none, none]) rfl ?_
  refine rh_Ex.blk 5 (s' := ((7, [some (.ref 0), some (.int p0), some (.int p1), some (.int p2), some (.int p3), none, none], [.int p0, .ref 0]), (rh_up h 0 9 (0 : Int32), g, mw_R rd))) rfl ?_
  obtain ⟨x1, hx1, hf⟩ := rh_bq hf
  refine rh_Ex.call (j := 183) (rc := some 11) [.ref 0, .int p0] [] (some (.int x1)) rfl rfl rfl (Nat.le_of_ble_eq_true rfl) (R_Mo_isOne (d + 266) rd (rh_up h 0 9 (0 : Int32)) g p0 hx1) ?_
  show rh_Ex _ _ _ ((10, [some (.ref 0), some (.int p0), some (.int p1), some (.int p2), some (.int p3), none, none], [.int x1]), (rh_up h 0 9 (0 : Int32), g, mw_R rd)) _ _
  by_cases q2 : x1 = 0
  · rw [if_pos q2] at hf
    refine rh_Ex.stp (s' := ((60, [some (.ref 0), some (.int p0), some (.int p1), some (.int p2), some (.int p3), none, none], []), (rh_up h 0 9 (0 : Int32), g, mw_R rd))) rfl (st_ifeq_p q2) ?_
    refine rh_Ex.blk 1 (s' := ((61, [some (.ref 0), some (.int p0), some (.int p1), some (.int p2), some (.int p3), none, none], [.int (-1 : Int32)]), (rh_up h 0 9 (0 : Int32), g, mw_R rd))) rfl ?_
    obtain rfl := Option.some.inj hf
    exact rh_Ex.ret rfl rfl
  · rw [if_neg q2] at hf
    refine rh_Ex.stp (s' := ((13, [some (.ref 0), some (.int p0), some (.int p1), some (.int p2), some (.int p3), none, none], []), (rh_up h 0 9 (0 : Int32), g, mw_R rd))) rfl (st_ifeq_n q2) ?_
    refine rh_Ex.blk 3 (s' := ((18, [some (.ref 0), some (.int p0), some (.int p1), some (.int p2), some (.int p3), none, none], [.int p0, .int (h 0 2)]), (rh_up h 0 9 (0 : Int32), g, mw_R rd))) rfl ?_
    refine rh_Ex.call (j := 180) (rc := none) [.int (h 0 2), .int p0] [] (some (.int (f_Mo_has (h 0 2) p0))) rfl rfl trivial (Nat.le_of_ble_eq_true rfl) (R_Mo_has (d + 267) mw_L (mw_R rd) (rh_up h 0 9 (0 : Int32)) g (h 0 2) p0 rfl) ?_
    show rh_Ex _ _ _ ((21, [some (.ref 0), some (.int p0), some (.int p1), some (.int p2), some (.int p3), none, none], [.int (f_Mo_has (h 0 2) p0)]), (rh_up h 0 9 (0 : Int32), g, mw_R rd)) _ _
    by_cases q3 : (f_Mo_has (h 0 2) p0) = 0
    · rw [if_pos q3] at hf
      refine rh_Ex.stp (s' := ((60, [some (.ref 0), some (.int p0), some (.int p1), some (.int p2), some (.int p3), none, none], []), (rh_up h 0 9 (0 : Int32), g, mw_R rd))) rfl (st_ifeq_p q3) ?_
      refine rh_Ex.blk 1 (s' := ((61, [some (.ref 0), some (.int p0), some (.int p1), some (.int p2), some (.int p3), none, none], [.int (-1 : Int32)]), (rh_up h 0 9 (0 : Int32), g, mw_R rd))) rfl ?_
      obtain rfl := Option.some.inj hf
      exact rh_Ex.ret rfl rfl
    · rw [if_neg q3] at hf
      refine rh_Ex.stp (s' := ((24, [some (.ref 0), some (.int p0), some (.int p1), some (.int p2), some (.int p3), none, none], []), (rh_up h 0 9 (0 : Int32), g, mw_R rd))) rfl (st_ifeq_n q3) ?_
      refine rh_Ex.blk 2 (s' := ((26, [some (.ref 0), some (.int p0), some (.int p1), some (.int p2), some (.int p3), none, none], [.int p1, .ref 0]), (rh_up h 0 9 (0 : Int32), g, mw_R rd))) rfl ?_
      obtain ⟨x4, hx4, hf⟩ := rh_bq hf
      refine rh_Ex.call (j := 185) (rc := some 11) [.ref 0, .int p1] [] (some (.int x4)) rfl rfl rfl (Nat.le_of_ble_eq_true rfl) (R_Mo_areFolk (d + 266) rd (rh_up h 0 9 (0 : Int32)) g p1 hx4) ?_
      show rh_Ex _ _ _ ((29, [some (.ref 0), some (.int p0), some (.int p1), some (.int p2), some (.int p3), none, none], [.int x4]), (rh_up h 0 9 (0 : Int32), g, mw_R rd)) _ _
      by_cases q5 : x4 = 0
      · rw [if_pos q5] at hf
        refine rh_Ex.stp (s' := ((60, [some (.ref 0), some (.int p0), some (.int p1), some (.int p2), some (.int p3), none, none], []), (rh_up h 0 9 (0 : Int32), g, mw_R rd))) rfl (st_ifeq_p q5) ?_
        refine rh_Ex.blk 1 (s' := ((61, [some (.ref 0), some (.int p0), some (.int p1), some (.int p2), some (.int p3), none, none], [.int (-1 : Int32)]), (rh_up h 0 9 (0 : Int32), g, mw_R rd))) rfl ?_
        obtain rfl := Option.some.inj hf
        exact rh_Ex.ret rfl rfl
      · rw [if_neg q5] at hf
        refine rh_Ex.stp (s' := ((32, [some (.ref 0), some (.int p0), some (.int p1), some (.int p2), some (.int p3), none, none], []), (rh_up h 0 9 (0 : Int32), g, mw_R rd))) rfl (st_ifeq_n q5) ?_
        refine rh_Ex.blk 4 (s' := ((38, [some (.ref 0), some (.int p0), some (.int p1), some (.int p2), some (.int p3), none, none], [.int (p1 &&& (h 0 2))]), (rh_up h 0 9 (0 : Int32), g, mw_R rd))) rfl ?_
        by_cases q6 : (p1 &&& (h 0 2)) = 0
        · rw [if_pos q6] at hf
          refine rh_Ex.stp (s' := ((41, [some (.ref 0), some (.int p0), some (.int p1), some (.int p2), some (.int p3), none, none], []), (rh_up h 0 9 (0 : Int32), g, mw_R rd))) rfl (st_ifne_p q6) ?_
          refine rh_Ex.blk 1 (s' := ((42, [some (.ref 0), some (.int p0), some (.int p1), some (.int p2), some (.int p3), none, none], [.int p2]), (rh_up h 0 9 (0 : Int32), g, mw_R rd))) rfl ?_
          obtain ⟨x7, hx7, hf⟩ := rh_bq hf
          refine rh_Ex.call (j := 187) (rc := none) [.int p2] [] (some (.int x7)) rfl rfl trivial (Nat.le_of_ble_eq_true rfl) (R_Mo_isHeavy (d + 266) mw_L (mw_R rd) (rh_up h 0 9 (0 : Int32)) g p2 hx7) ?_
          show rh_Ex _ _ _ ((45, [some (.ref 0), some (.int p0), some (.int p1), some (.int p2), some (.int p3), none, none], [.int x7]), (rh_up h 0 9 (0 : Int32), g, mw_R rd)) _ _
          by_cases q8 : x7 = 0
          · rw [if_pos q8] at hf
            refine rh_Ex.stp (s' := ((60, [some (.ref 0), some (.int p0), some (.int p1), some (.int p2), some (.int p3), none, none], []), (rh_up h 0 9 (0 : Int32), g, mw_R rd))) rfl (st_ifeq_p q8) ?_
            refine rh_Ex.blk 1 (s' := ((61, [some (.ref 0), some (.int p0), some (.int p1), some (.int p2), some (.int p3), none, none], [.int (-1 : Int32)]), (rh_up h 0 9 (0 : Int32), g, mw_R rd))) rfl ?_
            obtain rfl := Option.some.inj hf
            exact rh_Ex.ret rfl rfl
          · rw [if_neg q8] at hf
            refine rh_Ex.stp (s' := ((48, [some (.ref 0), some (.int p0), some (.int p1), some (.int p2), some (.int p3), none, none], []), (rh_up h 0 9 (0 : Int32), g, mw_R rd))) rfl (st_ifeq_n q8) ?_
            refine rh_Ex.blk 3 (s' := ((54, [some (.ref 0), some (.int p0), some (.int p1), some (.int p2), some (.int p3), none, none], [.int (999 : Int32), .int (0 : Int32), .int p3]), (rh_up h 0 9 (0 : Int32), g, mw_R rd))) rfl ?_
            refine rh_Ex.call (j := 179) (rc := none) [.int p3, .int (0 : Int32), .int (999 : Int32)] [] (some (.int (f_Mo_in p3 (0 : Int32) (999 : Int32)))) rfl rfl trivial (Nat.le_of_ble_eq_true rfl) (R_Mo_in (d + 267) mw_L (mw_R rd) (rh_up h 0 9 (0 : Int32)) g p3 (0 : Int32) (999 : Int32) rfl) ?_
            show rh_Ex _ _ _ ((57, [some (.ref 0), some (.int p0), some (.int p1), some (.int p2), some (.int p3), none, none], [.int (f_Mo_in p3 (0 : Int32) (999 : Int32))]), (rh_up h 0 9 (0 : Int32), g, mw_R rd)) _ _
            by_cases q9 : (f_Mo_in p3 (0 : Int32) (999 : Int32)) = 0
            · rw [if_pos q9] at hf
              refine rh_Ex.stp (s' := ((60, [some (.ref 0), some (.int p0), some (.int p1), some (.int p2), some (.int p3), none, none], []), (rh_up h 0 9 (0 : Int32), g, mw_R rd))) rfl (st_ifne_p q9) ?_
              refine rh_Ex.blk 1 (s' := ((61, [some (.ref 0), some (.int p0), some (.int p1), some (.int p2), some (.int p3), none, none], [.int (-1 : Int32)]), (rh_up h 0 9 (0 : Int32), g, mw_R rd))) rfl ?_
              obtain rfl := Option.some.inj hf
              exact rh_Ex.ret rfl rfl
            · rw [if_neg q9] at hf
              refine rh_Ex.stp (s' := ((62, [some (.ref 0), some (.int p0), some (.int p1), some (.int p2), some (.int p3), none, none], []), (rh_up h 0 9 (0 : Int32), g, mw_R rd))) rfl (st_ifne_n q9) ?_
              refine rh_Ex.blk 4 (s' := ((68, [some (.ref 0), some (.int p0), some (.int p1), some (.int p2), some (.int p3), some (.int (0 : Int32)), some (.int (0 : Int32))], []), (rh_up h 0 9 (0 : Int32), g, mw_R rd))) rfl ?_
              obtain ⟨r14, hr14, hf⟩ := rh_bq hf
              refine rh_Ex.fgt [some (.ref 0), some (.int p0), some (.int p1), some (.int p2), some (.int p3), some (.int (0 : Int32)), some (.int (0 : Int32))] ⟨rfl, rfl, rfl, rfl, rfl, rfl, rfl, trivial⟩ ?_
              refine rh_Ex.loop _ _ _ (lb_Mo_hour_68 d p0 p1 p2 p3  g _ _) rh_N _ r14 hr14 ?_
              refine rh_Ex.blk 1 (s' := ((122, [none, none, none, none, none, some (.int r14.1), none], [.int r14.1]), (r14.2.1, g, mw_R r14.2.2))) rfl ?_
              obtain rfl := Option.some.inj hf
              exact rh_Ex.ret rfl rfl
        · rw [if_neg q6] at hf
          refine rh_Ex.stp (s' := ((60, [some (.ref 0), some (.int p0), some (.int p1), some (.int p2), some (.int p3), none, none], []), (rh_up h 0 9 (0 : Int32), g, mw_R rd))) rfl (st_ifne_n q6) ?_
          refine rh_Ex.blk 1 (s' := ((61, [some (.ref 0), some (.int p0), some (.int p1), some (.int p2), some (.int p3), none, none], [.int (-1 : Int32)]), (rh_up h 0 9 (0 : Int32), g, mw_R rd))) rfl ?_
          obtain rfl := Option.some.inj hf
          exact rh_Ex.ret rfl rfl
