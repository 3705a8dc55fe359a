def b_Mo_ballast_29 (u1 : Int32) (u2 : Int32) : (Int32 × Int32 × (Nat → Nat → Int32) × (Option Nat)) → Option ((Int32 × Int32 × (Nat → Nat → Int32) × (Option Nat)) ⊕ (Int32 × (Nat → Nat → Int32) × (Option Nat))) := fun s29 =>
  if (9 : Int32) ≤ s29.2.1 then
    some (.inr (s29.1, s29.2.2.1, s29.2.2.2))
  else
    (f_Mo_weightOfAll s29.2.2.1 s29.2.2.2 u1 ((f_Mo_dawn s29.2.2.1) + s29.2.1)).bind (fun x7 =>
      some (.inl ((if x7.1 < s29.1 then x7.1 else s29.1), s29.2.1 + (1 : Int32), x7.2.1, x7.2.2))
    )
def b_Mo_ballast_73 (u1 : Int32) (u2 : Int32) (u3 : Int32) (h : Nat → Nat → Int32) (rd : Option Nat) : (Int32 × Int32) → Option ((Int32 × Int32) ⊕ (Int32)) := fun s73 =>
  if (f_Mo_everybody h) < s73.2 then
    some (.inr s73.1)
  else
    if (s73.2 &&& (u1 ||| (h 0 2))) = 0 then
      rh_g (0 ≤ s73.2.toInt ∧ s73.2.toInt < ((512 : Nat) : Int)) (
        if u2 ≤ (u3 + (h 9 s73.2.toNatClampNeg)) then
          if s73.1 = (-1 : Int32) then
            if (1 : Int32) = 0 then
              some (.inl (s73.1, s73.2 + (1 : Int32)))
            else
              some (.inl (s73.2, s73.2 + (1 : Int32)))
          else
            rh_g (0 ≤ s73.2.toInt ∧ s73.2.toInt < ((512 : Nat) : Int)) (
              rh_g (0 ≤ s73.1.toInt ∧ s73.1.toInt < ((512 : Nat) : Int)) (
                if (h 9 s73.2.toNatClampNeg) < (h 9 s73.1.toNatClampNeg) then
                  if (1 : Int32) = 0 then
                    some (.inl (s73.1, s73.2 + (1 : Int32)))
                  else
                    some (.inl (s73.2, s73.2 + (1 : Int32)))
                else
                  rh_g (0 ≤ s73.2.toInt ∧ s73.2.toInt < ((512 : Nat) : Int)) (
                    rh_g (0 ≤ s73.1.toInt ∧ s73.1.toInt < ((512 : Nat) : Int)) (
                      if (h 9 s73.2.toNatClampNeg) = (h 9 s73.1.toNatClampNeg) then
                        if (f_In_bitCount s73.1) ≤ (f_In_bitCount s73.2) then
                          if (0 : Int32) = 0 then
                            some (.inl (s73.1, s73.2 + (1 : Int32)))
                          else
                            some (.inl (s73.2, s73.2 + (1 : Int32)))
                        else
                          if (1 : Int32) = 0 then
                            some (.inl (s73.1, s73.2 + (1 : Int32)))
                          else
                            some (.inl (s73.2, s73.2 + (1 : Int32)))
                      else
                        if (0 : Int32) = 0 then
                          some (.inl (s73.1, s73.2 + (1 : Int32)))
                        else
                          some (.inl (s73.2, s73.2 + (1 : Int32)))
                    )
                  )
              )
            )
        else
          some (.inl (s73.1, s73.2 + (1 : Int32)))
      )
    else
      some (.inl (s73.1, s73.2 + (1 : Int32)))
def f_Mo_ballast (h : Nat → Nat → Int32) (rd : Option Nat) (p0 : Int32) (p1 : Int32) : Option (Int32 × (Nat → Nat → Int32) × (Option Nat)) :=
  (f_Mo_areFolk (rh_up h 0 9 (0 : Int32)) p0).bind (fun x1 =>
    if x1 = 0 then
      some (((-1 : Int32), rh_up h 0 9 (0 : Int32), rd))
    else
      (f_Mo_isHeavy p1).bind (fun x3 =>
        if x3 = 0 then
          some (((-1 : Int32), rh_up h 0 9 (0 : Int32), rd))
        else
          (rh_loop (b_Mo_ballast_29 p0 p1) rh_N ((1000000 : Int32), (0 : Int32), rh_up h 0 9 (0 : Int32), rd)).bind (fun r8 =>
            (f_Mo_findSets r8.2.1 r8.2.2 (f_Mo_dawn r8.2.1)).bind (fun x9 =>
              (rh_loop (b_Mo_ballast_73 p0 p1 r8.1 x9.1 x9.2) rh_N ((-1 : Int32), (0 : Int32))).bind (fun r28 =>
                if r28 = (-1 : Int32) then
                  some (((-2 : Int32), x9.1, x9.2))
                else
                  (f_Mo_tell (rh_up x9.1 0 8 (0 : Int32)) r28).bind (fun x30 =>
                    rh_g (0 ≤ r28.toInt ∧ r28.toInt < ((512 : Nat) : Int)) (
                      some ((x30 9 r28.toNatClampNeg, x30, x9.2))
                    )
                  )
              )
            )
          )
      )
  )
set_option maxRecDepth 20000 in
set_option maxHeartbeats 4000000 in
theorem lb_Mo_ballast_29 (d : Nat) (u1 : Int32) (u2 : Int32) (g : Nat → Nat → Int64) (v9 : Option Value) (h9 : rh_H) : ∀ s29 x9, b_Mo_ballast_29 u1 u2 s29 = some x9 → Sum.elim (fun s29 => rh_Ex (rh_M rh_PT mw_L (d + 268)) mw_L pg_X12_ballast ((29, [some (.ref 0), some (.int u1), some (.int u2), some (.int s29.1), some (.int s29.2.1), none, none], []), (s29.2.2.1, g, mw_R s29.2.2.2)) v9 h9) (fun e9 => rh_Ex (rh_M rh_PT mw_L (d + 268)) mw_L pg_X12_ballast ((59, [some (.ref 0), some (.int u1), some (.int u2), some (.int e9.1), none, none, none], []), (e9.2.1, g, mw_R e9.2.2)) v9 h9) x9 → rh_Ex (rh_M rh_PT mw_L (d + 268)) mw_L pg_X12_ballast ((29, [some (.ref 0), some (.int u1), some (.int u2), some (.int s29.1), some (.int s29.2.1), none, none], []), (s29.2.2.1, g, mw_R s29.2.2.2)) v9 h9 := by
  intro s29 x9 hf hk
  unfold b_Mo_ballast_29 at hf
  refine rh_Ex.blk 2 (s' := ((33, [some (.ref 0), some (.int u1), some (.int u2), some (.int s29.1), some (.int s29.2.1), none, none], [.int (9 : Int32), .int s29.2.1]), (s29.2.2.1, g, mw_R s29.2.2.2))) rfl ?_
  by_cases q6 : (9 : Int32) ≤ s29.2.1
  · rw [if_pos q6] at hf
    refine rh_Ex.stp (s' := ((59, [some (.ref 0), some (.int u1), some (.int u2), some (.int s29.1), some (.int s29.2.1), none, none], []), (s29.2.2.1, g, mw_R s29.2.2.2))) rfl (st_icge_p q6) ?_
    obtain rfl := Option.some.inj hf
    refine rh_Ex.fgt [some (.ref 0), some (.int u1), some (.int u2), some (.int s29.1), none, none, none] ⟨rfl, rfl, rfl, rfl, trivial⟩ ?_
    exact hk
  · rw [if_neg q6] at hf
    refine rh_Ex.stp (s' := ((36, [some (.ref 0), some (.int u1), some (.int u2), some (.int s29.1), some (.int s29.2.1), none, none], []), (s29.2.2.1, g, mw_R s29.2.2.2))) rfl (st_icge_n q6) ?_
    refine rh_Ex.blk 4 (s' := ((40, [some (.ref 0), some (.int u1), some (.int u2), some (.int s29.1), some (.int s29.2.1), none, none], [.ref 0, .int u1, .ref 0, .int s29.1]), (s29.2.2.1, g, mw_R s29.2.2.2))) rfl ?_
    refine rh_Ex.call (j := 209) (rc := some 11) [.ref 0] [.int u1, .ref 0, .int s29.1] (some (.int (f_Mo_dawn s29.2.2.1))) rfl rfl rfl (Nat.le_of_ble_eq_true rfl) (R_Mo_dawn (d + 267) s29.2.2.2 s29.2.2.1 g  rfl) ?_
    show rh_Ex _ _ _ ((43, [some (.ref 0), some (.int u1), some (.int u2), some (.int s29.1), some (.int s29.2.1), none, none], [.int (f_Mo_dawn s29.2.2.1), .int u1, .ref 0, .int s29.1]), (s29.2.2.1, g, mw_R s29.2.2.2)) _ _
    refine rh_Ex.blk 2 (s' := ((46, [some (.ref 0), some (.int u1), some (.int u2), some (.int s29.1), some (.int s29.2.1), none, none], [.int ((f_Mo_dawn s29.2.2.1) + s29.2.1), .int u1, .ref 0, .int s29.1]), (s29.2.2.1, g, mw_R s29.2.2.2))) rfl ?_
    obtain ⟨x7, hx7, hf⟩ := rh_bq hf
    refine rh_Ex.call (j := 207) (rc := some 11) [.ref 0, .int u1, .int ((f_Mo_dawn s29.2.2.1) + s29.2.1)] [.int s29.1] (some (.int x7.1)) rfl rfl rfl (Nat.le_of_ble_eq_true rfl) (R_Mo_weightOfAll d s29.2.2.2 s29.2.2.1 g u1 ((f_Mo_dawn s29.2.2.1) + s29.2.1) hx7) ?_
    show rh_Ex _ _ _ ((49, [some (.ref 0), some (.int u1), some (.int u2), some (.int s29.1), some (.int s29.2.1), none, none], [.int x7.1, .int s29.1]), (x7.2.1, g, mw_R x7.2.2)) _ _
    refine rh_Ex.stp (s' := ((52, [some (.ref 0), some (.int u1), some (.int u2), some (.int s29.1), some (.int s29.2.1), none, none], [.int (if x7.1 < s29.1 then x7.1 else s29.1)]), (x7.2.1, g, mw_R x7.2.2))) rfl (st_mmin (Nat.le_of_ble_eq_true rfl)) ?_
    refine rh_Ex.blk 3 (s' := ((29, [some (.ref 0), some (.int u1), some (.int u2), some (.int (if x7.1 < s29.1 then x7.1 else s29.1)), some (.int (s29.2.1 + (1 : Int32))), none, none], []), (x7.2.1, g, mw_R x7.2.2))) rfl ?_
    obtain rfl := Option.some.inj hf
    refine rh_Ex.fgt [some (.ref 0), some (.int u1), some (.int u2), some (.int (if x7.1 < s29.1 then x7.1 else s29.1)), some (.int (s29.2.1 + (1 : Int32))), none, none] ⟨rfl, rfl, rfl, rfl, rfl, trivial⟩ ?_
    exact hk
set_option maxRecDepth 20000 in
set_option maxHeartbeats 4000000 in
theorem lb_Mo_ballast_73 (d : Nat) (u1 : Int32) (u2 : Int32) (u3 : Int32) (h : Nat → Nat → Int32) (rd : Option Nat) (g : Nat → Nat → Int64) (v9 : Option Value) (h9 : rh_H) : ∀ s73 x9, b_Mo_ballast_73 u1 u2 u3 h rd s73 = some x9 → Sum.elim (fun s73 => rh_Ex (rh_M rh_PT mw_L (d + 268)) mw_L pg_X12_ballast ((73, [some (.ref 0), some (.int u1), some (.int u2), some (.int u3), some (.int s73.1), some (.int s73.2), none], []), (h, g, mw_R rd)) v9 h9) (fun e9 => rh_Ex (rh_M rh_PT mw_L (d + 268)) mw_L pg_X12_ballast ((185, [some (.ref 0), none, none, none, some (.int e9), none, none], []), (h, g, mw_R rd)) v9 h9) x9 → rh_Ex (rh_M rh_PT mw_L (d + 268)) mw_L pg_X12_ballast ((73, [some (.ref 0), some (.int u1), some (.int u2), some (.int u3), some (.int s73.1), some (.int s73.2), none], []), (h, g, mw_R rd)) v9 h9 := by
  intro s73 x9 hf hk
  unfold b_Mo_ballast_73 at hf
  refine rh_Ex.blk 2 (s' := ((76, [some (.ref 0), some (.int u1), some (.int u2), some (.int u3), some (.int s73.1), some (.int s73.2), none], [.ref 0, .int s73.2]), (h, g, mw_R rd))) rfl ?_
  refine rh_Ex.call (j := 184) (rc := some 11) [.ref 0] [.int s73.2] (some (.int (f_Mo_everybody h))) rfl rfl rfl (Nat.le_of_ble_eq_true rfl) (R_Mo_everybody (d + 267) rd h g  rfl) ?_
  show rh_Ex _ _ _ ((79, [some (.ref 0), some (.int u1), some (.int u2), some (.int u3), some (.int s73.1), some (.int s73.2), none], [.int (f_Mo_everybody h), .int s73.2]), (h, g, mw_R rd)) _ _
  by_cases q11 : (f_Mo_everybody h) < s73.2
  · rw [if_pos q11] at hf
    refine rh_Ex.stp (s' := ((185, [some (.ref 0), some (.int u1), some (.int u2), some (.int u3), some (.int s73.1), some (.int s73.2), none], []), (h, g, mw_R rd))) rfl (st_icgt_p q11) ?_
    obtain rfl := Option.some.inj hf
    refine rh_Ex.fgt [some (.ref 0), none, none, none, some (.int s73.1), none, none] ⟨rfl, rfl, trivial⟩ ?_
    exact hk
  · rw [if_neg q11] at hf
    refine rh_Ex.stp (s' := ((82, [some (.ref 0), some (.int u1), some (.int u2), some (.int u3), some (.int s73.1), some (.int s73.2), none], []), (h, g, mw_R rd))) rfl (st_icgt_n q11) ?_
    refine rh_Ex.blk 6 (s' := ((91, [some (.ref 0), some (.int u1), some (.int u2), some (.int u3), some (.int s73.1), some (.int s73.2), none], [.int (s73.2 &&& (u1 ||| (h 0 2)))]), (h, g, mw_R rd))) rfl ?_
    by_cases q12 : (s73.2 &&& (u1 ||| (h 0 2))) = 0
    · rw [if_pos q12] at hf
      refine rh_Ex.stp (s' := ((94, [some (.ref 0), some (.int u1), some (.int u2), some (.int u3), some (.int s73.1), some (.int s73.2), none], []), (h, g, mw_R rd))) rfl (st_ifne_p q12) ?_
      refine rh_Ex.blk 4 (s' := ((101, [some (.ref 0), some (.int u1), some (.int u2), some (.int u3), some (.int s73.1), some (.int s73.2), none], [.int s73.2, .ref 9, .int u3]), (h, g, mw_R rd))) rfl ?_
      obtain ⟨q13, hf⟩ := rh_gq hf
      refine rh_Ex.stp (s' := ((102, [some (.ref 0), some (.int u1), some (.int u2), some (.int u3), some (.int s73.1), some (.int s73.2), none], [.int (h 9 s73.2.toNatClampNeg), .int u3]), (h, g, mw_R rd))) rfl (st_iald (n := 512) rfl q13) ?_
      refine rh_Ex.blk 2 (s' := ((104, [some (.ref 0), some (.int u1), some (.int u2), some (.int u3), some (.int s73.1), some (.int s73.2), none], [.int u2, .int (u3 + (h 9 s73.2.toNatClampNeg))]), (h, g, mw_R rd))) rfl ?_
      by_cases q14 : u2 ≤ (u3 + (h 9 s73.2.toNatClampNeg))
      · rw [if_pos q14] at hf
        refine rh_Ex.stp (s' := ((110, [some (.ref 0), some (.int u1), some (.int u2), some (.int u3), some (.int s73.1), some (.int s73.2), none], []), (h, g, mw_R rd))) rfl (st_icge_p q14) ?_
        refine rh_Ex.blk 2 (s' := ((113, [some (.ref 0), some (.int u1), some (.int u2), some (.int u3), some (.int s73.1), some (.int s73.2), none], [.int (-1 : Int32), .int s73.1]), (h, g, mw_R rd))) rfl ?_
        by_cases q15 : s73.1 = (-1 : Int32)
        · rw [if_pos q15] at hf
          refine rh_Ex.stp (s' := ((163, [some (.ref 0), some (.int u1), some (.int u2), some (.int u3), some (.int s73.1), some (.int s73.2), none], []), (h, g, mw_R rd))) rfl (st_iceq_p q15) ?_
          refine rh_Ex.blk 4 (s' := ((172, [some (.ref 0), some (.int u1), some (.int u2), some (.int u3), some (.int s73.1), some (.int s73.2), some (.int (1 : Int32))], [.int (1 : Int32)]), (h, g, mw_R rd))) rfl ?_
          by_cases q16 : (1 : Int32) = 0
          · rw [if_pos q16] at hf
            refine rh_Ex.stp (s' := ((179, [some (.ref 0), some (.int u1), some (.int u2), some (.int u3), some (.int s73.1), some (.int s73.2), some (.int (1 : Int32))], []), (h, g, mw_R rd))) rfl (st_ifeq_p q16) ?_
            refine rh_Ex.blk 2 (s' := ((73, [some (.ref 0), some (.int u1), some (.int u2), some (.int u3), some (.int s73.1), some (.int (s73.2 + (1 : Int32))), some (.int (1 : Int32))], []), (h, g, mw_R rd))) rfl ?_
            obtain rfl := Option.some.inj hf
            refine rh_Ex.fgt [some (.ref 0), some (.int u1), some (.int u2), some (.int u3), some (.int s73.1), some (.int (s73.2 + (1 : Int32))), none] ⟨rfl, rfl, rfl, rfl, rfl, rfl, trivial⟩ ?_
            exact hk
          · rw [if_neg q16] at hf
            refine rh_Ex.stp (s' := ((175, [some (.ref 0), some (.int u1), some (.int u2), some (.int u3), some (.int s73.1), some (.int s73.2), some (.int (1 : Int32))], []), (h, g, mw_R rd))) rfl (st_ifeq_n q16) ?_
            refine rh_Ex.blk 4 (s' := ((73, [some (.ref 0), some (.int u1), some (.int u2), some (.int u3), some (.int s73.2), some (.int (s73.2 + (1 : Int32))), some (.int (1 : Int32))], []), (h, g, mw_R rd))) rfl ?_
            obtain rfl := Option.some.inj hf
            refine rh_Ex.fgt [some (.ref 0), some (.int u1), some (.int u2), some (.int u3), some (.int s73.2), some (.int (s73.2 + (1 : Int32))), none] ⟨rfl, rfl, rfl, rfl, rfl, rfl, trivial⟩ ?_
            exact hk
        · rw [if_neg q15] at hf
          refine rh_Ex.stp (s' := ((116, [some (.ref 0), some (.int u1), some (.int u2), some (.int u3), some (.int s73.1), some (.int s73.2), none], []), (h, g, mw_R rd))) rfl (st_iceq_n q15) ?_
          refine rh_Ex.blk 3 (s' := ((122, [some (.ref 0), some (.int u1), some (.int u2), some (.int u3), some (.int s73.1), some (.int s73.2), none], [.int s73.2, .ref 9]), (h, g, mw_R rd))) rfl ?_
          obtain ⟨q17, hf⟩ := rh_gq hf
          refine rh_Ex.stp (s' := ((123, [some (.ref 0), some (.int u1), some (.int u2), some (.int u3), some (.int s73.1), some (.int s73.2), none], [.int (h 9 s73.2.toNatClampNeg)]), (h, g, mw_R rd))) rfl (st_iald (n := 512) rfl q17) ?_
          refine rh_Ex.blk 3 (s' := ((129, [some (.ref 0), some (.int u1), some (.int u2), some (.int u3), some (.int s73.1), some (.int s73.2), none], [.int s73.1, .ref 9, .int (h 9 s73.2.toNatClampNeg)]), (h, g, mw_R rd))) rfl ?_
          obtain ⟨q18, hf⟩ := rh_gq hf
          refine rh_Ex.stp (s' := ((130, [some (.ref 0), some (.int u1), some (.int u2), some (.int u3), some (.int s73.1), some (.int s73.2), none], [.int (h 9 s73.1.toNatClampNeg), .int (h 9 s73.2.toNatClampNeg)]), (h, g, mw_R rd))) rfl (st_iald (n := 512) rfl q18) ?_
          by_cases q19 : (h 9 s73.2.toNatClampNeg) < (h 9 s73.1.toNatClampNeg)
          · rw [if_pos q19] at hf
            refine rh_Ex.stp (s' := ((163, [some (.ref 0), some (.int u1), some (.int u2), some (.int u3), some (.int s73.1), some (.int s73.2), none], []), (h, g, mw_R rd))) rfl (st_iclt_p q19) ?_
            refine rh_Ex.blk 4 (s' := ((172, [some (.ref 0), some (.int u1), some (.int u2), some (.int u3), some (.int s73.1), some (.int s73.2), some (.int (1 : Int32))], [.int (1 : Int32)]), (h, g, mw_R rd))) rfl ?_
            by_cases q20 : (1 : Int32) = 0
            · rw [if_pos q20] at hf
              refine rh_Ex.stp (s' := ((179, [some (.ref 0), some (.int u1), some (.int u2), some (.int u3), some (.int s73.1), some (.int s73.2), some (.int (1 : Int32))], []), (h, g, mw_R rd))) rfl (st_ifeq_p q20) ?_
              refine rh_Ex.blk 2 (s' := ((73, [some (.ref 0), some (.int u1), some (.int u2), some (.int u3), some (.int s73.1), some (.int (s73.2 + (1 : Int32))), some (.int (1 : Int32))], []), (h, g, mw_R rd))) rfl ?_
              obtain rfl := Option.some.inj hf
              refine rh_Ex.fgt [some (.ref 0), some (.int u1), some (.int u2), some (.int u3), some (.int s73.1), some (.int (s73.2 + (1 : Int32))), none] ⟨rfl, rfl, rfl, rfl, rfl, rfl, trivial⟩ ?_
              exact hk
            · rw [if_neg q20] at hf
              refine rh_Ex.stp (s' := ((175, [some (.ref 0), some (.int u1), some (.int u2), some (.int u3), some (.int s73.1), some (.int s73.2), some (.int (1 : Int32))], []), (h, g, mw_R rd))) rfl (st_ifeq_n q20) ?_
              refine rh_Ex.blk 4 (s' := ((73, [some (.ref 0), some (.int u1), some (.int u2), some (.int u3), some (.int s73.2), some (.int (s73.2 + (1 : Int32))), some (.int (1 : Int32))], []), (h, g, mw_R rd))) rfl ?_
              obtain rfl := Option.some.inj hf
              refine rh_Ex.fgt [some (.ref 0), some (.int u1), some (.int u2), some (.int u3), some (.int s73.2), some (.int (s73.2 + (1 : Int32))), none] ⟨rfl, rfl, rfl, rfl, rfl, rfl, trivial⟩ ?_
              exact hk
          · rw [if_neg q19] at hf
            refine rh_Ex.stp (s' := ((133, [some (.ref 0), some (.int u1), some (.int u2), some (.int u3), some (.int s73.1), some (.int s73.2), none], []), (h, g, mw_R rd))) rfl (st_iclt_n q19) ?_
            refine rh_Ex.blk 3 (s' := ((139, [some (.ref 0), some (.int u1), some (.int u2), some (.int u3), some (.int s73.1), some (.int s73.2), none], [.int s73.2, .ref 9]), (h, g, mw_R rd))) rfl ?_
            obtain ⟨q21, hf⟩ := rh_gq hf
            refine rh_Ex.stp (s' := ((140, [some (.ref 0), some (.int u1), some (.int u2), some (.int u3), some (.int s73.1), some (.int s73.2), none], [.int (h 9 s73.2.toNatClampNeg)]), (h, g, mw_R rd))) rfl (st_iald (n := 512) rfl q21) ?_
            refine rh_Ex.blk 3 (s' := ((146, [some (.ref 0), some (.int u1), some (.int u2), some (.int u3), some (.int s73.1), some (.int s73.2), none], [.int s73.1, .ref 9, .int (h 9 s73.2.toNatClampNeg)]), (h, g, mw_R rd))) rfl ?_
            obtain ⟨q22, hf⟩ := rh_gq hf
            refine rh_Ex.stp (s' := ((147, [some (.ref 0), some (.int u1), some (.int u2), some (.int u3), some (.int s73.1), some (.int s73.2), none], [.int (h 9 s73.1.toNatClampNeg), .int (h 9 s73.2.toNatClampNeg)]), (h, g, mw_R rd))) rfl (st_iald (n := 512) rfl q22) ?_
            by_cases q23 : (h 9 s73.2.toNatClampNeg) = (h 9 s73.1.toNatClampNeg)
            · rw [if_pos q23] at hf
              refine rh_Ex.stp (s' := ((150, [some (.ref 0), some (.int u1), some (.int u2), some (.int u3), some (.int s73.1), some (.int s73.2), none], []), (h, g, mw_R rd))) rfl (st_icne_p q23) ?_
              refine rh_Ex.blk 1 (s' := ((152, [some (.ref 0), some (.int u1), some (.int u2), some (.int u3), some (.int s73.1), some (.int s73.2), none], [.int s73.2]), (h, g, mw_R rd))) rfl ?_
              refine rh_Ex.call (j := 298) (rc := none) [.int s73.2] [] (some (.int (f_In_bitCount s73.2))) rfl rfl trivial (Nat.le_of_ble_eq_true rfl) (R_In_bitCount (d + 267) mw_L (mw_R rd) h g s73.2 rfl) ?_
              show rh_Ex _ _ _ ((155, [some (.ref 0), some (.int u1), some (.int u2), some (.int u3), some (.int s73.1), some (.int s73.2), none], [.int (f_In_bitCount s73.2)]), (h, g, mw_R rd)) _ _
              refine rh_Ex.blk 1 (s' := ((157, [some (.ref 0), some (.int u1), some (.int u2), some (.int u3), some (.int s73.1), some (.int s73.2), none], [.int s73.1, .int (f_In_bitCount s73.2)]), (h, g, mw_R rd))) rfl ?_
              refine rh_Ex.call (j := 298) (rc := none) [.int s73.1] [.int (f_In_bitCount s73.2)] (some (.int (f_In_bitCount s73.1))) rfl rfl trivial (Nat.le_of_ble_eq_true rfl) (R_In_bitCount (d + 267) mw_L (mw_R rd) h g s73.1 rfl) ?_
              show rh_Ex _ _ _ ((160, [some (.ref 0), some (.int u1), some (.int u2), some (.int u3), some (.int s73.1), some (.int s73.2), none], [.int (f_In_bitCount s73.1), .int (f_In_bitCount s73.2)]), (h, g, mw_R rd)) _ _
              by_cases q24 : (f_In_bitCount s73.1) ≤ (f_In_bitCount s73.2)
              · rw [if_pos q24] at hf
                refine rh_Ex.stp (s' := ((167, [some (.ref 0), some (.int u1), some (.int u2), some (.int u3), some (.int s73.1), some (.int s73.2), none], []), (h, g, mw_R rd))) rfl (st_icge_p q24) ?_
                refine rh_Ex.blk 3 (s' := ((172, [some (.ref 0), some (.int u1), some (.int u2), some (.int u3), some (.int s73.1), some (.int s73.2), some (.int (0 : Int32))], [.int (0 : Int32)]), (h, g, mw_R rd))) rfl ?_
                by_cases q25 : (0 : Int32) = 0
                · rw [if_pos q25] at hf
                  refine rh_Ex.stp (s' := ((179, [some (.ref 0), some (.int u1), some (.int u2), some (.int u3), some (.int s73.1), some (.int s73.2), some (.int (0 : Int32))], []), (h, g, mw_R rd))) rfl (st_ifeq_p q25) ?_
                  refine rh_Ex.blk 2 (s' := ((73, [some (.ref 0), some (.int u1), some (.int u2), some (.int u3), some (.int s73.1), some (.int (s73.2 + (1 : Int32))), some (.int (0 : Int32))], []), (h, g, mw_R rd))) rfl ?_
                  obtain rfl := Option.some.inj hf
                  refine rh_Ex.fgt [some (.ref 0), some (.int u1), some (.int u2), some (.int u3), some (.int s73.1), some (.int (s73.2 + (1 : Int32))), none] ⟨rfl, rfl, rfl, rfl, rfl, rfl, trivial⟩ ?_
                  exact hk
                · rw [if_neg q25] at hf
                  refine rh_Ex.stp (s' := ((175, [some (.ref 0), some (.int u1), some (.int u2), some (.int u3), some (.int s73.1), some (.int s73.2), some (.int (0 : Int32))], []), (h, g, mw_R rd))) rfl (st_ifeq_n q25) ?_
                  refine rh_Ex.blk 4 (s' := ((73, [some (.ref 0), some (.int u1), some (.int u2), some (.int u3), some (.int s73.2), some (.int (s73.2 + (1 : Int32))), some (.int (0 : Int32))], []), (h, g, mw_R rd))) rfl ?_
                  obtain rfl := Option.some.inj hf
                  refine rh_Ex.fgt [some (.ref 0), some (.int u1), some (.int u2), some (.int u3), some (.int s73.2), some (.int (s73.2 + (1 : Int32))), none] ⟨rfl, rfl, rfl, rfl, rfl, rfl, trivial⟩ ?_
                  exact hk
              · rw [if_neg q24] at hf
                refine rh_Ex.stp (s' := ((163, [some (.ref 0), some (.int u1), some (.int u2), some (.int u3), some (.int s73.1), some (.int s73.2), none], []), (h, g, mw_R rd))) rfl (st_icge_n q24) ?_
                refine rh_Ex.blk 4 (s' := ((172, [some (.ref 0), some (.int u1), some (.int u2), some (.int u3), some (.int s73.1), some (.int s73.2), some (.int (1 : Int32))], [.int (1 : Int32)]), (h, g, mw_R rd))) rfl ?_
                by_cases q26 : (1 : Int32) = 0
                · rw [if_pos q26] at hf
                  refine rh_Ex.stp (s' := ((179, [some (.ref 0), some (.int u1), some (.int u2), some (.int u3), some (.int s73.1), some (.int s73.2), some (.int (1 : Int32))], []), (h, g, mw_R rd))) rfl (st_ifeq_p q26) ?_
                  refine rh_Ex.blk 2 (s' := ((73, [some (.ref 0), some (.int u1), some (.int u2), some (.int u3), some (.int s73.1), some (.int (s73.2 + (1 : Int32))), some (.int (1 : Int32))], []), (h, g, mw_R rd))) rfl ?_
                  obtain rfl := Option.some.inj hf
                  refine rh_Ex.fgt [some (.ref 0), some (.int u1), some (.int u2), some (.int u3), some (.int s73.1), some (.int (s73.2 + (1 : Int32))), none] ⟨rfl, rfl, rfl, rfl, rfl, rfl, trivial⟩ ?_
                  exact hk
                · rw [if_neg q26] at hf
                  refine rh_Ex.stp (s' := ((175, [some (.ref 0), some (.int u1), some (.int u2), some (.int u3), some (.int s73.1), some (.int s73.2), some (.int (1 : Int32))], []), (h, g, mw_R rd))) rfl (st_ifeq_n q26) ?_
                  refine rh_Ex.blk 4 (s' := ((73, [some (.ref 0), some (.int u1), some (.int u2), some (.int u3), some (.int s73.2), some (.int (s73.2 + (1 : Int32))), some (.int (1 : Int32))], []), (h, g, mw_R rd))) rfl ?_
                  obtain rfl := Option.some.inj hf
                  refine rh_Ex.fgt [some (.ref 0), some (.int u1), some (.int u2), some (.int u3), some (.int s73.2), some (.int (s73.2 + (1 : Int32))), none] ⟨rfl, rfl, rfl, rfl, rfl, rfl, trivial⟩ ?_
                  exact hk
            · rw [if_neg q23] at hf
              refine rh_Ex.stp (s' := ((167, [some (.ref 0), some (.int u1), some (.int u2), some (.int u3), some (.int s73.1), some (.int s73.2), none], []), (h, g, mw_R rd))) rfl (st_icne_n q23) ?_
              refine rh_Ex.blk 3 (s' := ((172, [some (.ref 0), some (.int u1), some (.int u2), some (.int u3), some (.int s73.1), some (.int s73.2), some (.int (0 : Int32))], [.int (0 : Int32)]), (h, g, mw_R rd))) rfl ?_
              by_cases q27 : (0 : Int32) = 0
              · rw [if_pos q27] at hf
                refine rh_Ex.stp (s' := ((179, [some (.ref 0), some (.int u1), some (.int u2), some (.int u3), some (.int s73.1), some (.int s73.2), some (.int (0 : Int32))], []), (h, g, mw_R rd))) rfl (st_ifeq_p q27) ?_
                refine rh_Ex.blk 2 (s' := ((73, [some (.ref 0), some (.int u1), some (.int u2), some (.int u3), some (.int s73.1), some (.int (s73.2 + (1 : Int32))), some (.int (0 : Int32))], []), (h, g, mw_R rd))) rfl ?_
                obtain rfl := Option.some.inj hf
                refine rh_Ex.fgt [some (.ref 0), some (.int u1), some (.int u2), some (.int u3), some (.int s73.1), some (.int (s73.2 + (1 : Int32))), none] ⟨rfl, rfl, rfl, rfl, rfl, rfl, trivial⟩ ?_
                exact hk
              · rw [if_neg q27] at hf
                refine rh_Ex.stp (s' := ((175, [some (.ref 0), some (.int u1), some (.int u2), some (.int u3), some (.int s73.1), some (.int s73.2), some (.int (0 : Int32))], []), (h, g, mw_R rd))) rfl (st_ifeq_n q27) ?_
                refine rh_Ex.blk 4 (s' := ((73, [some (.ref 0), some (.int u1), some (.int u2), some (.int u3), some (.int s73.2), some (.int (s73.2 + (1 : Int32))), some (.int (0 : Int32))], []), (h, g, mw_R rd))) rfl ?_
                obtain rfl := Option.some.inj hf
                refine rh_Ex.fgt [some (.ref 0), some (.int u1), some (.int u2), some (.int u3), some (.int s73.2), some (.int (s73.2 + (1 : Int32))), none] ⟨rfl, rfl, rfl, rfl, rfl, rfl, trivial⟩ ?_
                exact hk
      · rw [if_neg q14] at hf
        refine rh_Ex.stp (s' := ((107, [some (.ref 0), some (.int u1), some (.int u2), some (.int u3), some (.int s73.1), some (.int s73.2), none], []), (h, g, mw_R rd))) rfl (st_icge_n q14) ?_
        refine rh_Ex.blk 3 (s' := ((73, [some (.ref 0), some (.int u1), some (.int u2), some (.int u3), some (.int s73.1), some (.int (s73.2 + (1 : Int32))), none], []), (h, g, mw_R rd))) rfl ?_
        obtain rfl := Option.some.inj hf
        refine rh_Ex.fgt [some (.ref 0), some (.int u1), some (.int u2), some (.int u3), some (.int s73.1), some (.int (s73.2 + (1 : Int32))), none] ⟨rfl, rfl, rfl, rfl, rfl, rfl, trivial⟩ ?_
        exact hk
    · rw [if_neg q12] at hf
      refine rh_Ex.stp (s' := ((179, [some (.ref 0), some (.int u1), some (.int u2), some (.int u3), some (.int s73.1), some (.int s73.2), none], []), (h, g, mw_R rd))) rfl (st_ifne_n q12) ?_
      refine rh_Ex.blk 2 (s' := ((73, [some (.ref 0), some (.int u1), some (.int u2), some (.int u3), some (.int s73.1), some (.int (s73.2 + (1 : Int32))), none], []), (h, g, mw_R rd))) rfl ?_
      obtain rfl := Option.some.inj hf
      refine rh_Ex.fgt [some (.ref 0), some (.int u1), some (.int u2), some (.int u3), some (.int s73.1), some (.int (s73.2 + (1 : Int32))), none] ⟨rfl, rfl, rfl, rfl, rfl, rfl, trivial⟩ ?_
      exact hk
set_option maxRecDepth 20000 in
set_option maxHeartbeats 4000000 in
theorem R_Mo_ballast (d : Nat) (rd : Option Nat) (h : Nat → Nat → Int32) (g : Nat → Nat → Int64) (p0 : Int32) (p1 : Int32) {z9 : Int32 × (Nat → Nat → Int32) × (Option Nat)} (hf : f_Mo_ballast h rd p0 p1 = some z9) : rh_M rh_PT mw_L (d + 269) 288 [.ref 0, .int p0, .int p1] (h, g, mw_R rd) (some (.int z9.1)) (z9.2.1, g, mw_R z9.2.2) := by
  unfold f_Mo_ballast at hf
  refine rh_go pt_288 (Nat.le_of_ble_eq_true rfl) (lv := [some (.ref 0), some (.int p0), some (.int p1), none, none, none, none]) rfl ?_
  refine rh_Ex.blk 5 (s' := ((7, [some (.ref 0), some (.int p0), some (.int p1), none, none, none, none], [.int p0, .ref 0]), (rh_up h 0 9 (0 : Int32), g, mw_R rd))) rfl ?_
  obtain ⟨x1, hx1, hf⟩ := rh_bq hf
  refine rh_Ex.call (j := 185) (rc := some 11) [.ref 0, .int p0] [] (some (.int x1)) rfl rfl rfl (Nat.le_of_ble_eq_true rfl) (R_Mo_areFolk (d + 266) rd (rh_up h 0 9 (0 : Int32)) g p0 hx1) ?_
  show rh_Ex _ _ _ ((10, [some (.ref 0), some (.int p0), some (.int p1), none, none, none, none], [.int x1]), (rh_up h 0 9 (0 : Int32), g, mw_R rd)) _ _
  by_cases q2 : x1 = 0
  · rw [if_pos q2] at hf
    refine rh_Ex.stp (s' := ((20, [some (.ref 0), some (.int p0), some (.int p1), none, none, none, none], []), (rh_up h 0 9 (0 : Int32), g, mw_R rd))) rfl (st_ifeq_p q2) ?_
    refine rh_Ex.blk 1 (s' := ((21, [some (.ref 0), some (.int p0), some (.int p1), none, none, none, none], [.int (-1 : Int32)]), (rh_up h 0 9 (0 : Int32), g, mw_R rd))) rfl ?_
    obtain rfl := Option.some.inj hf
    exact rh_Ex.ret rfl rfl
  · rw [if_neg q2] at hf
    refine rh_Ex.stp (s' := ((13, [some (.ref 0), some (.int p0), some (.int p1), none, none, none, none], []), (rh_up h 0 9 (0 : Int32), g, mw_R rd))) rfl (st_ifeq_n q2) ?_
    refine rh_Ex.blk 1 (s' := ((14, [some (.ref 0), some (.int p0), some (.int p1), none, none, none, none], [.int p1]), (rh_up h 0 9 (0 : Int32), g, mw_R rd))) rfl ?_
    obtain ⟨x3, hx3, hf⟩ := rh_bq hf
    refine rh_Ex.call (j := 187) (rc := none) [.int p1] [] (some (.int x3)) rfl rfl trivial (Nat.le_of_ble_eq_true rfl) (R_Mo_isHeavy (d + 266) mw_L (mw_R rd) (rh_up h 0 9 (0 : Int32)) g p1 hx3) ?_
    show rh_Ex _ _ _ ((17, [some (.ref 0), some (.int p0), some (.int p1), none, none, none, none], [.int x3]), (rh_up h 0 9 (0 : Int32), g, mw_R rd)) _ _
    by_cases q4 : x3 = 0
    · rw [if_pos q4] at hf
      refine rh_Ex.stp (s' := ((20, [some (.ref 0), some (.int p0), some (.int p1), none, none, none, none], []), (rh_up h 0 9 (0 : Int32), g, mw_R rd))) rfl (st_ifne_p q4) ?_
      refine rh_Ex.blk 1 (s' := ((21, [some (.ref 0), some (.int p0), some (.int p1), none, none, none, none], [.int (-1 : Int32)]), (rh_up h 0 9 (0 : Int32), g, mw_R rd))) rfl ?_
      obtain rfl := Option.some.inj hf
      exact rh_Ex.ret rfl rfl
    · rw [if_neg q4] at hf
      refine rh_Ex.stp (s' := ((22, [some (.ref 0), some (.int p0), some (.int p1), none, none, none, none], []), (rh_up h 0 9 (0 : Int32), g, mw_R rd))) rfl (st_ifne_n q4) ?_
      refine rh_Ex.blk 4 (s' := ((29, [some (.ref 0), some (.int p0), some (.int p1), some (.int (1000000 : Int32)), some (.int (0 : Int32)), none, none], []), (rh_up h 0 9 (0 : Int32), g, mw_R rd))) rfl ?_
      obtain ⟨r8, hr8, hf⟩ := rh_bq hf
      refine rh_Ex.fgt [some (.ref 0), some (.int p0), some (.int p1), some (.int (1000000 : Int32)), some (.int (0 : Int32)), none, none] ⟨rfl, rfl, rfl, rfl, rfl, trivial⟩ ?_
      refine rh_Ex.loop _ _ _ (lb_Mo_ballast_29 d p0 p1  g _ _) rh_N _ r8 hr8 ?_
      refine rh_Ex.blk 2 (s' := ((61, [some (.ref 0), some (.int p0), some (.int p1), some (.int r8.1), none, none, none], [.ref 0, .ref 0]), (r8.2.1, g, mw_R r8.2.2))) rfl ?_
      refine rh_Ex.call (j := 209) (rc := some 11) [.ref 0] [.ref 0] (some (.int (f_Mo_dawn r8.2.1))) rfl rfl rfl (Nat.le_of_ble_eq_true rfl) (R_Mo_dawn (d + 267) r8.2.2 r8.2.1 g  rfl) ?_
      show rh_Ex _ _ _ ((64, [some (.ref 0), some (.int p0), some (.int p1), some (.int r8.1), none, none, none], [.int (f_Mo_dawn r8.2.1), .ref 0]), (r8.2.1, g, mw_R r8.2.2)) _ _
      obtain ⟨x9, hx9, hf⟩ := rh_bq hf
      refine rh_Ex.call (j := 208) (rc := some 11) [.ref 0, .int (f_Mo_dawn r8.2.1)] [] none rfl rfl rfl (Nat.le_of_ble_eq_true rfl) (R_Mo_findSets d r8.2.2 r8.2.1 g (f_Mo_dawn r8.2.1) hx9) ?_
      show rh_Ex _ _ _ ((67, [some (.ref 0), some (.int p0), some (.int p1), some (.int r8.1), none, none, none], []), (x9.1, g, mw_R x9.2)) _ _
      refine rh_Ex.blk 4 (s' := ((73, [some (.ref 0), some (.int p0), some (.int p1), some (.int r8.1), some (.int (-1 : Int32)), some (.int (0 : Int32)), none], []), (x9.1, g, mw_R x9.2))) rfl ?_
      obtain ⟨r28, hr28, hf⟩ := rh_bq hf
      refine rh_Ex.fgt [some (.ref 0), some (.int p0), some (.int p1), some (.int r8.1), some (.int (-1 : Int32)), some (.int (0 : Int32)), none] ⟨rfl, rfl, rfl, rfl, rfl, rfl, trivial⟩ ?_
      refine rh_Ex.loop _ _ _ (lb_Mo_ballast_73 d p0 p1 r8.1 x9.1 x9.2  g _ _) rh_N _ r28 hr28 ?_
      refine rh_Ex.blk 2 (s' := ((188, [some (.ref 0), none, none, none, some (.int r28), none, none], [.int (-1 : Int32), .int r28]), (x9.1, g, mw_R x9.2))) rfl ?_
      by_cases q29 : r28 = (-1 : Int32)
      · rw [if_pos q29] at hf
        refine rh_Ex.stp (s' := ((191, [some (.ref 0), none, none, none, some (.int r28), none, none], []), (x9.1, g, mw_R x9.2))) rfl (st_icne_p q29) ?_
        refine rh_Ex.blk 1 (s' := ((193, [some (.ref 0), none, none, none, some (.int r28), none, none], [.int (-2 : Int32)]), (x9.1, g, mw_R x9.2))) rfl ?_
        obtain rfl := Option.some.inj hf
        exact rh_Ex.ret rfl rfl
      · rw [if_neg q29] at hf
        refine rh_Ex.stp (s' := ((194, [some (.ref 0), none, none, none, some (.int r28), none, none], []), (x9.1, g, mw_R x9.2))) rfl (st_icne_n q29) ?_
        refine rh_Ex.blk 5 (s' := ((202, [some (.ref 0), none, none, none, some (.int r28), none, none], [.int r28, .ref 0]), (rh_up x9.1 0 8 (0 : Int32), g, mw_R x9.2))) rfl ?_
        obtain ⟨x30, hx30, hf⟩ := rh_bq hf
        refine rh_Ex.call (j := 182) (rc := some 11) [.ref 0, .int r28] [] none rfl rfl rfl (Nat.le_of_ble_eq_true rfl) (R_Mo_tell (d + 267) x9.2 (rh_up x9.1 0 8 (0 : Int32)) g r28 hx30) ?_
        show rh_Ex _ _ _ ((205, [some (.ref 0), none, none, none, some (.int r28), none, none], []), (x30, g, mw_R x9.2)) _ _
        refine rh_Ex.blk 3 (s' := ((211, [some (.ref 0), none, none, none, some (.int r28), none, none], [.int r28, .ref 9]), (x30, g, mw_R x9.2))) rfl ?_
        obtain ⟨q31, hf⟩ := rh_gq hf
        refine rh_Ex.stp (s' := ((212, [some (.ref 0), none, none, none, some (.int r28), none, none], [.int (x30 9 r28.toNatClampNeg)]), (x30, g, mw_R x9.2))) rfl (st_iald (n := 512) rfl q31) ?_
        obtain rfl := Option.some.inj hf
        exact rh_Ex.ret rfl rfl
def f_Mo_isPerson (h : Nat → Nat → Int32) (p0 : Int32) : Option (Int32) :=
  (f_Mo_isOne h p0).bind (fun x1 =>
    if x1 = 0 then
      some ((0 : Int32))
    else
      if (f_Mo_has (h 0 2) p0) = 0 then
        some ((0 : Int32))
      else
        some ((1 : Int32))
  )
set_option maxRecDepth 20000 in
set_option maxHeartbeats 4000000 in
theorem R_Mo_isPerson (d : Nat) (rd : Option Nat) (h : Nat → Nat → Int32) (g : Nat → Nat → Int64) (p0 : Int32) {z9 : Int32} (hf : f_Mo_isPerson h p0 = some z9) : rh_M rh_PT mw_L (d + 3) 289 [.ref 0, .int p0] (h, g, mw_R rd) (some (.int z9)) (h, g, mw_R rd) := by
  unfold f_Mo_isPerson at hf
  refine rh_go pt_289 (Nat.le_of_ble_eq_true rfl) (lv := [some (.ref 0), some (.int p0)]) rfl ?_
  refine rh_Ex.blk 2 (s' := ((2, [some (.ref 0), some (.int p0)], [.int p0, .ref 0]), (h, g, mw_R rd))) rfl ?_
  obtain ⟨x1, hx1, hf⟩ := rh_bq hf
  refine rh_Ex.call (j := 183) (rc := some 11) [.ref 0, .int p0] [] (some (.int x1)) rfl rfl rfl (Nat.le_of_ble_eq_true rfl) (R_Mo_isOne d rd h g p0 hx1) ?_
  show rh_Ex _ _ _ ((5, [some (.ref 0), some (.int p0)], [.int x1]), (h, g, mw_R rd)) _ _
  by_cases q2 : x1 = 0
  · rw [if_pos q2] at hf
    refine rh_Ex.stp (s' := ((23, [some (.ref 0), some (.int p0)], []), (h, g, mw_R rd))) rfl (st_ifeq_p q2) ?_
    refine rh_Ex.blk 1 (s' := ((24, [some (.ref 0), some (.int p0)], [.int (0 : Int32)]), (h, g, mw_R rd))) rfl ?_
    obtain rfl := Option.some.inj hf
    exact rh_Ex.ret rfl ⟨rfl, Or.inl rfl⟩
  · rw [if_neg q2] at hf
    refine rh_Ex.stp (s' := ((8, [some (.ref 0), some (.int p0)], []), (h, g, mw_R rd))) rfl (st_ifeq_n q2) ?_
    refine rh_Ex.blk 3 (s' := ((13, [some (.ref 0), some (.int p0)], [.int p0, .int (h 0 2)]), (h, g, mw_R rd))) rfl ?_
    refine rh_Ex.call (j := 180) (rc := none) [.int (h 0 2), .int p0] [] (some (.int (f_Mo_has (h 0 2) p0))) rfl rfl trivial (Nat.le_of_ble_eq_true rfl) (R_Mo_has (d + 1) mw_L (mw_R rd) h g (h 0 2) p0 rfl) ?_
    show rh_Ex _ _ _ ((16, [some (.ref 0), some (.int p0)], [.int (f_Mo_has (h 0 2) p0)]), (h, g, mw_R rd)) _ _
    by_cases q3 : (f_Mo_has (h 0 2) p0) = 0
    · rw [if_pos q3] at hf
      refine rh_Ex.stp (s' := ((23, [some (.ref 0), some (.int p0)], []), (h, g, mw_R rd))) rfl (st_ifeq_p q3) ?_
      refine rh_Ex.blk 1 (s' := ((24, [some (.ref 0), some (.int p0)], [.int (0 : Int32)]), (h, g, mw_R rd))) rfl ?_
      obtain rfl := Option.some.inj hf
      exact rh_Ex.ret rfl ⟨rfl, Or.inl rfl⟩
    · rw [if_neg q3] at hf
      refine rh_Ex.stp (s' := ((19, [some (.ref 0), some (.int p0)], []), (h, g, mw_R rd))) rfl (st_ifeq_n q3) ?_
      refine rh_Ex.blk 2 (s' := ((24, [some (.ref 0), some (.int p0)], [.int (1 : Int32)]), (h, g, mw_R rd))) rfl ?_
      obtain rfl := Option.some.inj hf
      exact rh_Ex.ret rfl ⟨rfl, Or.inr rfl⟩
def f_Mo_swap (h : Nat → Nat → Int32) (rd : Option Nat) (p0 : Int32) (p1 : Int32) (p2 : Int32) (p3 : Int32) : Option (Int32 × (Nat → Nat → Int32) × (Option Nat)) :=
  (f_Mo_isPerson (rh_up h 0 9 (0 : Int32)) p0).bind (fun x1 =>
    if x1 = 0 then
      some (((f_Mo_lost (rh_up h 0 9 (0 : Int32))).1, (f_Mo_lost (rh_up h 0 9 (0 : Int32))).2, rd))
    else
      (f_Mo_isPerson (rh_up h 0 9 (0 : Int32)) p2).bind (fun x3 =>
        if x3 = 0 then
          some (((f_Mo_lost (rh_up h 0 9 (0 : Int32))).1, (f_Mo_lost (rh_up h 0 9 (0 : Int32))).2, rd))
        else
          if p0 = p2 then
            some (((f_Mo_lost (rh_up h 0 9 (0 : Int32))).1, (f_Mo_lost (rh_up h 0 9 (0 : Int32))).2, rd))
          else
            (f_Mo_isBell p1).bind (fun x6 =>
              if x6 = 0 then
                some (((f_Mo_lost (rh_up h 0 9 (0 : Int32))).1, (f_Mo_lost (rh_up h 0 9 (0 : Int32))).2, rd))
              else
                (f_Mo_isBell p3).bind (fun x8 =>
                  if x8 = 0 then
                    some (((f_Mo_lost (rh_up h 0 9 (0 : Int32))).1, (f_Mo_lost (rh_up h 0 9 (0 : Int32))).2, rd))
                  else
                    (f_Mo_weightOf (rh_up h 0 9 (0 : Int32)) rd p2 ((f_Mo_dawn (rh_up h 0 9 (0 : Int32))) + p1)).bind (fun x10 =>
                      (f_Mo_weightOf x10.2.1 x10.2.2 p0 ((f_Mo_dawn x10.2.1) + p3)).bind (fun x11 =>
                        (f_Mo_weightOf x11.2.1 x11.2.2 p2 ((f_Mo_dawn x11.2.1) + p3)).bind (fun x12 =>
                          (f_Mo_weightOf x12.2.1 x12.2.2 p0 ((f_Mo_dawn x12.2.1) + p1)).bind (fun x13 =>
                            some ((((x10.1 + x11.1) - x12.1) - x13.1, x13.2.1, x13.2.2))
                          )
                        )
                      )
                    )
                )
            )
      )
  )
set_option maxRecDepth 20000 in
set_option maxHeartbeats 4000000 in
theorem R_Mo_swap (d : Nat) (rd : Option Nat) (h : Nat → Nat → Int32) (g : Nat → Nat → Int64) (p0 : Int32) (p1 : Int32) (p2 : Int32) (p3 : Int32) {z9 : Int32 × (Nat → Nat → Int32) × (Option Nat)} (hf : f_Mo_swap h rd p0 p1 p2 p3 = some z9) : rh_M rh_PT mw_L (d + 268) 290 [.ref 0, .int p0, .int p1, .int p2, .int p3] (h, g, mw_R rd) (some (.int z9.1)) (z9.2.1, g, mw_R z9.2.2) := by
  unfold f_Mo_swap at hf
  refine rh_go pt_290 (Nat.le_of_ble_eq_true rfl) (lv := [some (.ref 0), some (.int p0), some (.int p1), some (.int p2), some (.int p3), none]) rfl ?_
  refine rh_Ex.blk 5 (s' := ((7, [some (.ref 0), some (.int p0), some (.int p1), some (.int p2), some (.int p3), none], [.int p0, .ref 0]), (rh_up h 0 9 (0 : Int32), g, mw_R rd))) rfl ?_
  obtain ⟨x1, hx1, hf⟩ := rh_bq hf
  refine rh_Ex.call (j := 289) (rc := some 11) [.ref 0, .int p0] [] (some (.int x1)) rfl rfl rfl (Nat.le_of_ble_eq_true rfl) (R_Mo_isPerson (d + 264) rd (rh_up h 0 9 (0 : Int32)) g p0 hx1) ?_
  show rh_Ex _ _ _ ((10, [some (.ref 0), some (.int p0), some (.int p1), some (.int p2), some (.int p3), none], [.int x1]), (rh_up h 0 9 (0 : Int32), g, mw_R rd)) _ _
  by_cases q2 : x1 = 0
  · rw [if_pos q2] at hf
    refine rh_Ex.stp (s' := ((41, [some (.ref 0), some (.int p0), some (.int p1), some (.int p2), some (.int p3), none], []), (rh_up h 0 9 (0 : Int32), g, mw_R rd))) rfl (st_ifeq_p q2) ?_
    refine rh_Ex.blk 1 (s' := ((42, [some (.ref 0), some (.int p0), some (.int p1), some (.int p2), some (.int p3), none], [.ref 0]), (rh_up h 0 9 (0 : Int32), g, mw_R rd))) rfl ?_
    refine rh_Ex.call (j := 181) (rc := some 11) [.ref 0] [] (some (.int ((f_Mo_lost (rh_up h 0 9 (0 : Int32))).1))) rfl rfl rfl (Nat.le_of_ble_eq_true rfl) (R_Mo_lost (d + 266) rd (rh_up h 0 9 (0 : Int32)) g  rfl) ?_
    show rh_Ex _ _ _ ((45, [some (.ref 0), some (.int p0), some (.int p1), some (.int p2), some (.int p3), none], [.int ((f_Mo_lost (rh_up h 0 9 (0 : Int32))).1)]), ((f_Mo_lost (rh_up h 0 9 (0 : Int32))).2, g, mw_R rd)) _ _
    obtain rfl := Option.some.inj hf
    exact rh_Ex.ret rfl rfl
  · rw [if_neg q2] at hf
    refine rh_Ex.stp (s' := ((13, [some (.ref 0), some (.int p0), some (.int p1), some (.int p2), some (.int p3), none], []), (rh_up h 0 9 (0 : Int32), g, mw_R rd))) rfl (st_ifeq_n q2) ?_
    refine rh_Ex.blk 2 (s' := ((15, [some (.ref 0), some (.int p0), some (.int p1), some (.int p2), some (.int p3), none], [.int p2, .ref 0]), (rh_up h 0 9 (0 : Int32), g, mw_R rd))) rfl ?_
    obtain ⟨x3, hx3, hf⟩ := rh_bq hf
    refine rh_Ex.call (j := 289) (rc := some 11) [.ref 0, .int p2] [] (some (.int x3)) rfl rfl rfl (Nat.le_of_ble_eq_true rfl) (R_Mo_isPerson (d + 264) rd (rh_up h 0 9 (0 : Int32)) g p2 hx3) ?_
    show rh_Ex _ _ _ ((18, [some (.ref 0), some (.int p0), some (.int p1), some (.int p2), some (.int p3), none], [.int x3]), (rh_up h 0 9 (0 : Int32), g, mw_R rd)) _ _
    by_cases q4 : x3 = 0
    · rw [if_pos q4] at hf
      refine rh_Ex.stp (s' := ((41, [some (.ref 0), some (.int p0), some (.int p1), some (.int p2), some (.int p3), none], []), (rh_up h 0 9 (0 : Int32), g, mw_R rd))) rfl (st_ifeq_p q4) ?_
      refine rh_Ex.blk 1 (s' := ((42, [some (.ref 0), some (.int p0), some (.int p1), some (.int p2), some (.int p3), none], [.ref 0]), (rh_up h 0 9 (0 : Int32), g, mw_R rd))) rfl ?_
      refine rh_Ex.call (j := 181) (rc := some 11) [.ref 0] [] (some (.int ((f_Mo_lost (rh_up h 0 9 (0 : Int32))).1))) rfl rfl rfl (Nat.le_of_ble_eq_true rfl) (R_Mo_lost (d + 266) rd (rh_up h 0 9 (0 : Int32)) g  rfl) ?_
      show rh_Ex _ _ _ ((45, [some (.ref 0), some (.int p0), some (.int p1), some (.int p2), some (.int p3), none], [.int ((f_Mo_lost (rh_up h 0 9 (0 : Int32))).1)]), ((f_Mo_lost (rh_up h 0 9 (0 : Int32))).2, g, mw_R rd)) _ _
      obtain rfl := Option.some.inj hf
      exact rh_Ex.ret rfl rfl
    · rw [if_neg q4] at hf
      refine rh_Ex.stp (s' := ((21, [some (.ref 0), some (.int p0), some (.int p1), some (.int p2), some (.int p3), none], []), (rh_up h 0 9 (0 : Int32), g, mw_R rd))) rfl (st_ifeq_n q4) ?_
      refine rh_Ex.blk 2 (s' := ((23, [some (.ref 0), some (.int p0), some (.int p1), some (.int p2), some (.int p3), none], [.int p2, .int p0]), (rh_up h 0 9 (0 : Int32), g, mw_R rd))) rfl ?_
      by_cases q5 : p0 = p2
      · rw [if_pos q5] at hf
        refine rh_Ex.stp (s' := ((41, [some (.ref 0), some (.int p0), some (.int p1), some (.int p2), some (.int p3), none], []), (rh_up h 0 9 (0 : Int32), g, mw_R rd))) rfl (st_iceq_p q5) ?_
        refine rh_Ex.blk 1 (s' := ((42, [some (.ref 0), some (.int p0), some (.int p1), some (.int p2), some (.int p3), none], [.ref 0]), (rh_up h 0 9 (0 : Int32), g, mw_R rd))) rfl ?_
        refine rh_Ex.call (j := 181) (rc := some 11) [.ref 0] [] (some (.int ((f_Mo_lost (rh_up h 0 9 (0 : Int32))).1))) rfl rfl rfl (Nat.le_of_ble_eq_true rfl) (R_Mo_lost (d + 266) rd (rh_up h 0 9 (0 : Int32)) g  rfl) ?_
        show rh_Ex _ _ _ ((45, [some (.ref 0), some (.int p0), some (.int p1), some (.int p2), some (.int p3), none], [.int ((f_Mo_lost (rh_up h 0 9 (0 : Int32))).1)]), ((f_Mo_lost (rh_up h 0 9 (0 : Int32))).2, g, mw_R rd)) _ _
        obtain rfl := Option.some.inj hf
        exact rh_Ex.ret rfl rfl
      · rw [if_neg q5] at hf
        refine rh_Ex.stp (s' := ((26, [some (.ref 0), some (.int p0), some (.int p1), some (.int p2), some (.int p3), none], []), (rh_up h 0 9 (0 : Int32), g, mw_R rd))) rfl (st_iceq_n q5) ?_
        refine rh_Ex.blk 1 (s' := ((27, [some (.ref 0), some (.int p0), some (.int p1), some (.int p2), some (.int p3), none], [.int p1]), (rh_up h 0 9 (0 : Int32), g, mw_R rd))) rfl ?_
        obtain ⟨x6, hx6, hf⟩ := rh_bq hf
        refine rh_Ex.call (j := 186) (rc := none) [.int p1] [] (some (.int x6)) rfl rfl trivial (Nat.le_of_ble_eq_true rfl) (R_Mo_isBell (d + 265) mw_L (mw_R rd) (rh_up h 0 9 (0 : Int32)) g p1 hx6) ?_
        show rh_Ex _ _ _ ((30, [some (.ref 0), some (.int p0), some (.int p1), some (.int p2), some (.int p3), none], [.int x6]), (rh_up h 0 9 (0 : Int32), g, mw_R rd)) _ _
        by_cases q7 : x6 = 0
        · rw [if_pos q7] at hf
          refine rh_Ex.stp (s' := ((41, [some (.ref 0), some (.int p0), some (.int p1), some (.int p2), some (.int p3), none], []), (rh_up h 0 9 (0 : Int32), g, mw_R rd))) rfl (st_ifeq_p q7) ?_
          refine rh_Ex.blk 1 (s' := ((42, [some (.ref 0), some (.int p0), some (.int p1), some (.int p2), some (.int p3), none], [.ref 0]), (rh_up h 0 9 (0 : Int32), g, mw_R rd))) rfl ?_
          refine rh_Ex.call (j := 181) (rc := some 11) [.ref 0] [] (some (.int ((f_Mo_lost (rh_up h 0 9 (0 : Int32))).1))) rfl rfl rfl (Nat.le_of_ble_eq_true rfl) (R_Mo_lost (d + 266) rd (rh_up h 0 9 (0 : Int32)) g  rfl) ?_
          show rh_Ex _ _ _ ((45, [some (.ref 0), some (.int p0), some (.int p1), some (.int p2), some (.int p3), none], [.int ((f_Mo_lost (rh_up h 0 9 (0 : Int32))).1)]), ((f_Mo_lost (rh_up h 0 9 (0 : Int32))).2, g, mw_R rd)) _ _
          obtain rfl := Option.some.inj hf
          exact rh_Ex.ret rfl rfl
        · rw [if_neg q7] at hf
          refine rh_Ex.stp (s' := ((33, [some (.ref 0), some (.int p0), some (.int p1), some (.int p2), some (.int p3), none], []), (rh_up h 0 9 (0 : Int32), g, mw_R rd))) rfl (st_ifeq_n q7) ?_
          refine rh_Ex.blk 1 (s' := ((35, [some (.ref 0), some (.int p0), some (.int p1), some (.int p2), some (.int p3), none], [.int p3]), (rh_up h 0 9 (0 : Int32), g, mw_R rd))) rfl ?_
          obtain ⟨x8, hx8, hf⟩ := rh_bq hf
          refine rh_Ex.call (j := 186) (rc := none) [.int p3] [] (some (.int x8)) rfl rfl trivial (Nat.le_of_ble_eq_true rfl) (R_Mo_isBell (d + 265) mw_L (mw_R rd) (rh_up h 0 9 (0 : Int32)) g p3 hx8) ?_
          show rh_Ex _ _ _ ((38, [some (.ref 0), some (.int p0), some (.int p1), some (.int p2), some (.int p3), none], [.int x8]), (rh_up h 0 9 (0 : Int32), g, mw_R rd)) _ _
          by_cases q9 : x8 = 0
          · rw [if_pos q9] at hf
            refine rh_Ex.stp (s' := ((41, [some (.ref 0), some (.int p0), some (.int p1), some (.int p2), some (.int p3), none], []), (rh_up h 0 9 (0 : Int32), g, mw_R rd))) rfl (st_ifne_p q9) ?_
            refine rh_Ex.blk 1 (s' := ((42, [some (.ref 0), some (.int p0), some (.int p1), some (.int p2), some (.int p3), none], [.ref 0]), (rh_up h 0 9 (0 : Int32), g, mw_R rd))) rfl ?_
            refine rh_Ex.call (j := 181) (rc := some 11) [.ref 0] [] (some (.int ((f_Mo_lost (rh_up h 0 9 (0 : Int32))).1))) rfl rfl rfl (Nat.le_of_ble_eq_true rfl) (R_Mo_lost (d + 266) rd (rh_up h 0 9 (0 : Int32)) g  rfl) ?_
            show rh_Ex _ _ _ ((45, [some (.ref 0), some (.int p0), some (.int p1), some (.int p2), some (.int p3), none], [.int ((f_Mo_lost (rh_up h 0 9 (0 : Int32))).1)]), ((f_Mo_lost (rh_up h 0 9 (0 : Int32))).2, g, mw_R rd)) _ _
            obtain rfl := Option.some.inj hf
            exact rh_Ex.ret rfl rfl
          · rw [if_neg q9] at hf
            refine rh_Ex.stp (s' := ((46, [some (.ref 0), some (.int p0), some (.int p1), some (.int p2), some (.int p3), none], []), (rh_up h 0 9 (0 : Int32), g, mw_R rd))) rfl (st_ifne_n q9) ?_
            refine rh_Ex.blk 3 (s' := ((49, [some (.ref 0), some (.int p0), some (.int p1), some (.int p2), some (.int p3), none], [.ref 0, .int p2, .ref 0]), (rh_up h 0 9 (0 : Int32), g, mw_R rd))) rfl ?_
            refine rh_Ex.call (j := 209) (rc := some 11) [.ref 0] [.int p2, .ref 0] (some (.int (f_Mo_dawn (rh_up h 0 9 (0 : Int32))))) rfl rfl rfl (Nat.le_of_ble_eq_true rfl) (R_Mo_dawn (d + 266) rd (rh_up h 0 9 (0 : Int32)) g  rfl) ?_
            show rh_Ex _ _ _ ((52, [some (.ref 0), some (.int p0), some (.int p1), some (.int p2), some (.int p3), none], [.int (f_Mo_dawn (rh_up h 0 9 (0 : Int32))), .int p2, .ref 0]), (rh_up h 0 9 (0 : Int32), g, mw_R rd)) _ _
            refine rh_Ex.blk 2 (s' := ((54, [some (.ref 0), some (.int p0), some (.int p1), some (.int p2), some (.int p3), none], [.int ((f_Mo_dawn (rh_up h 0 9 (0 : Int32))) + p1), .int p2, .ref 0]), (rh_up h 0 9 (0 : Int32), g, mw_R rd))) rfl ?_
            obtain ⟨x10, hx10, hf⟩ := rh_bq hf
            refine rh_Ex.call (j := 205) (rc := some 11) [.ref 0, .int p2, .int ((f_Mo_dawn (rh_up h 0 9 (0 : Int32))) + p1)] [] (some (.int x10.1)) rfl rfl rfl (Nat.le_of_ble_eq_true rfl) (R_Mo_weightOf d rd (rh_up h 0 9 (0 : Int32)) g p2 ((f_Mo_dawn (rh_up h 0 9 (0 : Int32))) + p1) hx10) ?_
            show rh_Ex _ _ _ ((57, [some (.ref 0), some (.int p0), some (.int p1), some (.int p2), some (.int p3), none], [.int x10.1]), (x10.2.1, g, mw_R x10.2.2)) _ _
            refine rh_Ex.blk 3 (s' := ((60, [some (.ref 0), some (.int p0), some (.int p1), some (.int p2), some (.int p3), none], [.ref 0, .int p0, .ref 0, .int x10.1]), (x10.2.1, g, mw_R x10.2.2))) rfl ?_
            refine rh_Ex.call (j := 209) (rc := some 11) [.ref 0] [.int p0, .ref 0, .int x10.1] (some (.int (f_Mo_dawn x10.2.1))) rfl rfl rfl (Nat.le_of_ble_eq_true rfl) (R_Mo_dawn (d + 266) x10.2.2 x10.2.1 g  rfl) ?_
            show rh_Ex _ _ _ ((63, [some (.ref 0), some (.int p0), some (.int p1), some (.int p2), some (.int p3), none], [.int (f_Mo_dawn x10.2.1), .int p0, .ref 0, .int x10.1]), (x10.2.1, g, mw_R x10.2.2)) _ _
            refine rh_Ex.blk 2 (s' := ((66, [some (.ref 0), some (.int p0), some (.int p1), some (.int p2), some (.int p3), none], [.int ((f_Mo_dawn x10.2.1) + p3), .int p0, .ref 0, .int x10.1]), (x10.2.1, g, mw_R x10.2.2))) rfl ?_
            obtain ⟨x11, hx11, hf⟩ := rh_bq hf
            refine rh_Ex.call (j := 205) (rc := some 11) [.ref 0, .int p0, .int ((f_Mo_dawn x10.2.1) + p3)] [.int x10.1] (some (.int x11.1)) rfl rfl rfl (Nat.le_of_ble_eq_true rfl) (R_Mo_weightOf d x10.2.2 x10.2.1 g p0 ((f_Mo_dawn x10.2.1) + p3) hx11) ?_
            show rh_Ex _ _ _ ((69, [some (.ref 0), some (.int p0), some (.int p1), some (.int p2), some (.int p3), none], [.int x11.1, .int x10.1]), (x11.2.1, g, mw_R x11.2.2)) _ _
            refine rh_Ex.blk 6 (s' := ((77, [some (.ref 0), some (.int p0), some (.int p1), some (.int p2), some (.int p3), some (.int (x10.1 + x11.1))], [.ref 0, .int p2, .ref 0, .int (x10.1 + x11.1)]), (x11.2.1, g, mw_R x11.2.2))) rfl ?_
            refine rh_Ex.call (j := 209) (rc := some 11) [.ref 0] [.int p2, .ref 0, .int (x10.1 + x11.1)] (some (.int (f_Mo_dawn x11.2.1))) rfl rfl rfl (Nat.le_of_ble_eq_true rfl) (R_Mo_dawn (d + 266) x11.2.2 x11.2.1 g  rfl) ?_
            show rh_Ex _ _ _ ((80, [some (.ref 0), some (.int p0), some (.int p1), some (.int p2), some (.int p3), some (.int (x10.1 + x11.1))], [.int (f_Mo_dawn x11.2.1), .int p2, .ref 0, .int (x10.1 + x11.1)]), (x11.2.1, g, mw_R x11.2.2)) _ _
            refine rh_Ex.blk 2 (s' := ((83, [some (.ref 0), some (.int p0), some (.int p1), some (.int p2), some (.int p3), some (.int (x10.1 + x11.1))], [.int ((f_Mo_dawn x11.2.1) + p3), .int p2, .ref 0, .int (x10.1 + x11.1)]), (x11.2.1, g, mw_R x11.2.2))) rfl ?_
            obtain ⟨x12, hx12, hf⟩ := rh_bq hf
            refine rh_Ex.call (j := 205) (rc := some 11) [.ref 0, .int p2, .int ((f_Mo_dawn x11.2.1) + p3)] [.int (x10.1 + x11.1)] (some (.int x12.1)) rfl rfl rfl (Nat.le_of_ble_eq_true rfl) (R_Mo_weightOf d x11.2.2 x11.2.1 g p2 ((f_Mo_dawn x11.2.1) + p3) hx12) ?_
            show rh_Ex _ _ _ ((86, [some (.ref 0), some (.int p0), some (.int p1), some (.int p2), some (.int p3), some (.int (x10.1 + x11.1))], [.int x12.1, .int (x10.1 + x11.1)]), (x12.2.1, g, mw_R x12.2.2)) _ _
            refine rh_Ex.blk 4 (s' := ((90, [some (.ref 0), some (.int p0), some (.int p1), some (.int p2), some (.int p3), some (.int (x10.1 + x11.1))], [.ref 0, .int p0, .ref 0, .int ((x10.1 + x11.1) - x12.1)]), (x12.2.1, g, mw_R x12.2.2))) rfl ?_
            refine rh_Ex.call (j := 209) (rc := some 11) [.ref 0] [.int p0, .ref 0, .int ((x10.1 + x11.1) - x12.1)] (some (.int (f_Mo_dawn x12.2.1))) rfl rfl rfl (Nat.le_of_ble_eq_true rfl) (R_Mo_dawn (d + 266) x12.2.2 x12.2.1 g  rfl) ?_
            show rh_Ex _ _ _ ((93, [some (.ref 0), some (.int p0), some (.int p1), some (.int p2), some (.int p3), some (.int (x10.1 + x11.1))], [.int (f_Mo_dawn x12.2.1), .int p0, .ref 0, .int ((x10.1 + x11.1) - x12.1)]), (x12.2.1, g, mw_R x12.2.2)) _ _
            refine rh_Ex.blk 2 (s' := ((95, [some (.ref 0), some (.int p0), some (.int p1), some (.int p2), some (.int p3), some (.int (x10.1 + x11.1))], [.int ((f_Mo_dawn x12.2.1) + p1), .int p0, .ref 0, .int ((x10.1 + x11.1) - x12.1)]), (x12.2.1, g, mw_R x12.2.2))) rfl ?_
            obtain ⟨x13, hx13, hf⟩ := rh_bq hf
            refine rh_Ex.call (j := 205) (rc := some 11) [.ref 0, .int p0, .int ((f_Mo_dawn x12.2.1) + p1)] [.int ((x10.1 + x11.1) - x12.1)] (some (.int x13.1)) rfl rfl rfl (Nat.le_of_ble_eq_true rfl) (R_Mo_weightOf d x12.2.2 x12.2.1 g p0 ((f_Mo_dawn x12.2.1) + p1) hx13) ?_
            show rh_Ex _ _ _ ((98, [some (.ref 0), some (.int p0), some (.int p1), some (.int p2), some (.int p3), some (.int (x10.1 + x11.1))], [.int x13.1, .int ((x10.1 + x11.1) - x12.1)]), (x13.2.1, g, mw_R x13.2.2)) _ _
            refine rh_Ex.blk 1 (s' := ((99, [some (.ref 0), some (.int p0), some (.int p1), some (.int p2), some (.int p3), some (.int (x10.1 + x11.1))], [.int (((x10.1 + x11.1) - x12.1) - x13.1)]), (x13.2.1, g, mw_R x13.2.2))) rfl ?_
            obtain rfl := Option.some.inj hf
            exact rh_Ex.ret rfl rfl
def b_Mo_goOrder_21 (T : (Nat → Nat → Int32) → Int32 → Int32 → Int32 → Option ((Nat → Nat → Int32))) (u1 : Int32) : (Int32 × (Nat → Nat → Int32)) → Option ((Int32 × (Nat → Nat → Int32)) ⊕ ((Nat → Nat → Int32))) := fun s21 =>
  if u1 ≤ s21.1 then
    some (.inr s21.2)
  else
    rh_g (0 ≤ s21.1.toInt ∧ s21.1.toInt < ((9 : Nat) : Int)) (
      rh_g (0 ≤ s21.1.toInt ∧ s21.1.toInt < ((9 : Nat) : Int)) (
        some (.inl (s21.1 + (1 : Int32), rh_up s21.2 27 s21.1.toNatClampNeg (s21.2 26 s21.1.toNatClampNeg)))
      )
    )
def b_Mo_goOrder_51 (T : (Nat → Nat → Int32) → Int32 → Int32 → Int32 → Option ((Nat → Nat → Int32))) (u1 : Int32) (u2 : Int32) (u3 : Int32) : (Int32 × (Nat → Nat → Int32)) → Option ((Int32 × (Nat → Nat → Int32)) ⊕ ((Nat → Nat → Int32))) := fun s51 =>
  if (s51.2 0 1) ≤ s51.1 then
    some (.inr s51.2)
  else
    if (f_Mo_has u2 s51.1) = 0 then
      some (.inl (s51.1 + (1 : Int32), s51.2))
    else
      rh_g (0 ≤ u1.toInt ∧ u1.toInt < ((9 : Nat) : Int)) (
        rh_g (0 ≤ (((9 : Int32) * u1) + s51.1).toInt ∧ (((9 : Int32) * u1) + s51.1).toInt < ((81 : Nat) : Int)) (
          (T (rh_up s51.2 26 u1.toNatClampNeg s51.1) (u1 + (1 : Int32)) (u2 &&& (((1 : Int32) <<< (s51.1 &&& 31)) ^^^ (-1 : Int32))) (u3 + ((rh_up s51.2 26 u1.toNatClampNeg s51.1) 25 (((9 : Int32) * u1) + s51.1).toNatClampNeg))).bind (fun x13 =>
            some (.inl (s51.1 + (1 : Int32), x13))
          )
        )
      )
def f_Mo_goOrder (T : (Nat → Nat → Int32) → Int32 → Int32 → Int32 → Option ((Nat → Nat → Int32))) (h : Nat → Nat → Int32) (p0 : Int32) (p1 : Int32) (p2 : Int32) : Option ((Nat → Nat → Int32)) :=
  if p2 < (h 0 48) then
    if p1 = 0 then
      (rh_loop (b_Mo_goOrder_21 T p0) rh_N ((0 : Int32), rh_up h 0 48 p2)).bind (fun r7 =>
        some (r7)
      )
    else
      (rh_loop (b_Mo_goOrder_51 T p0 p1 p2) rh_N ((0 : Int32), h)).bind (fun r14 =>
        some (r14)
      )
  else
    some (h)
set_option maxRecDepth 20000 in
set_option maxHeartbeats 4000000 in
theorem lb_Mo_goOrder_21 (d : Nat) (rd : Option Nat) (T : (Nat → Nat → Int32) → Int32 → Int32 → Int32 → Option ((Nat → Nat → Int32))) (hT : ∀ (h : Nat → Nat → Int32) (g : Nat → Nat → Int64) (a0 a1 a2 : Int32) z, T h a0 a1 a2 = some z → rh_M rh_PT mw_L (d + 6) 291 [.ref 0, .int a0, .int a1, .int a2] (h, g, mw_R rd) none (z, g, mw_R rd)) (u1 : Int32) (g : Nat → Nat → Int64) (v9 : Option Value) (h9 : rh_H) : ∀ s21 x9, b_Mo_goOrder_21 T u1 s21 = some x9 → Sum.elim (fun s21 => rh_Ex (rh_M rh_PT mw_L (d + 6)) mw_L pg_X12_goOrder ((21, [some (.ref 0), some (.int u1), none, none, some (.int s21.1)], []), (s21.2, g, mw_R rd)) v9 h9) (fun e9 => rh_Ex (rh_M rh_PT mw_L (d + 6)) mw_L pg_X12_goOrder ((47, [none, none, none, none, none], []), (e9, g, mw_R rd)) v9 h9) x9 → rh_Ex (rh_M rh_PT mw_L (d + 6)) mw_L pg_X12_goOrder ((21, [some (.ref 0), some (.int u1), none, none, some (.int s21.1)], []), (s21.2, g, mw_R rd)) v9 h9 := by
  intro s21 x9 hf hk
  unfold b_Mo_goOrder_21 at hf
  refine rh_Ex.blk 2 (s' := ((24, [some (.ref 0), some (.int u1), none, none, some (.int s21.1)], [.int u1, .int s21.1]), (s21.2, g, mw_R rd))) rfl ?_
  by_cases q4 : u1 ≤ s21.1
  · rw [if_pos q4] at hf
    refine rh_Ex.stp (s' := ((47, [some (.ref 0), some (.int u1), none, none, some (.int s21.1)], []), (s21.2, g, mw_R rd))) rfl (st_icge_p q4) ?_
    obtain rfl := Option.some.inj hf
    refine rh_Ex.fgt [none, none, none, none, none] trivial ?_
    exact hk
  · rw [if_neg q4] at hf
    refine rh_Ex.stp (s' := ((27, [some (.ref 0), some (.int u1), none, none, some (.int s21.1)], []), (s21.2, g, mw_R rd))) rfl (st_icge_n q4) ?_
    refine rh_Ex.blk 6 (s' := ((39, [some (.ref 0), some (.int u1), none, none, some (.int s21.1)], [.int s21.1, .ref 26, .int s21.1, .ref 27]), (s21.2, g, mw_R rd))) rfl ?_
    obtain ⟨q5, hf⟩ := rh_gq hf
    refine rh_Ex.stp (s' := ((40, [some (.ref 0), some (.int u1), none, none, some (.int s21.1)], [.int (s21.2 26 s21.1.toNatClampNeg), .int s21.1, .ref 27]), (s21.2, g, mw_R rd))) rfl (st_iald (n := 9) rfl q5) ?_
    obtain ⟨q6, hf⟩ := rh_gq hf
    refine rh_Ex.stp (s' := ((41, [some (.ref 0), some (.int u1), none, none, some (.int s21.1)], []), (rh_up s21.2 27 s21.1.toNatClampNeg (s21.2 26 s21.1.toNatClampNeg), g, mw_R rd))) rfl (st_iast (n := 9) rfl q6) ?_
    refine rh_Ex.blk 2 (s' := ((21, [some (.ref 0), some (.int u1), none, none, some (.int (s21.1 + (1 : Int32)))], []), (rh_up s21.2 27 s21.1.toNatClampNeg (s21.2 26 s21.1.toNatClampNeg), g, mw_R rd))) rfl ?_
    obtain rfl := Option.some.inj hf
    refine rh_Ex.fgt [some (.ref 0), some (.int u1), none, none, some (.int (s21.1 + (1 : Int32)))] ⟨rfl, rfl, rfl, trivial⟩ ?_
    exact hk
set_option maxRecDepth 20000 in
set_option maxHeartbeats 4000000 in
theorem lb_Mo_goOrder_51 (d : Nat) (rd : Option Nat) (T : (Nat → Nat → Int32) → Int32 → Int32 → Int32 → Option ((Nat → Nat → Int32))) (hT : ∀ (h : Nat → Nat → Int32) (g : Nat → Nat → Int64) (a0 a1 a2 : Int32) z, T h a0 a1 a2 = some z → rh_M rh_PT mw_L (d + 6) 291 [.ref 0, .int a0, .int a1, .int a2] (h, g, mw_R rd) none (z, g, mw_R rd)) (u1 : Int32) (u2 : Int32) (u3 : Int32) (g : Nat → Nat → Int64) (v9 : Option Value) (h9 : rh_H) : ∀ s51 x9, b_Mo_goOrder_51 T u1 u2 u3 s51 = some x9 → Sum.elim (fun s51 => rh_Ex (rh_M rh_PT mw_L (d + 6)) mw_L pg_X12_goOrder ((51, [some (.ref 0), some (.int u1), some (.int u2), some (.int u3), some (.int s51.1)], []), (s51.2, g, mw_R rd)) v9 h9) (fun e9 => rh_Ex (rh_M rh_PT mw_L (d + 6)) mw_L pg_X12_goOrder ((115, [none, none, none, none, none], []), (e9, g, mw_R rd)) v9 h9) x9 → rh_Ex (rh_M rh_PT mw_L (d + 6)) mw_L pg_X12_goOrder ((51, [some (.ref 0), some (.int u1), some (.int u2), some (.int u3), some (.int s51.1)], []), (s51.2, g, mw_R rd)) v9 h9 := by
  intro s51 x9 hf hk
  unfold b_Mo_goOrder_51 at hf
  refine rh_Ex.blk 3 (s' := ((57, [some (.ref 0), some (.int u1), some (.int u2), some (.int u3), some (.int s51.1)], [.int (s51.2 0 1), .int s51.1]), (s51.2, g, mw_R rd))) rfl ?_
  by_cases q9 : (s51.2 0 1) ≤ s51.1
  · rw [if_pos q9] at hf
    refine rh_Ex.stp (s' := ((115, [some (.ref 0), some (.int u1), some (.int u2), some (.int u3), some (.int s51.1)], []), (s51.2, g, mw_R rd))) rfl (st_icge_p q9) ?_
    obtain rfl := Option.some.inj hf
    refine rh_Ex.fgt [none, none, none, none, none] trivial ?_
    exact hk
  · rw [if_neg q9] at hf
    refine rh_Ex.stp (s' := ((60, [some (.ref 0), some (.int u1), some (.int u2), some (.int u3), some (.int s51.1)], []), (s51.2, g, mw_R rd))) rfl (st_icge_n q9) ?_
    refine rh_Ex.blk 2 (s' := ((63, [some (.ref 0), some (.int u1), some (.int u2), some (.int u3), some (.int s51.1)], [.int s51.1, .int u2]), (s51.2, g, mw_R rd))) rfl ?_
    refine rh_Ex.call (j := 180) (rc := none) [.int u2, .int s51.1] [] (some (.int (f_Mo_has u2 s51.1))) rfl rfl trivial (Nat.le_of_ble_eq_true rfl) (R_Mo_has (d + 5) mw_L (mw_R rd) s51.2 g u2 s51.1 rfl) ?_
    show rh_Ex _ _ _ ((66, [some (.ref 0), some (.int u1), some (.int u2), some (.int u3), some (.int s51.1)], [.int (f_Mo_has u2 s51.1)]), (s51.2, g, mw_R rd)) _ _
    by_cases q10 : (f_Mo_has u2 s51.1) = 0
    · rw [if_pos q10] at hf
      refine rh_Ex.stp (s' := ((69, [some (.ref 0), some (.int u1), some (.int u2), some (.int u3), some (.int s51.1)], []), (s51.2, g, mw_R rd))) rfl (st_ifne_p q10) ?_
      refine rh_Ex.blk 3 (s' := ((51, [some (.ref 0), some (.int u1), some (.int u2), some (.int u3), some (.int (s51.1 + (1 : Int32)))], []), (s51.2, g, mw_R rd))) rfl ?_
      obtain rfl := Option.some.inj hf
      refine rh_Ex.fgt [some (.ref 0), some (.int u1), some (.int u2), some (.int u3), some (.int (s51.1 + (1 : Int32)))] ⟨rfl, rfl, rfl, rfl, rfl, trivial⟩ ?_
      exact hk
    · rw [if_neg q10] at hf
      refine rh_Ex.stp (s' := ((72, [some (.ref 0), some (.int u1), some (.int u2), some (.int u3), some (.int s51.1)], []), (s51.2, g, mw_R rd))) rfl (st_ifne_n q10) ?_
      refine rh_Ex.blk 4 (s' := ((79, [some (.ref 0), some (.int u1), some (.int u2), some (.int u3), some (.int s51.1)], [.int s51.1, .int u1, .ref 26]), (s51.2, g, mw_R rd))) rfl ?_
      obtain ⟨q11, hf⟩ := rh_gq hf
      refine rh_Ex.stp (s' := ((80, [some (.ref 0), some (.int u1), some (.int u2), some (.int u3), some (.int s51.1)], []), (rh_up s51.2 26 u1.toNatClampNeg s51.1, g, mw_R rd))) rfl (st_iast (n := 9) rfl q11) ?_
      refine rh_Ex.blk 19 (s' := ((104, [some (.ref 0), some (.int u1), some (.int u2), some (.int u3), some (.int s51.1)], [.int (((9 : Int32) * u1) + s51.1), .ref 25, .int u3, .int (u2 &&& (((1 : Int32) <<< (s51.1 &&& 31)) ^^^ (-1 : Int32))), .int (u1 + (1 : Int32)), .ref 0]), (rh_up s51.2 26 u1.toNatClampNeg s51.1, g, mw_R rd))) rfl ?_
      obtain ⟨q12, hf⟩ := rh_gq hf
      refine rh_Ex.stp (s' := ((105, [some (.ref 0), some (.int u1), some (.int u2), some (.int u3), some (.int s51.1)], [.int ((rh_up s51.2 26 u1.toNatClampNeg s51.1) 25 (((9 : Int32) * u1) + s51.1).toNatClampNeg), .int u3, .int (u2 &&& (((1 : Int32) <<< (s51.1 &&& 31)) ^^^ (-1 : Int32))), .int (u1 + (1 : Int32)), .ref 0]), (rh_up s51.2 26 u1.toNatClampNeg s51.1, g, mw_R rd))) rfl (st_iald (n := 81) rfl q12) ?_
      refine rh_Ex.blk 1 (s' := ((106, [some (.ref 0), some (.int u1), some (.int u2), some (.int u3), some (.int s51.1)], [.int (u3 + ((rh_up s51.2 26 u1.toNatClampNeg s51.1) 25 (((9 : Int32) * u1) + s51.1).toNatClampNeg)), .int (u2 &&& (((1 : Int32) <<< (s51.1 &&& 31)) ^^^ (-1 : Int32))), .int (u1 + (1 : Int32)), .ref 0]), (rh_up s51.2 26 u1.toNatClampNeg s51.1, g, mw_R rd))) rfl ?_
      obtain ⟨x13, hx13, hf⟩ := rh_bq hf
      refine rh_Ex.call (j := 291) (rc := some 11) [.ref 0, .int (u1 + (1 : Int32)), .int (u2 &&& (((1 : Int32) <<< (s51.1 &&& 31)) ^^^ (-1 : Int32))), .int (u3 + ((rh_up s51.2 26 u1.toNatClampNeg s51.1) 25 (((9 : Int32) * u1) + s51.1).toNatClampNeg))] [] none rfl rfl rfl (Nat.le_of_ble_eq_true rfl) (rh_M_le (Nat.add_le_add_left (Nat.le_of_ble_eq_true rfl) d) (hT (rh_up s51.2 26 u1.toNatClampNeg s51.1) g (u1 + (1 : Int32)) (u2 &&& (((1 : Int32) <<< (s51.1 &&& 31)) ^^^ (-1 : Int32))) (u3 + ((rh_up s51.2 26 u1.toNatClampNeg s51.1) 25 (((9 : Int32) * u1) + s51.1).toNatClampNeg)) _ hx13)) ?_
      show rh_Ex _ _ _ ((109, [some (.ref 0), some (.int u1), some (.int u2), some (.int u3), some (.int s51.1)], []), (x13, g, mw_R rd)) _ _
      refine rh_Ex.blk 2 (s' := ((51, [some (.ref 0), some (.int u1), some (.int u2), some (.int u3), some (.int (s51.1 + (1 : Int32)))], []), (x13, g, mw_R rd))) rfl ?_
      obtain rfl := Option.some.inj hf
      refine rh_Ex.fgt [some (.ref 0), some (.int u1), some (.int u2), some (.int u3), some (.int (s51.1 + (1 : Int32)))] ⟨rfl, rfl, rfl, rfl, rfl, trivial⟩ ?_
      exact hk
set_option maxRecDepth 20000 in
set_option maxHeartbeats 4000000 in
theorem R_Mo_goOrder (d : Nat) (rd : Option Nat) (T : (Nat → Nat → Int32) → Int32 → Int32 → Int32 → Option ((Nat → Nat → Int32))) (hT : ∀ (h : Nat → Nat → Int32) (g : Nat → Nat → Int64) (a0 a1 a2 : Int32) z, T h a0 a1 a2 = some z → rh_M rh_PT mw_L (d + 6) 291 [.ref 0, .int a0, .int a1, .int a2] (h, g, mw_R rd) none (z, g, mw_R rd)) (h : Nat → Nat → Int32) (g : Nat → Nat → Int64) (p0 : Int32) (p1 : Int32) (p2 : Int32) {z9 : (Nat → Nat → Int32)} (hf : f_Mo_goOrder T h p0 p1 p2 = some z9) : rh_M rh_PT mw_L (d + 7) 291 [.ref 0, .int p0, .int p1, .int p2] (h, g, mw_R rd) none (z9, g, mw_R rd) := by
  unfold f_Mo_goOrder at hf
  refine rh_go pt_291 (Nat.le_of_ble_eq_true rfl) (lv := [some (.ref 0), some (.int p0), some (.int p1), some (.int p2), none]) rfl ?_
  refine rh_Ex.blk 3 (s' := ((5, [some (.ref 0), some (.int p0), some (.int p1), some (.int p2), none], [.int (h 0 48), .int p2]), (h, g, mw_R rd))) rfl ?_
  by_cases q1 : p2 < (h 0 48)
  · rw [if_pos q1] at hf
    refine rh_Ex.stp (s' := ((9, [some (.ref 0), some (.int p0), some (.int p1), some (.int p2), none], []), (h, g, mw_R rd))) rfl (st_iclt_p q1) ?_
    refine rh_Ex.blk 1 (s' := ((10, [some (.ref 0), some (.int p0), some (.int p1), some (.int p2), none], [.int p1]), (h, g, mw_R rd))) rfl ?_
    by_cases q2 : p1 = 0
    · rw [if_pos q2] at hf
      refine rh_Ex.stp (s' := ((13, [some (.ref 0), some (.int p0), some (.int p1), some (.int p2), none], []), (h, g, mw_R rd))) rfl (st_ifne_p q2) ?_
      refine rh_Ex.blk 5 (s' := ((21, [some (.ref 0), some (.int p0), some (.int p1), some (.int p2), some (.int (0 : Int32))], []), (rh_up h 0 48 p2, g, mw_R rd))) rfl ?_
      obtain ⟨r7, hr7, hf⟩ := rh_bq hf
      refine rh_Ex.fgt [some (.ref 0), some (.int p0), none, none, some (.int (0 : Int32))] ⟨rfl, rfl, rfl, trivial⟩ ?_
      refine rh_Ex.loop _ _ _ (lb_Mo_goOrder_21 d rd T hT p0  g _ _) rh_N _ r7 hr7 ?_
      obtain rfl := Option.some.inj hf
      exact rh_Ex.ret rfl trivial
    · rw [if_neg q2] at hf
      refine rh_Ex.stp (s' := ((48, [some (.ref 0), some (.int p0), some (.int p1), some (.int p2), none], []), (h, g, mw_R rd))) rfl (st_ifne_n q2) ?_
      refine rh_Ex.blk 2 (s' := ((51, [some (.ref 0), some (.int p0), some (.int p1), some (.int p2), some (.int (0 : Int32))], []), (h, g, mw_R rd))) rfl ?_
      obtain ⟨r14, hr14, hf⟩ := rh_bq hf
      refine rh_Ex.fgt [some (.ref 0), some (.int p0), some (.int p1), some (.int p2), some (.int (0 : Int32))] ⟨rfl, rfl, rfl, rfl, rfl, trivial⟩ ?_
      refine rh_Ex.loop _ _ _ (lb_Mo_goOrder_51 d rd T hT p0 p1 p2  g _ _) rh_N _ r14 hr14 ?_
      obtain rfl := Option.some.inj hf
      exact rh_Ex.ret rfl trivial
  · rw [if_neg q1] at hf
    refine rh_Ex.stp (s' := ((8, [some (.ref 0), some (.int p0), some (.int p1), some (.int p2), none], []), (h, g, mw_R rd))) rfl (st_iclt_n q1) ?_
    obtain rfl := Option.some.inj hf
    exact rh_Ex.ret rfl trivial
def g_Mo_goOrder : Nat → (Nat → Nat → Int32) → Int32 → Int32 → Int32 → Option ((Nat → Nat → Int32))
  | 0 => fun _ _ _ _ => none
  | n + 1 => f_Mo_goOrder (g_Mo_goOrder n)
set_option maxRecDepth 20000 in
set_option maxHeartbeats 4000000 in
theorem Rg_Mo_goOrder (rd : Option Nat) : ∀ (n : Nat) (h : Nat → Nat → Int32) (g : Nat → Nat → Int64) (a0 a1 a2 : Int32) z, g_Mo_goOrder n h a0 a1 a2 = some z → rh_M rh_PT mw_L (1 * n + 6) 291 [.ref 0, .int a0, .int a1, .int a2] (h, g, mw_R rd) none (z, g, mw_R rd) := by
  intro n
  induction n with
  | zero => intro h g a0 a1 a2 z hz; cases hz
  | succ n ih =>
    intro h g a0 a1 a2 z hz
    exact R_Mo_goOrder (1 * n) rd (g_Mo_goOrder n) ih h g a0 a1 a2 hz
def f_Mo_goOrderw (h : Nat → Nat → Int32) (p0 : Int32) (p1 : Int32) (p2 : Int32) : Option ((Nat → Nat → Int32)) := f_Mo_goOrder (g_Mo_goOrder 16) h p0 p1 p2
set_option maxRecDepth 20000 in
set_option maxHeartbeats 4000000 in
theorem R_Mo_goOrderw (d : Nat) (rd : Option Nat) (h : Nat → Nat → Int32) (g : Nat → Nat → Int64) (p0 : Int32) (p1 : Int32) (p2 : Int32) {z9 : (Nat → Nat → Int32)} (hf : f_Mo_goOrderw h p0 p1 p2 = some z9) : rh_M rh_PT mw_L (d + 23) 291 [.ref 0, .int p0, .int p1, .int p2] (h, g, mw_R rd) none (z9, g, mw_R rd) := R_Mo_goOrder (d + 16) rd (g_Mo_goOrder 16) (fun h g a0 a1 a2 z hz => rh_M_le (by omega) (Rg_Mo_goOrder rd 16 h g a0 a1 a2 z hz)) h g p0 p1 p2 hf
def b_Mo_order_40 (u1 : Int32) (u2 : Int32) (u3 : Int32) : (Int32 × (Nat → Nat → Int32) × (Option Nat)) → Option ((Int32 × (Nat → Nat → Int32) × (Option Nat)) ⊕ ((Nat → Nat → Int32) × (Option Nat))) := fun s40 =>
  if (s40.2.1 0 1) ≤ s40.1 then
    some (.inr (s40.2.1, s40.2.2))
  else
    (f_Mo_weightOf s40.2.1 s40.2.2 s40.1 ((f_Mo_dawn s40.2.1) + u3)).bind (fun x8 =>
      rh_g (0 ≤ (((9 : Int32) * u3) + s40.1).toInt ∧ (((9 : Int32) * u3) + s40.1).toInt < ((81 : Nat) : Int)) (
        some (.inl (s40.1 + (1 : Int32), rh_up x8.2.1 25 (((9 : Int32) * u3) + s40.1).toNatClampNeg x8.1, x8.2.2))
      )
    )
def b_Mo_order_32 (u1 : Int32) (u2 : Int32) : (Int32 × (Nat → Nat → Int32) × (Option Nat)) → Option ((Int32 × (Nat → Nat → Int32) × (Option Nat)) ⊕ ((Nat → Nat → Int32) × (Option Nat))) := fun s32 =>
  if u2 ≤ s32.1 then
    some (.inr (s32.2.1, s32.2.2))
  else
    (rh_loop (b_Mo_order_40 u1 u2 s32.1) rh_N ((0 : Int32), s32.2.1, s32.2.2)).bind (fun r10 =>
      some (.inl (s32.1 + (1 : Int32), r10.1, r10.2))
    )
def b_Mo_order_106 (u2 : Int32) (rd : Option Nat) : (Int32 × (Nat → Nat → Int32)) → Option ((Int32 × (Nat → Nat → Int32)) ⊕ ((Nat → Nat → Int32))) := fun s106 =>
  if u2 ≤ s106.1 then
    some (.inr s106.2)
  else
    rh_g (0 ≤ s106.1.toInt ∧ s106.1.toInt < ((9 : Nat) : Int)) (
      (f_Mo_tell s106.2 (s106.2 27 s106.1.toNatClampNeg)).bind (fun x16 =>
        some (.inl (s106.1 + (1 : Int32), x16))
      )
    )
def f_Mo_order (h : Nat → Nat → Int32) (rd : Option Nat) (p0 : Int32) : Option (Int32 × (Nat → Nat → Int32) × (Option Nat)) :=
  (f_Mo_areFolk (rh_up h 0 9 (0 : Int32)) p0).bind (fun x1 =>
    if x1 = 0 then
      some (((-1 : Int32), rh_up h 0 9 (0 : Int32), rd))
    else
      if (f_Mo_in (f_In_bitCount p0) (1 : Int32) (7 : Int32)) = 0 then
        some (((-1 : Int32), rh_up h 0 9 (0 : Int32), rd))
      else
        (rh_loop (b_Mo_order_32 p0 (f_In_bitCount p0)) rh_N ((0 : Int32), rh_up h 0 9 (0 : Int32), rd)).bind (fun r11 =>
          (f_Mo_goOrderw (rh_up r11.1 0 48 (2147483647 : Int32)) (0 : Int32) p0 (0 : Int32)).bind (fun x12 =>
            (rh_loop (b_Mo_order_106 (f_In_bitCount p0) r11.2) rh_N ((0 : Int32), rh_up x12 0 8 (0 : Int32))).bind (fun r17 =>
              some ((r17 0 48, r17, r11.2))
            )
          )
        )
  )
set_option maxRecDepth 20000 in
set_option maxHeartbeats 4000000 in
theorem lb_Mo_order_40 (d : Nat) (u1 : Int32) (u2 : Int32) (u3 : Int32) (g : Nat → Nat → Int64) (v9 : Option Value) (h9 : rh_H) : ∀ s40 x9, b_Mo_order_40 u1 u2 u3 s40 = some x9 → Sum.elim (fun s40 => rh_Ex (rh_M rh_PT mw_L (d + 267)) mw_L pg_X12_order ((40, [some (.ref 0), some (.int u1), some (.int u2), some (.int u3), some (.int s40.1)], []), (s40.2.1, g, mw_R s40.2.2)) v9 h9) (fun e9 => rh_Ex (rh_M rh_PT mw_L (d + 267)) mw_L pg_X12_order ((79, [some (.ref 0), some (.int u1), some (.int u2), some (.int u3), none], []), (e9.1, g, mw_R e9.2)) v9 h9) x9 → rh_Ex (rh_M rh_PT mw_L (d + 267)) mw_L pg_X12_order ((40, [some (.ref 0), some (.int u1), some (.int u2), some (.int u3), some (.int s40.1)], []), (s40.2.1, g, mw_R s40.2.2)) v9 h9 := by
  intro s40 x9 hf hk
  unfold b_Mo_order_40 at hf
  refine rh_Ex.blk 3 (s' := ((46, [some (.ref 0), some (.int u1), some (.int u2), some (.int u3), some (.int s40.1)], [.int (s40.2.1 0 1), .int s40.1]), (s40.2.1, g, mw_R s40.2.2))) rfl ?_
  by_cases q7 : (s40.2.1 0 1) ≤ s40.1
  · rw [if_pos q7] at hf
    refine rh_Ex.stp (s' := ((79, [some (.ref 0), some (.int u1), some (.int u2), some (.int u3), some (.int s40.1)], []), (s40.2.1, g, mw_R s40.2.2))) rfl (st_icge_p q7) ?_
    obtain rfl := Option.some.inj hf
    refine rh_Ex.fgt [some (.ref 0), some (.int u1), some (.int u2), some (.int u3), none] ⟨rfl, rfl, rfl, rfl, trivial⟩ ?_
    exact hk
  · rw [if_neg q7] at hf
    refine rh_Ex.stp (s' := ((49, [some (.ref 0), some (.int u1), some (.int u2), some (.int u3), some (.int s40.1)], []), (s40.2.1, g, mw_R s40.2.2))) rfl (st_icge_n q7) ?_
    refine rh_Ex.blk 10 (s' := ((64, [some (.ref 0), some (.int u1), some (.int u2), some (.int u3), some (.int s40.1)], [.ref 0, .int s40.1, .ref 0, .int (((9 : Int32) * u3) + s40.1), .ref 25]), (s40.2.1, g, mw_R s40.2.2))) rfl ?_
    refine rh_Ex.call (j := 209) (rc := some 11) [.ref 0] [.int s40.1, .ref 0, .int (((9 : Int32) * u3) + s40.1), .ref 25] (some (.int (f_Mo_dawn s40.2.1))) rfl rfl rfl (Nat.le_of_ble_eq_true rfl) (R_Mo_dawn (d + 266) s40.2.2 s40.2.1 g  rfl) ?_
    show rh_Ex _ _ _ ((67, [some (.ref 0), some (.int u1), some (.int u2), some (.int u3), some (.int s40.1)], [.int (f_Mo_dawn s40.2.1), .int s40.1, .ref 0, .int (((9 : Int32) * u3) + s40.1), .ref 25]), (s40.2.1, g, mw_R s40.2.2)) _ _
    refine rh_Ex.blk 2 (s' := ((69, [some (.ref 0), some (.int u1), some (.int u2), some (.int u3), some (.int s40.1)], [.int ((f_Mo_dawn s40.2.1) + u3), .int s40.1, .ref 0, .int (((9 : Int32) * u3) + s40.1), .ref 25]), (s40.2.1, g, mw_R s40.2.2))) rfl ?_
    obtain ⟨x8, hx8, hf⟩ := rh_bq hf
    refine rh_Ex.call (j := 205) (rc := some 11) [.ref 0, .int s40.1, .int ((f_Mo_dawn s40.2.1) + u3)] [.int (((9 : Int32) * u3) + s40.1), .ref 25] (some (.int x8.1)) rfl rfl rfl (Nat.le_of_ble_eq_true rfl) (R_Mo_weightOf d s40.2.2 s40.2.1 g s40.1 ((f_Mo_dawn s40.2.1) + u3) hx8) ?_
    show rh_Ex _ _ _ ((72, [some (.ref 0), some (.int u1), some (.int u2), some (.int u3), some (.int s40.1)], [.int x8.1, .int (((9 : Int32) * u3) + s40.1), .ref 25]), (x8.2.1, g, mw_R x8.2.2)) _ _
    obtain ⟨q9, hf⟩ := rh_gq hf
    refine rh_Ex.stp (s' := ((73, [some (.ref 0), some (.int u1), some (.int u2), some (.int u3), some (.int s40.1)], []), (rh_up x8.2.1 25 (((9 : Int32) * u3) + s40.1).toNatClampNeg x8.1, g, mw_R x8.2.2))) rfl (st_iast (n := 81) rfl q9) ?_
    refine rh_Ex.blk 2 (s' := ((40, [some (.ref 0), some (.int u1), some (.int u2), some (.int u3), some (.int (s40.1 + (1 : Int32)))], []), (rh_up x8.2.1 25 (((9 : Int32) * u3) + s40.1).toNatClampNeg x8.1, g, mw_R x8.2.2))) rfl ?_
    obtain rfl := Option.some.inj hf
    refine rh_Ex.fgt [some (.ref 0), some (.int u1), some (.int u2), some (.int u3), some (.int (s40.1 + (1 : Int32)))] ⟨rfl, rfl, rfl, rfl, rfl, trivial⟩ ?_
    exact hk
set_option maxRecDepth 20000 in
set_option maxHeartbeats 4000000 in
theorem lb_Mo_order_32 (d : Nat) (u1 : Int32) (u2 : Int32) (g : Nat → Nat → Int64) (v9 : Option Value) (h9 : rh_H) : ∀ s32 x9, b_Mo_order_32 u1 u2 s32 = some x9 → Sum.elim (fun s32 => rh_Ex (rh_M rh_PT mw_L (d + 267)) mw_L pg_X12_order ((32, [some (.ref 0), some (.int u1), some (.int u2), some (.int s32.1), none], []), (s32.2.1, g, mw_R s32.2.2)) v9 h9) (fun e9 => rh_Ex (rh_M rh_PT mw_L (d + 267)) mw_L pg_X12_order ((85, [some (.ref 0), some (.int u1), some (.int u2), none, none], []), (e9.1, g, mw_R e9.2)) v9 h9) x9 → rh_Ex (rh_M rh_PT mw_L (d + 267)) mw_L pg_X12_order ((32, [some (.ref 0), some (.int u1), some (.int u2), some (.int s32.1), none], []), (s32.2.1, g, mw_R s32.2.2)) v9 h9 := by
  intro s32 x9 hf hk
  unfold b_Mo_order_32 at hf
  refine rh_Ex.blk 2 (s' := ((34, [some (.ref 0), some (.int u1), some (.int u2), some (.int s32.1), none], [.int u2, .int s32.1]), (s32.2.1, g, mw_R s32.2.2))) rfl ?_
  by_cases q5 : u2 ≤ s32.1
  · rw [if_pos q5] at hf
    refine rh_Ex.stp (s' := ((85, [some (.ref 0), some (.int u1), some (.int u2), some (.int s32.1), none], []), (s32.2.1, g, mw_R s32.2.2))) rfl (st_icge_p q5) ?_
    obtain rfl := Option.some.inj hf
    refine rh_Ex.fgt [some (.ref 0), some (.int u1), some (.int u2), none, none] ⟨rfl, rfl, rfl, trivial⟩ ?_
    exact hk
  · rw [if_neg q5] at hf
    refine rh_Ex.stp (s' := ((37, [some (.ref 0), some (.int u1), some (.int u2), some (.int s32.1), none], []), (s32.2.1, g, mw_R s32.2.2))) rfl (st_icge_n q5) ?_
    refine rh_Ex.blk 2 (s' := ((40, [some (.ref 0), some (.int u1), some (.int u2), some (.int s32.1), some (.int (0 : Int32))], []), (s32.2.1, g, mw_R s32.2.2))) rfl ?_
    obtain ⟨r10, hr10, hf⟩ := rh_bq hf
    refine rh_Ex.fgt [some (.ref 0), some (.int u1), some (.int u2), some (.int s32.1), some (.int (0 : Int32))] ⟨rfl, rfl, rfl, rfl, rfl, trivial⟩ ?_
    refine rh_Ex.loop _ _ _ (lb_Mo_order_40 d u1 u2 s32.1  g _ _) rh_N _ r10 hr10 ?_
    refine rh_Ex.blk 2 (s' := ((32, [some (.ref 0), some (.int u1), some (.int u2), some (.int (s32.1 + (1 : Int32))), none], []), (r10.1, g, mw_R r10.2))) rfl ?_
    obtain rfl := Option.some.inj hf
    refine rh_Ex.fgt [some (.ref 0), some (.int u1), some (.int u2), some (.int (s32.1 + (1 : Int32))), none] ⟨rfl, rfl, rfl, rfl, trivial⟩ ?_
    exact hk
set_option maxRecDepth 20000 in
set_option maxHeartbeats 4000000 in
theorem lb_Mo_order_106 (d : Nat) (u2 : Int32) (rd : Option Nat) (g : Nat → Nat → Int64) (v9 : Option Value) (h9 : rh_H) : ∀ s106 x9, b_Mo_order_106 u2 rd s106 = some x9 → Sum.elim (fun s106 => rh_Ex (rh_M rh_PT mw_L (d + 267)) mw_L pg_X12_order ((106, [some (.ref 0), none, some (.int u2), some (.int s106.1), none], []), (s106.2, g, mw_R rd)) v9 h9) (fun e9 => rh_Ex (rh_M rh_PT mw_L (d + 267)) mw_L pg_X12_order ((127, [some (.ref 0), none, none, none, none], []), (e9, g, mw_R rd)) v9 h9) x9 → rh_Ex (rh_M rh_PT mw_L (d + 267)) mw_L pg_X12_order ((106, [some (.ref 0), none, some (.int u2), some (.int s106.1), none], []), (s106.2, g, mw_R rd)) v9 h9 := by
  intro s106 x9 hf hk
  unfold b_Mo_order_106 at hf
  refine rh_Ex.blk 2 (s' := ((108, [some (.ref 0), none, some (.int u2), some (.int s106.1), none], [.int u2, .int s106.1]), (s106.2, g, mw_R rd))) rfl ?_
  by_cases q14 : u2 ≤ s106.1
  · rw [if_pos q14] at hf
    refine rh_Ex.stp (s' := ((127, [some (.ref 0), none, some (.int u2), some (.int s106.1), none], []), (s106.2, g, mw_R rd))) rfl (st_icge_p q14) ?_
    obtain rfl := Option.some.inj hf
    refine rh_Ex.fgt [some (.ref 0), none, none, none, none] ⟨rfl, trivial⟩ ?_
    exact hk
  · rw [if_neg q14] at hf
    refine rh_Ex.stp (s' := ((111, [some (.ref 0), none, some (.int u2), some (.int s106.1), none], []), (s106.2, g, mw_R rd))) rfl (st_icge_n q14) ?_
    refine rh_Ex.blk 4 (s' := ((117, [some (.ref 0), none, some (.int u2), some (.int s106.1), none], [.int s106.1, .ref 27, .ref 0]), (s106.2, g, mw_R rd))) rfl ?_
    obtain ⟨q15, hf⟩ := rh_gq hf
    refine rh_Ex.stp (s' := ((118, [some (.ref 0), none, some (.int u2), some (.int s106.1), none], [.int (s106.2 27 s106.1.toNatClampNeg), .ref 0]), (s106.2, g, mw_R rd))) rfl (st_iald (n := 9) rfl q15) ?_
    obtain ⟨x16, hx16, hf⟩ := rh_bq hf
    refine rh_Ex.call (j := 182) (rc := some 11) [.ref 0, .int (s106.2 27 s106.1.toNatClampNeg)] [] none rfl rfl rfl (Nat.le_of_ble_eq_true rfl) (R_Mo_tell (d + 266) rd s106.2 g (s106.2 27 s106.1.toNatClampNeg) hx16) ?_
    show rh_Ex _ _ _ ((121, [some (.ref 0), none, some (.int u2), some (.int s106.1), none], []), (x16, g, mw_R rd)) _ _
    refine rh_Ex.blk 2 (s' := ((106, [some (.ref 0), none, some (.int u2), some (.int (s106.1 + (1 : Int32))), none], []), (x16, g, mw_R rd))) rfl ?_
    obtain rfl := Option.some.inj hf
    refine rh_Ex.fgt [some (.ref 0), none, some (.int u2), some (.int (s106.1 + (1 : Int32))), none] ⟨rfl, rfl, rfl, trivial⟩ ?_
    exact hk
set_option maxRecDepth 20000 in
set_option maxHeartbeats 4000000 in
theorem R_Mo_order (d : Nat) (rd : Option Nat) (h : Nat → Nat → Int32) (g : Nat → Nat → Int64) (p0 : Int32) {z9 : Int32 × (Nat → Nat → Int32) × (Option Nat)} (hf : f_Mo_order h rd p0 = some z9) : rh_M rh_PT mw_L (d + 268) 292 [.ref 0, .int p0] (h, g, mw_R rd) (some (.int z9.1)) (z9.2.1, g, mw_R z9.2.2) := by
  unfold f_Mo_order at hf
  refine rh_go pt_292 (Nat.le_of_ble_eq_true rfl) (lv := [some (.ref 0), some (.int p0), none, none, none]) rfl ?_
  refine rh_Ex.blk 4 (s' := ((6, [some (.ref 0), some (.int p0), none, none, none], [.int p0]), (rh_up h 0 9 (0 : Int32), g, mw_R rd))) rfl ?_
  refine rh_Ex.call (j := 298) (rc := none) [.int p0] [] (some (.int (f_In_bitCount p0))) rfl rfl trivial (Nat.le_of_ble_eq_true rfl) (R_In_bitCount (d + 266) mw_L (mw_R rd) (rh_up h 0 9 (0 : Int32)) g p0 rfl) ?_
  show rh_Ex _ _ _ ((9, [some (.ref 0), some (.int p0), none, none, none], [.int (f_In_bitCount p0)]), (rh_up h 0 9 (0 : Int32), g, mw_R rd)) _ _
  refine rh_Ex.blk 3 (s' := ((12, [some (.ref 0), some (.int p0), some (.int (f_In_bitCount p0)), none, none], [.int p0, .ref 0]), (rh_up h 0 9 (0 : Int32), g, mw_R rd))) rfl ?_
  obtain ⟨x1, hx1, hf⟩ := rh_bq hf
  refine rh_Ex.call (j := 185) (rc := some 11) [.ref 0, .int p0] [] (some (.int x1)) rfl rfl rfl (Nat.le_of_ble_eq_true rfl) (R_Mo_areFolk (d + 265) rd (rh_up h 0 9 (0 : Int32)) g p0 hx1) ?_
  show rh_Ex _ _ _ ((15, [some (.ref 0), some (.int p0), some (.int (f_In_bitCount p0)), none, none], [.int x1]), (rh_up h 0 9 (0 : Int32), g, mw_R rd)) _ _
  by_cases q2 : x1 = 0
  · rw [if_pos q2] at hf
    refine rh_Ex.stp (s' := ((28, [some (.ref 0), some (.int p0), some (.int (f_In_bitCount p0)), none, none], []), (rh_up h 0 9 (0 : Int32), g, mw_R rd))) rfl (st_ifeq_p q2) ?_
    refine rh_Ex.blk 1 (s' := ((29, [some (.ref 0), some (.int p0), some (.int (f_In_bitCount p0)), none, none], [.int (-1 : Int32)]), (rh_up h 0 9 (0 : Int32), g, mw_R rd))) rfl ?_
    obtain rfl := Option.some.inj hf
    exact rh_Ex.ret rfl rfl
  · rw [if_neg q2] at hf
    refine rh_Ex.stp (s' := ((18, [some (.ref 0), some (.int p0), some (.int (f_In_bitCount p0)), none, none], []), (rh_up h 0 9 (0 : Int32), g, mw_R rd))) rfl (st_ifeq_n q2) ?_
    refine rh_Ex.blk 3 (s' := ((22, [some (.ref 0), some (.int p0), some (.int (f_In_bitCount p0)), none, none], [.int (7 : Int32), .int (1 : Int32), .int (f_In_bitCount p0)]), (rh_up h 0 9 (0 : Int32), g, mw_R rd))) rfl ?_
    refine rh_Ex.call (j := 179) (rc := none) [.int (f_In_bitCount p0), .int (1 : Int32), .int (7 : Int32)] [] (some (.int (f_Mo_in (f_In_bitCount p0) (1 : Int32) (7 : Int32)))) rfl rfl trivial (Nat.le_of_ble_eq_true rfl) (R_Mo_in (d + 266) mw_L (mw_R rd) (rh_up h 0 9 (0 : Int32)) g (f_In_bitCount p0) (1 : Int32) (7 : Int32) rfl) ?_
    show rh_Ex _ _ _ ((25, [some (.ref 0), some (.int p0), some (.int (f_In_bitCount p0)), none, none], [.int (f_Mo_in (f_In_bitCount p0) (1 : Int32) (7 : Int32))]), (rh_up h 0 9 (0 : Int32), g, mw_R rd)) _ _
    by_cases q3 : (f_Mo_in (f_In_bitCount p0) (1 : Int32) (7 : Int32)) = 0
    · rw [if_pos q3] at hf
      refine rh_Ex.stp (s' := ((28, [some (.ref 0), some (.int p0), some (.int (f_In_bitCount p0)), none, none], []), (rh_up h 0 9 (0 : Int32), g, mw_R rd))) rfl (st_ifne_p q3) ?_
      refine rh_Ex.blk 1 (s' := ((29, [some (.ref 0), some (.int p0), some (.int (f_In_bitCount p0)), none, none], [.int (-1 : Int32)]), (rh_up h 0 9 (0 : Int32), g, mw_R rd))) rfl ?_
      obtain rfl := Option.some.inj hf
      exact rh_Ex.ret rfl rfl
    · rw [if_neg q3] at hf
      refine rh_Ex.stp (s' := ((30, [some (.ref 0), some (.int p0), some (.int (f_In_bitCount p0)), none, none], []), (rh_up h 0 9 (0 : Int32), g, mw_R rd))) rfl (st_ifne_n q3) ?_
      refine rh_Ex.blk 2 (s' := ((32, [some (.ref 0), some (.int p0), some (.int (f_In_bitCount p0)), some (.int (0 : Int32)), none], []), (rh_up h 0 9 (0 : Int32), g, mw_R rd))) rfl ?_
      obtain ⟨r11, hr11, hf⟩ := rh_bq hf
      refine rh_Ex.fgt [some (.ref 0), some (.int p0), some (.int (f_In_bitCount p0)), some (.int (0 : Int32)), none] ⟨rfl, rfl, rfl, rfl, trivial⟩ ?_
      refine rh_Ex.loop _ _ _ (lb_Mo_order_32 d p0 (f_In_bitCount p0)  g _ _) rh_N _ r11 hr11 ?_
      refine rh_Ex.blk 7 (s' := ((96, [some (.ref 0), some (.int p0), some (.int (f_In_bitCount p0)), none, none], [.int (0 : Int32), .int p0, .int (0 : Int32), .ref 0]), (rh_up r11.1 0 48 (2147483647 : Int32), g, mw_R r11.2))) rfl ?_
      obtain ⟨x12, hx12, hf⟩ := rh_bq hf
      refine rh_Ex.call (j := 291) (rc := some 11) [.ref 0, .int (0 : Int32), .int p0, .int (0 : Int32)] [] none rfl rfl rfl (Nat.le_of_ble_eq_true rfl) (R_Mo_goOrderw (d + 244) r11.2 (rh_up r11.1 0 48 (2147483647 : Int32)) g (0 : Int32) p0 (0 : Int32) hx12) ?_
      show rh_Ex _ _ _ ((99, [some (.ref 0), some (.int p0), some (.int (f_In_bitCount p0)), none, none], []), (x12, g, mw_R r11.2)) _ _
      refine rh_Ex.blk 5 (s' := ((106, [some (.ref 0), some (.int p0), some (.int (f_In_bitCount p0)), some (.int (0 : Int32)), none], []), (rh_up x12 0 8 (0 : Int32), g, mw_R r11.2))) rfl ?_
      obtain ⟨r17, hr17, hf⟩ := rh_bq hf
      refine rh_Ex.fgt [some (.ref 0), none, some (.int (f_In_bitCount p0)), some (.int (0 : Int32)), none] ⟨rfl, rfl, rfl, trivial⟩ ?_
      refine rh_Ex.loop _ _ _ (lb_Mo_order_106 d (f_In_bitCount p0) r11.2  g _ _) rh_N _ r17 hr17 ?_
      refine rh_Ex.blk 2 (s' := ((131, [some (.ref 0), none, none, none, none], [.int (r17 0 48)]), (r17, g, mw_R r11.2))) rfl ?_
      obtain rfl := Option.some.inj hf
      exact rh_Ex.ret rfl rfl
def b_Mo_lay_1_28_2 (u2 : Int32) : (Int32 × (Nat → Nat → Int32)) → Option ((Int32 × (Nat → Nat → Int32)) ⊕ ((Nat → Nat → Int32))) := fun s2 =>
  if (11 : Int32) ≤ s2.1 then
    some (.inr s2.2)
  else
    rh_g (0 ≤ s2.1.toInt ∧ s2.1.toInt < ((11 : Nat) : Int)) (
      rh_g (0 ≤ (u2 + s2.1).toInt ∧ (u2 + s2.1).toInt < ((22 : Nat) : Int)) (
        some (.inl (s2.1 + (1 : Int32), rh_up s2.2 28 (u2 + s2.1).toNatClampNeg (s2.2 1 s2.1.toNatClampNeg)))
      )
    )
def f_Mo_lay_1_28 (h : Nat → Nat → Int32) (p0 : Int32) : Option ((Nat → Nat → Int32)) :=
  (rh_loop (b_Mo_lay_1_28_2 p0) rh_N ((0 : Int32), h)).bind (fun r5 =>
    some (r5)
  )
set_option maxRecDepth 20000 in
set_option maxHeartbeats 4000000 in
theorem lb_Mo_lay_1_28_2 (d : Nat) (rd : Option Nat) (u2 : Int32) (g : Nat → Nat → Int64) (v9 : Option Value) (h9 : rh_H) : ∀ s2 x9, b_Mo_lay_1_28_2 u2 s2 = some x9 → Sum.elim (fun s2 => rh_Ex (rh_M rh_PT mw_L (d + 0)) mw_L pg_X12_lay ((2, [some (.ref 1), some (.ref 28), some (.int u2), some (.int s2.1)], []), (s2.2, g, mw_R rd)) v9 h9) (fun e9 => rh_Ex (rh_M rh_PT mw_L (d + 0)) mw_L pg_X12_lay ((22, [none, none, none, none], []), (e9, g, mw_R rd)) v9 h9) x9 → rh_Ex (rh_M rh_PT mw_L (d + 0)) mw_L pg_X12_lay ((2, [some (.ref 1), some (.ref 28), some (.int u2), some (.int s2.1)], []), (s2.2, g, mw_R rd)) v9 h9 := by
  intro s2 x9 hf hk
  unfold b_Mo_lay_1_28_2 at hf
  refine rh_Ex.blk 2 (s' := ((5, [some (.ref 1), some (.ref 28), some (.int u2), some (.int s2.1)], [.int (11 : Int32), .int s2.1]), (s2.2, g, mw_R rd))) rfl ?_
  by_cases q2 : (11 : Int32) ≤ s2.1
  · rw [if_pos q2] at hf
    refine rh_Ex.stp (s' := ((22, [some (.ref 1), some (.ref 28), some (.int u2), some (.int s2.1)], []), (s2.2, g, mw_R rd))) rfl (st_icge_p q2) ?_
    obtain rfl := Option.some.inj hf
    refine rh_Ex.fgt [none, none, none, none] trivial ?_
    exact hk
  · rw [if_neg q2] at hf
    refine rh_Ex.stp (s' := ((8, [some (.ref 1), some (.ref 28), some (.int u2), some (.int s2.1)], []), (s2.2, g, mw_R rd))) rfl (st_icge_n q2) ?_
    refine rh_Ex.blk 6 (s' := ((14, [some (.ref 1), some (.ref 28), some (.int u2), some (.int s2.1)], [.int s2.1, .ref 1, .int (u2 + s2.1), .ref 28]), (s2.2, g, mw_R rd))) rfl ?_
    obtain ⟨q3, hf⟩ := rh_gq hf
    refine rh_Ex.stp (s' := ((15, [some (.ref 1), some (.ref 28), some (.int u2), some (.int s2.1)], [.int (s2.2 1 s2.1.toNatClampNeg), .int (u2 + s2.1), .ref 28]), (s2.2, g, mw_R rd))) rfl (st_iald (n := 11) rfl q3) ?_
    obtain ⟨q4, hf⟩ := rh_gq hf
    refine rh_Ex.stp (s' := ((16, [some (.ref 1), some (.ref 28), some (.int u2), some (.int s2.1)], []), (rh_up s2.2 28 (u2 + s2.1).toNatClampNeg (s2.2 1 s2.1.toNatClampNeg), g, mw_R rd))) rfl (st_iast (n := 22) rfl q4) ?_
    refine rh_Ex.blk 2 (s' := ((2, [some (.ref 1), some (.ref 28), some (.int u2), some (.int (s2.1 + (1 : Int32)))], []), (rh_up s2.2 28 (u2 + s2.1).toNatClampNeg (s2.2 1 s2.1.toNatClampNeg), g, mw_R rd))) rfl ?_
    obtain rfl := Option.some.inj hf
    refine rh_Ex.fgt [some (.ref 1), some (.ref 28), some (.int u2), some (.int (s2.1 + (1 : Int32)))] ⟨rfl, rfl, rfl, rfl, trivial⟩ ?_
    exact hk
set_option maxRecDepth 20000 in
set_option maxHeartbeats 4000000 in
theorem R_Mo_lay_1_28 (d : Nat) (rd : Option Nat) (h : Nat → Nat → Int32) (g : Nat → Nat → Int64) (p0 : Int32) {z9 : (Nat → Nat → Int32)} (hf : f_Mo_lay_1_28 h p0 = some z9) : rh_M rh_PT mw_L (d + 1) 218 [.ref 1, .ref 28, .int p0] (h, g, mw_R rd) none (z9, g, mw_R rd) := by
  unfold f_Mo_lay_1_28 at hf
  refine rh_go pt_218 (Nat.le_of_ble_eq_true rfl) (lv := [some (.ref 1), some (.ref 28), some (.int p0), none]) rfl ?_
  refine rh_Ex.blk 2 (s' := ((2, [some (.ref 1), some (.ref 28), some (.int p0), some (.int (0 : Int32))], []), (h, g, mw_R rd))) rfl ?_
  obtain ⟨r5, hr5, hf⟩ := rh_bq hf
  refine rh_Ex.fgt [some (.ref 1), some (.ref 28), some (.int p0), some (.int (0 : Int32))] ⟨rfl, rfl, rfl, rfl, trivial⟩ ?_
  refine rh_Ex.loop _ _ _ (lb_Mo_lay_1_28_2 d rd p0  g _ _) rh_N _ r5 hr5 ?_
  obtain rfl := Option.some.inj hf
  exact rh_Ex.ret rfl trivial
def f_Mo_keep (h : Nat → Nat → Int32) (p0 : Int32) : Option (Int32 × (Nat → Nat → Int32)) :=
  if (f_Mo_in p0 (0 : Int32) (1 : Int32)) = 0 then
    some (((0 : Int32), rh_up h 0 9 (0 : Int32)))
  else
    rh_g (0 ≤ p0.toInt ∧ p0.toInt < ((2 : Nat) : Int)) (
      rh_g (0 ≤ p0.toInt ∧ p0.toInt < ((2 : Nat) : Int)) (
        (f_Mo_lay_1_28 (rh_up (rh_up (rh_up h 0 9 (0 : Int32)) 29 p0.toNatClampNeg ((1 : Int32) &&& 1)) 30 p0.toNatClampNeg (h 0 49)) ((11 : Int32) * p0)).bind (fun x4 =>
          some (((1 : Int32), x4))
        )
      )
    )
set_option maxRecDepth 20000 in
set_option maxHeartbeats 4000000 in
theorem R_Mo_keep (d : Nat) (rd : Option Nat) (h : Nat → Nat → Int32) (g : Nat → Nat → Int64) (p0 : Int32) {z9 : Int32 × (Nat → Nat → Int32)} (hf : f_Mo_keep h p0 = some z9) : rh_M rh_PT mw_L (d + 2) 293 [.ref 0, .int p0] (h, g, mw_R rd) (some (.int z9.1)) (z9.2, g, mw_R rd) := by
  unfold f_Mo_keep at hf
  refine rh_go pt_293 (Nat.le_of_ble_eq_true rfl) (lv := [some (.ref 0), some (.int p0)]) rfl ?_
  refine rh_Ex.blk 6 (s' := ((8, [some (.ref 0), some (.int p0)], [.int (1 : Int32), .int (0 : Int32), .int p0]), (rh_up h 0 9 (0 : Int32), g, mw_R rd))) rfl ?_
  refine rh_Ex.call (j := 179) (rc := none) [.int p0, .int (0 : Int32), .int (1 : Int32)] [] (some (.int (f_Mo_in p0 (0 : Int32) (1 : Int32)))) rfl rfl trivial (Nat.le_of_ble_eq_true rfl) (R_Mo_in d mw_L (mw_R rd) (rh_up h 0 9 (0 : Int32)) g p0 (0 : Int32) (1 : Int32) rfl) ?_
  show rh_Ex _ _ _ ((11, [some (.ref 0), some (.int p0)], [.int (f_Mo_in p0 (0 : Int32) (1 : Int32))]), (rh_up h 0 9 (0 : Int32), g, mw_R rd)) _ _
  by_cases q1 : (f_Mo_in p0 (0 : Int32) (1 : Int32)) = 0
  · rw [if_pos q1] at hf
    refine rh_Ex.stp (s' := ((14, [some (.ref 0), some (.int p0)], []), (rh_up h 0 9 (0 : Int32), g, mw_R rd))) rfl (st_ifne_p q1) ?_
    refine rh_Ex.blk 1 (s' := ((15, [some (.ref 0), some (.int p0)], [.int (0 : Int32)]), (rh_up h 0 9 (0 : Int32), g, mw_R rd))) rfl ?_
    obtain rfl := Option.some.inj hf
    exact rh_Ex.ret rfl ⟨rfl, Or.inl rfl⟩
  · rw [if_neg q1] at hf
    refine rh_Ex.stp (s' := ((16, [some (.ref 0), some (.int p0)], []), (rh_up h 0 9 (0 : Int32), g, mw_R rd))) rfl (st_ifne_n q1) ?_
    refine rh_Ex.blk 4 (s' := ((22, [some (.ref 0), some (.int p0)], [.int (1 : Int32), .int p0, .ref 29]), (rh_up h 0 9 (0 : Int32), g, mw_R rd))) rfl ?_
    obtain ⟨q2, hf⟩ := rh_gq hf
    refine rh_Ex.stp (s' := ((23, [some (.ref 0), some (.int p0)], []), (rh_up (rh_up h 0 9 (0 : Int32)) 29 p0.toNatClampNeg ((1 : Int32) &&& 1), g, mw_R rd))) rfl (st_zast (n := 2) rfl q2) ?_
    refine rh_Ex.blk 5 (s' := ((32, [some (.ref 0), some (.int p0)], [.int (h 0 49), .int p0, .ref 30]), (rh_up (rh_up h 0 9 (0 : Int32)) 29 p0.toNatClampNeg ((1 : Int32) &&& 1), g, mw_R rd))) rfl ?_
    obtain ⟨q3, hf⟩ := rh_gq hf
    refine rh_Ex.stp (s' := ((33, [some (.ref 0), some (.int p0)], []), (rh_up (rh_up (rh_up h 0 9 (0 : Int32)) 29 p0.toNatClampNeg ((1 : Int32) &&& 1)) 30 p0.toNatClampNeg (h 0 49), g, mw_R rd))) rfl (st_iast (n := 2) rfl q3) ?_
    refine rh_Ex.blk 7 (s' := ((45, [some (.ref 0), some (.int p0)], [.int ((11 : Int32) * p0), .ref 28, .ref 1]), (rh_up (rh_up (rh_up h 0 9 (0 : Int32)) 29 p0.toNatClampNeg ((1 : Int32) &&& 1)) 30 p0.toNatClampNeg (h 0 49), g, mw_R rd))) rfl ?_
    obtain ⟨x4, hx4, hf⟩ := rh_bq hf
    refine rh_Ex.call (j := 218) (rc := none) [.ref 1, .ref 28, .int ((11 : Int32) * p0)] [] none rfl rfl trivial (Nat.le_of_ble_eq_true rfl) (R_Mo_lay_1_28 d rd (rh_up (rh_up (rh_up h 0 9 (0 : Int32)) 29 p0.toNatClampNeg ((1 : Int32) &&& 1)) 30 p0.toNatClampNeg (h 0 49)) g ((11 : Int32) * p0) hx4) ?_
    show rh_Ex _ _ _ ((48, [some (.ref 0), some (.int p0)], []), (x4, g, mw_R rd)) _ _
    refine rh_Ex.blk 1 (s' := ((49, [some (.ref 0), some (.int p0)], [.int (1 : Int32)]), (x4, g, mw_R rd))) rfl ?_
    obtain rfl := Option.some.inj hf
    exact rh_Ex.ret rfl ⟨rfl, Or.inr rfl⟩
def b_Mo_again_40 (u1 : Int32) : (Int32 × (Nat → Nat → Int32)) → Option ((Int32 × (Nat → Nat → Int32)) ⊕ ((Nat → Nat → Int32))) := fun s40 =>
  if (11 : Int32) ≤ s40.1 then
    some (.inr s40.2)
  else
    rh_g (0 ≤ (((11 : Int32) * u1) + s40.1).toInt ∧ (((11 : Int32) * u1) + s40.1).toInt < ((22 : Nat) : Int)) (
      rh_g (0 ≤ s40.1.toInt ∧ s40.1.toInt < ((11 : Nat) : Int)) (
        some (.inl (s40.1 + (1 : Int32), rh_up s40.2 1 s40.1.toNatClampNeg (s40.2 28 (((11 : Int32) * u1) + s40.1).toNatClampNeg)))
      )
    )
def f_Mo_again (h : Nat → Nat → Int32) (p0 : Int32) : Option (Int32 × (Nat → Nat → Int32)) :=
  if (f_Mo_in p0 (0 : Int32) (1 : Int32)) = 0 then
    some (((0 : Int32), rh_up h 0 9 (0 : Int32)))
  else
    rh_g (0 ≤ p0.toInt ∧ p0.toInt < ((2 : Nat) : Int)) (
      if ((rh_up h 0 9 (0 : Int32)) 29 p0.toNatClampNeg) = 0 then
        some (((0 : Int32), rh_up h 0 9 (0 : Int32)))
      else
        rh_g (0 ≤ p0.toInt ∧ p0.toInt < ((2 : Nat) : Int)) (
          if ((rh_up h 0 9 (0 : Int32)) 30 p0.toNatClampNeg) = (h 0 49) then
            (rh_loop (b_Mo_again_40 p0) rh_N ((0 : Int32), rh_up h 0 9 (0 : Int32))).bind (fun r10 =>
              some (((1 : Int32), rh_up r10 0 24 (0 : Int32)))
            )
          else
            some (((0 : Int32), rh_up h 0 9 (0 : Int32)))
        )
    )
set_option maxRecDepth 20000 in
set_option maxHeartbeats 4000000 in
theorem lb_Mo_again_40 (d : Nat) (rd : Option Nat) (u1 : Int32) (g : Nat → Nat → Int64) (v9 : Option Value) (h9 : rh_H) : ∀ s40 x9, b_Mo_again_40 u1 s40 = some x9 → Sum.elim (fun s40 => rh_Ex (rh_M rh_PT mw_L (d + 1)) mw_L pg_X12_again ((40, [some (.ref 0), some (.int u1), some (.int s40.1)], []), (s40.2, g, mw_R rd)) v9 h9) (fun e9 => rh_Ex (rh_M rh_PT mw_L (d + 1)) mw_L pg_X12_again ((69, [some (.ref 0), none, none], []), (e9, g, mw_R rd)) v9 h9) x9 → rh_Ex (rh_M rh_PT mw_L (d + 1)) mw_L pg_X12_again ((40, [some (.ref 0), some (.int u1), some (.int s40.1)], []), (s40.2, g, mw_R rd)) v9 h9 := by
  intro s40 x9 hf hk
  unfold b_Mo_again_40 at hf
  refine rh_Ex.blk 2 (s' := ((43, [some (.ref 0), some (.int u1), some (.int s40.1)], [.int (11 : Int32), .int s40.1]), (s40.2, g, mw_R rd))) rfl ?_
  by_cases q7 : (11 : Int32) ≤ s40.1
  · rw [if_pos q7] at hf
    refine rh_Ex.stp (s' := ((69, [some (.ref 0), some (.int u1), some (.int s40.1)], []), (s40.2, g, mw_R rd))) rfl (st_icge_p q7) ?_
    obtain rfl := Option.some.inj hf
    refine rh_Ex.fgt [some (.ref 0), none, none] ⟨rfl, trivial⟩ ?_
    exact hk
  · rw [if_neg q7] at hf
    refine rh_Ex.stp (s' := ((46, [some (.ref 0), some (.int u1), some (.int s40.1)], []), (s40.2, g, mw_R rd))) rfl (st_icge_n q7) ?_
    refine rh_Ex.blk 10 (s' := ((61, [some (.ref 0), some (.int u1), some (.int s40.1)], [.int (((11 : Int32) * u1) + s40.1), .ref 28, .int s40.1, .ref 1]), (s40.2, g, mw_R rd))) rfl ?_
    obtain ⟨q8, hf⟩ := rh_gq hf
    refine rh_Ex.stp (s' := ((62, [some (.ref 0), some (.int u1), some (.int s40.1)], [.int (s40.2 28 (((11 : Int32) * u1) + s40.1).toNatClampNeg), .int s40.1, .ref 1]), (s40.2, g, mw_R rd))) rfl (st_iald (n := 22) rfl q8) ?_
    obtain ⟨q9, hf⟩ := rh_gq hf
    refine rh_Ex.stp (s' := ((63, [some (.ref 0), some (.int u1), some (.int s40.1)], []), (rh_up s40.2 1 s40.1.toNatClampNeg (s40.2 28 (((11 : Int32) * u1) + s40.1).toNatClampNeg), g, mw_R rd))) rfl (st_iast (n := 11) rfl q9) ?_
    refine rh_Ex.blk 2 (s' := ((40, [some (.ref 0), some (.int u1), some (.int (s40.1 + (1 : Int32)))], []), (rh_up s40.2 1 s40.1.toNatClampNeg (s40.2 28 (((11 : Int32) * u1) + s40.1).toNatClampNeg), g, mw_R rd))) rfl ?_
    obtain rfl := Option.some.inj hf
    refine rh_Ex.fgt [some (.ref 0), some (.int u1), some (.int (s40.1 + (1 : Int32)))] ⟨rfl, rfl, rfl, trivial⟩ ?_
    exact hk
set_option maxRecDepth 20000 in
set_option maxHeartbeats 4000000 in
theorem R_Mo_again (d : Nat) (rd : Option Nat) (h : Nat → Nat → Int32) (g : Nat → Nat → Int64) (p0 : Int32) {z9 : Int32 × (Nat → Nat → Int32)} (hf : f_Mo_again h p0 = some z9) : rh_M rh_PT mw_L (d + 2) 294 [.ref 0, .int p0] (h, g, mw_R rd) (some (.int z9.1)) (z9.2, g, mw_R rd) := by
  unfold f_Mo_again at hf
  refine rh_go pt_294 (Nat.le_of_ble_eq_true rfl) (lv := [some (.ref 0), some (.int p0), none]) rfl ?_
  refine rh_Ex.blk 6 (s' := ((8, [some (.ref 0), some (.int p0), none], [.int (1 : Int32), .int (0 : Int32), .int p0]), (rh_up h 0 9 (0 : Int32), g, mw_R rd))) rfl ?_
  refine rh_Ex.call (j := 179) (rc := none) [.int p0, .int (0 : Int32), .int (1 : Int32)] [] (some (.int (f_Mo_in p0 (0 : Int32) (1 : Int32)))) rfl rfl trivial (Nat.le_of_ble_eq_true rfl) (R_Mo_in d mw_L (mw_R rd) (rh_up h 0 9 (0 : Int32)) g p0 (0 : Int32) (1 : Int32) rfl) ?_
  show rh_Ex _ _ _ ((11, [some (.ref 0), some (.int p0), none], [.int (f_Mo_in p0 (0 : Int32) (1 : Int32))]), (rh_up h 0 9 (0 : Int32), g, mw_R rd)) _ _
  by_cases q1 : (f_Mo_in p0 (0 : Int32) (1 : Int32)) = 0
  · rw [if_pos q1] at hf
    refine rh_Ex.stp (s' := ((36, [some (.ref 0), some (.int p0), none], []), (rh_up h 0 9 (0 : Int32), g, mw_R rd))) rfl (st_ifeq_p q1) ?_
    refine rh_Ex.blk 1 (s' := ((37, [some (.ref 0), some (.int p0), none], [.int (0 : Int32)]), (rh_up h 0 9 (0 : Int32), g, mw_R rd))) rfl ?_
    obtain rfl := Option.some.inj hf
    exact rh_Ex.ret rfl ⟨rfl, Or.inl rfl⟩
  · rw [if_neg q1] at hf
    refine rh_Ex.stp (s' := ((14, [some (.ref 0), some (.int p0), none], []), (rh_up h 0 9 (0 : Int32), g, mw_R rd))) rfl (st_ifeq_n q1) ?_
    refine rh_Ex.blk 3 (s' := ((19, [some (.ref 0), some (.int p0), none], [.int p0, .ref 29]), (rh_up h 0 9 (0 : Int32), g, mw_R rd))) rfl ?_
    obtain ⟨q2, hf⟩ := rh_gq hf
    refine rh_Ex.stp (s' := ((20, [some (.ref 0), some (.int p0), none], [.int ((rh_up h 0 9 (0 : Int32)) 29 p0.toNatClampNeg)]), (rh_up h 0 9 (0 : Int32), g, mw_R rd))) rfl (st_zald (n := 2) rfl q2) ?_
    by_cases q3 : ((rh_up h 0 9 (0 : Int32)) 29 p0.toNatClampNeg) = 0
    · rw [if_pos q3] at hf
      refine rh_Ex.stp (s' := ((36, [some (.ref 0), some (.int p0), none], []), (rh_up h 0 9 (0 : Int32), g, mw_R rd))) rfl (st_ifeq_p q3) ?_
      refine rh_Ex.blk 1 (s' := ((37, [some (.ref 0), some (.int p0), none], [.int (0 : Int32)]), (rh_up h 0 9 (0 : Int32), g, mw_R rd))) rfl ?_
      obtain rfl := Option.some.inj hf
      exact rh_Ex.ret rfl ⟨rfl, Or.inl rfl⟩
    · rw [if_neg q3] at hf
      refine rh_Ex.stp (s' := ((23, [some (.ref 0), some (.int p0), none], []), (rh_up h 0 9 (0 : Int32), g, mw_R rd))) rfl (st_ifeq_n q3) ?_
      refine rh_Ex.blk 3 (s' := ((28, [some (.ref 0), some (.int p0), none], [.int p0, .ref 30]), (rh_up h 0 9 (0 : Int32), g, mw_R rd))) rfl ?_
      obtain ⟨q4, hf⟩ := rh_gq hf
      refine rh_Ex.stp (s' := ((29, [some (.ref 0), some (.int p0), none], [.int ((rh_up h 0 9 (0 : Int32)) 30 p0.toNatClampNeg)]), (rh_up h 0 9 (0 : Int32), g, mw_R rd))) rfl (st_iald (n := 2) rfl q4) ?_
      refine rh_Ex.blk 2 (s' := ((33, [some (.ref 0), some (.int p0), none], [.int (h 0 49), .int ((rh_up h 0 9 (0 : Int32)) 30 p0.toNatClampNeg)]), (rh_up h 0 9 (0 : Int32), g, mw_R rd))) rfl ?_
      by_cases q5 : ((rh_up h 0 9 (0 : Int32)) 30 p0.toNatClampNeg) = (h 0 49)
      · rw [if_pos q5] at hf
        refine rh_Ex.stp (s' := ((38, [some (.ref 0), some (.int p0), none], []), (rh_up h 0 9 (0 : Int32), g, mw_R rd))) rfl (st_iceq_p q5) ?_
        refine rh_Ex.blk 2 (s' := ((40, [some (.ref 0), some (.int p0), some (.int (0 : Int32))], []), (rh_up h 0 9 (0 : Int32), g, mw_R rd))) rfl ?_
        obtain ⟨r10, hr10, hf⟩ := rh_bq hf
        refine rh_Ex.fgt [some (.ref 0), some (.int p0), some (.int (0 : Int32))] ⟨rfl, rfl, rfl, trivial⟩ ?_
        refine rh_Ex.loop _ _ _ (lb_Mo_again_40 d rd p0  g _ _) rh_N _ r10 hr10 ?_
        refine rh_Ex.blk 4 (s' := ((75, [some (.ref 0), none, none], [.int (1 : Int32)]), (rh_up r10 0 24 (0 : Int32), g, mw_R rd))) rfl ?_
        obtain rfl := Option.some.inj hf
        exact rh_Ex.ret rfl ⟨rfl, Or.inr rfl⟩
      · rw [if_neg q5] at hf
        refine rh_Ex.stp (s' := ((36, [some (.ref 0), some (.int p0), none], []), (rh_up h 0 9 (0 : Int32), g, mw_R rd))) rfl (st_iceq_n q5) ?_
        refine rh_Ex.blk 1 (s' := ((37, [some (.ref 0), some (.int p0), none], [.int (0 : Int32)]), (rh_up h 0 9 (0 : Int32), g, mw_R rd))) rfl ?_
        obtain rfl := Option.some.inj hf
        exact rh_Ex.ret rfl ⟨rfl, Or.inl rfl⟩
def f_Mo_count (h : Nat → Nat → Int32) (rd : Option Nat) (p0 : Int32) : Option (Int32 × (Nat → Nat → Int32) × (Option Nat)) :=
  if ((0 : Int) = p0.toInt) then
    some ((h 0 1, rh_up h 0 9 (0 : Int32), rd))
  else
    if ((1 : Int) = p0.toInt) then
      some (((rh_up h 0 9 (0 : Int32)) 1 (10 : Int32).toNatClampNeg, rh_up h 0 9 (0 : Int32), rd))
    else
      if ((2 : Int) = p0.toInt) then
        some ((((rh_up h 0 9 (0 : Int32)) 1 (10 : Int32).toNatClampNeg) - ((rh_up h 0 9 (0 : Int32)) 1 (10 : Int32).toNatClampNeg) / (9 : Int32) * (9 : Int32), rh_up h 0 9 (0 : Int32), rd))
      else
        if ((3 : Int) = p0.toInt) then
          some ((((rh_up h 0 9 (0 : Int32)) 1 (10 : Int32).toNatClampNeg) / (9 : Int32), rh_up h 0 9 (0 : Int32), rd))
        else
          if ((4 : Int) = p0.toInt) then
            some (((rh_up h 0 9 (0 : Int32)) 1 (9 : Int32).toNatClampNeg, rh_up h 0 9 (0 : Int32), rd))
          else
            if ((5 : Int) = p0.toInt) then
              (f_Mo_weightOfAll (rh_up h 0 9 (0 : Int32)) rd ((rh_up h 0 9 (0 : Int32)) 1 (9 : Int32).toNatClampNeg) ((rh_up h 0 9 (0 : Int32)) 1 (10 : Int32).toNatClampNeg)).bind (fun x7 =>
                some ((x7.1, x7.2.1, x7.2.2))
              )
            else
              if ((6 : Int) = p0.toInt) then
                some ((h 0 29, rh_up h 0 9 (0 : Int32), rd))
              else
                if ((7 : Int) = p0.toInt) then
                  some ((h 0 39, rh_up h 0 9 (0 : Int32), rd))
                else
                  if ((8 : Int) = p0.toInt) then
                    some ((h 0 24, rh_up h 0 9 (0 : Int32), rd))
                  else
                    if ((9 : Int) = p0.toInt) then
                      some ((h 0 8, rh_up h 0 9 (0 : Int32), rd))
                    else
                      if ((10 : Int) = p0.toInt) then
                        some ((h 0 6, rh_up h 0 9 (0 : Int32), rd))
                      else
                        if ((11 : Int) = p0.toInt) then
                          rh_g (0 ≤ (p0 - (11 : Int32)).toInt ∧ (p0 - (11 : Int32)).toInt < ((3 : Nat) : Int)) (
                            some (((rh_up h 0 9 (0 : Int32)) 3 (p0 - (11 : Int32)).toNatClampNeg, rh_up h 0 9 (0 : Int32), rd))
                          )
                        else
                          if ((12 : Int) = p0.toInt) then
                            rh_g (0 ≤ (p0 - (11 : Int32)).toInt ∧ (p0 - (11 : Int32)).toInt < ((3 : Nat) : Int)) (
                              some (((rh_up h 0 9 (0 : Int32)) 3 (p0 - (11 : Int32)).toNatClampNeg, rh_up h 0 9 (0 : Int32), rd))
                            )
                          else
                            if ((13 : Int) = p0.toInt) then
                              rh_g (0 ≤ (p0 - (11 : Int32)).toInt ∧ (p0 - (11 : Int32)).toInt < ((3 : Nat) : Int)) (
                                some (((rh_up h 0 9 (0 : Int32)) 3 (p0 - (11 : Int32)).toNatClampNeg, rh_up h 0 9 (0 : Int32), rd))
                              )
                            else
                              some (((-1 : Int32), rh_up h 0 9 (0 : Int32), rd))
set_option maxRecDepth 20000 in
set_option maxHeartbeats 4000000 in
theorem R_Mo_count (d : Nat) (rd : Option Nat) (h : Nat → Nat → Int32) (g : Nat → Nat → Int64) (p0 : Int32) {z9 : Int32 × (Nat → Nat → Int32) × (Option Nat)} (hf : f_Mo_count h rd p0 = some z9) : rh_M rh_PT mw_L (d + 269) 295 [.ref 0, .int p0] (h, g, mw_R rd) (some (.int z9.1)) (z9.2.1, g, mw_R z9.2.2) := by
  unfold f_Mo_count at hf
  refine rh_go pt_295 (Nat.le_of_ble_eq_true rfl) (lv := [some (.ref 0), some (.int p0)]) rfl ?_
  refine rh_Ex.blk 4 (s' := ((6, [some (.ref 0), some (.int p0)], [.int p0]), (rh_up h 0 9 (0 : Int32), g, mw_R rd))) rfl ?_
  refine rh_Ex.stp (s' := ((rh_tw 0 [76, 81, 89, 100, 111, 119, 138, 143, 148, 153, 158, 163, 163, 163] 173 p0, [some (.ref 0), some (.int p0)], []), (rh_up h 0 9 (0 : Int32), g, mw_R rd))) rfl rfl ?_
  by_cases q1 : ((0 : Int) = p0.toInt)
  · rw [if_pos q1] at hf
    rw [rh_tw, if_pos (show (0 : Int) = p0.toInt from q1)]
    refine rh_Ex.blk 2 (s' := ((80, [some (.ref 0), some (.int p0)], [.int (h 0 1)]), (rh_up h 0 9 (0 : Int32), g, mw_R rd))) rfl ?_
    obtain rfl := Option.some.inj hf
    exact rh_Ex.ret rfl rfl
  · rw [if_neg q1] at hf
    rw [rh_tw, if_neg (show ¬ (0 : Int) = p0.toInt from q1)]
    by_cases q2 : ((1 : Int) = p0.toInt)
    · rw [if_pos q2] at hf
      rw [rh_tw, if_pos (show (0 + 1 : Int) = p0.toInt from q2)]
      refine rh_Ex.blk 3 (s' := ((87, [some (.ref 0), some (.int p0)], [.int (10 : Int32), .ref 1]), (rh_up h 0 9 (0 : Int32), g, mw_R rd))) rfl ?_
      refine rh_Ex.stp (s' := ((88, [some (.ref 0), some (.int p0)], [.int ((rh_up h 0 9 (0 : Int32)) 1 (10 : Int32).toNatClampNeg)]), (rh_up h 0 9 (0 : Int32), g, mw_R rd))) rfl (st_iald (n := 11) rfl (by decide)) ?_
      obtain rfl := Option.some.inj hf
      exact rh_Ex.ret rfl rfl
    · rw [if_neg q2] at hf
      rw [rh_tw, if_neg (show ¬ (0 + 1 : Int) = p0.toInt from q2)]
      by_cases q3 : ((2 : Int) = p0.toInt)
      · rw [if_pos q3] at hf
        rw [rh_tw, if_pos (show (0 + 1 + 1 : Int) = p0.toInt from q3)]
        refine rh_Ex.blk 3 (s' := ((95, [some (.ref 0), some (.int p0)], [.int (10 : Int32), .ref 1]), (rh_up h 0 9 (0 : Int32), g, mw_R rd))) rfl ?_
        refine rh_Ex.stp (s' := ((96, [some (.ref 0), some (.int p0)], [.int ((rh_up h 0 9 (0 : Int32)) 1 (10 : Int32).toNatClampNeg)]), (rh_up h 0 9 (0 : Int32), g, mw_R rd))) rfl (st_iald (n := 11) rfl (by decide)) ?_
        refine rh_Ex.blk 1 (s' := ((98, [some (.ref 0), some (.int p0)], [.int (9 : Int32), .int ((rh_up h 0 9 (0 : Int32)) 1 (10 : Int32).toNatClampNeg)]), (rh_up h 0 9 (0 : Int32), g, mw_R rd))) rfl ?_
        refine rh_Ex.stp (s' := ((99, [some (.ref 0), some (.int p0)], [.int (((rh_up h 0 9 (0 : Int32)) 1 (10 : Int32).toNatClampNeg) - ((rh_up h 0 9 (0 : Int32)) 1 (10 : Int32).toNatClampNeg) / (9 : Int32) * (9 : Int32))]), (rh_up h 0 9 (0 : Int32), g, mw_R rd))) rfl (st_irem (by decide)) ?_
        obtain rfl := Option.some.inj hf
        exact rh_Ex.ret rfl rfl
      · rw [if_neg q3] at hf
        rw [rh_tw, if_neg (show ¬ (0 + 1 + 1 : Int) = p0.toInt from q3)]
        by_cases q4 : ((3 : Int) = p0.toInt)
        · rw [if_pos q4] at hf
          rw [rh_tw, if_pos (show (0 + 1 + 1 + 1 : Int) = p0.toInt from q4)]
          refine rh_Ex.blk 3 (s' := ((106, [some (.ref 0), some (.int p0)], [.int (10 : Int32), .ref 1]), (rh_up h 0 9 (0 : Int32), g, mw_R rd))) rfl ?_
          refine rh_Ex.stp (s' := ((107, [some (.ref 0), some (.int p0)], [.int ((rh_up h 0 9 (0 : Int32)) 1 (10 : Int32).toNatClampNeg)]), (rh_up h 0 9 (0 : Int32), g, mw_R rd))) rfl (st_iald (n := 11) rfl (by decide)) ?_
          refine rh_Ex.blk 1 (s' := ((109, [some (.ref 0), some (.int p0)], [.int (9 : Int32), .int ((rh_up h 0 9 (0 : Int32)) 1 (10 : Int32).toNatClampNeg)]), (rh_up h 0 9 (0 : Int32), g, mw_R rd))) rfl ?_
          refine rh_Ex.stp (s' := ((110, [some (.ref 0), some (.int p0)], [.int (((rh_up h 0 9 (0 : Int32)) 1 (10 : Int32).toNatClampNeg) / (9 : Int32))]), (rh_up h 0 9 (0 : Int32), g, mw_R rd))) rfl (st_idiv (by decide)) ?_
          obtain rfl := Option.some.inj hf
          exact rh_Ex.ret rfl rfl
        · rw [if_neg q4] at hf
          rw [rh_tw, if_neg (show ¬ (0 + 1 + 1 + 1 : Int) = p0.toInt from q4)]
          by_cases q5 : ((4 : Int) = p0.toInt)
          · rw [if_pos q5] at hf
            rw [rh_tw, if_pos (show (0 + 1 + 1 + 1 + 1 : Int) = p0.toInt from q5)]
            refine rh_Ex.blk 3 (s' := ((117, [some (.ref 0), some (.int p0)], [.int (9 : Int32), .ref 1]), (rh_up h 0 9 (0 : Int32), g, mw_R rd))) rfl ?_
            refine rh_Ex.stp (s' := ((118, [some (.ref 0), some (.int p0)], [.int ((rh_up h 0 9 (0 : Int32)) 1 (9 : Int32).toNatClampNeg)]), (rh_up h 0 9 (0 : Int32), g, mw_R rd))) rfl (st_iald (n := 11) rfl (by decide)) ?_
            obtain rfl := Option.some.inj hf
            exact rh_Ex.ret rfl rfl
          · rw [if_neg q5] at hf
            rw [rh_tw, if_neg (show ¬ (0 + 1 + 1 + 1 + 1 : Int) = p0.toInt from q5)]
            by_cases q6 : ((5 : Int) = p0.toInt)
            · rw [if_pos q6] at hf
              rw [rh_tw, if_pos (show (0 + 1 + 1 + 1 + 1 + 1 : Int) = p0.toInt from q6)]
              refine rh_Ex.blk 4 (s' := ((126, [some (.ref 0), some (.int p0)], [.int (9 : Int32), .ref 1, .ref 0]), (rh_up h 0 9 (0 : Int32), g, mw_R rd))) rfl ?_
              refine rh_Ex.stp (s' := ((127, [some (.ref 0), some (.int p0)], [.int ((rh_up h 0 9 (0 : Int32)) 1 (9 : Int32).toNatClampNeg), .ref 0]), (rh_up h 0 9 (0 : Int32), g, mw_R rd))) rfl (st_iald (n := 11) rfl (by decide)) ?_
              refine rh_Ex.blk 3 (s' := ((133, [some (.ref 0), some (.int p0)], [.int (10 : Int32), .ref 1, .int ((rh_up h 0 9 (0 : Int32)) 1 (9 : Int32).toNatClampNeg), .ref 0]), (rh_up h 0 9 (0 : Int32), g, mw_R rd))) rfl ?_
              refine rh_Ex.stp (s' := ((134, [some (.ref 0), some (.int p0)], [.int ((rh_up h 0 9 (0 : Int32)) 1 (10 : Int32).toNatClampNeg), .int ((rh_up h 0 9 (0 : Int32)) 1 (9 : Int32).toNatClampNeg), .ref 0]), (rh_up h 0 9 (0 : Int32), g, mw_R rd))) rfl (st_iald (n := 11) rfl (by decide)) ?_
              obtain ⟨x7, hx7, hf⟩ := rh_bq hf
              refine rh_Ex.call (j := 207) (rc := some 11) [.ref 0, .int ((rh_up h 0 9 (0 : Int32)) 1 (9 : Int32).toNatClampNeg), .int ((rh_up h 0 9 (0 : Int32)) 1 (10 : Int32).toNatClampNeg)] [] (some (.int x7.1)) rfl rfl rfl (Nat.le_of_ble_eq_true rfl) (R_Mo_weightOfAll d rd (rh_up h 0 9 (0 : Int32)) g ((rh_up h 0 9 (0 : Int32)) 1 (9 : Int32).toNatClampNeg) ((rh_up h 0 9 (0 : Int32)) 1 (10 : Int32).toNatClampNeg) hx7) ?_
              show rh_Ex _ _ _ ((137, [some (.ref 0), some (.int p0)], [.int x7.1]), (x7.2.1, g, mw_R x7.2.2)) _ _
              obtain rfl := Option.some.inj hf
              exact rh_Ex.ret rfl rfl
            · rw [if_neg q6] at hf
              rw [rh_tw, if_neg (show ¬ (0 + 1 + 1 + 1 + 1 + 1 : Int) = p0.toInt from q6)]
              by_cases q8 : ((6 : Int) = p0.toInt)
              · rw [if_pos q8] at hf
                rw [rh_tw, if_pos (show (0 + 1 + 1 + 1 + 1 + 1 + 1 : Int) = p0.toInt from q8)]
                refine rh_Ex.blk 2 (s' := ((142, [some (.ref 0), some (.int p0)], [.int (h 0 29)]), (rh_up h 0 9 (0 : Int32), g, mw_R rd))) rfl ?_
                obtain rfl := Option.some.inj hf
                exact rh_Ex.ret rfl rfl
              · rw [if_neg q8] at hf
                rw [rh_tw, if_neg (show ¬ (0 + 1 + 1 + 1 + 1 + 1 + 1 : Int) = p0.toInt from q8)]
                by_cases q9 : ((7 : Int) = p0.toInt)
                · rw [if_pos q9] at hf
                  rw [rh_tw, if_pos (show (0 + 1 + 1 + 1 + 1 + 1 + 1 + 1 : Int) = p0.toInt from q9)]
                  refine rh_Ex.blk 2 (s' := ((147, [some (.ref 0), some (.int p0)], [.int (h 0 39)]), (rh_up h 0 9 (0 : Int32), g, mw_R rd))) rfl ?_
                  obtain rfl := Option.some.inj hf
                  exact rh_Ex.ret rfl rfl
                · rw [if_neg q9] at hf
                  rw [rh_tw, if_neg (show ¬ (0 + 1 + 1 + 1 + 1 + 1 + 1 + 1 : Int) = p0.toInt from q9)]
                  by_cases q10 : ((8 : Int) = p0.toInt)
                  · rw [if_pos q10] at hf
                    rw [rh_tw, if_pos (show (0 + 1 + 1 + 1 + 1 + 1 + 1 + 1 + 1 : Int) = p0.toInt from q10)]
                    refine rh_Ex.blk 2 (s' := ((152, [some (.ref 0), some (.int p0)], [.int (h 0 24)]), (rh_up h 0 9 (0 : Int32), g, mw_R rd))) rfl ?_
                    obtain rfl := Option.some.inj hf
                    exact rh_Ex.ret rfl rfl
                  · rw [if_neg q10] at hf
                    rw [rh_tw, if_neg (show ¬ (0 + 1 + 1 + 1 + 1 + 1 + 1 + 1 + 1 : Int) = p0.toInt from q10)]
                    by_cases q11 : ((9 : Int) = p0.toInt)
                    · rw [if_pos q11] at hf
                      rw [rh_tw, if_pos (show (0 + 1 + 1 + 1 + 1 + 1 + 1 + 1 + 1 + 1 : Int) = p0.toInt from q11)]
                      refine rh_Ex.blk 2 (s' := ((157, [some (.ref 0), some (.int p0)], [.int (h 0 8)]), (rh_up h 0 9 (0 : Int32), g, mw_R rd))) rfl ?_
                      obtain rfl := Option.some.inj hf
                      exact rh_Ex.ret rfl rfl
                    · rw [if_neg q11] at hf
                      rw [rh_tw, if_neg (show ¬ (0 + 1 + 1 + 1 + 1 + 1 + 1 + 1 + 1 + 1 : Int) = p0.toInt from q11)]
                      by_cases q12 : ((10 : Int) = p0.toInt)
                      · rw [if_pos q12] at hf
                        rw [rh_tw, if_pos (show (0 + 1 + 1 + 1 + 1 + 1 + 1 + 1 + 1 + 1 + 1 : Int) = p0.toInt from q12)]
                        refine rh_Ex.blk 2 (s' := ((162, [some (.ref 0), some (.int p0)], [.int (h 0 6)]), (rh_up h 0 9 (0 : Int32), g, mw_R rd))) rfl ?_
                        obtain rfl := Option.some.inj hf
                        exact rh_Ex.ret rfl rfl
                      · rw [if_neg q12] at hf
                        rw [rh_tw, if_neg (show ¬ (0 + 1 + 1 + 1 + 1 + 1 + 1 + 1 + 1 + 1 + 1 : Int) = p0.toInt from q12)]
                        by_cases q13 : ((11 : Int) = p0.toInt)
                        · rw [if_pos q13] at hf
                          rw [rh_tw, if_pos (show (0 + 1 + 1 + 1 + 1 + 1 + 1 + 1 + 1 + 1 + 1 + 1 : Int) = p0.toInt from q13)]
                          refine rh_Ex.blk 5 (s' := ((171, [some (.ref 0), some (.int p0)], [.int (p0 - (11 : Int32)), .ref 3]), (rh_up h 0 9 (0 : Int32), g, mw_R rd))) rfl ?_
                          obtain ⟨q14, hf⟩ := rh_gq hf
                          refine rh_Ex.stp (s' := ((172, [some (.ref 0), some (.int p0)], [.int ((rh_up h 0 9 (0 : Int32)) 3 (p0 - (11 : Int32)).toNatClampNeg)]), (rh_up h 0 9 (0 : Int32), g, mw_R rd))) rfl (st_iald (n := 3) rfl q14) ?_
                          obtain rfl := Option.some.inj hf
                          exact rh_Ex.ret rfl rfl
                        · rw [if_neg q13] at hf
                          rw [rh_tw, if_neg (show ¬ (0 + 1 + 1 + 1 + 1 + 1 + 1 + 1 + 1 + 1 + 1 + 1 : Int) = p0.toInt from q13)]
                          by_cases q15 : ((12 : Int) = p0.toInt)
                          · rw [if_pos q15] at hf
                            rw [rh_tw, if_pos (show (0 + 1 + 1 + 1 + 1 + 1 + 1 + 1 + 1 + 1 + 1 + 1 + 1 : Int) = p0.toInt from q15)]
                            refine rh_Ex.blk 5 (s' := ((171, [some (.ref 0), some (.int p0)], [.int (p0 - (11 : Int32)), .ref 3]), (rh_up h 0 9 (0 : Int32), g, mw_R rd))) rfl ?_
                            obtain ⟨q16, hf⟩ := rh_gq hf
                            refine rh_Ex.stp (s' := ((172, [some (.ref 0), some (.int p0)], [.int ((rh_up h 0 9 (0 : Int32)) 3 (p0 - (11 : Int32)).toNatClampNeg)]), (rh_up h 0 9 (0 : Int32), g, mw_R rd))) rfl (st_iald (n := 3) rfl q16) ?_
                            obtain rfl := Option.some.inj hf
                            exact rh_Ex.ret rfl rfl
                          · rw [if_neg q15] at hf
                            rw [rh_tw, if_neg (show ¬ (0 + 1 + 1 + 1 + 1 + 1 + 1 + 1 + 1 + 1 + 1 + 1 + 1 : Int) = p0.toInt from q15)]
                            by_cases q17 : ((13 : Int) = p0.toInt)
                            · rw [if_pos q17] at hf
                              rw [rh_tw, if_pos (show (0 + 1 + 1 + 1 + 1 + 1 + 1 + 1 + 1 + 1 + 1 + 1 + 1 + 1 : Int) = p0.toInt from q17)]
                              refine rh_Ex.blk 5 (s' := ((171, [some (.ref 0), some (.int p0)], [.int (p0 - (11 : Int32)), .ref 3]), (rh_up h 0 9 (0 : Int32), g, mw_R rd))) rfl ?_
                              obtain ⟨q18, hf⟩ := rh_gq hf
                              refine rh_Ex.stp (s' := ((172, [some (.ref 0), some (.int p0)], [.int ((rh_up h 0 9 (0 : Int32)) 3 (p0 - (11 : Int32)).toNatClampNeg)]), (rh_up h 0 9 (0 : Int32), g, mw_R rd))) rfl (st_iald (n := 3) rfl q18) ?_
                              obtain rfl := Option.some.inj hf
                              exact rh_Ex.ret rfl rfl
                            · rw [if_neg q17] at hf
                              rw [rh_tw, if_neg (show ¬ (0 + 1 + 1 + 1 + 1 + 1 + 1 + 1 + 1 + 1 + 1 + 1 + 1 + 1 : Int) = p0.toInt from q17)]
                              rw [rh_tw]
                              refine rh_Ex.blk 1 (s' := ((174, [some (.ref 0), some (.int p0)], [.int (-1 : Int32)]), (rh_up h 0 9 (0 : Int32), g, mw_R rd))) rfl ?_
                              obtain rfl := Option.some.inj hf
                              exact rh_Ex.ret rfl rfl
def f_Mo_row (h : Nat → Nat → Int32) (p0 : Int32) : Option (Int32 × (Nat → Nat → Int32)) :=
  if (f_Mo_in p0 (0 : Int32) ((h 0 8) - (1 : Int32))) = 0 then
    some (((f_Mo_lost (rh_up h 0 9 (0 : Int32))).1, (f_Mo_lost (rh_up h 0 9 (0 : Int32))).2))
  else
    rh_g (0 ≤ p0.toInt ∧ p0.toInt < ((16 : Nat) : Int)) (
      some (((rh_up h 0 9 (0 : Int32)) 5 p0.toNatClampNeg, rh_up h 0 9 (0 : Int32)))
    )
set_option maxRecDepth 20000 in
set_option maxHeartbeats 4000000 in
theorem R_Mo_row (d : Nat) (rd : Option Nat) (h : Nat → Nat → Int32) (g : Nat → Nat → Int64) (p0 : Int32) {z9 : Int32 × (Nat → Nat → Int32)} (hf : f_Mo_row h p0 = some z9) : rh_M rh_PT mw_L (d + 2) 296 [.ref 0, .int p0] (h, g, mw_R rd) (some (.int z9.1)) (z9.2, g, mw_R rd) := by
  unfold f_Mo_row at hf
  refine rh_go pt_296 (Nat.le_of_ble_eq_true rfl) (lv := [some (.ref 0), some (.int p0)]) rfl ?_
  refine rh_Ex.blk 9 (s' := ((13, [some (.ref 0), some (.int p0)], [.int ((h 0 8) - (1 : Int32)), .int (0 : Int32), .int p0]), (rh_up h 0 9 (0 : Int32), g, mw_R rd))) rfl ?_
  refine rh_Ex.call (j := 179) (rc := none) [.int p0, .int (0 : Int32), .int ((h 0 8) - (1 : Int32))] [] (some (.int (f_Mo_in p0 (0 : Int32) ((h 0 8) - (1 : Int32))))) rfl rfl trivial (Nat.le_of_ble_eq_true rfl) (R_Mo_in d mw_L (mw_R rd) (rh_up h 0 9 (0 : Int32)) g p0 (0 : Int32) ((h 0 8) - (1 : Int32)) rfl) ?_
  show rh_Ex _ _ _ ((16, [some (.ref 0), some (.int p0)], [.int (f_Mo_in p0 (0 : Int32) ((h 0 8) - (1 : Int32)))]), (rh_up h 0 9 (0 : Int32), g, mw_R rd)) _ _
  by_cases q1 : (f_Mo_in p0 (0 : Int32) ((h 0 8) - (1 : Int32))) = 0
  · rw [if_pos q1] at hf
    refine rh_Ex.stp (s' := ((28, [some (.ref 0), some (.int p0)], []), (rh_up h 0 9 (0 : Int32), g, mw_R rd))) rfl (st_ifeq_p q1) ?_
    refine rh_Ex.blk 1 (s' := ((29, [some (.ref 0), some (.int p0)], [.ref 0]), (rh_up h 0 9 (0 : Int32), g, mw_R rd))) rfl ?_
    refine rh_Ex.call (j := 181) (rc := some 11) [.ref 0] [] (some (.int ((f_Mo_lost (rh_up h 0 9 (0 : Int32))).1))) rfl rfl rfl (Nat.le_of_ble_eq_true rfl) (R_Mo_lost d rd (rh_up h 0 9 (0 : Int32)) g  rfl) ?_
    show rh_Ex _ _ _ ((32, [some (.ref 0), some (.int p0)], [.int ((f_Mo_lost (rh_up h 0 9 (0 : Int32))).1)]), ((f_Mo_lost (rh_up h 0 9 (0 : Int32))).2, g, mw_R rd)) _ _
    obtain rfl := Option.some.inj hf
    exact rh_Ex.ret rfl rfl
  · rw [if_neg q1] at hf
    refine rh_Ex.stp (s' := ((19, [some (.ref 0), some (.int p0)], []), (rh_up h 0 9 (0 : Int32), g, mw_R rd))) rfl (st_ifeq_n q1) ?_
    refine rh_Ex.blk 3 (s' := ((24, [some (.ref 0), some (.int p0)], [.int p0, .ref 5]), (rh_up h 0 9 (0 : Int32), g, mw_R rd))) rfl ?_
    obtain ⟨q2, hf⟩ := rh_gq hf
    refine rh_Ex.stp (s' := ((25, [some (.ref 0), some (.int p0)], [.int ((rh_up h 0 9 (0 : Int32)) 5 p0.toNatClampNeg)]), (rh_up h 0 9 (0 : Int32), g, mw_R rd))) rfl (st_iald (n := 16) rfl q2) ?_
    refine rh_Ex.blk 1 (s' := ((32, [some (.ref 0), some (.int p0)], [.int ((rh_up h 0 9 (0 : Int32)) 5 p0.toNatClampNeg)]), (rh_up h 0 9 (0 : Int32), g, mw_R rd))) rfl ?_
    obtain rfl := Option.some.inj hf
    exact rh_Ex.ret rfl rfl
