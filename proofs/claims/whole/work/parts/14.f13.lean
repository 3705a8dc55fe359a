def f_Mo_canCross (h : Nat → Nat → Int32) (p0 : Int32) (p1 : Int32) : Option (Int32) :=
  if p0 = 0 then
    some ((0 : Int32))
  else
    if (p0 &&& (p1 ^^^ (-1 : Int32))) = 0 then
      if (p0 &&& (h 0 2)) = 0 then
        some ((0 : Int32))
      else
        rh_g (0 ≤ p0.toInt ∧ p0.toInt < ((512 : Nat) : Int)) (
          if (h 3 (0 : Int32).toNatClampNeg) < (h 9 p0.toNatClampNeg) then
            some ((0 : Int32))
          else
            some ((1 : Int32))
        )
    else
      some ((0 : Int32))
set_option maxRecDepth 20000 in
set_option maxHeartbeats 4000000 in
theorem R_Mo_canCross (d : Nat) (rd : Option Nat) (h : Nat → Nat → Int32) (g : Nat → Nat → Int64) (p0 : Int32) (p1 : Int32) {z9 : Int32} (hf : f_Mo_canCross h p0 p1 = some z9) : rh_M rh_PT mw_L (d + 1) 251 [.ref 0, .int p0, .int p1] (h, g, mw_R rd) (some (.int z9)) (h, g, mw_R rd) := by
  unfold f_Mo_canCross at hf
  refine rh_go pt_251 (Nat.le_of_ble_eq_true rfl) (lv := [some (.ref 0), some (.int p0), some (.int p1)]) rfl ?_
  refine rh_Ex.blk 1 (s' := ((1, [some (.ref 0), some (.int p0), some (.int p1)], [.int p0]), (h, g, mw_R rd))) rfl ?_
  by_cases q1 : p0 = 0
  · rw [if_pos q1] at hf
    refine rh_Ex.stp (s' := ((40, [some (.ref 0), some (.int p0), some (.int p1)], []), (h, g, mw_R rd))) rfl (st_ifeq_p q1) ?_
    refine rh_Ex.blk 1 (s' := ((41, [some (.ref 0), some (.int p0), some (.int p1)], [.int (0 : Int32)]), (h, g, mw_R rd))) rfl ?_
    obtain rfl := Option.some.inj hf
    exact rh_Ex.ret rfl ⟨rfl, Or.inl rfl⟩
  · rw [if_neg q1] at hf
    refine rh_Ex.stp (s' := ((4, [some (.ref 0), some (.int p0), some (.int p1)], []), (h, g, mw_R rd))) rfl (st_ifeq_n q1) ?_
    refine rh_Ex.blk 5 (s' := ((9, [some (.ref 0), some (.int p0), some (.int p1)], [.int (p0 &&& (p1 ^^^ (-1 : Int32)))]), (h, g, mw_R rd))) rfl ?_
    by_cases q2 : (p0 &&& (p1 ^^^ (-1 : Int32))) = 0
    · rw [if_pos q2] at hf
      refine rh_Ex.stp (s' := ((12, [some (.ref 0), some (.int p0), some (.int p1)], []), (h, g, mw_R rd))) rfl (st_ifne_p q2) ?_
      refine rh_Ex.blk 4 (s' := ((18, [some (.ref 0), some (.int p0), some (.int p1)], [.int (p0 &&& (h 0 2))]), (h, g, mw_R rd))) rfl ?_
      by_cases q3 : (p0 &&& (h 0 2)) = 0
      · rw [if_pos q3] at hf
        refine rh_Ex.stp (s' := ((40, [some (.ref 0), some (.int p0), some (.int p1)], []), (h, g, mw_R rd))) rfl (st_ifeq_p q3) ?_
        refine rh_Ex.blk 1 (s' := ((41, [some (.ref 0), some (.int p0), some (.int p1)], [.int (0 : Int32)]), (h, g, mw_R rd))) rfl ?_
        obtain rfl := Option.some.inj hf
        exact rh_Ex.ret rfl ⟨rfl, Or.inl rfl⟩
      · rw [if_neg q3] at hf
        refine rh_Ex.stp (s' := ((21, [some (.ref 0), some (.int p0), some (.int p1)], []), (h, g, mw_R rd))) rfl (st_ifeq_n q3) ?_
        refine rh_Ex.blk 3 (s' := ((26, [some (.ref 0), some (.int p0), some (.int p1)], [.int p0, .ref 9]), (h, g, mw_R rd))) rfl ?_
        obtain ⟨q4, hf⟩ := rh_gq hf
        refine rh_Ex.stp (s' := ((27, [some (.ref 0), some (.int p0), some (.int p1)], [.int (h 9 p0.toNatClampNeg)]), (h, g, mw_R rd))) rfl (st_iald (n := 512) rfl q4) ?_
        refine rh_Ex.blk 3 (s' := ((32, [some (.ref 0), some (.int p0), some (.int p1)], [.int (0 : Int32), .ref 3, .int (h 9 p0.toNatClampNeg)]), (h, g, mw_R rd))) rfl ?_
        refine rh_Ex.stp (s' := ((33, [some (.ref 0), some (.int p0), some (.int p1)], [.int (h 3 (0 : Int32).toNatClampNeg), .int (h 9 p0.toNatClampNeg)]), (h, g, mw_R rd))) rfl (st_iald (n := 3) rfl (by decide)) ?_
        by_cases q5 : (h 3 (0 : Int32).toNatClampNeg) < (h 9 p0.toNatClampNeg)
        · rw [if_pos q5] at hf
          refine rh_Ex.stp (s' := ((40, [some (.ref 0), some (.int p0), some (.int p1)], []), (h, g, mw_R rd))) rfl (st_icgt_p q5) ?_
          refine rh_Ex.blk 1 (s' := ((41, [some (.ref 0), some (.int p0), some (.int p1)], [.int (0 : Int32)]), (h, g, mw_R rd))) rfl ?_
          obtain rfl := Option.some.inj hf
          exact rh_Ex.ret rfl ⟨rfl, Or.inl rfl⟩
        · rw [if_neg q5] at hf
          refine rh_Ex.stp (s' := ((36, [some (.ref 0), some (.int p0), some (.int p1)], []), (h, g, mw_R rd))) rfl (st_icgt_n q5) ?_
          refine rh_Ex.blk 2 (s' := ((41, [some (.ref 0), some (.int p0), some (.int p1)], [.int (1 : Int32)]), (h, g, mw_R rd))) rfl ?_
          obtain rfl := Option.some.inj hf
          exact rh_Ex.ret rfl ⟨rfl, Or.inr rfl⟩
    · rw [if_neg q2] at hf
      refine rh_Ex.stp (s' := ((40, [some (.ref 0), some (.int p0), some (.int p1)], []), (h, g, mw_R rd))) rfl (st_ifne_n q2) ?_
      refine rh_Ex.blk 1 (s' := ((41, [some (.ref 0), some (.int p0), some (.int p1)], [.int (0 : Int32)]), (h, g, mw_R rd))) rfl ?_
      obtain rfl := Option.some.inj hf
      exact rh_Ex.ret rfl ⟨rfl, Or.inl rfl⟩
def b_Mo_findCross_7 (u1 : Int32) (u2 : Int32) (u3 : Int32) (rd : Option Nat) : (Int32 × (Nat → Nat → Int32)) → Option ((Int32 × (Nat → Nat → Int32)) ⊕ ((Nat → Nat → Int32))) := fun s7 =>
  if (10752 : Int32) ≤ s7.1 then
    some (.inr s7.2)
  else
    rh_g (0 ≤ s7.1.toInt ∧ s7.1.toInt < ((10752 : Nat) : Int)) (
      some (.inl (s7.1 + (1 : Int32), rh_up s7.2 18 s7.1.toNatClampNeg ((0 : Int32) &&& 1)))
    )
def b_Mo_findCross_115 (u1 : Int32) (u2 : Int32) (u3 : Int32) (u4 : Int32) (u5 : Int32) (u6 : Int32) (rd : Option Nat) : (Int32 × (Nat → Nat → Int32)) → Option ((Int32 × (Nat → Nat → Int32)) ⊕ ((Nat → Nat → Int32))) := fun s115 =>
  if s115.1 ≤ 0 then
    some (.inr s115.2)
  else
    (f_Mo_canCross s115.2 s115.1 u6).bind (fun x16 =>
      if x16 = 0 then
        some (.inl ((s115.1 - (1 : Int32)) &&& u6, s115.2))
      else
        rh_g (0 ≤ ((u3 * (u4 + (1 : Int32))) + (u5 ^^^ s115.1)).toInt ∧ ((u3 * (u4 + (1 : Int32))) + (u5 ^^^ s115.1)).toInt < ((10752 : Nat) : Int)) (
          some (.inl ((s115.1 - (1 : Int32)) &&& u6, rh_up s115.2 18 ((u3 * (u4 + (1 : Int32))) + (u5 ^^^ s115.1)).toNatClampNeg ((1 : Int32) &&& 1)))
        )
    )
def j_Mo_findCross_109 (h : Nat → Nat → Int32) (rd : Option Nat) (u1 : Int32) (u2 : Int32) (u3 : Int32) (u4 : Int32) (j5 : Int32) (k0 : Int32) : Option ((Int32 × (Nat → Nat → Int32)) ⊕ ((Nat → Nat → Int32))) :=
  (rh_loop (b_Mo_findCross_115 u1 u2 u3 u4 j5 k0 rd) rh_N (k0, h)).bind (fun r19 =>
    some (.inl (j5 + (1 : Int32), r19))
  )
def b_Mo_findCross_67 (u1 : Int32) (u2 : Int32) (u3 : Int32) (u4 : Int32) (rd : Option Nat) : (Int32 × (Nat → Nat → Int32)) → Option ((Int32 × (Nat → Nat → Int32)) ⊕ ((Nat → Nat → Int32))) := fun s67 =>
  if u1 < s67.1 then
    some (.inr s67.2)
  else
    rh_g (0 ≤ ((u3 * u4) + s67.1).toInt ∧ ((u3 * u4) + s67.1).toInt < ((10752 : Nat) : Int)) (
      if (s67.2 18 ((u3 * u4) + s67.1).toNatClampNeg) = 0 then
        some (.inl (s67.1 + (1 : Int32), s67.2))
      else
        if (u4 - u4 / (2 : Int32) * (2 : Int32)) = 0 then
          j_Mo_findCross_109 s67.2 rd u1 u2 u3 u4 s67.1 s67.1
        else
          j_Mo_findCross_109 s67.2 rd u1 u2 u3 u4 s67.1 (u1 &&& (s67.1 ^^^ (-1 : Int32)))
    )
def b_Mo_findCross_41 (u1 : Int32) (u2 : Int32) (u3 : Int32) : (Int32 × (Nat → Nat → Int32) × (Option Nat)) → Option ((Int32 × (Nat → Nat → Int32) × (Option Nat)) ⊕ (((Nat → Nat → Int32) × (Option Nat)) ⊕ (Int32 × (Nat → Nat → Int32) × (Option Nat)))) := fun s41 =>
  if (20 : Int32) ≤ s41.1 then
    some (.inr (.inl (s41.2.1, s41.2.2)))
  else
    (f_Mo_findSets s41.2.1 s41.2.2 (((s41.2.1 1 (10 : Int32).toNatClampNeg) + u2) + s41.1)).bind (fun x8 =>
      (rh_loop (b_Mo_findCross_67 u1 u2 u3 s41.1 x8.2) rh_N ((0 : Int32), x8.1)).bind (fun r20 =>
        rh_g (0 ≤ (u3 * (s41.1 + (1 : Int32))).toInt ∧ (u3 * (s41.1 + (1 : Int32))).toInt < ((10752 : Nat) : Int)) (
          if (r20 18 (u3 * (s41.1 + (1 : Int32))).toNatClampNeg) = 0 then
            some (.inl (s41.1 + (1 : Int32), r20, x8.2))
          else
            some (.inr (.inr (s41.1 + (1 : Int32), r20, x8.2)))
        )
      )
    )
def f_Mo_findCross (h : Nat → Nat → Int32) (rd : Option Nat) (p0 : Int32) (p1 : Int32) : Option (Int32 × (Nat → Nat → Int32) × (Option Nat)) :=
  (rh_loop (b_Mo_findCross_7 p0 p1 (512 : Int32) rd) rh_N ((0 : Int32), h)).bind (fun r4 =>
    rh_g (0 ≤ p0.toInt ∧ p0.toInt < ((10752 : Nat) : Int)) (
      (rh_loop (b_Mo_findCross_41 p0 p1 (512 : Int32)) rh_N ((0 : Int32), rh_up r4 18 p0.toNatClampNeg ((1 : Int32) &&& 1), rd)).bind (fun r23 => match r23 with
        | .inl e24 =>
          some (((1000000 : Int32), e24.1, e24.2))
        | .inr t25 => some t25)
    )
  )
set_option maxRecDepth 20000 in
set_option maxHeartbeats 4000000 in
theorem lb_Mo_findCross_7 (d : Nat) (u1 : Int32) (u2 : Int32) (u3 : Int32) (rd : Option Nat) (g : Nat → Nat → Int64) (v9 : Option Value) (h9 : rh_H) : ∀ s7 x9, b_Mo_findCross_7 u1 u2 u3 rd s7 = some x9 → Sum.elim (fun s7 => rh_Ex (rh_M rh_PT mw_L (d + 268)) mw_L pg_X12_findCross ((7, [some (.ref 0), some (.int u1), some (.int u2), some (.int u3), some (.int s7.1), none, none, none], []), (s7.2, g, mw_R rd)) v9 h9) (fun e9 => rh_Ex (rh_M rh_PT mw_L (d + 268)) mw_L pg_X12_findCross ((31, [some (.ref 0), some (.int u1), some (.int u2), some (.int u3), none, none, none, none], []), (e9, g, mw_R rd)) v9 h9) x9 → rh_Ex (rh_M rh_PT mw_L (d + 268)) mw_L pg_X12_findCross ((7, [some (.ref 0), some (.int u1), some (.int u2), some (.int u3), some (.int s7.1), none, none, none], []), (s7.2, g, mw_R rd)) v9 h9 := by
  intro s7 x9 hf hk
  unfold b_Mo_findCross_7 at hf
  refine rh_Ex.blk 4 (s' := ((14, [some (.ref 0), some (.int u1), some (.int u2), some (.int u3), some (.int s7.1), none, none, none], [.int (10752 : Int32), .int s7.1]), (s7.2, g, mw_R rd))) rfl ?_
  by_cases q2 : (10752 : Int32) ≤ s7.1
  · rw [if_pos q2] at hf
    refine rh_Ex.stp (s' := ((31, [some (.ref 0), some (.int u1), some (.int u2), some (.int u3), some (.int s7.1), none, none, none], []), (s7.2, g, mw_R rd))) rfl (st_icge_p q2) ?_
    obtain rfl := Option.some.inj hf
    refine rh_Ex.fgt [some (.ref 0), some (.int u1), some (.int u2), some (.int u3), none, none, none, none] ⟨rfl, rfl, rfl, rfl, trivial⟩ ?_
    exact hk
  · rw [if_neg q2] at hf
    refine rh_Ex.stp (s' := ((17, [some (.ref 0), some (.int u1), some (.int u2), some (.int u3), some (.int s7.1), none, none, none], []), (s7.2, g, mw_R rd))) rfl (st_icge_n q2) ?_
    refine rh_Ex.blk 4 (s' := ((24, [some (.ref 0), some (.int u1), some (.int u2), some (.int u3), some (.int s7.1), none, none, none], [.int (0 : Int32), .int s7.1, .ref 18]), (s7.2, g, mw_R rd))) rfl ?_
    obtain ⟨q3, hf⟩ := rh_gq hf
    refine rh_Ex.stp (s' := ((25, [some (.ref 0), some (.int u1), some (.int u2), some (.int u3), some (.int s7.1), none, none, none], []), (rh_up s7.2 18 s7.1.toNatClampNeg ((0 : Int32) &&& 1), g, mw_R rd))) rfl (st_zast (n := 10752) rfl q3) ?_
    refine rh_Ex.blk 2 (s' := ((7, [some (.ref 0), some (.int u1), some (.int u2), some (.int u3), some (.int (s7.1 + (1 : Int32))), none, none, none], []), (rh_up s7.2 18 s7.1.toNatClampNeg ((0 : Int32) &&& 1), g, mw_R rd))) rfl ?_
    obtain rfl := Option.some.inj hf
    refine rh_Ex.fgt [some (.ref 0), some (.int u1), some (.int u2), some (.int u3), some (.int (s7.1 + (1 : Int32))), none, none, none] ⟨rfl, rfl, rfl, rfl, rfl, trivial⟩ ?_
    exact hk
set_option maxRecDepth 20000 in
set_option maxHeartbeats 4000000 in
theorem lb_Mo_findCross_115 (d : Nat) (u1 : Int32) (u2 : Int32) (u3 : Int32) (u4 : Int32) (u5 : Int32) (u6 : Int32) (rd : Option Nat) (g : Nat → Nat → Int64) (v9 : Option Value) (h9 : rh_H) : ∀ s115 x9, b_Mo_findCross_115 u1 u2 u3 u4 u5 u6 rd s115 = some x9 → Sum.elim (fun s115 => rh_Ex (rh_M rh_PT mw_L (d + 268)) mw_L pg_X12_findCross ((115, [some (.ref 0), some (.int u1), some (.int u2), some (.int u3), some (.int u4), some (.int u5), some (.int u6), some (.int s115.1)], []), (s115.2, g, mw_R rd)) v9 h9) (fun e9 => rh_Ex (rh_M rh_PT mw_L (d + 268)) mw_L pg_X12_findCross ((161, [some (.ref 0), some (.int u1), some (.int u2), some (.int u3), some (.int u4), some (.int u5), none, none], []), (e9, g, mw_R rd)) v9 h9) x9 → rh_Ex (rh_M rh_PT mw_L (d + 268)) mw_L pg_X12_findCross ((115, [some (.ref 0), some (.int u1), some (.int u2), some (.int u3), some (.int u4), some (.int u5), some (.int u6), some (.int s115.1)], []), (s115.2, g, mw_R rd)) v9 h9 := by
  intro s115 x9 hf hk
  unfold b_Mo_findCross_115 at hf
  refine rh_Ex.blk 1 (s' := ((117, [some (.ref 0), some (.int u1), some (.int u2), some (.int u3), some (.int u4), some (.int u5), some (.int u6), some (.int s115.1)], [.int s115.1]), (s115.2, g, mw_R rd))) rfl ?_
  by_cases q15 : s115.1 ≤ 0
  · rw [if_pos q15] at hf
    refine rh_Ex.stp (s' := ((161, [some (.ref 0), some (.int u1), some (.int u2), some (.int u3), some (.int u4), some (.int u5), some (.int u6), some (.int s115.1)], []), (s115.2, g, mw_R rd))) rfl (st_ifle_p q15) ?_
    obtain rfl := Option.some.inj hf
    refine rh_Ex.fgt [some (.ref 0), some (.int u1), some (.int u2), some (.int u3), some (.int u4), some (.int u5), none, none] ⟨rfl, rfl, rfl, rfl, rfl, rfl, trivial⟩ ?_
    exact hk
  · rw [if_neg q15] at hf
    refine rh_Ex.stp (s' := ((120, [some (.ref 0), some (.int u1), some (.int u2), some (.int u3), some (.int u4), some (.int u5), some (.int u6), some (.int s115.1)], []), (s115.2, g, mw_R rd))) rfl (st_ifle_n q15) ?_
    refine rh_Ex.blk 3 (s' := ((125, [some (.ref 0), some (.int u1), some (.int u2), some (.int u3), some (.int u4), some (.int u5), some (.int u6), some (.int s115.1)], [.int u6, .int s115.1, .ref 0]), (s115.2, g, mw_R rd))) rfl ?_
    obtain ⟨x16, hx16, hf⟩ := rh_bq hf
    refine rh_Ex.call (j := 251) (rc := some 11) [.ref 0, .int s115.1, .int u6] [] (some (.int x16)) rfl rfl rfl (Nat.le_of_ble_eq_true rfl) (R_Mo_canCross (d + 267) rd s115.2 g s115.1 u6 hx16) ?_
    show rh_Ex _ _ _ ((128, [some (.ref 0), some (.int u1), some (.int u2), some (.int u3), some (.int u4), some (.int u5), some (.int u6), some (.int s115.1)], [.int x16]), (s115.2, g, mw_R rd)) _ _
    by_cases q17 : x16 = 0
    · rw [if_pos q17] at hf
      refine rh_Ex.stp (s' := ((149, [some (.ref 0), some (.int u1), some (.int u2), some (.int u3), some (.int u4), some (.int u5), some (.int u6), some (.int s115.1)], []), (s115.2, g, mw_R rd))) rfl (st_ifeq_p q17) ?_
      refine rh_Ex.blk 7 (s' := ((115, [some (.ref 0), some (.int u1), some (.int u2), some (.int u3), some (.int u4), some (.int u5), some (.int u6), some (.int ((s115.1 - (1 : Int32)) &&& u6))], []), (s115.2, g, mw_R rd))) rfl ?_
      obtain rfl := Option.some.inj hf
      refine rh_Ex.fgt [some (.ref 0), some (.int u1), some (.int u2), some (.int u3), some (.int u4), some (.int u5), some (.int u6), some (.int ((s115.1 - (1 : Int32)) &&& u6))] ⟨rfl, rfl, rfl, rfl, rfl, rfl, rfl, rfl, trivial⟩ ?_
      exact hk
    · rw [if_neg q17] at hf
      refine rh_Ex.stp (s' := ((131, [some (.ref 0), some (.int u1), some (.int u2), some (.int u3), some (.int u4), some (.int u5), some (.int u6), some (.int s115.1)], []), (s115.2, g, mw_R rd))) rfl (st_ifeq_n q17) ?_
      refine rh_Ex.blk 12 (s' := ((148, [some (.ref 0), some (.int u1), some (.int u2), some (.int u3), some (.int u4), some (.int u5), some (.int u6), some (.int s115.1)], [.int (1 : Int32), .int ((u3 * (u4 + (1 : Int32))) + (u5 ^^^ s115.1)), .ref 18]), (s115.2, g, mw_R rd))) rfl ?_
      obtain ⟨q18, hf⟩ := rh_gq hf
      refine rh_Ex.stp (s' := ((149, [some (.ref 0), some (.int u1), some (.int u2), some (.int u3), some (.int u4), some (.int u5), some (.int u6), some (.int s115.1)], []), (rh_up s115.2 18 ((u3 * (u4 + (1 : Int32))) + (u5 ^^^ s115.1)).toNatClampNeg ((1 : Int32) &&& 1), g, mw_R rd))) rfl (st_zast (n := 10752) rfl q18) ?_
      refine rh_Ex.blk 7 (s' := ((115, [some (.ref 0), some (.int u1), some (.int u2), some (.int u3), some (.int u4), some (.int u5), some (.int u6), some (.int ((s115.1 - (1 : Int32)) &&& u6))], []), (rh_up s115.2 18 ((u3 * (u4 + (1 : Int32))) + (u5 ^^^ s115.1)).toNatClampNeg ((1 : Int32) &&& 1), g, mw_R rd))) rfl ?_
      obtain rfl := Option.some.inj hf
      refine rh_Ex.fgt [some (.ref 0), some (.int u1), some (.int u2), some (.int u3), some (.int u4), some (.int u5), some (.int u6), some (.int ((s115.1 - (1 : Int32)) &&& u6))] ⟨rfl, rfl, rfl, rfl, rfl, rfl, rfl, rfl, trivial⟩ ?_
      exact hk
set_option maxRecDepth 20000 in
set_option maxHeartbeats 4000000 in
theorem lj_Mo_findCross_109 (d : Nat) (h : Nat → Nat → Int32) (rd : Option Nat) (u1 : Int32) (u2 : Int32) (u3 : Int32) (u4 : Int32) (j5 : Int32) (k0 : Int32) (g : Nat → Nat → Int64) (v9 : Option Value) (h9 : rh_H) (x9 : (Int32 × (Nat → Nat → Int32)) ⊕ ((Nat → Nat → Int32))) (hf : j_Mo_findCross_109 h rd u1 u2 u3 u4 j5 k0 = some x9) (hk : Sum.elim (fun s67 => rh_Ex (rh_M rh_PT mw_L (d + 268)) mw_L pg_X12_findCross ((67, [some (.ref 0), some (.int u1), some (.int u2), some (.int u3), some (.int u4), some (.int s67.1), none, none], []), (s67.2, g, mw_R rd)) v9 h9) (fun e9 => rh_Ex (rh_M rh_PT mw_L (d + 268)) mw_L pg_X12_findCross ((167, [some (.ref 0), some (.int u1), some (.int u2), some (.int u3), some (.int u4), none, none, none], []), (e9, g, mw_R rd)) v9 h9) x9) : rh_Ex (rh_M rh_PT mw_L (d + 268)) mw_L pg_X12_findCross ((109, [some (.ref 0), some (.int u1), some (.int u2), some (.int u3), some (.int u4), some (.int j5), none, none], [.int k0]), (h, g, mw_R rd)) v9 h9 := by
  unfold j_Mo_findCross_109 at hf
  refine rh_Ex.blk 3 (s' := ((115, [some (.ref 0), some (.int u1), some (.int u2), some (.int u3), some (.int u4), some (.int j5), some (.int k0), some (.int k0)], []), (h, g, mw_R rd))) rfl ?_
  obtain ⟨r19, hr19, hf⟩ := rh_bq hf
  refine rh_Ex.fgt [some (.ref 0), some (.int u1), some (.int u2), some (.int u3), some (.int u4), some (.int j5), some (.int k0), some (.int k0)] ⟨rfl, rfl, rfl, rfl, rfl, rfl, rfl, rfl, trivial⟩ ?_
  refine rh_Ex.loop _ _ _ (lb_Mo_findCross_115 d u1 u2 u3 u4 j5 k0 rd  g _ _) rh_N _ r19 hr19 ?_
  refine rh_Ex.blk 2 (s' := ((67, [some (.ref 0), some (.int u1), some (.int u2), some (.int u3), some (.int u4), some (.int (j5 + (1 : Int32))), none, none], []), (r19, g, mw_R rd))) rfl ?_
  obtain rfl := Option.some.inj hf
  refine rh_Ex.fgt [some (.ref 0), some (.int u1), some (.int u2), some (.int u3), some (.int u4), some (.int (j5 + (1 : Int32))), none, none] ⟨rfl, rfl, rfl, rfl, rfl, rfl, trivial⟩ ?_
  exact hk
set_option maxRecDepth 20000 in
set_option maxHeartbeats 4000000 in
theorem lb_Mo_findCross_67 (d : Nat) (u1 : Int32) (u2 : Int32) (u3 : Int32) (u4 : Int32) (rd : Option Nat) (g : Nat → Nat → Int64) (v9 : Option Value) (h9 : rh_H) : ∀ s67 x9, b_Mo_findCross_67 u1 u2 u3 u4 rd s67 = some x9 → Sum.elim (fun s67 => rh_Ex (rh_M rh_PT mw_L (d + 268)) mw_L pg_X12_findCross ((67, [some (.ref 0), some (.int u1), some (.int u2), some (.int u3), some (.int u4), some (.int s67.1), none, none], []), (s67.2, g, mw_R rd)) v9 h9) (fun e9 => rh_Ex (rh_M rh_PT mw_L (d + 268)) mw_L pg_X12_findCross ((167, [some (.ref 0), some (.int u1), some (.int u2), some (.int u3), some (.int u4), none, none, none], []), (e9, g, mw_R rd)) v9 h9) x9 → rh_Ex (rh_M rh_PT mw_L (d + 268)) mw_L pg_X12_findCross ((67, [some (.ref 0), some (.int u1), some (.int u2), some (.int u3), some (.int u4), some (.int s67.1), none, none], []), (s67.2, g, mw_R rd)) v9 h9 := by
  intro s67 x9 hf hk
  unfold b_Mo_findCross_67 at hf
  refine rh_Ex.blk 2 (s' := ((70, [some (.ref 0), some (.int u1), some (.int u2), some (.int u3), some (.int u4), some (.int s67.1), none, none], [.int u1, .int s67.1]), (s67.2, g, mw_R rd))) rfl ?_
  by_cases q10 : u1 < s67.1
  · rw [if_pos q10] at hf
    refine rh_Ex.stp (s' := ((167, [some (.ref 0), some (.int u1), some (.int u2), some (.int u3), some (.int u4), some (.int s67.1), none, none], []), (s67.2, g, mw_R rd))) rfl (st_icgt_p q10) ?_
    obtain rfl := Option.some.inj hf
    refine rh_Ex.fgt [some (.ref 0), some (.int u1), some (.int u2), some (.int u3), some (.int u4), none, none, none] ⟨rfl, rfl, rfl, rfl, rfl, trivial⟩ ?_
    exact hk
  · rw [if_neg q10] at hf
    refine rh_Ex.stp (s' := ((73, [some (.ref 0), some (.int u1), some (.int u2), some (.int u3), some (.int u4), some (.int s67.1), none, none], []), (s67.2, g, mw_R rd))) rfl (st_icgt_n q10) ?_
    refine rh_Ex.blk 7 (s' := ((84, [some (.ref 0), some (.int u1), some (.int u2), some (.int u3), some (.int u4), some (.int s67.1), none, none], [.int ((u3 * u4) + s67.1), .ref 18]), (s67.2, g, mw_R rd))) rfl ?_
    obtain ⟨q11, hf⟩ := rh_gq hf
    refine rh_Ex.stp (s' := ((85, [some (.ref 0), some (.int u1), some (.int u2), some (.int u3), some (.int u4), some (.int s67.1), none, none], [.int (s67.2 18 ((u3 * u4) + s67.1).toNatClampNeg)]), (s67.2, g, mw_R rd))) rfl (st_zald (n := 10752) rfl q11) ?_
    by_cases q12 : (s67.2 18 ((u3 * u4) + s67.1).toNatClampNeg) = 0
    · rw [if_pos q12] at hf
      refine rh_Ex.stp (s' := ((88, [some (.ref 0), some (.int u1), some (.int u2), some (.int u3), some (.int u4), some (.int s67.1), none, none], []), (s67.2, g, mw_R rd))) rfl (st_ifne_p q12) ?_
      refine rh_Ex.blk 3 (s' := ((67, [some (.ref 0), some (.int u1), some (.int u2), some (.int u3), some (.int u4), some (.int (s67.1 + (1 : Int32))), none, none], []), (s67.2, g, mw_R rd))) rfl ?_
      obtain rfl := Option.some.inj hf
      refine rh_Ex.fgt [some (.ref 0), some (.int u1), some (.int u2), some (.int u3), some (.int u4), some (.int (s67.1 + (1 : Int32))), none, none] ⟨rfl, rfl, rfl, rfl, rfl, rfl, trivial⟩ ?_
      exact hk
    · rw [if_neg q12] at hf
      refine rh_Ex.stp (s' := ((91, [some (.ref 0), some (.int u1), some (.int u2), some (.int u3), some (.int u4), some (.int s67.1), none, none], []), (s67.2, g, mw_R rd))) rfl (st_ifne_n q12) ?_
      refine rh_Ex.blk 2 (s' := ((94, [some (.ref 0), some (.int u1), some (.int u2), some (.int u3), some (.int u4), some (.int s67.1), none, none], [.int (2 : Int32), .int u4]), (s67.2, g, mw_R rd))) rfl ?_
      refine rh_Ex.stp (s' := ((95, [some (.ref 0), some (.int u1), some (.int u2), some (.int u3), some (.int u4), some (.int s67.1), none, none], [.int (u4 - u4 / (2 : Int32) * (2 : Int32))]), (s67.2, g, mw_R rd))) rfl (st_irem (by decide)) ?_
      by_cases q13 : (u4 - u4 / (2 : Int32) * (2 : Int32)) = 0
      · rw [if_pos q13] at hf
        refine rh_Ex.stp (s' := ((98, [some (.ref 0), some (.int u1), some (.int u2), some (.int u3), some (.int u4), some (.int s67.1), none, none], []), (s67.2, g, mw_R rd))) rfl (st_ifne_p q13) ?_
        refine rh_Ex.blk 2 (s' := ((109, [some (.ref 0), some (.int u1), some (.int u2), some (.int u3), some (.int u4), some (.int s67.1), none, none], [.int s67.1]), (s67.2, g, mw_R rd))) rfl ?_
        refine rh_Ex.fgt [some (.ref 0), some (.int u1), some (.int u2), some (.int u3), some (.int u4), some (.int s67.1), none, none] ⟨rfl, rfl, rfl, rfl, rfl, rfl, trivial⟩ ?_
        exact lj_Mo_findCross_109 d s67.2 rd u1 u2 u3 u4 s67.1 s67.1 g _ _ _ hf hk
      · rw [if_neg q13] at hf
        refine rh_Ex.stp (s' := ((103, [some (.ref 0), some (.int u1), some (.int u2), some (.int u3), some (.int u4), some (.int s67.1), none, none], []), (s67.2, g, mw_R rd))) rfl (st_ifne_n q13) ?_
        refine rh_Ex.blk 5 (s' := ((109, [some (.ref 0), some (.int u1), some (.int u2), some (.int u3), some (.int u4), some (.int s67.1), none, none], [.int (u1 &&& (s67.1 ^^^ (-1 : Int32)))]), (s67.2, g, mw_R rd))) rfl ?_
        refine rh_Ex.fgt [some (.ref 0), some (.int u1), some (.int u2), some (.int u3), some (.int u4), some (.int s67.1), none, none] ⟨rfl, rfl, rfl, rfl, rfl, rfl, trivial⟩ ?_
        exact lj_Mo_findCross_109 d s67.2 rd u1 u2 u3 u4 s67.1 (u1 &&& (s67.1 ^^^ (-1 : Int32))) g _ _ _ hf hk
set_option maxRecDepth 20000 in
set_option maxHeartbeats 4000000 in
theorem lb_Mo_findCross_41 (d : Nat) (u1 : Int32) (u2 : Int32) (u3 : Int32) (g : Nat → Nat → Int64) (v9 : Option Value) (h9 : rh_H) : ∀ s41 x9, b_Mo_findCross_41 u1 u2 u3 s41 = some x9 → Sum.elim (fun s41 => rh_Ex (rh_M rh_PT mw_L (d + 268)) mw_L pg_X12_findCross ((41, [some (.ref 0), some (.int u1), some (.int u2), some (.int u3), some (.int s41.1), none, none, none], []), (s41.2.1, g, mw_R s41.2.2)) v9 h9) (Sum.elim (fun e9 => rh_Ex (rh_M rh_PT mw_L (d + 268)) mw_L pg_X12_findCross ((192, [none, none, none, none, none, none, none, none], []), (e9.1, g, mw_R e9.2)) v9 h9) (fun t9 => v9 = (some (.int t9.1)) ∧ h9 = (t9.2.1, g, mw_R t9.2.2))) x9 → rh_Ex (rh_M rh_PT mw_L (d + 268)) mw_L pg_X12_findCross ((41, [some (.ref 0), some (.int u1), some (.int u2), some (.int u3), some (.int s41.1), none, none, none], []), (s41.2.1, g, mw_R s41.2.2)) v9 h9 := by
  intro s41 x9 hf hk
  unfold b_Mo_findCross_41 at hf
  refine rh_Ex.blk 2 (s' := ((45, [some (.ref 0), some (.int u1), some (.int u2), some (.int u3), some (.int s41.1), none, none, none], [.int (20 : Int32), .int s41.1]), (s41.2.1, g, mw_R s41.2.2))) rfl ?_
  by_cases q7 : (20 : Int32) ≤ s41.1
  · rw [if_pos q7] at hf
    refine rh_Ex.stp (s' := ((192, [some (.ref 0), some (.int u1), some (.int u2), some (.int u3), some (.int s41.1), none, none, none], []), (s41.2.1, g, mw_R s41.2.2))) rfl (st_icge_p q7) ?_
    obtain rfl := Option.some.inj hf
    refine rh_Ex.fgt [none, none, none, none, none, none, none, none] trivial ?_
    exact hk
  · rw [if_neg q7] at hf
    refine rh_Ex.stp (s' := ((48, [some (.ref 0), some (.int u1), some (.int u2), some (.int u3), some (.int s41.1), none, none, none], []), (s41.2.1, g, mw_R s41.2.2))) rfl (st_icge_n q7) ?_
    refine rh_Ex.blk 4 (s' := ((55, [some (.ref 0), some (.int u1), some (.int u2), some (.int u3), some (.int s41.1), none, none, none], [.int (10 : Int32), .ref 1, .ref 0]), (s41.2.1, g, mw_R s41.2.2))) rfl ?_
    refine rh_Ex.stp (s' := ((56, [some (.ref 0), some (.int u1), some (.int u2), some (.int u3), some (.int s41.1), none, none, none], [.int (s41.2.1 1 (10 : Int32).toNatClampNeg), .ref 0]), (s41.2.1, g, mw_R s41.2.2))) rfl (st_iald (n := 11) rfl (by decide)) ?_
    refine rh_Ex.blk 4 (s' := ((61, [some (.ref 0), some (.int u1), some (.int u2), some (.int u3), some (.int s41.1), none, none, none], [.int (((s41.2.1 1 (10 : Int32).toNatClampNeg) + u2) + s41.1), .ref 0]), (s41.2.1, g, mw_R s41.2.2))) rfl ?_
    obtain ⟨x8, hx8, hf⟩ := rh_bq hf
    refine rh_Ex.call (j := 208) (rc := some 11) [.ref 0, .int (((s41.2.1 1 (10 : Int32).toNatClampNeg) + u2) + s41.1)] [] none rfl rfl rfl (Nat.le_of_ble_eq_true rfl) (R_Mo_findSets d s41.2.2 s41.2.1 g (((s41.2.1 1 (10 : Int32).toNatClampNeg) + u2) + s41.1) hx8) ?_
    show rh_Ex _ _ _ ((64, [some (.ref 0), some (.int u1), some (.int u2), some (.int u3), some (.int s41.1), none, none, none], []), (x8.1, g, mw_R x8.2)) _ _
    refine rh_Ex.blk 2 (s' := ((67, [some (.ref 0), some (.int u1), some (.int u2), some (.int u3), some (.int s41.1), some (.int (0 : Int32)), none, none], []), (x8.1, g, mw_R x8.2))) rfl ?_
    obtain ⟨r20, hr20, hf⟩ := rh_bq hf
    refine rh_Ex.fgt [some (.ref 0), some (.int u1), some (.int u2), some (.int u3), some (.int s41.1), some (.int (0 : Int32)), none, none] ⟨rfl, rfl, rfl, rfl, rfl, rfl, trivial⟩ ?_
    refine rh_Ex.loop _ _ _ (lb_Mo_findCross_67 d u1 u2 u3 s41.1 x8.2  g _ _) rh_N _ r20 hr20 ?_
    refine rh_Ex.blk 7 (s' := ((177, [some (.ref 0), some (.int u1), some (.int u2), some (.int u3), some (.int s41.1), none, none, none], [.int (u3 * (s41.1 + (1 : Int32))), .ref 18]), (r20, g, mw_R x8.2))) rfl ?_
    obtain ⟨q21, hf⟩ := rh_gq hf
    refine rh_Ex.stp (s' := ((178, [some (.ref 0), some (.int u1), some (.int u2), some (.int u3), some (.int s41.1), none, none, none], [.int (r20 18 (u3 * (s41.1 + (1 : Int32))).toNatClampNeg)]), (r20, g, mw_R x8.2))) rfl (st_zald (n := 10752) rfl q21) ?_
    by_cases q22 : (r20 18 (u3 * (s41.1 + (1 : Int32))).toNatClampNeg) = 0
    · rw [if_pos q22] at hf
      refine rh_Ex.stp (s' := ((186, [some (.ref 0), some (.int u1), some (.int u2), some (.int u3), some (.int s41.1), none, none, none], []), (r20, g, mw_R x8.2))) rfl (st_ifeq_p q22) ?_
      refine rh_Ex.blk 2 (s' := ((41, [some (.ref 0), some (.int u1), some (.int u2), some (.int u3), some (.int (s41.1 + (1 : Int32))), none, none, none], []), (r20, g, mw_R x8.2))) rfl ?_
      obtain rfl := Option.some.inj hf
      refine rh_Ex.fgt [some (.ref 0), some (.int u1), some (.int u2), some (.int u3), some (.int (s41.1 + (1 : Int32))), none, none, none] ⟨rfl, rfl, rfl, rfl, rfl, trivial⟩ ?_
      exact hk
    · rw [if_neg q22] at hf
      refine rh_Ex.stp (s' := ((181, [some (.ref 0), some (.int u1), some (.int u2), some (.int u3), some (.int s41.1), none, none, none], []), (r20, g, mw_R x8.2))) rfl (st_ifeq_n q22) ?_
      refine rh_Ex.blk 3 (s' := ((185, [some (.ref 0), some (.int u1), some (.int u2), some (.int u3), some (.int s41.1), none, none, none], [.int (s41.1 + (1 : Int32))]), (r20, g, mw_R x8.2))) rfl ?_
      obtain rfl := Option.some.inj hf
      obtain ⟨rfl, rfl⟩ := hk
      exact rh_Ex.ret rfl rfl
set_option maxRecDepth 20000 in
set_option maxHeartbeats 4000000 in
theorem R_Mo_findCross (d : Nat) (rd : Option Nat) (h : Nat → Nat → Int32) (g : Nat → Nat → Int64) (p0 : Int32) (p1 : Int32) {z9 : Int32 × (Nat → Nat → Int32) × (Option Nat)} (hf : f_Mo_findCross h rd p0 p1 = some z9) : rh_M rh_PT mw_L (d + 269) 252 [.ref 0, .int p0, .int p1] (h, g, mw_R rd) (some (.int z9.1)) (z9.2.1, g, mw_R z9.2.2) := by
  unfold f_Mo_findCross at hf
  refine rh_go pt_252 (Nat.le_of_ble_eq_true rfl) (lv := [some (.ref 0), some (.int p0), some (.int p1), none, none, none, none, none]) rfl ?_
  refine rh_Ex.blk 4 (s' := ((7, [some (.ref 0), some (.int p0), some (.int p1), some (.int (512 : Int32)), some (.int (0 : Int32)), none, none, none], []), (h, g, mw_R rd))) rfl ?_
  obtain ⟨r4, hr4, hf⟩ := rh_bq hf
  refine rh_Ex.fgt [some (.ref 0), some (.int p0), some (.int p1), some (.int (512 : Int32)), some (.int (0 : Int32)), none, none, none] ⟨rfl, rfl, rfl, rfl, rfl, trivial⟩ ?_
  refine rh_Ex.loop _ _ _ (lb_Mo_findCross_7 d p0 p1 (512 : Int32) rd  g _ _) rh_N _ r4 hr4 ?_
  refine rh_Ex.blk 4 (s' := ((37, [some (.ref 0), some (.int p0), some (.int p1), some (.int (512 : Int32)), none, none, none, none], [.int (1 : Int32), .int p0, .ref 18]), (r4, g, mw_R rd))) rfl ?_
  obtain ⟨q5, hf⟩ := rh_gq hf
  refine rh_Ex.stp (s' := ((38, [some (.ref 0), some (.int p0), some (.int p1), some (.int (512 : Int32)), none, none, none, none], []), (rh_up r4 18 p0.toNatClampNeg ((1 : Int32) &&& 1), g, mw_R rd))) rfl (st_zast (n := 10752) rfl q5) ?_
  refine rh_Ex.blk 2 (s' := ((41, [some (.ref 0), some (.int p0), some (.int p1), some (.int (512 : Int32)), some (.int (0 : Int32)), none, none, none], []), (rh_up r4 18 p0.toNatClampNeg ((1 : Int32) &&& 1), g, mw_R rd))) rfl ?_
  obtain ⟨r23, hr23, hf⟩ := rh_bq hf
  refine rh_Ex.fgt [some (.ref 0), some (.int p0), some (.int p1), some (.int (512 : Int32)), some (.int (0 : Int32)), none, none, none] ⟨rfl, rfl, rfl, rfl, rfl, trivial⟩ ?_
  refine rh_Ex.loop _ _ _ (lb_Mo_findCross_41 d p0 p1 (512 : Int32)  g _ _) rh_N _ r23 hr23 ?_
  rcases r23 with e24 | t25
  · dsimp only at hf
    refine rh_Ex.blk 1 (s' := ((195, [none, none, none, none, none, none, none, none], [.int (1000000 : Int32)]), (e24.1, g, mw_R e24.2))) rfl ?_
    obtain rfl := Option.some.inj hf
    exact rh_Ex.ret rfl rfl
  · dsimp only at hf
    obtain rfl := Option.some.inj hf
    exact ⟨rfl, rfl⟩
def b_Mo_findGood_8 (u1 : Int32) (u2 : Int32) (u3 : Int32) (u4 : Int32) (rd : Option Nat) : (Int32 × (Nat → Nat → Int32)) → Option ((Int32 × (Nat → Nat → Int32)) ⊕ ((Nat → Nat → Int32))) := fun s8 =>
  if (10752 : Int32) ≤ s8.1 then
    some (.inr s8.2)
  else
    rh_g (0 ≤ s8.1.toInt ∧ s8.1.toInt < ((10752 : Nat) : Int)) (
      some (.inl (s8.1 + (1 : Int32), rh_up s8.2 19 s8.1.toNatClampNeg ((0 : Int32) &&& 1)))
    )
def b_Mo_findGood_123 (u1 : Int32) (u2 : Int32) (u4 : Int32) (u5 : Int32) (u6 : Int32) (u7 : Int32) (h : Nat → Nat → Int32) (rd : Option Nat) : (Int32 × Int32) → Option ((Int32 × Int32) ⊕ (Int32)) := fun s123 =>
  if s123.2 ≤ 0 then
    some (.inr s123.1)
  else
    if s123.1 = 0 then
      (f_Mo_canCross h s123.2 u7).bind (fun x17 =>
        if x17 = 0 then
          some (.inl ((0 : Int32), (s123.2 - (1 : Int32)) &&& u7))
        else
          rh_g (0 ≤ ((u4 * (u5 + (1 : Int32))) + (u6 ^^^ s123.2)).toInt ∧ ((u4 * (u5 + (1 : Int32))) + (u6 ^^^ s123.2)).toInt < ((10752 : Nat) : Int)) (
            if (h 19 ((u4 * (u5 + (1 : Int32))) + (u6 ^^^ s123.2)).toNatClampNeg) = 0 then
              some (.inl ((0 : Int32), (s123.2 - (1 : Int32)) &&& u7))
            else
              some (.inl ((1 : Int32), (s123.2 - (1 : Int32)) &&& u7))
          )
      )
    else
      some (.inr s123.1)
def j_Mo_findGood_114 (h : Nat → Nat → Int32) (rd : Option Nat) (u1 : Int32) (u2 : Int32) (u4 : Int32) (u5 : Int32) (j6 : Int32) (k0 : Int32) : Option ((Int32 × (Nat → Nat → Int32)) ⊕ ((Nat → Nat → Int32))) :=
  (rh_loop (b_Mo_findGood_123 u1 u2 u4 u5 j6 k0 h rd) rh_N ((0 : Int32), k0)).bind (fun r21 =>
    rh_g (0 ≤ ((u4 * u5) + j6).toInt ∧ ((u4 * u5) + j6).toInt < ((10752 : Nat) : Int)) (
      some (.inl (j6 + (1 : Int32), rh_up h 19 ((u4 * u5) + j6).toNatClampNeg (r21 &&& 1)))
    )
  )
def b_Mo_findGood_71 (u1 : Int32) (u2 : Int32) (u4 : Int32) (u5 : Int32) (rd : Option Nat) : (Int32 × (Nat → Nat → Int32)) → Option ((Int32 × (Nat → Nat → Int32)) ⊕ ((Nat → Nat → Int32))) := fun s71 =>
  if u1 < s71.1 then
    some (.inr s71.2)
  else
    rh_g (0 ≤ ((u4 * u5) + s71.1).toInt ∧ ((u4 * u5) + s71.1).toInt < ((10752 : Nat) : Int)) (
      if (s71.2 18 ((u4 * u5) + s71.1).toNatClampNeg) = 0 then
        some (.inl (s71.1 + (1 : Int32), s71.2))
      else
        if (u5 - u5 / (2 : Int32) * (2 : Int32)) = 0 then
          j_Mo_findGood_114 s71.2 rd u1 u2 u4 u5 s71.1 s71.1
        else
          j_Mo_findGood_114 s71.2 rd u1 u2 u4 u5 s71.1 (u1 &&& (s71.1 ^^^ (-1 : Int32)))
    )
def b_Mo_findGood_47 (u1 : Int32) (u2 : Int32) (u4 : Int32) : (Int32 × (Nat → Nat → Int32) × (Option Nat)) → Option ((Int32 × (Nat → Nat → Int32) × (Option Nat)) ⊕ ((Nat → Nat → Int32) × (Option Nat))) := fun s47 =>
  if s47.1 < 0 then
    some (.inr (s47.2.1, s47.2.2))
  else
    (f_Mo_findSets s47.2.1 s47.2.2 (((s47.2.1 1 (10 : Int32).toNatClampNeg) + u2) + s47.1)).bind (fun x8 =>
      (rh_loop (b_Mo_findGood_71 u1 u2 u4 s47.1 x8.2) rh_N ((0 : Int32), x8.1)).bind (fun r23 =>
        some (.inl (s47.1 + (-1 : Int32), r23, x8.2))
      )
    )
def f_Mo_findGood (h : Nat → Nat → Int32) (rd : Option Nat) (p0 : Int32) (p1 : Int32) (p2 : Int32) : Option ((Nat → Nat → Int32) × (Option Nat)) :=
  (rh_loop (b_Mo_findGood_8 p0 p1 p2 (512 : Int32) rd) rh_N ((0 : Int32), h)).bind (fun r4 =>
    rh_g (0 ≤ ((512 : Int32) * p2).toInt ∧ ((512 : Int32) * p2).toInt < ((10752 : Nat) : Int)) (
      (rh_loop (b_Mo_findGood_47 p0 p1 (512 : Int32)) rh_N (p2 - (1 : Int32), rh_up r4 19 ((512 : Int32) * p2).toNatClampNeg ((1 : Int32) &&& 1), rd)).bind (fun r24 =>
        some ((r24.1, r24.2))
      )
    )
  )
set_option maxRecDepth 20000 in
set_option maxHeartbeats 4000000 in
theorem lb_Mo_findGood_8 (d : Nat) (u1 : Int32) (u2 : Int32) (u3 : Int32) (u4 : Int32) (rd : Option Nat) (g : Nat → Nat → Int64) (v9 : Option Value) (h9 : rh_H) : ∀ s8 x9, b_Mo_findGood_8 u1 u2 u3 u4 rd s8 = some x9 → Sum.elim (fun s8 => rh_Ex (rh_M rh_PT mw_L (d + 268)) mw_L pg_X12_findGood ((8, [some (.ref 0), some (.int u1), some (.int u2), some (.int u3), some (.int u4), some (.int s8.1), none, none, none, none], []), (s8.2, g, mw_R rd)) v9 h9) (fun e9 => rh_Ex (rh_M rh_PT mw_L (d + 268)) mw_L pg_X12_findGood ((32, [some (.ref 0), some (.int u1), some (.int u2), some (.int u3), some (.int u4), none, none, none, none, none], []), (e9, g, mw_R rd)) v9 h9) x9 → rh_Ex (rh_M rh_PT mw_L (d + 268)) mw_L pg_X12_findGood ((8, [some (.ref 0), some (.int u1), some (.int u2), some (.int u3), some (.int u4), some (.int s8.1), none, none, none, none], []), (s8.2, g, mw_R rd)) v9 h9 := by
  intro s8 x9 hf hk
  unfold b_Mo_findGood_8 at hf
  refine rh_Ex.blk 4 (s' := ((15, [some (.ref 0), some (.int u1), some (.int u2), some (.int u3), some (.int u4), some (.int s8.1), none, none, none, none], [.int (10752 : Int32), .int s8.1]), (s8.2, g, mw_R rd))) rfl ?_
  by_cases q2 : (10752 : Int32) ≤ s8.1
  · rw [if_pos q2] at hf
    refine rh_Ex.stp (s' := ((32, [some (.ref 0), some (.int u1), some (.int u2), some (.int u3), some (.int u4), some (.int s8.1), none, none, none, none], []), (s8.2, g, mw_R rd))) rfl (st_icge_p q2) ?_
    obtain rfl := Option.some.inj hf
    refine rh_Ex.fgt [some (.ref 0), some (.int u1), some (.int u2), some (.int u3), some (.int u4), none, none, none, none, none] ⟨rfl, rfl, rfl, rfl, rfl, trivial⟩ ?_
    exact hk
  · rw [if_neg q2] at hf
    refine rh_Ex.stp (s' := ((18, [some (.ref 0), some (.int u1), some (.int u2), some (.int u3), some (.int u4), some (.int s8.1), none, none, none, none], []), (s8.2, g, mw_R rd))) rfl (st_icge_n q2) ?_
    refine rh_Ex.blk 4 (s' := ((25, [some (.ref 0), some (.int u1), some (.int u2), some (.int u3), some (.int u4), some (.int s8.1), none, none, none, none], [.int (0 : Int32), .int s8.1, .ref 19]), (s8.2, g, mw_R rd))) rfl ?_
    obtain ⟨q3, hf⟩ := rh_gq hf
    refine rh_Ex.stp (s' := ((26, [some (.ref 0), some (.int u1), some (.int u2), some (.int u3), some (.int u4), some (.int s8.1), none, none, none, none], []), (rh_up s8.2 19 s8.1.toNatClampNeg ((0 : Int32) &&& 1), g, mw_R rd))) rfl (st_zast (n := 10752) rfl q3) ?_
    refine rh_Ex.blk 2 (s' := ((8, [some (.ref 0), some (.int u1), some (.int u2), some (.int u3), some (.int u4), some (.int (s8.1 + (1 : Int32))), none, none, none, none], []), (rh_up s8.2 19 s8.1.toNatClampNeg ((0 : Int32) &&& 1), g, mw_R rd))) rfl ?_
    obtain rfl := Option.some.inj hf
    refine rh_Ex.fgt [some (.ref 0), some (.int u1), some (.int u2), some (.int u3), some (.int u4), some (.int (s8.1 + (1 : Int32))), none, none, none, none] ⟨rfl, rfl, rfl, rfl, rfl, rfl, trivial⟩ ?_
    exact hk
set_option maxRecDepth 20000 in
set_option maxHeartbeats 4000000 in
theorem lb_Mo_findGood_123 (d : Nat) (u1 : Int32) (u2 : Int32) (u4 : Int32) (u5 : Int32) (u6 : Int32) (u7 : Int32) (h : Nat → Nat → Int32) (rd : Option Nat) (g : Nat → Nat → Int64) (v9 : Option Value) (h9 : rh_H) : ∀ s123 x9, b_Mo_findGood_123 u1 u2 u4 u5 u6 u7 h rd s123 = some x9 → Sum.elim (fun s123 => rh_Ex (rh_M rh_PT mw_L (d + 268)) mw_L pg_X12_findGood ((123, [some (.ref 0), some (.int u1), some (.int u2), none, some (.int u4), some (.int u5), some (.int u6), some (.int u7), some (.int s123.1), some (.int s123.2)], []), (h, g, mw_R rd)) v9 h9) (fun e9 => rh_Ex (rh_M rh_PT mw_L (d + 268)) mw_L pg_X12_findGood ((184, [some (.ref 0), some (.int u1), some (.int u2), none, some (.int u4), some (.int u5), some (.int u6), none, some (.int e9), none], []), (h, g, mw_R rd)) v9 h9) x9 → rh_Ex (rh_M rh_PT mw_L (d + 268)) mw_L pg_X12_findGood ((123, [some (.ref 0), some (.int u1), some (.int u2), none, some (.int u4), some (.int u5), some (.int u6), some (.int u7), some (.int s123.1), some (.int s123.2)], []), (h, g, mw_R rd)) v9 h9 := by
  intro s123 x9 hf hk
  unfold b_Mo_findGood_123 at hf
  refine rh_Ex.blk 1 (s' := ((125, [some (.ref 0), some (.int u1), some (.int u2), none, some (.int u4), some (.int u5), some (.int u6), some (.int u7), some (.int s123.1), some (.int s123.2)], [.int s123.2]), (h, g, mw_R rd))) rfl ?_
  by_cases q15 : s123.2 ≤ 0
  · rw [if_pos q15] at hf
    refine rh_Ex.stp (s' := ((184, [some (.ref 0), some (.int u1), some (.int u2), none, some (.int u4), some (.int u5), some (.int u6), some (.int u7), some (.int s123.1), some (.int s123.2)], []), (h, g, mw_R rd))) rfl (st_ifle_p q15) ?_
    obtain rfl := Option.some.inj hf
    refine rh_Ex.fgt [some (.ref 0), some (.int u1), some (.int u2), none, some (.int u4), some (.int u5), some (.int u6), none, some (.int s123.1), none] ⟨rfl, rfl, rfl, rfl, rfl, rfl, rfl, trivial⟩ ?_
    exact hk
  · rw [if_neg q15] at hf
    refine rh_Ex.stp (s' := ((128, [some (.ref 0), some (.int u1), some (.int u2), none, some (.int u4), some (.int u5), some (.int u6), some (.int u7), some (.int s123.1), some (.int s123.2)], []), (h, g, mw_R rd))) rfl (st_ifle_n q15) ?_
    refine rh_Ex.blk 1 (s' := ((130, [some (.ref 0), some (.int u1), some (.int u2), none, some (.int u4), some (.int u5), some (.int u6), some (.int u7), some (.int s123.1), some (.int s123.2)], [.int s123.1]), (h, g, mw_R rd))) rfl ?_
    by_cases q16 : s123.1 = 0
    · rw [if_pos q16] at hf
      refine rh_Ex.stp (s' := ((133, [some (.ref 0), some (.int u1), some (.int u2), none, some (.int u4), some (.int u5), some (.int u6), some (.int u7), some (.int s123.1), some (.int s123.2)], []), (h, g, mw_R rd))) rfl (st_ifne_p q16) ?_
      refine rh_Ex.blk 3 (s' := ((138, [some (.ref 0), some (.int u1), some (.int u2), none, some (.int u4), some (.int u5), some (.int u6), some (.int u7), some (.int s123.1), some (.int s123.2)], [.int u7, .int s123.2, .ref 0]), (h, g, mw_R rd))) rfl ?_
      obtain ⟨x17, hx17, hf⟩ := rh_bq hf
      refine rh_Ex.call (j := 251) (rc := some 11) [.ref 0, .int s123.2, .int u7] [] (some (.int x17)) rfl rfl rfl (Nat.le_of_ble_eq_true rfl) (R_Mo_canCross (d + 267) rd h g s123.2 u7 hx17) ?_
      show rh_Ex _ _ _ ((141, [some (.ref 0), some (.int u1), some (.int u2), none, some (.int u4), some (.int u5), some (.int u6), some (.int u7), some (.int s123.1), some (.int s123.2)], [.int x17]), (h, g, mw_R rd)) _ _
      by_cases q18 : x17 = 0
      · rw [if_pos q18] at hf
        refine rh_Ex.stp (s' := ((169, [some (.ref 0), some (.int u1), some (.int u2), none, some (.int u4), some (.int u5), some (.int u6), some (.int u7), some (.int s123.1), some (.int s123.2)], []), (h, g, mw_R rd))) rfl (st_ifeq_p q18) ?_
        refine rh_Ex.blk 9 (s' := ((123, [some (.ref 0), some (.int u1), some (.int u2), none, some (.int u4), some (.int u5), some (.int u6), some (.int u7), some (.int (0 : Int32)), some (.int ((s123.2 - (1 : Int32)) &&& u7))], []), (h, g, mw_R rd))) rfl ?_
        obtain rfl := Option.some.inj hf
        refine rh_Ex.fgt [some (.ref 0), some (.int u1), some (.int u2), none, some (.int u4), some (.int u5), some (.int u6), some (.int u7), some (.int (0 : Int32)), some (.int ((s123.2 - (1 : Int32)) &&& u7))] ⟨rfl, rfl, rfl, rfl, rfl, rfl, rfl, rfl, rfl, trivial⟩ ?_
        exact hk
      · rw [if_neg q18] at hf
        refine rh_Ex.stp (s' := ((144, [some (.ref 0), some (.int u1), some (.int u2), none, some (.int u4), some (.int u5), some (.int u6), some (.int u7), some (.int s123.1), some (.int s123.2)], []), (h, g, mw_R rd))) rfl (st_ifeq_n q18) ?_
        refine rh_Ex.blk 11 (s' := ((161, [some (.ref 0), some (.int u1), some (.int u2), none, some (.int u4), some (.int u5), some (.int u6), some (.int u7), some (.int s123.1), some (.int s123.2)], [.int ((u4 * (u5 + (1 : Int32))) + (u6 ^^^ s123.2)), .ref 19]), (h, g, mw_R rd))) rfl ?_
        obtain ⟨q19, hf⟩ := rh_gq hf
        refine rh_Ex.stp (s' := ((162, [some (.ref 0), some (.int u1), some (.int u2), none, some (.int u4), some (.int u5), some (.int u6), some (.int u7), some (.int s123.1), some (.int s123.2)], [.int (h 19 ((u4 * (u5 + (1 : Int32))) + (u6 ^^^ s123.2)).toNatClampNeg)]), (h, g, mw_R rd))) rfl (st_zald (n := 10752) rfl q19) ?_
        by_cases q20 : (h 19 ((u4 * (u5 + (1 : Int32))) + (u6 ^^^ s123.2)).toNatClampNeg) = 0
        · rw [if_pos q20] at hf
          refine rh_Ex.stp (s' := ((169, [some (.ref 0), some (.int u1), some (.int u2), none, some (.int u4), some (.int u5), some (.int u6), some (.int u7), some (.int s123.1), some (.int s123.2)], []), (h, g, mw_R rd))) rfl (st_ifeq_p q20) ?_
          refine rh_Ex.blk 9 (s' := ((123, [some (.ref 0), some (.int u1), some (.int u2), none, some (.int u4), some (.int u5), some (.int u6), some (.int u7), some (.int (0 : Int32)), some (.int ((s123.2 - (1 : Int32)) &&& u7))], []), (h, g, mw_R rd))) rfl ?_
          obtain rfl := Option.some.inj hf
          refine rh_Ex.fgt [some (.ref 0), some (.int u1), some (.int u2), none, some (.int u4), some (.int u5), some (.int u6), some (.int u7), some (.int (0 : Int32)), some (.int ((s123.2 - (1 : Int32)) &&& u7))] ⟨rfl, rfl, rfl, rfl, rfl, rfl, rfl, rfl, rfl, trivial⟩ ?_
          exact hk
        · rw [if_neg q20] at hf
          refine rh_Ex.stp (s' := ((165, [some (.ref 0), some (.int u1), some (.int u2), none, some (.int u4), some (.int u5), some (.int u6), some (.int u7), some (.int s123.1), some (.int s123.2)], []), (h, g, mw_R rd))) rfl (st_ifeq_n q20) ?_
          refine rh_Ex.blk 10 (s' := ((123, [some (.ref 0), some (.int u1), some (.int u2), none, some (.int u4), some (.int u5), some (.int u6), some (.int u7), some (.int (1 : Int32)), some (.int ((s123.2 - (1 : Int32)) &&& u7))], []), (h, g, mw_R rd))) rfl ?_
          obtain rfl := Option.some.inj hf
          refine rh_Ex.fgt [some (.ref 0), some (.int u1), some (.int u2), none, some (.int u4), some (.int u5), some (.int u6), some (.int u7), some (.int (1 : Int32)), some (.int ((s123.2 - (1 : Int32)) &&& u7))] ⟨rfl, rfl, rfl, rfl, rfl, rfl, rfl, rfl, rfl, trivial⟩ ?_
          exact hk
    · rw [if_neg q16] at hf
      refine rh_Ex.stp (s' := ((184, [some (.ref 0), some (.int u1), some (.int u2), none, some (.int u4), some (.int u5), some (.int u6), some (.int u7), some (.int s123.1), some (.int s123.2)], []), (h, g, mw_R rd))) rfl (st_ifne_n q16) ?_
      obtain rfl := Option.some.inj hf
      refine rh_Ex.fgt [some (.ref 0), some (.int u1), some (.int u2), none, some (.int u4), some (.int u5), some (.int u6), none, some (.int s123.1), none] ⟨rfl, rfl, rfl, rfl, rfl, rfl, rfl, trivial⟩ ?_
      exact hk
set_option maxRecDepth 20000 in
set_option maxHeartbeats 4000000 in
theorem lj_Mo_findGood_114 (d : Nat) (h : Nat → Nat → Int32) (rd : Option Nat) (u1 : Int32) (u2 : Int32) (u4 : Int32) (u5 : Int32) (j6 : Int32) (k0 : Int32) (g : Nat → Nat → Int64) (v9 : Option Value) (h9 : rh_H) (x9 : (Int32 × (Nat → Nat → Int32)) ⊕ ((Nat → Nat → Int32))) (hf : j_Mo_findGood_114 h rd u1 u2 u4 u5 j6 k0 = some x9) (hk : Sum.elim (fun s71 => rh_Ex (rh_M rh_PT mw_L (d + 268)) mw_L pg_X12_findGood ((71, [some (.ref 0), some (.int u1), some (.int u2), none, some (.int u4), some (.int u5), some (.int s71.1), none, none, none], []), (s71.2, g, mw_R rd)) v9 h9) (fun e9 => rh_Ex (rh_M rh_PT mw_L (d + 268)) mw_L pg_X12_findGood ((205, [some (.ref 0), some (.int u1), some (.int u2), none, some (.int u4), some (.int u5), none, none, none, none], []), (e9, g, mw_R rd)) v9 h9) x9) : rh_Ex (rh_M rh_PT mw_L (d + 268)) mw_L pg_X12_findGood ((114, [some (.ref 0), some (.int u1), some (.int u2), none, some (.int u4), some (.int u5), some (.int j6), none, none, none], [.int k0]), (h, g, mw_R rd)) v9 h9 := by
  unfold j_Mo_findGood_114 at hf
  refine rh_Ex.blk 5 (s' := ((123, [some (.ref 0), some (.int u1), some (.int u2), none, some (.int u4), some (.int u5), some (.int j6), some (.int k0), some (.int (0 : Int32)), some (.int k0)], []), (h, g, mw_R rd))) rfl ?_
  obtain ⟨r21, hr21, hf⟩ := rh_bq hf
  refine rh_Ex.fgt [some (.ref 0), some (.int u1), some (.int u2), none, some (.int u4), some (.int u5), some (.int j6), some (.int k0), some (.int (0 : Int32)), some (.int k0)] ⟨rfl, rfl, rfl, rfl, rfl, rfl, rfl, rfl, rfl, trivial⟩ ?_
  refine rh_Ex.loop _ _ _ (lb_Mo_findGood_123 d u1 u2 u4 u5 j6 k0 h rd  g _ _) rh_N _ r21 hr21 ?_
  refine rh_Ex.blk 8 (s' := ((198, [some (.ref 0), some (.int u1), some (.int u2), none, some (.int u4), some (.int u5), some (.int j6), none, some (.int r21), none], [.int r21, .int ((u4 * u5) + j6), .ref 19]), (h, g, mw_R rd))) rfl ?_
  obtain ⟨q22, hf⟩ := rh_gq hf
  refine rh_Ex.stp (s' := ((199, [some (.ref 0), some (.int u1), some (.int u2), none, some (.int u4), some (.int u5), some (.int j6), none, some (.int r21), none], []), (rh_up h 19 ((u4 * u5) + j6).toNatClampNeg (r21 &&& 1), g, mw_R rd))) rfl (st_zast (n := 10752) rfl q22) ?_
  refine rh_Ex.blk 2 (s' := ((71, [some (.ref 0), some (.int u1), some (.int u2), none, some (.int u4), some (.int u5), some (.int (j6 + (1 : Int32))), none, some (.int r21), none], []), (rh_up h 19 ((u4 * u5) + j6).toNatClampNeg (r21 &&& 1), g, mw_R rd))) rfl ?_
  obtain rfl := Option.some.inj hf
  refine rh_Ex.fgt [some (.ref 0), some (.int u1), some (.int u2), none, some (.int u4), some (.int u5), some (.int (j6 + (1 : Int32))), none, none, none] ⟨rfl, rfl, rfl, rfl, rfl, rfl, trivial⟩ ?_
  exact hk
set_option maxRecDepth 20000 in
set_option maxHeartbeats 4000000 in
theorem lb_Mo_findGood_71 (d : Nat) (u1 : Int32) (u2 : Int32) (u4 : Int32) (u5 : Int32) (rd : Option Nat) (g : Nat → Nat → Int64) (v9 : Option Value) (h9 : rh_H) : ∀ s71 x9, b_Mo_findGood_71 u1 u2 u4 u5 rd s71 = some x9 → Sum.elim (fun s71 => rh_Ex (rh_M rh_PT mw_L (d + 268)) mw_L pg_X12_findGood ((71, [some (.ref 0), some (.int u1), some (.int u2), none, some (.int u4), some (.int u5), some (.int s71.1), none, none, none], []), (s71.2, g, mw_R rd)) v9 h9) (fun e9 => rh_Ex (rh_M rh_PT mw_L (d + 268)) mw_L pg_X12_findGood ((205, [some (.ref 0), some (.int u1), some (.int u2), none, some (.int u4), some (.int u5), none, none, none, none], []), (e9, g, mw_R rd)) v9 h9) x9 → rh_Ex (rh_M rh_PT mw_L (d + 268)) mw_L pg_X12_findGood ((71, [some (.ref 0), some (.int u1), some (.int u2), none, some (.int u4), some (.int u5), some (.int s71.1), none, none, none], []), (s71.2, g, mw_R rd)) v9 h9 := by
  intro s71 x9 hf hk
  unfold b_Mo_findGood_71 at hf
  refine rh_Ex.blk 2 (s' := ((74, [some (.ref 0), some (.int u1), some (.int u2), none, some (.int u4), some (.int u5), some (.int s71.1), none, none, none], [.int u1, .int s71.1]), (s71.2, g, mw_R rd))) rfl ?_
  by_cases q10 : u1 < s71.1
  · rw [if_pos q10] at hf
    refine rh_Ex.stp (s' := ((205, [some (.ref 0), some (.int u1), some (.int u2), none, some (.int u4), some (.int u5), some (.int s71.1), none, none, none], []), (s71.2, g, mw_R rd))) rfl (st_icgt_p q10) ?_
    obtain rfl := Option.some.inj hf
    refine rh_Ex.fgt [some (.ref 0), some (.int u1), some (.int u2), none, some (.int u4), some (.int u5), none, none, none, none] ⟨rfl, rfl, rfl, rfl, rfl, trivial⟩ ?_
    exact hk
  · rw [if_neg q10] at hf
    refine rh_Ex.stp (s' := ((77, [some (.ref 0), some (.int u1), some (.int u2), none, some (.int u4), some (.int u5), some (.int s71.1), none, none, none], []), (s71.2, g, mw_R rd))) rfl (st_icgt_n q10) ?_
    refine rh_Ex.blk 7 (s' := ((89, [some (.ref 0), some (.int u1), some (.int u2), none, some (.int u4), some (.int u5), some (.int s71.1), none, none, none], [.int ((u4 * u5) + s71.1), .ref 18]), (s71.2, g, mw_R rd))) rfl ?_
    obtain ⟨q11, hf⟩ := rh_gq hf
    refine rh_Ex.stp (s' := ((90, [some (.ref 0), some (.int u1), some (.int u2), none, some (.int u4), some (.int u5), some (.int s71.1), none, none, none], [.int (s71.2 18 ((u4 * u5) + s71.1).toNatClampNeg)]), (s71.2, g, mw_R rd))) rfl (st_zald (n := 10752) rfl q11) ?_
    by_cases q12 : (s71.2 18 ((u4 * u5) + s71.1).toNatClampNeg) = 0
    · rw [if_pos q12] at hf
      refine rh_Ex.stp (s' := ((93, [some (.ref 0), some (.int u1), some (.int u2), none, some (.int u4), some (.int u5), some (.int s71.1), none, none, none], []), (s71.2, g, mw_R rd))) rfl (st_ifne_p q12) ?_
      refine rh_Ex.blk 3 (s' := ((71, [some (.ref 0), some (.int u1), some (.int u2), none, some (.int u4), some (.int u5), some (.int (s71.1 + (1 : Int32))), none, none, none], []), (s71.2, g, mw_R rd))) rfl ?_
      obtain rfl := Option.some.inj hf
      refine rh_Ex.fgt [some (.ref 0), some (.int u1), some (.int u2), none, some (.int u4), some (.int u5), some (.int (s71.1 + (1 : Int32))), none, none, none] ⟨rfl, rfl, rfl, rfl, rfl, rfl, trivial⟩ ?_
      exact hk
    · rw [if_neg q12] at hf
      refine rh_Ex.stp (s' := ((96, [some (.ref 0), some (.int u1), some (.int u2), none, some (.int u4), some (.int u5), some (.int s71.1), none, none, none], []), (s71.2, g, mw_R rd))) rfl (st_ifne_n q12) ?_
      refine rh_Ex.blk 2 (s' := ((99, [some (.ref 0), some (.int u1), some (.int u2), none, some (.int u4), some (.int u5), some (.int s71.1), none, none, none], [.int (2 : Int32), .int u5]), (s71.2, g, mw_R rd))) rfl ?_
      refine rh_Ex.stp (s' := ((100, [some (.ref 0), some (.int u1), some (.int u2), none, some (.int u4), some (.int u5), some (.int s71.1), none, none, none], [.int (u5 - u5 / (2 : Int32) * (2 : Int32))]), (s71.2, g, mw_R rd))) rfl (st_irem (by decide)) ?_
      by_cases q13 : (u5 - u5 / (2 : Int32) * (2 : Int32)) = 0
      · rw [if_pos q13] at hf
        refine rh_Ex.stp (s' := ((103, [some (.ref 0), some (.int u1), some (.int u2), none, some (.int u4), some (.int u5), some (.int s71.1), none, none, none], []), (s71.2, g, mw_R rd))) rfl (st_ifne_p q13) ?_
        refine rh_Ex.blk 2 (s' := ((114, [some (.ref 0), some (.int u1), some (.int u2), none, some (.int u4), some (.int u5), some (.int s71.1), none, none, none], [.int s71.1]), (s71.2, g, mw_R rd))) rfl ?_
        refine rh_Ex.fgt [some (.ref 0), some (.int u1), some (.int u2), none, some (.int u4), some (.int u5), some (.int s71.1), none, none, none] ⟨rfl, rfl, rfl, rfl, rfl, rfl, trivial⟩ ?_
        exact lj_Mo_findGood_114 d s71.2 rd u1 u2 u4 u5 s71.1 s71.1 g _ _ _ hf hk
      · rw [if_neg q13] at hf
        refine rh_Ex.stp (s' := ((108, [some (.ref 0), some (.int u1), some (.int u2), none, some (.int u4), some (.int u5), some (.int s71.1), none, none, none], []), (s71.2, g, mw_R rd))) rfl (st_ifne_n q13) ?_
        refine rh_Ex.blk 5 (s' := ((114, [some (.ref 0), some (.int u1), some (.int u2), none, some (.int u4), some (.int u5), some (.int s71.1), none, none, none], [.int (u1 &&& (s71.1 ^^^ (-1 : Int32)))]), (s71.2, g, mw_R rd))) rfl ?_
        refine rh_Ex.fgt [some (.ref 0), some (.int u1), some (.int u2), none, some (.int u4), some (.int u5), some (.int s71.1), none, none, none] ⟨rfl, rfl, rfl, rfl, rfl, rfl, trivial⟩ ?_
        exact lj_Mo_findGood_114 d s71.2 rd u1 u2 u4 u5 s71.1 (u1 &&& (s71.1 ^^^ (-1 : Int32))) g _ _ _ hf hk
set_option maxRecDepth 20000 in
set_option maxHeartbeats 4000000 in
theorem lb_Mo_findGood_47 (d : Nat) (u1 : Int32) (u2 : Int32) (u4 : Int32) (g : Nat → Nat → Int64) (v9 : Option Value) (h9 : rh_H) : ∀ s47 x9, b_Mo_findGood_47 u1 u2 u4 s47 = some x9 → Sum.elim (fun s47 => rh_Ex (rh_M rh_PT mw_L (d + 268)) mw_L pg_X12_findGood ((47, [some (.ref 0), some (.int u1), some (.int u2), none, some (.int u4), some (.int s47.1), none, none, none, none], []), (s47.2.1, g, mw_R s47.2.2)) v9 h9) (fun e9 => rh_Ex (rh_M rh_PT mw_L (d + 268)) mw_L pg_X12_findGood ((211, [none, none, none, none, none, none, none, none, none, none], []), (e9.1, g, mw_R e9.2)) v9 h9) x9 → rh_Ex (rh_M rh_PT mw_L (d + 268)) mw_L pg_X12_findGood ((47, [some (.ref 0), some (.int u1), some (.int u2), none, some (.int u4), some (.int s47.1), none, none, none, none], []), (s47.2.1, g, mw_R s47.2.2)) v9 h9 := by
  intro s47 x9 hf hk
  unfold b_Mo_findGood_47 at hf
  refine rh_Ex.blk 1 (s' := ((49, [some (.ref 0), some (.int u1), some (.int u2), none, some (.int u4), some (.int s47.1), none, none, none, none], [.int s47.1]), (s47.2.1, g, mw_R s47.2.2))) rfl ?_
  by_cases q7 : s47.1 < 0
  · rw [if_pos q7] at hf
    refine rh_Ex.stp (s' := ((211, [some (.ref 0), some (.int u1), some (.int u2), none, some (.int u4), some (.int s47.1), none, none, none, none], []), (s47.2.1, g, mw_R s47.2.2))) rfl (st_iflt_p q7) ?_
    obtain rfl := Option.some.inj hf
    refine rh_Ex.fgt [none, none, none, none, none, none, none, none, none, none] trivial ?_
    exact hk
  · rw [if_neg q7] at hf
    refine rh_Ex.stp (s' := ((52, [some (.ref 0), some (.int u1), some (.int u2), none, some (.int u4), some (.int s47.1), none, none, none, none], []), (s47.2.1, g, mw_R s47.2.2))) rfl (st_iflt_n q7) ?_
    refine rh_Ex.blk 4 (s' := ((59, [some (.ref 0), some (.int u1), some (.int u2), none, some (.int u4), some (.int s47.1), none, none, none, none], [.int (10 : Int32), .ref 1, .ref 0]), (s47.2.1, g, mw_R s47.2.2))) rfl ?_
    refine rh_Ex.stp (s' := ((60, [some (.ref 0), some (.int u1), some (.int u2), none, some (.int u4), some (.int s47.1), none, none, none, none], [.int (s47.2.1 1 (10 : Int32).toNatClampNeg), .ref 0]), (s47.2.1, g, mw_R s47.2.2))) rfl (st_iald (n := 11) rfl (by decide)) ?_
    refine rh_Ex.blk 4 (s' := ((65, [some (.ref 0), some (.int u1), some (.int u2), none, some (.int u4), some (.int s47.1), none, none, none, none], [.int (((s47.2.1 1 (10 : Int32).toNatClampNeg) + u2) + s47.1), .ref 0]), (s47.2.1, g, mw_R s47.2.2))) rfl ?_
    obtain ⟨x8, hx8, hf⟩ := rh_bq hf
    refine rh_Ex.call (j := 208) (rc := some 11) [.ref 0, .int (((s47.2.1 1 (10 : Int32).toNatClampNeg) + u2) + s47.1)] [] none rfl rfl rfl (Nat.le_of_ble_eq_true rfl) (R_Mo_findSets d s47.2.2 s47.2.1 g (((s47.2.1 1 (10 : Int32).toNatClampNeg) + u2) + s47.1) hx8) ?_
    show rh_Ex _ _ _ ((68, [some (.ref 0), some (.int u1), some (.int u2), none, some (.int u4), some (.int s47.1), none, none, none, none], []), (x8.1, g, mw_R x8.2)) _ _
    refine rh_Ex.blk 2 (s' := ((71, [some (.ref 0), some (.int u1), some (.int u2), none, some (.int u4), some (.int s47.1), some (.int (0 : Int32)), none, none, none], []), (x8.1, g, mw_R x8.2))) rfl ?_
    obtain ⟨r23, hr23, hf⟩ := rh_bq hf
    refine rh_Ex.fgt [some (.ref 0), some (.int u1), some (.int u2), none, some (.int u4), some (.int s47.1), some (.int (0 : Int32)), none, none, none] ⟨rfl, rfl, rfl, rfl, rfl, rfl, trivial⟩ ?_
    refine rh_Ex.loop _ _ _ (lb_Mo_findGood_71 d u1 u2 u4 s47.1 x8.2  g _ _) rh_N _ r23 hr23 ?_
    refine rh_Ex.blk 2 (s' := ((47, [some (.ref 0), some (.int u1), some (.int u2), none, some (.int u4), some (.int (s47.1 + (-1 : Int32))), none, none, none, none], []), (r23, g, mw_R x8.2))) rfl ?_
    obtain rfl := Option.some.inj hf
    refine rh_Ex.fgt [some (.ref 0), some (.int u1), some (.int u2), none, some (.int u4), some (.int (s47.1 + (-1 : Int32))), none, none, none, none] ⟨rfl, rfl, rfl, rfl, rfl, trivial⟩ ?_
    exact hk
set_option maxRecDepth 20000 in
set_option maxHeartbeats 4000000 in
theorem R_Mo_findGood (d : Nat) (rd : Option Nat) (h : Nat → Nat → Int32) (g : Nat → Nat → Int64) (p0 : Int32) (p1 : Int32) (p2 : Int32) {z9 : (Nat → Nat → Int32) × (Option Nat)} (hf : f_Mo_findGood h rd p0 p1 p2 = some z9) : rh_M rh_PT mw_L (d + 269) 253 [.ref 0, .int p0, .int p1, .int p2] (h, g, mw_R rd) none (z9.1, g, mw_R z9.2) := by
  unfold f_Mo_findGood at hf
  refine rh_go pt_253 (Nat.le_of_ble_eq_true rfl) (lv := [some (.ref 0), some (.int p0), some (.int p1), some (.int p2), none, none, none, none, none, none]) rfl ?_
  refine rh_Ex.blk 4 (s' := ((8, [some (.ref 0), some (.int p0), some (.int p1), some (.int p2), some (.int (512 : Int32)), some (.int (0 : Int32)), none, none, none, none], []), (h, g, mw_R rd))) rfl ?_
  obtain ⟨r4, hr4, hf⟩ := rh_bq hf
  refine rh_Ex.fgt [some (.ref 0), some (.int p0), some (.int p1), some (.int p2), some (.int (512 : Int32)), some (.int (0 : Int32)), none, none, none, none] ⟨rfl, rfl, rfl, rfl, rfl, rfl, trivial⟩ ?_
  refine rh_Ex.loop _ _ _ (lb_Mo_findGood_8 d p0 p1 p2 (512 : Int32) rd  g _ _) rh_N _ r4 hr4 ?_
  refine rh_Ex.blk 6 (s' := ((41, [some (.ref 0), some (.int p0), some (.int p1), some (.int p2), some (.int (512 : Int32)), none, none, none, none, none], [.int (1 : Int32), .int ((512 : Int32) * p2), .ref 19]), (r4, g, mw_R rd))) rfl ?_
  obtain ⟨q5, hf⟩ := rh_gq hf
  refine rh_Ex.stp (s' := ((42, [some (.ref 0), some (.int p0), some (.int p1), some (.int p2), some (.int (512 : Int32)), none, none, none, none, none], []), (rh_up r4 19 ((512 : Int32) * p2).toNatClampNeg ((1 : Int32) &&& 1), g, mw_R rd))) rfl (st_zast (n := 10752) rfl q5) ?_
  refine rh_Ex.blk 4 (s' := ((47, [some (.ref 0), some (.int p0), some (.int p1), some (.int p2), some (.int (512 : Int32)), some (.int (p2 - (1 : Int32))), none, none, none, none], []), (rh_up r4 19 ((512 : Int32) * p2).toNatClampNeg ((1 : Int32) &&& 1), g, mw_R rd))) rfl ?_
  obtain ⟨r24, hr24, hf⟩ := rh_bq hf
  refine rh_Ex.fgt [some (.ref 0), some (.int p0), some (.int p1), none, some (.int (512 : Int32)), some (.int (p2 - (1 : Int32))), none, none, none, none] ⟨rfl, rfl, rfl, rfl, rfl, trivial⟩ ?_
  refine rh_Ex.loop _ _ _ (lb_Mo_findGood_47 d p0 p1 (512 : Int32)  g _ _) rh_N _ r24 hr24 ?_
  obtain rfl := Option.some.inj hf
  exact rh_Ex.ret rfl trivial
def f_Mo_canSetOut (h : Nat → Nat → Int32) (p0 : Int32) : Option (Int32) :=
  (f_Mo_areFolk h p0).bind (fun x1 =>
    if x1 = 0 then
      some ((0 : Int32))
    else
      if (p0 &&& (h 0 2)) = 0 then
        some ((0 : Int32))
      else
        some ((1 : Int32))
  )
set_option maxRecDepth 20000 in
set_option maxHeartbeats 4000000 in
theorem R_Mo_canSetOut (d : Nat) (rd : Option Nat) (h : Nat → Nat → Int32) (g : Nat → Nat → Int64) (p0 : Int32) {z9 : Int32} (hf : f_Mo_canSetOut h p0 = some z9) : rh_M rh_PT mw_L (d + 3) 254 [.ref 0, .int p0] (h, g, mw_R rd) (some (.int z9)) (h, g, mw_R rd) := by
  unfold f_Mo_canSetOut at hf
  refine rh_go pt_254 (Nat.le_of_ble_eq_true rfl) (lv := [some (.ref 0), some (.int p0)]) rfl ?_
  refine rh_Ex.blk 2 (s' := ((2, [some (.ref 0), some (.int p0)], [.int p0, .ref 0]), (h, g, mw_R rd))) rfl ?_
  obtain ⟨x1, hx1, hf⟩ := rh_bq hf
  refine rh_Ex.call (j := 185) (rc := some 11) [.ref 0, .int p0] [] (some (.int x1)) rfl rfl rfl (Nat.le_of_ble_eq_true rfl) (R_Mo_areFolk d rd h g p0 hx1) ?_
  show rh_Ex _ _ _ ((5, [some (.ref 0), some (.int p0)], [.int x1]), (h, g, mw_R rd)) _ _
  by_cases q2 : x1 = 0
  · rw [if_pos q2] at hf
    refine rh_Ex.stp (s' := ((21, [some (.ref 0), some (.int p0)], []), (h, g, mw_R rd))) rfl (st_ifeq_p q2) ?_
    refine rh_Ex.blk 1 (s' := ((22, [some (.ref 0), some (.int p0)], [.int (0 : Int32)]), (h, g, mw_R rd))) rfl ?_
    obtain rfl := Option.some.inj hf
    exact rh_Ex.ret rfl ⟨rfl, Or.inl rfl⟩
  · rw [if_neg q2] at hf
    refine rh_Ex.stp (s' := ((8, [some (.ref 0), some (.int p0)], []), (h, g, mw_R rd))) rfl (st_ifeq_n q2) ?_
    refine rh_Ex.blk 4 (s' := ((14, [some (.ref 0), some (.int p0)], [.int (p0 &&& (h 0 2))]), (h, g, mw_R rd))) rfl ?_
    by_cases q3 : (p0 &&& (h 0 2)) = 0
    · rw [if_pos q3] at hf
      refine rh_Ex.stp (s' := ((21, [some (.ref 0), some (.int p0)], []), (h, g, mw_R rd))) rfl (st_ifeq_p q3) ?_
      refine rh_Ex.blk 1 (s' := ((22, [some (.ref 0), some (.int p0)], [.int (0 : Int32)]), (h, g, mw_R rd))) rfl ?_
      obtain rfl := Option.some.inj hf
      exact rh_Ex.ret rfl ⟨rfl, Or.inl rfl⟩
    · rw [if_neg q3] at hf
      refine rh_Ex.stp (s' := ((17, [some (.ref 0), some (.int p0)], []), (h, g, mw_R rd))) rfl (st_ifeq_n q3) ?_
      refine rh_Ex.blk 2 (s' := ((22, [some (.ref 0), some (.int p0)], [.int (1 : Int32)]), (h, g, mw_R rd))) rfl ?_
      obtain rfl := Option.some.inj hf
      exact rh_Ex.ret rfl ⟨rfl, Or.inr rfl⟩
def b_Mo_goes_17 (u1 : Int32) : (Int32 × (Nat → Nat → Int32) × (Option Nat)) → Option ((Int32 × (Nat → Nat → Int32) × (Option Nat)) ⊕ (Int32 × (Nat → Nat → Int32) × (Option Nat))) := fun s17 =>
  if (99 : Int32) < s17.1 then
    some (.inr (s17.1, s17.2.1, s17.2.2))
  else
    (f_Mo_weightOfAll s17.2.1 s17.2.2 u1 ((s17.2.1 1 (10 : Int32).toNatClampNeg) + s17.1)).bind (fun x5 =>
      if x5.1 ≤ (x5.2.1 3 (0 : Int32).toNatClampNeg) then
        some (.inr (s17.1, x5.2.1, x5.2.2))
      else
        some (.inl (s17.1 + (1 : Int32), x5.2.1, x5.2.2))
    )
def b_Mo_goes_66 (u1 : Int32) (u2 : Int32) : (Int32 × Int32 × (Nat → Nat → Int32) × (Option Nat)) → Option ((Int32 × Int32 × (Nat → Nat → Int32) × (Option Nat)) ⊕ (Int32 × (Nat → Nat → Int32) × (Option Nat))) := fun s66 =>
  if (9 : Int32) ≤ s66.2.1 then
    some (.inr (s66.1, s66.2.2.1, s66.2.2.2))
  else
    (f_Mo_weightOfAll s66.2.2.1 s66.2.2.2 u1 ((f_Mo_dawn s66.2.2.1) + s66.2.1)).bind (fun x11 =>
      if (x11.2.1 3 (0 : Int32).toNatClampNeg) < x11.1 then
        some (.inl (s66.1 + (0 : Int32), s66.2.1 + (1 : Int32), x11.2.1, x11.2.2))
      else
        some (.inl (s66.1 + (1 : Int32), s66.2.1 + (1 : Int32), x11.2.1, x11.2.2))
    )
def j_Mo_goes_52 (h : Nat → Nat → Int32) (rd : Option Nat) (p0 : Int32) (j2 : Int32) : Option (Int32 × (Nat → Nat → Int32) × (Option Nat)) :=
  if j2 ≤ (99 : Int32) then
    (rh_loop (b_Mo_goes_66 p0 j2) rh_N ((0 : Int32), (0 : Int32), h, rd)).bind (fun r13 =>
      (f_Mo_tell (rh_up r13.2.1 0 8 (0 : Int32)) r13.1).bind (fun x14 =>
        some ((j2, x14, r13.2.2))
      )
    )
  else
    some (((-2 : Int32), h, rd))
def f_Mo_goes (h : Nat → Nat → Int32) (rd : Option Nat) (p0 : Int32) : Option (Int32 × (Nat → Nat → Int32) × (Option Nat)) :=
  (f_Mo_canSetOut (rh_up h 0 9 (0 : Int32)) p0).bind (fun x1 =>
    if x1 = 0 then
      some (((-1 : Int32), rh_up h 0 9 (0 : Int32), rd))
    else
      (rh_loop (b_Mo_goes_17 p0) rh_N ((0 : Int32), rh_up h 0 9 (0 : Int32), rd)).bind (fun r7 =>
        j_Mo_goes_52 r7.2.1 r7.2.2 p0 r7.1
      )
  )
set_option maxRecDepth 20000 in
set_option maxHeartbeats 4000000 in
theorem lb_Mo_goes_17 (d : Nat) (u1 : Int32) (g : Nat → Nat → Int64) (v9 : Option Value) (h9 : rh_H) : ∀ s17 x9, b_Mo_goes_17 u1 s17 = some x9 → Sum.elim (fun s17 => rh_Ex (rh_M rh_PT mw_L (d + 268)) mw_L pg_X12_goes ((17, [some (.ref 0), some (.int u1), some (.int s17.1), none, none], []), (s17.2.1, g, mw_R s17.2.2)) v9 h9) (fun e9 => rh_Ex (rh_M rh_PT mw_L (d + 268)) mw_L pg_X12_goes ((52, [some (.ref 0), some (.int u1), some (.int e9.1), none, none], []), (e9.2.1, g, mw_R e9.2.2)) v9 h9) x9 → rh_Ex (rh_M rh_PT mw_L (d + 268)) mw_L pg_X12_goes ((17, [some (.ref 0), some (.int u1), some (.int s17.1), none, none], []), (s17.2.1, g, mw_R s17.2.2)) v9 h9 := by
  intro s17 x9 hf hk
  unfold b_Mo_goes_17 at hf
  refine rh_Ex.blk 2 (s' := ((20, [some (.ref 0), some (.int u1), some (.int s17.1), none, none], [.int (99 : Int32), .int s17.1]), (s17.2.1, g, mw_R s17.2.2))) rfl ?_
  by_cases q4 : (99 : Int32) < s17.1
  · rw [if_pos q4] at hf
    refine rh_Ex.stp (s' := ((52, [some (.ref 0), some (.int u1), some (.int s17.1), none, none], []), (s17.2.1, g, mw_R s17.2.2))) rfl (st_icgt_p q4) ?_
    obtain rfl := Option.some.inj hf
    refine rh_Ex.fgt [some (.ref 0), some (.int u1), some (.int s17.1), none, none] ⟨rfl, rfl, rfl, trivial⟩ ?_
    exact hk
  · rw [if_neg q4] at hf
    refine rh_Ex.stp (s' := ((23, [some (.ref 0), some (.int u1), some (.int s17.1), none, none], []), (s17.2.1, g, mw_R s17.2.2))) rfl (st_icgt_n q4) ?_
    refine rh_Ex.blk 5 (s' := ((31, [some (.ref 0), some (.int u1), some (.int s17.1), none, none], [.int (10 : Int32), .ref 1, .int u1, .ref 0]), (s17.2.1, g, mw_R s17.2.2))) rfl ?_
    refine rh_Ex.stp (s' := ((32, [some (.ref 0), some (.int u1), some (.int s17.1), none, none], [.int (s17.2.1 1 (10 : Int32).toNatClampNeg), .int u1, .ref 0]), (s17.2.1, g, mw_R s17.2.2))) rfl (st_iald (n := 11) rfl (by decide)) ?_
    refine rh_Ex.blk 2 (s' := ((34, [some (.ref 0), some (.int u1), some (.int s17.1), none, none], [.int ((s17.2.1 1 (10 : Int32).toNatClampNeg) + s17.1), .int u1, .ref 0]), (s17.2.1, g, mw_R s17.2.2))) rfl ?_
    obtain ⟨x5, hx5, hf⟩ := rh_bq hf
    refine rh_Ex.call (j := 207) (rc := some 11) [.ref 0, .int u1, .int ((s17.2.1 1 (10 : Int32).toNatClampNeg) + s17.1)] [] (some (.int x5.1)) rfl rfl rfl (Nat.le_of_ble_eq_true rfl) (R_Mo_weightOfAll d s17.2.2 s17.2.1 g u1 ((s17.2.1 1 (10 : Int32).toNatClampNeg) + s17.1) hx5) ?_
    show rh_Ex _ _ _ ((37, [some (.ref 0), some (.int u1), some (.int s17.1), none, none], [.int x5.1]), (x5.2.1, g, mw_R x5.2.2)) _ _
    refine rh_Ex.blk 3 (s' := ((42, [some (.ref 0), some (.int u1), some (.int s17.1), none, none], [.int (0 : Int32), .ref 3, .int x5.1]), (x5.2.1, g, mw_R x5.2.2))) rfl ?_
    refine rh_Ex.stp (s' := ((43, [some (.ref 0), some (.int u1), some (.int s17.1), none, none], [.int (x5.2.1 3 (0 : Int32).toNatClampNeg), .int x5.1]), (x5.2.1, g, mw_R x5.2.2))) rfl (st_iald (n := 3) rfl (by decide)) ?_
    by_cases q6 : x5.1 ≤ (x5.2.1 3 (0 : Int32).toNatClampNeg)
    · rw [if_pos q6] at hf
      refine rh_Ex.stp (s' := ((52, [some (.ref 0), some (.int u1), some (.int s17.1), none, none], []), (x5.2.1, g, mw_R x5.2.2))) rfl (st_icle_p q6) ?_
      obtain rfl := Option.some.inj hf
      refine rh_Ex.fgt [some (.ref 0), some (.int u1), some (.int s17.1), none, none] ⟨rfl, rfl, rfl, trivial⟩ ?_
      exact hk
    · rw [if_neg q6] at hf
      refine rh_Ex.stp (s' := ((46, [some (.ref 0), some (.int u1), some (.int s17.1), none, none], []), (x5.2.1, g, mw_R x5.2.2))) rfl (st_icle_n q6) ?_
      refine rh_Ex.blk 2 (s' := ((17, [some (.ref 0), some (.int u1), some (.int (s17.1 + (1 : Int32))), none, none], []), (x5.2.1, g, mw_R x5.2.2))) rfl ?_
      obtain rfl := Option.some.inj hf
      refine rh_Ex.fgt [some (.ref 0), some (.int u1), some (.int (s17.1 + (1 : Int32))), none, none] ⟨rfl, rfl, rfl, trivial⟩ ?_
      exact hk
set_option maxRecDepth 20000 in
set_option maxHeartbeats 4000000 in
theorem lb_Mo_goes_66 (d : Nat) (u1 : Int32) (u2 : Int32) (g : Nat → Nat → Int64) (v9 : Option Value) (h9 : rh_H) : ∀ s66 x9, b_Mo_goes_66 u1 u2 s66 = some x9 → Sum.elim (fun s66 => rh_Ex (rh_M rh_PT mw_L (d + 268)) mw_L pg_X12_goes ((66, [some (.ref 0), some (.int u1), some (.int u2), some (.int s66.1), some (.int s66.2.1)], []), (s66.2.2.1, g, mw_R s66.2.2.2)) v9 h9) (fun e9 => rh_Ex (rh_M rh_PT mw_L (d + 268)) mw_L pg_X12_goes ((108, [some (.ref 0), none, some (.int u2), some (.int e9.1), none], []), (e9.2.1, g, mw_R e9.2.2)) v9 h9) x9 → rh_Ex (rh_M rh_PT mw_L (d + 268)) mw_L pg_X12_goes ((66, [some (.ref 0), some (.int u1), some (.int u2), some (.int s66.1), some (.int s66.2.1)], []), (s66.2.2.1, g, mw_R s66.2.2.2)) v9 h9 := by
  intro s66 x9 hf hk
  unfold b_Mo_goes_66 at hf
  refine rh_Ex.blk 2 (s' := ((70, [some (.ref 0), some (.int u1), some (.int u2), some (.int s66.1), some (.int s66.2.1)], [.int (9 : Int32), .int s66.2.1]), (s66.2.2.1, g, mw_R s66.2.2.2))) rfl ?_
  by_cases q10 : (9 : Int32) ≤ s66.2.1
  · rw [if_pos q10] at hf
    refine rh_Ex.stp (s' := ((108, [some (.ref 0), some (.int u1), some (.int u2), some (.int s66.1), some (.int s66.2.1)], []), (s66.2.2.1, g, mw_R s66.2.2.2))) rfl (st_icge_p q10) ?_
    obtain rfl := Option.some.inj hf
    refine rh_Ex.fgt [some (.ref 0), none, some (.int u2), some (.int s66.1), none] ⟨rfl, rfl, rfl, trivial⟩ ?_
    exact hk
  · rw [if_neg q10] at hf
    refine rh_Ex.stp (s' := ((73, [some (.ref 0), some (.int u1), some (.int u2), some (.int s66.1), some (.int s66.2.1)], []), (s66.2.2.1, g, mw_R s66.2.2.2))) rfl (st_icge_n q10) ?_
    refine rh_Ex.blk 4 (s' := ((77, [some (.ref 0), some (.int u1), some (.int u2), some (.int s66.1), some (.int s66.2.1)], [.ref 0, .int u1, .ref 0, .int s66.1]), (s66.2.2.1, g, mw_R s66.2.2.2))) rfl ?_
    refine rh_Ex.call (j := 209) (rc := some 11) [.ref 0] [.int u1, .ref 0, .int s66.1] (some (.int (f_Mo_dawn s66.2.2.1))) rfl rfl rfl (Nat.le_of_ble_eq_true rfl) (R_Mo_dawn (d + 267) s66.2.2.2 s66.2.2.1 g  rfl) ?_
    show rh_Ex _ _ _ ((80, [some (.ref 0), some (.int u1), some (.int u2), some (.int s66.1), some (.int s66.2.1)], [.int (f_Mo_dawn s66.2.2.1), .int u1, .ref 0, .int s66.1]), (s66.2.2.1, g, mw_R s66.2.2.2)) _ _
    refine rh_Ex.blk 2 (s' := ((83, [some (.ref 0), some (.int u1), some (.int u2), some (.int s66.1), some (.int s66.2.1)], [.int ((f_Mo_dawn s66.2.2.1) + s66.2.1), .int u1, .ref 0, .int s66.1]), (s66.2.2.1, g, mw_R s66.2.2.2))) rfl ?_
    obtain ⟨x11, hx11, hf⟩ := rh_bq hf
    refine rh_Ex.call (j := 207) (rc := some 11) [.ref 0, .int u1, .int ((f_Mo_dawn s66.2.2.1) + s66.2.1)] [.int s66.1] (some (.int x11.1)) rfl rfl rfl (Nat.le_of_ble_eq_true rfl) (R_Mo_weightOfAll d s66.2.2.2 s66.2.2.1 g u1 ((f_Mo_dawn s66.2.2.1) + s66.2.1) hx11) ?_
    show rh_Ex _ _ _ ((86, [some (.ref 0), some (.int u1), some (.int u2), some (.int s66.1), some (.int s66.2.1)], [.int x11.1, .int s66.1]), (x11.2.1, g, mw_R x11.2.2)) _ _
    refine rh_Ex.blk 3 (s' := ((91, [some (.ref 0), some (.int u1), some (.int u2), some (.int s66.1), some (.int s66.2.1)], [.int (0 : Int32), .ref 3, .int x11.1, .int s66.1]), (x11.2.1, g, mw_R x11.2.2))) rfl ?_
    refine rh_Ex.stp (s' := ((92, [some (.ref 0), some (.int u1), some (.int u2), some (.int s66.1), some (.int s66.2.1)], [.int (x11.2.1 3 (0 : Int32).toNatClampNeg), .int x11.1, .int s66.1]), (x11.2.1, g, mw_R x11.2.2))) rfl (st_iald (n := 3) rfl (by decide)) ?_
    by_cases q12 : (x11.2.1 3 (0 : Int32).toNatClampNeg) < x11.1
    · rw [if_pos q12] at hf
      refine rh_Ex.stp (s' := ((99, [some (.ref 0), some (.int u1), some (.int u2), some (.int s66.1), some (.int s66.2.1)], [.int s66.1]), (x11.2.1, g, mw_R x11.2.2))) rfl (st_icgt_p q12) ?_
      refine rh_Ex.blk 5 (s' := ((66, [some (.ref 0), some (.int u1), some (.int u2), some (.int (s66.1 + (0 : Int32))), some (.int (s66.2.1 + (1 : Int32)))], []), (x11.2.1, g, mw_R x11.2.2))) rfl ?_
      obtain rfl := Option.some.inj hf
      refine rh_Ex.fgt [some (.ref 0), some (.int u1), some (.int u2), some (.int (s66.1 + (0 : Int32))), some (.int (s66.2.1 + (1 : Int32)))] ⟨rfl, rfl, rfl, rfl, rfl, trivial⟩ ?_
      exact hk
    · rw [if_neg q12] at hf
      refine rh_Ex.stp (s' := ((95, [some (.ref 0), some (.int u1), some (.int u2), some (.int s66.1), some (.int s66.2.1)], [.int s66.1]), (x11.2.1, g, mw_R x11.2.2))) rfl (st_icgt_n q12) ?_
      refine rh_Ex.blk 6 (s' := ((66, [some (.ref 0), some (.int u1), some (.int u2), some (.int (s66.1 + (1 : Int32))), some (.int (s66.2.1 + (1 : Int32)))], []), (x11.2.1, g, mw_R x11.2.2))) rfl ?_
      obtain rfl := Option.some.inj hf
      refine rh_Ex.fgt [some (.ref 0), some (.int u1), some (.int u2), some (.int (s66.1 + (1 : Int32))), some (.int (s66.2.1 + (1 : Int32)))] ⟨rfl, rfl, rfl, rfl, rfl, trivial⟩ ?_
      exact hk
set_option maxRecDepth 20000 in
set_option maxHeartbeats 4000000 in
theorem lj_Mo_goes_52 (d : Nat) (h : Nat → Nat → Int32) (rd : Option Nat) (p0 : Int32) (j2 : Int32) (g : Nat → Nat → Int64) {z9 : Int32 × (Nat → Nat → Int32) × (Option Nat)} (hf : j_Mo_goes_52 h rd p0 j2 = some z9) : rh_Ex (rh_M rh_PT mw_L (d + 268)) mw_L pg_X12_goes ((52, [some (.ref 0), some (.int p0), some (.int j2), none, none], []), (h, g, mw_R rd)) (some (.int z9.1)) (z9.2.1, g, mw_R z9.2.2) := by
  unfold j_Mo_goes_52 at hf
  refine rh_Ex.blk 2 (s' := ((55, [some (.ref 0), some (.int p0), some (.int j2), none, none], [.int (99 : Int32), .int j2]), (h, g, mw_R rd))) rfl ?_
  by_cases q8 : j2 ≤ (99 : Int32)
  · rw [if_pos q8] at hf
    refine rh_Ex.stp (s' := ((61, [some (.ref 0), some (.int p0), some (.int j2), none, none], []), (h, g, mw_R rd))) rfl (st_icle_p q8) ?_
    refine rh_Ex.blk 4 (s' := ((66, [some (.ref 0), some (.int p0), some (.int j2), some (.int (0 : Int32)), some (.int (0 : Int32))], []), (h, g, mw_R rd))) rfl ?_
    obtain ⟨r13, hr13, hf⟩ := rh_bq hf
    refine rh_Ex.fgt [some (.ref 0), some (.int p0), some (.int j2), some (.int (0 : Int32)), some (.int (0 : Int32))] ⟨rfl, rfl, rfl, rfl, rfl, trivial⟩ ?_
    refine rh_Ex.loop _ _ _ (lb_Mo_goes_66 d p0 j2  g _ _) rh_N _ r13 hr13 ?_
    refine rh_Ex.blk 5 (s' := ((115, [some (.ref 0), none, some (.int j2), some (.int r13.1), none], [.int r13.1, .ref 0]), (rh_up r13.2.1 0 8 (0 : Int32), g, mw_R r13.2.2))) rfl ?_
    obtain ⟨x14, hx14, hf⟩ := rh_bq hf
    refine rh_Ex.call (j := 182) (rc := some 11) [.ref 0, .int r13.1] [] none rfl rfl rfl (Nat.le_of_ble_eq_true rfl) (R_Mo_tell (d + 267) r13.2.2 (rh_up r13.2.1 0 8 (0 : Int32)) g r13.1 hx14) ?_
    show rh_Ex _ _ _ ((118, [some (.ref 0), none, some (.int j2), some (.int r13.1), none], []), (x14, g, mw_R r13.2.2)) _ _
    refine rh_Ex.blk 1 (s' := ((119, [some (.ref 0), none, some (.int j2), some (.int r13.1), none], [.int j2]), (x14, g, mw_R r13.2.2))) rfl ?_
    obtain rfl := Option.some.inj hf
    exact rh_Ex.ret rfl rfl
  · rw [if_neg q8] at hf
    refine rh_Ex.stp (s' := ((58, [some (.ref 0), some (.int p0), some (.int j2), none, none], []), (h, g, mw_R rd))) rfl (st_icle_n q8) ?_
    refine rh_Ex.blk 1 (s' := ((60, [some (.ref 0), some (.int p0), some (.int j2), none, none], [.int (-2 : Int32)]), (h, g, mw_R rd))) rfl ?_
    obtain rfl := Option.some.inj hf
    exact rh_Ex.ret rfl rfl
set_option maxRecDepth 20000 in
set_option maxHeartbeats 4000000 in
theorem R_Mo_goes (d : Nat) (rd : Option Nat) (h : Nat → Nat → Int32) (g : Nat → Nat → Int64) (p0 : Int32) {z9 : Int32 × (Nat → Nat → Int32) × (Option Nat)} (hf : f_Mo_goes h rd p0 = some z9) : rh_M rh_PT mw_L (d + 269) 255 [.ref 0, .int p0] (h, g, mw_R rd) (some (.int z9.1)) (z9.2.1, g, mw_R z9.2.2) := by
  unfold f_Mo_goes at hf
  refine rh_go pt_255 (Nat.le_of_ble_eq_true rfl) (lv := [some (.ref 0), some (.int p0), none, none, none]) rfl ?_
  refine rh_Ex.blk 5 (s' := ((7, [some (.ref 0), some (.int p0), none, none, none], [.int p0, .ref 0]), (rh_up h 0 9 (0 : Int32), g, mw_R rd))) rfl ?_
  obtain ⟨x1, hx1, hf⟩ := rh_bq hf
  refine rh_Ex.call (j := 254) (rc := some 11) [.ref 0, .int p0] [] (some (.int x1)) rfl rfl rfl (Nat.le_of_ble_eq_true rfl) (R_Mo_canSetOut (d + 265) rd (rh_up h 0 9 (0 : Int32)) g p0 hx1) ?_
  show rh_Ex _ _ _ ((10, [some (.ref 0), some (.int p0), none, none, none], [.int x1]), (rh_up h 0 9 (0 : Int32), g, mw_R rd)) _ _
  by_cases q2 : x1 = 0
  · rw [if_pos q2] at hf
    refine rh_Ex.stp (s' := ((13, [some (.ref 0), some (.int p0), none, none, none], []), (rh_up h 0 9 (0 : Int32), g, mw_R rd))) rfl (st_ifne_p q2) ?_
    refine rh_Ex.blk 1 (s' := ((14, [some (.ref 0), some (.int p0), none, none, none], [.int (-1 : Int32)]), (rh_up h 0 9 (0 : Int32), g, mw_R rd))) rfl ?_
    obtain rfl := Option.some.inj hf
    exact rh_Ex.ret rfl rfl
  · rw [if_neg q2] at hf
    refine rh_Ex.stp (s' := ((15, [some (.ref 0), some (.int p0), none, none, none], []), (rh_up h 0 9 (0 : Int32), g, mw_R rd))) rfl (st_ifne_n q2) ?_
    refine rh_Ex.blk 2 (s' := ((17, [some (.ref 0), some (.int p0), some (.int (0 : Int32)), none, none], []), (rh_up h 0 9 (0 : Int32), g, mw_R rd))) rfl ?_
    obtain ⟨r7, hr7, hf⟩ := rh_bq hf
    refine rh_Ex.fgt [some (.ref 0), some (.int p0), some (.int (0 : Int32)), none, none] ⟨rfl, rfl, rfl, trivial⟩ ?_
    refine rh_Ex.loop _ _ _ (lb_Mo_goes_17 d p0  g _ _) rh_N _ r7 hr7 ?_
    refine rh_Ex.fgt [some (.ref 0), some (.int p0), some (.int r7.1), none, none] ⟨rfl, rfl, rfl, trivial⟩ ?_
    exact lj_Mo_goes_52 d r7.2.1 r7.2.2 p0 r7.1 g hf
def b_Mo_cross_105 (u1 : Int32) (u2 : Int32) (u3 : Int32) (u4 : Int32) (u5 : Int32) (u6 : Int32) (h : Nat → Nat → Int32) (rd : Option Nat) : (Int32) → Option ((Int32) ⊕ (Int32)) := fun s105 =>
  (f_Mo_canCross h s105 u6).bind (fun x12 =>
    if x12 = 0 then
      some (.inl (s105 + (1 : Int32)))
    else
      rh_g (0 ≤ (((512 : Int32) * (u5 + (1 : Int32))) + (u4 ^^^ s105)).toInt ∧ (((512 : Int32) * (u5 + (1 : Int32))) + (u4 ^^^ s105)).toInt < ((10752 : Nat) : Int)) (
        if (h 19 (((512 : Int32) * (u5 + (1 : Int32))) + (u4 ^^^ s105)).toNatClampNeg) = 0 then
          some (.inl (s105 + (1 : Int32)))
        else
          some (.inr s105)
      )
  )
def j_Mo_cross_100 (h : Nat → Nat → Int32) (rd : Option Nat) (u1 : Int32) (u2 : Int32) (u3 : Int32) (j4 : Int32) (j5 : Int32) (k0 : Int32) : Option ((Int32 × Int32 × (Nat → Nat → Int32) × (Option Nat)) ⊕ ((Nat → Nat → Int32) × (Option Nat))) :=
  (rh_loop (b_Mo_cross_105 u1 u2 u3 j4 j5 k0 h rd) rh_N (1 : Int32)).bind (fun r16 =>
    if (10 : Int32) ≤ j5 then
      some (.inl (j4 ^^^ r16, j5 + (1 : Int32), h, rd))
    else
      (f_Mo_tell h r16).bind (fun x18 =>
        some (.inl (j4 ^^^ r16, j5 + (1 : Int32), x18, rd))
      )
  )
def b_Mo_cross_60 (u1 : Int32) (u2 : Int32) (u3 : Int32) : (Int32 × Int32 × (Nat → Nat → Int32) × (Option Nat)) → Option ((Int32 × Int32 × (Nat → Nat → Int32) × (Option Nat)) ⊕ ((Nat → Nat → Int32) × (Option Nat))) := fun s60 =>
  if u3 ≤ s60.2.1 then
    some (.inr (s60.2.2.1, s60.2.2.2))
  else
    (f_Mo_findSets s60.2.2.1 s60.2.2.2 (((s60.2.2.1 1 (10 : Int32).toNatClampNeg) + u2) + s60.2.1)).bind (fun x9 =>
      if (s60.2.1 - s60.2.1 / (2 : Int32) * (2 : Int32)) = 0 then
        j_Mo_cross_100 x9.1 x9.2 u1 u2 u3 s60.1 s60.2.1 s60.1
      else
        j_Mo_cross_100 x9.1 x9.2 u1 u2 u3 s60.1 s60.2.1 (u1 &&& (s60.1 ^^^ (-1 : Int32)))
    )
def f_Mo_cross (h : Nat → Nat → Int32) (rd : Option Nat) (p0 : Int32) (p1 : Int32) : Option (Int32 × (Nat → Nat → Int32) × (Option Nat)) :=
  (f_Mo_canSetOut (rh_up h 0 9 (0 : Int32)) p0).bind (fun x1 =>
    if x1 = 0 then
      some (((-1 : Int32), rh_up h 0 9 (0 : Int32), rd))
    else
      if (f_Mo_in p1 (0 : Int32) (99 : Int32)) = 0 then
        some (((-1 : Int32), rh_up h 0 9 (0 : Int32), rd))
      else
        (f_Mo_findCross (rh_up h 0 9 (0 : Int32)) rd p0 p1).bind (fun x4 =>
          if x4.1 = (1000000 : Int32) then
            some (((-2 : Int32), x4.2.1, x4.2.2))
          else
            (f_Mo_findGood x4.2.1 x4.2.2 p0 p1 x4.1).bind (fun x6 =>
              (rh_loop (b_Mo_cross_60 p0 p1 x4.1) rh_N (p0, (0 : Int32), rh_up x6.1 0 8 (0 : Int32), x6.2)).bind (fun r19 =>
                some ((x4.1, r19.1, r19.2))
              )
            )
        )
  )
set_option maxRecDepth 20000 in
set_option maxHeartbeats 4000000 in
theorem lb_Mo_cross_105 (d : Nat) (u1 : Int32) (u2 : Int32) (u3 : Int32) (u4 : Int32) (u5 : Int32) (u6 : Int32) (h : Nat → Nat → Int32) (rd : Option Nat) (g : Nat → Nat → Int64) (v9 : Option Value) (h9 : rh_H) : ∀ s105 x9, b_Mo_cross_105 u1 u2 u3 u4 u5 u6 h rd s105 = some x9 → Sum.elim (fun s105 => rh_Ex (rh_M rh_PT mw_L (d + 269)) mw_L pg_X12_cross ((105, [some (.ref 0), some (.int u1), some (.int u2), some (.int u3), some (.int u4), some (.int u5), some (.int u6), some (.int s105)], []), (h, g, mw_R rd)) v9 h9) (fun e9 => rh_Ex (rh_M rh_PT mw_L (d + 269)) mw_L pg_X12_cross ((144, [some (.ref 0), some (.int u1), some (.int u2), some (.int u3), some (.int u4), some (.int u5), none, some (.int e9)], []), (h, g, mw_R rd)) v9 h9) x9 → rh_Ex (rh_M rh_PT mw_L (d + 269)) mw_L pg_X12_cross ((105, [some (.ref 0), some (.int u1), some (.int u2), some (.int u3), some (.int u4), some (.int u5), some (.int u6), some (.int s105)], []), (h, g, mw_R rd)) v9 h9 := by
  intro s105 x9 hf hk
  unfold b_Mo_cross_105 at hf
  refine rh_Ex.blk 3 (s' := ((110, [some (.ref 0), some (.int u1), some (.int u2), some (.int u3), some (.int u4), some (.int u5), some (.int u6), some (.int s105)], [.int u6, .int s105, .ref 0]), (h, g, mw_R rd))) rfl ?_
  obtain ⟨x12, hx12, hf⟩ := rh_bq hf
  refine rh_Ex.call (j := 251) (rc := some 11) [.ref 0, .int s105, .int u6] [] (some (.int x12)) rfl rfl rfl (Nat.le_of_ble_eq_true rfl) (R_Mo_canCross (d + 268) rd h g s105 u6 hx12) ?_
  show rh_Ex _ _ _ ((113, [some (.ref 0), some (.int u1), some (.int u2), some (.int u3), some (.int u4), some (.int u5), some (.int u6), some (.int s105)], [.int x12]), (h, g, mw_R rd)) _ _
  by_cases q13 : x12 = 0
  · rw [if_pos q13] at hf
    refine rh_Ex.stp (s' := ((138, [some (.ref 0), some (.int u1), some (.int u2), some (.int u3), some (.int u4), some (.int u5), some (.int u6), some (.int s105)], []), (h, g, mw_R rd))) rfl (st_ifeq_p q13) ?_
    refine rh_Ex.blk 2 (s' := ((105, [some (.ref 0), some (.int u1), some (.int u2), some (.int u3), some (.int u4), some (.int u5), some (.int u6), some (.int (s105 + (1 : Int32)))], []), (h, g, mw_R rd))) rfl ?_
    obtain rfl := Option.some.inj hf
    refine rh_Ex.fgt [some (.ref 0), some (.int u1), some (.int u2), some (.int u3), some (.int u4), some (.int u5), some (.int u6), some (.int (s105 + (1 : Int32)))] ⟨rfl, rfl, rfl, rfl, rfl, rfl, rfl, rfl, trivial⟩ ?_
    exact hk
  · rw [if_neg q13] at hf
    refine rh_Ex.stp (s' := ((116, [some (.ref 0), some (.int u1), some (.int u2), some (.int u3), some (.int u4), some (.int u5), some (.int u6), some (.int s105)], []), (h, g, mw_R rd))) rfl (st_ifeq_n q13) ?_
    refine rh_Ex.blk 11 (s' := ((134, [some (.ref 0), some (.int u1), some (.int u2), some (.int u3), some (.int u4), some (.int u5), some (.int u6), some (.int s105)], [.int (((512 : Int32) * (u5 + (1 : Int32))) + (u4 ^^^ s105)), .ref 19]), (h, g, mw_R rd))) rfl ?_
    obtain ⟨q14, hf⟩ := rh_gq hf
    refine rh_Ex.stp (s' := ((135, [some (.ref 0), some (.int u1), some (.int u2), some (.int u3), some (.int u4), some (.int u5), some (.int u6), some (.int s105)], [.int (h 19 (((512 : Int32) * (u5 + (1 : Int32))) + (u4 ^^^ s105)).toNatClampNeg)]), (h, g, mw_R rd))) rfl (st_zald (n := 10752) rfl q14) ?_
    by_cases q15 : (h 19 (((512 : Int32) * (u5 + (1 : Int32))) + (u4 ^^^ s105)).toNatClampNeg) = 0
    · rw [if_pos q15] at hf
      refine rh_Ex.stp (s' := ((138, [some (.ref 0), some (.int u1), some (.int u2), some (.int u3), some (.int u4), some (.int u5), some (.int u6), some (.int s105)], []), (h, g, mw_R rd))) rfl (st_ifne_p q15) ?_
      refine rh_Ex.blk 2 (s' := ((105, [some (.ref 0), some (.int u1), some (.int u2), some (.int u3), some (.int u4), some (.int u5), some (.int u6), some (.int (s105 + (1 : Int32)))], []), (h, g, mw_R rd))) rfl ?_
      obtain rfl := Option.some.inj hf
      refine rh_Ex.fgt [some (.ref 0), some (.int u1), some (.int u2), some (.int u3), some (.int u4), some (.int u5), some (.int u6), some (.int (s105 + (1 : Int32)))] ⟨rfl, rfl, rfl, rfl, rfl, rfl, rfl, rfl, trivial⟩ ?_
      exact hk
    · rw [if_neg q15] at hf
      refine rh_Ex.stp (s' := ((144, [some (.ref 0), some (.int u1), some (.int u2), some (.int u3), some (.int u4), some (.int u5), some (.int u6), some (.int s105)], []), (h, g, mw_R rd))) rfl (st_ifne_n q15) ?_
      obtain rfl := Option.some.inj hf
      refine rh_Ex.fgt [some (.ref 0), some (.int u1), some (.int u2), some (.int u3), some (.int u4), some (.int u5), none, some (.int s105)] ⟨rfl, rfl, rfl, rfl, rfl, rfl, rfl, trivial⟩ ?_
      exact hk
set_option maxRecDepth 20000 in
set_option maxHeartbeats 4000000 in
theorem lj_Mo_cross_100 (d : Nat) (h : Nat → Nat → Int32) (rd : Option Nat) (u1 : Int32) (u2 : Int32) (u3 : Int32) (j4 : Int32) (j5 : Int32) (k0 : Int32) (g : Nat → Nat → Int64) (v9 : Option Value) (h9 : rh_H) (x9 : (Int32 × Int32 × (Nat → Nat → Int32) × (Option Nat)) ⊕ ((Nat → Nat → Int32) × (Option Nat))) (hf : j_Mo_cross_100 h rd u1 u2 u3 j4 j5 k0 = some x9) (hk : Sum.elim (fun s60 => rh_Ex (rh_M rh_PT mw_L (d + 269)) mw_L pg_X12_cross ((60, [some (.ref 0), some (.int u1), some (.int u2), some (.int u3), some (.int s60.1), some (.int s60.2.1), none, none], []), (s60.2.2.1, g, mw_R s60.2.2.2)) v9 h9) (fun e9 => rh_Ex (rh_M rh_PT mw_L (d + 269)) mw_L pg_X12_cross ((170, [none, none, none, some (.int u3), none, none, none, none], []), (e9.1, g, mw_R e9.2)) v9 h9) x9) : rh_Ex (rh_M rh_PT mw_L (d + 269)) mw_L pg_X12_cross ((100, [some (.ref 0), some (.int u1), some (.int u2), some (.int u3), some (.int j4), some (.int j5), none, none], [.int k0]), (h, g, mw_R rd)) v9 h9 := by
  unfold j_Mo_cross_100 at hf
  refine rh_Ex.blk 3 (s' := ((105, [some (.ref 0), some (.int u1), some (.int u2), some (.int u3), some (.int j4), some (.int j5), some (.int k0), some (.int (1 : Int32))], []), (h, g, mw_R rd))) rfl ?_
  obtain ⟨r16, hr16, hf⟩ := rh_bq hf
  refine rh_Ex.fgt [some (.ref 0), some (.int u1), some (.int u2), some (.int u3), some (.int j4), some (.int j5), some (.int k0), some (.int (1 : Int32))] ⟨rfl, rfl, rfl, rfl, rfl, rfl, rfl, rfl, trivial⟩ ?_
  refine rh_Ex.loop _ _ _ (lb_Mo_cross_105 d u1 u2 u3 j4 j5 k0 h rd  g _ _) rh_N _ r16 hr16 ?_
  refine rh_Ex.blk 2 (s' := ((148, [some (.ref 0), some (.int u1), some (.int u2), some (.int u3), some (.int j4), some (.int j5), none, some (.int r16)], [.int (10 : Int32), .int j5]), (h, g, mw_R rd))) rfl ?_
  by_cases q17 : (10 : Int32) ≤ j5
  · rw [if_pos q17] at hf
    refine rh_Ex.stp (s' := ((157, [some (.ref 0), some (.int u1), some (.int u2), some (.int u3), some (.int j4), some (.int j5), none, some (.int r16)], []), (h, g, mw_R rd))) rfl (st_icge_p q17) ?_
    refine rh_Ex.blk 6 (s' := ((60, [some (.ref 0), some (.int u1), some (.int u2), some (.int u3), some (.int (j4 ^^^ r16)), some (.int (j5 + (1 : Int32))), none, some (.int r16)], []), (h, g, mw_R rd))) rfl ?_
    obtain rfl := Option.some.inj hf
    refine rh_Ex.fgt [some (.ref 0), some (.int u1), some (.int u2), some (.int u3), some (.int (j4 ^^^ r16)), some (.int (j5 + (1 : Int32))), none, none] ⟨rfl, rfl, rfl, rfl, rfl, rfl, trivial⟩ ?_
    exact hk
  · rw [if_neg q17] at hf
    refine rh_Ex.stp (s' := ((151, [some (.ref 0), some (.int u1), some (.int u2), some (.int u3), some (.int j4), some (.int j5), none, some (.int r16)], []), (h, g, mw_R rd))) rfl (st_icge_n q17) ?_
    refine rh_Ex.blk 2 (s' := ((154, [some (.ref 0), some (.int u1), some (.int u2), some (.int u3), some (.int j4), some (.int j5), none, some (.int r16)], [.int r16, .ref 0]), (h, g, mw_R rd))) rfl ?_
    obtain ⟨x18, hx18, hf⟩ := rh_bq hf
    refine rh_Ex.call (j := 182) (rc := some 11) [.ref 0, .int r16] [] none rfl rfl rfl (Nat.le_of_ble_eq_true rfl) (R_Mo_tell (d + 268) rd h g r16 hx18) ?_
    show rh_Ex _ _ _ ((157, [some (.ref 0), some (.int u1), some (.int u2), some (.int u3), some (.int j4), some (.int j5), none, some (.int r16)], []), (x18, g, mw_R rd)) _ _
    refine rh_Ex.blk 6 (s' := ((60, [some (.ref 0), some (.int u1), some (.int u2), some (.int u3), some (.int (j4 ^^^ r16)), some (.int (j5 + (1 : Int32))), none, some (.int r16)], []), (x18, g, mw_R rd))) rfl ?_
    obtain rfl := Option.some.inj hf
    refine rh_Ex.fgt [some (.ref 0), some (.int u1), some (.int u2), some (.int u3), some (.int (j4 ^^^ r16)), some (.int (j5 + (1 : Int32))), none, none] ⟨rfl, rfl, rfl, rfl, rfl, rfl, trivial⟩ ?_
    exact hk
set_option maxRecDepth 20000 in
set_option maxHeartbeats 4000000 in
theorem lb_Mo_cross_60 (d : Nat) (u1 : Int32) (u2 : Int32) (u3 : Int32) (g : Nat → Nat → Int64) (v9 : Option Value) (h9 : rh_H) : ∀ s60 x9, b_Mo_cross_60 u1 u2 u3 s60 = some x9 → Sum.elim (fun s60 => rh_Ex (rh_M rh_PT mw_L (d + 269)) mw_L pg_X12_cross ((60, [some (.ref 0), some (.int u1), some (.int u2), some (.int u3), some (.int s60.1), some (.int s60.2.1), none, none], []), (s60.2.2.1, g, mw_R s60.2.2.2)) v9 h9) (fun e9 => rh_Ex (rh_M rh_PT mw_L (d + 269)) mw_L pg_X12_cross ((170, [none, none, none, some (.int u3), none, none, none, none], []), (e9.1, g, mw_R e9.2)) v9 h9) x9 → rh_Ex (rh_M rh_PT mw_L (d + 269)) mw_L pg_X12_cross ((60, [some (.ref 0), some (.int u1), some (.int u2), some (.int u3), some (.int s60.1), some (.int s60.2.1), none, none], []), (s60.2.2.1, g, mw_R s60.2.2.2)) v9 h9 := by
  intro s60 x9 hf hk
  unfold b_Mo_cross_60 at hf
  refine rh_Ex.blk 2 (s' := ((63, [some (.ref 0), some (.int u1), some (.int u2), some (.int u3), some (.int s60.1), some (.int s60.2.1), none, none], [.int u3, .int s60.2.1]), (s60.2.2.1, g, mw_R s60.2.2.2))) rfl ?_
  by_cases q8 : u3 ≤ s60.2.1
  · rw [if_pos q8] at hf
    refine rh_Ex.stp (s' := ((170, [some (.ref 0), some (.int u1), some (.int u2), some (.int u3), some (.int s60.1), some (.int s60.2.1), none, none], []), (s60.2.2.1, g, mw_R s60.2.2.2))) rfl (st_icge_p q8) ?_
    obtain rfl := Option.some.inj hf
    refine rh_Ex.fgt [none, none, none, some (.int u3), none, none, none, none] ⟨rfl, trivial⟩ ?_
    exact hk
  · rw [if_neg q8] at hf
    refine rh_Ex.stp (s' := ((66, [some (.ref 0), some (.int u1), some (.int u2), some (.int u3), some (.int s60.1), some (.int s60.2.1), none, none], []), (s60.2.2.1, g, mw_R s60.2.2.2))) rfl (st_icge_n q8) ?_
    refine rh_Ex.blk 4 (s' := ((73, [some (.ref 0), some (.int u1), some (.int u2), some (.int u3), some (.int s60.1), some (.int s60.2.1), none, none], [.int (10 : Int32), .ref 1, .ref 0]), (s60.2.2.1, g, mw_R s60.2.2.2))) rfl ?_
    refine rh_Ex.stp (s' := ((74, [some (.ref 0), some (.int u1), some (.int u2), some (.int u3), some (.int s60.1), some (.int s60.2.1), none, none], [.int (s60.2.2.1 1 (10 : Int32).toNatClampNeg), .ref 0]), (s60.2.2.1, g, mw_R s60.2.2.2))) rfl (st_iald (n := 11) rfl (by decide)) ?_
    refine rh_Ex.blk 4 (s' := ((79, [some (.ref 0), some (.int u1), some (.int u2), some (.int u3), some (.int s60.1), some (.int s60.2.1), none, none], [.int (((s60.2.2.1 1 (10 : Int32).toNatClampNeg) + u2) + s60.2.1), .ref 0]), (s60.2.2.1, g, mw_R s60.2.2.2))) rfl ?_
    obtain ⟨x9, hx9, hf⟩ := rh_bq hf
    refine rh_Ex.call (j := 208) (rc := some 11) [.ref 0, .int (((s60.2.2.1 1 (10 : Int32).toNatClampNeg) + u2) + s60.2.1)] [] none rfl rfl rfl (Nat.le_of_ble_eq_true rfl) (R_Mo_findSets (d + 1) s60.2.2.2 s60.2.2.1 g (((s60.2.2.1 1 (10 : Int32).toNatClampNeg) + u2) + s60.2.1) hx9) ?_
    show rh_Ex _ _ _ ((82, [some (.ref 0), some (.int u1), some (.int u2), some (.int u3), some (.int s60.1), some (.int s60.2.1), none, none], []), (x9.1, g, mw_R x9.2)) _ _
    refine rh_Ex.blk 2 (s' := ((85, [some (.ref 0), some (.int u1), some (.int u2), some (.int u3), some (.int s60.1), some (.int s60.2.1), none, none], [.int (2 : Int32), .int s60.2.1]), (x9.1, g, mw_R x9.2))) rfl ?_
    refine rh_Ex.stp (s' := ((86, [some (.ref 0), some (.int u1), some (.int u2), some (.int u3), some (.int s60.1), some (.int s60.2.1), none, none], [.int (s60.2.1 - s60.2.1 / (2 : Int32) * (2 : Int32))]), (x9.1, g, mw_R x9.2))) rfl (st_irem (by decide)) ?_
    by_cases q10 : (s60.2.1 - s60.2.1 / (2 : Int32) * (2 : Int32)) = 0
    · rw [if_pos q10] at hf
      refine rh_Ex.stp (s' := ((89, [some (.ref 0), some (.int u1), some (.int u2), some (.int u3), some (.int s60.1), some (.int s60.2.1), none, none], []), (x9.1, g, mw_R x9.2))) rfl (st_ifne_p q10) ?_
      refine rh_Ex.blk 2 (s' := ((100, [some (.ref 0), some (.int u1), some (.int u2), some (.int u3), some (.int s60.1), some (.int s60.2.1), none, none], [.int s60.1]), (x9.1, g, mw_R x9.2))) rfl ?_
      refine rh_Ex.fgt [some (.ref 0), some (.int u1), some (.int u2), some (.int u3), some (.int s60.1), some (.int s60.2.1), none, none] ⟨rfl, rfl, rfl, rfl, rfl, rfl, trivial⟩ ?_
      exact lj_Mo_cross_100 d x9.1 x9.2 u1 u2 u3 s60.1 s60.2.1 s60.1 g _ _ _ hf hk
    · rw [if_neg q10] at hf
      refine rh_Ex.stp (s' := ((94, [some (.ref 0), some (.int u1), some (.int u2), some (.int u3), some (.int s60.1), some (.int s60.2.1), none, none], []), (x9.1, g, mw_R x9.2))) rfl (st_ifne_n q10) ?_
      refine rh_Ex.blk 5 (s' := ((100, [some (.ref 0), some (.int u1), some (.int u2), some (.int u3), some (.int s60.1), some (.int s60.2.1), none, none], [.int (u1 &&& (s60.1 ^^^ (-1 : Int32)))]), (x9.1, g, mw_R x9.2))) rfl ?_
      refine rh_Ex.fgt [some (.ref 0), some (.int u1), some (.int u2), some (.int u3), some (.int s60.1), some (.int s60.2.1), none, none] ⟨rfl, rfl, rfl, rfl, rfl, rfl, trivial⟩ ?_
      exact lj_Mo_cross_100 d x9.1 x9.2 u1 u2 u3 s60.1 s60.2.1 (u1 &&& (s60.1 ^^^ (-1 : Int32))) g _ _ _ hf hk
set_option maxRecDepth 20000 in
set_option maxHeartbeats 4000000 in
theorem R_Mo_cross (d : Nat) (rd : Option Nat) (h : Nat → Nat → Int32) (g : Nat → Nat → Int64) (p0 : Int32) (p1 : Int32) {z9 : Int32 × (Nat → Nat → Int32) × (Option Nat)} (hf : f_Mo_cross h rd p0 p1 = some z9) : rh_M rh_PT mw_L (d + 270) 256 [.ref 0, .int p0, .int p1] (h, g, mw_R rd) (some (.int z9.1)) (z9.2.1, g, mw_R z9.2.2) := by
  unfold f_Mo_cross at hf
  refine rh_go pt_256 (Nat.le_of_ble_eq_true rfl) (lv := [some (.ref 0), some (.int p0), some (.int p1), none, none, none, none, none]) rfl ?_
  refine rh_Ex.blk 5 (s' := ((7, [some (.ref 0), some (.int p0), some (.int p1), none, none, none, none, none], [.int p0, .ref 0]), (rh_up h 0 9 (0 : Int32), g, mw_R rd))) rfl ?_
  obtain ⟨x1, hx1, hf⟩ := rh_bq hf
  refine rh_Ex.call (j := 254) (rc := some 11) [.ref 0, .int p0] [] (some (.int x1)) rfl rfl rfl (Nat.le_of_ble_eq_true rfl) (R_Mo_canSetOut (d + 266) rd (rh_up h 0 9 (0 : Int32)) g p0 hx1) ?_
  show rh_Ex _ _ _ ((10, [some (.ref 0), some (.int p0), some (.int p1), none, none, none, none, none], [.int x1]), (rh_up h 0 9 (0 : Int32), g, mw_R rd)) _ _
  by_cases q2 : x1 = 0
  · rw [if_pos q2] at hf
    refine rh_Ex.stp (s' := ((23, [some (.ref 0), some (.int p0), some (.int p1), none, none, none, none, none], []), (rh_up h 0 9 (0 : Int32), g, mw_R rd))) rfl (st_ifeq_p q2) ?_
    refine rh_Ex.blk 1 (s' := ((24, [some (.ref 0), some (.int p0), some (.int p1), none, none, none, none, none], [.int (-1 : Int32)]), (rh_up h 0 9 (0 : Int32), g, mw_R rd))) rfl ?_
    obtain rfl := Option.some.inj hf
    exact rh_Ex.ret rfl rfl
  · rw [if_neg q2] at hf
    refine rh_Ex.stp (s' := ((13, [some (.ref 0), some (.int p0), some (.int p1), none, none, none, none, none], []), (rh_up h 0 9 (0 : Int32), g, mw_R rd))) rfl (st_ifeq_n q2) ?_
    refine rh_Ex.blk 3 (s' := ((17, [some (.ref 0), some (.int p0), some (.int p1), none, none, none, none, none], [.int (99 : Int32), .int (0 : Int32), .int p1]), (rh_up h 0 9 (0 : Int32), g, mw_R rd))) rfl ?_
    refine rh_Ex.call (j := 179) (rc := none) [.int p1, .int (0 : Int32), .int (99 : Int32)] [] (some (.int (f_Mo_in p1 (0 : Int32) (99 : Int32)))) rfl rfl trivial (Nat.le_of_ble_eq_true rfl) (R_Mo_in (d + 268) mw_L (mw_R rd) (rh_up h 0 9 (0 : Int32)) g p1 (0 : Int32) (99 : Int32) rfl) ?_
    show rh_Ex _ _ _ ((20, [some (.ref 0), some (.int p0), some (.int p1), none, none, none, none, none], [.int (f_Mo_in p1 (0 : Int32) (99 : Int32))]), (rh_up h 0 9 (0 : Int32), g, mw_R rd)) _ _
    by_cases q3 : (f_Mo_in p1 (0 : Int32) (99 : Int32)) = 0
    · rw [if_pos q3] at hf
      refine rh_Ex.stp (s' := ((23, [some (.ref 0), some (.int p0), some (.int p1), none, none, none, none, none], []), (rh_up h 0 9 (0 : Int32), g, mw_R rd))) rfl (st_ifne_p q3) ?_
      refine rh_Ex.blk 1 (s' := ((24, [some (.ref 0), some (.int p0), some (.int p1), none, none, none, none, none], [.int (-1 : Int32)]), (rh_up h 0 9 (0 : Int32), g, mw_R rd))) rfl ?_
      obtain rfl := Option.some.inj hf
      exact rh_Ex.ret rfl rfl
    · rw [if_neg q3] at hf
      refine rh_Ex.stp (s' := ((25, [some (.ref 0), some (.int p0), some (.int p1), none, none, none, none, none], []), (rh_up h 0 9 (0 : Int32), g, mw_R rd))) rfl (st_ifne_n q3) ?_
      refine rh_Ex.blk 3 (s' := ((28, [some (.ref 0), some (.int p0), some (.int p1), none, none, none, none, none], [.int p1, .int p0, .ref 0]), (rh_up h 0 9 (0 : Int32), g, mw_R rd))) rfl ?_
      obtain ⟨x4, hx4, hf⟩ := rh_bq hf
      refine rh_Ex.call (j := 252) (rc := some 11) [.ref 0, .int p0, .int p1] [] (some (.int x4.1)) rfl rfl rfl (Nat.le_of_ble_eq_true rfl) (R_Mo_findCross d rd (rh_up h 0 9 (0 : Int32)) g p0 p1 hx4) ?_
      show rh_Ex _ _ _ ((31, [some (.ref 0), some (.int p0), some (.int p1), none, none, none, none, none], [.int x4.1]), (x4.2.1, g, mw_R x4.2.2)) _ _
      refine rh_Ex.blk 3 (s' := ((36, [some (.ref 0), some (.int p0), some (.int p1), some (.int x4.1), none, none, none, none], [.int (1000000 : Int32), .int x4.1]), (x4.2.1, g, mw_R x4.2.2))) rfl ?_
      by_cases q5 : x4.1 = (1000000 : Int32)
      · rw [if_pos q5] at hf
        refine rh_Ex.stp (s' := ((39, [some (.ref 0), some (.int p0), some (.int p1), some (.int x4.1), none, none, none, none], []), (x4.2.1, g, mw_R x4.2.2))) rfl (st_icne_p q5) ?_
        refine rh_Ex.blk 1 (s' := ((41, [some (.ref 0), some (.int p0), some (.int p1), some (.int x4.1), none, none, none, none], [.int (-2 : Int32)]), (x4.2.1, g, mw_R x4.2.2))) rfl ?_
        obtain rfl := Option.some.inj hf
        exact rh_Ex.ret rfl rfl
      · rw [if_neg q5] at hf
        refine rh_Ex.stp (s' := ((42, [some (.ref 0), some (.int p0), some (.int p1), some (.int x4.1), none, none, none, none], []), (x4.2.1, g, mw_R x4.2.2))) rfl (st_icne_n q5) ?_
        refine rh_Ex.blk 4 (s' := ((46, [some (.ref 0), some (.int p0), some (.int p1), some (.int x4.1), none, none, none, none], [.int x4.1, .int p1, .int p0, .ref 0]), (x4.2.1, g, mw_R x4.2.2))) rfl ?_
        obtain ⟨x6, hx6, hf⟩ := rh_bq hf
        refine rh_Ex.call (j := 253) (rc := some 11) [.ref 0, .int p0, .int p1, .int x4.1] [] none rfl rfl rfl (Nat.le_of_ble_eq_true rfl) (R_Mo_findGood d x4.2.2 x4.2.1 g p0 p1 x4.1 hx6) ?_
        show rh_Ex _ _ _ ((49, [some (.ref 0), some (.int p0), some (.int p1), some (.int x4.1), none, none, none, none], []), (x6.1, g, mw_R x6.2)) _ _
        refine rh_Ex.blk 7 (s' := ((60, [some (.ref 0), some (.int p0), some (.int p1), some (.int x4.1), some (.int p0), some (.int (0 : Int32)), none, none], []), (rh_up x6.1 0 8 (0 : Int32), g, mw_R x6.2))) rfl ?_
        obtain ⟨r19, hr19, hf⟩ := rh_bq hf
        refine rh_Ex.fgt [some (.ref 0), some (.int p0), some (.int p1), some (.int x4.1), some (.int p0), some (.int (0 : Int32)), none, none] ⟨rfl, rfl, rfl, rfl, rfl, rfl, trivial⟩ ?_
        refine rh_Ex.loop _ _ _ (lb_Mo_cross_60 d p0 p1 x4.1  g _ _) rh_N _ r19 hr19 ?_
        refine rh_Ex.blk 1 (s' := ((171, [none, none, none, some (.int x4.1), none, none, none, none], [.int x4.1]), (r19.1, g, mw_R r19.2))) rfl ?_
        obtain rfl := Option.some.inj hf
        exact rh_Ex.ret rfl rfl
def b_Mo_start_25 (u1 : Int32) : (Int32 × Int32 × Int32 × (Nat → Nat → Int32) × (Option Nat)) → Option ((Int32 × Int32 × Int32 × (Nat → Nat → Int32) × (Option Nat)) ⊕ (Int32 × Int32 × (Nat → Nat → Int32) × (Option Nat))) := fun s25 =>
  if (8 : Int32) < s25.2.2.1 then
    some (.inr (s25.1, s25.2.1, s25.2.2.2.1, s25.2.2.2.2))
  else
    (f_Mo_findCross s25.2.2.2.1 s25.2.2.2.2 u1 s25.2.2.1).bind (fun x5 =>
      if x5.1 < s25.2.1 then
        some (.inl (s25.2.2.1, x5.1, s25.2.2.1 + (1 : Int32), x5.2.1, x5.2.2))
      else
        some (.inl (s25.1, s25.2.1, s25.2.2.1 + (1 : Int32), x5.2.1, x5.2.2))
    )
def f_Mo_start (h : Nat → Nat → Int32) (rd : Option Nat) (p0 : Int32) : Option (Int32 × (Nat → Nat → Int32) × (Option Nat)) :=
  (f_Mo_canSetOut (rh_up h 0 9 (0 : Int32)) p0).bind (fun x1 =>
    if x1 = 0 then
      some (((-1 : Int32), rh_up h 0 9 (0 : Int32), rd))
    else
      (rh_loop (b_Mo_start_25 p0) rh_N ((-2 : Int32), (1000000 : Int32), (0 : Int32), rh_up h 0 9 (0 : Int32), rd)).bind (fun r7 =>
        if 0 ≤ r7.1 then
          (f_Mo_tell (rh_up r7.2.2.1 0 8 (0 : Int32)) r7.2.1).bind (fun x9 =>
            some ((r7.1, x9, r7.2.2.2))
          )
        else
          some (((-2 : Int32), r7.2.2.1, r7.2.2.2))
      )
  )
set_option maxRecDepth 20000 in
set_option maxHeartbeats 4000000 in
theorem lb_Mo_start_25 (d : Nat) (u1 : Int32) (g : Nat → Nat → Int64) (v9 : Option Value) (h9 : rh_H) : ∀ s25 x9, b_Mo_start_25 u1 s25 = some x9 → Sum.elim (fun s25 => rh_Ex (rh_M rh_PT mw_L (d + 269)) mw_L pg_X12_start ((25, [some (.ref 0), some (.int u1), some (.int s25.1), some (.int s25.2.1), some (.int s25.2.2.1), none], []), (s25.2.2.2.1, g, mw_R s25.2.2.2.2)) v9 h9) (fun e9 => rh_Ex (rh_M rh_PT mw_L (d + 269)) mw_L pg_X12_start ((62, [some (.ref 0), none, some (.int e9.1), some (.int e9.2.1), none, none], []), (e9.2.2.1, g, mw_R e9.2.2.2)) v9 h9) x9 → rh_Ex (rh_M rh_PT mw_L (d + 269)) mw_L pg_X12_start ((25, [some (.ref 0), some (.int u1), some (.int s25.1), some (.int s25.2.1), some (.int s25.2.2.1), none], []), (s25.2.2.2.1, g, mw_R s25.2.2.2.2)) v9 h9 := by
  intro s25 x9 hf hk
  unfold b_Mo_start_25 at hf
  refine rh_Ex.blk 2 (s' := ((29, [some (.ref 0), some (.int u1), some (.int s25.1), some (.int s25.2.1), some (.int s25.2.2.1), none], [.int (8 : Int32), .int s25.2.2.1]), (s25.2.2.2.1, g, mw_R s25.2.2.2.2))) rfl ?_
  by_cases q4 : (8 : Int32) < s25.2.2.1
  · rw [if_pos q4] at hf
    refine rh_Ex.stp (s' := ((62, [some (.ref 0), some (.int u1), some (.int s25.1), some (.int s25.2.1), some (.int s25.2.2.1), none], []), (s25.2.2.2.1, g, mw_R s25.2.2.2.2))) rfl (st_icgt_p q4) ?_
    obtain rfl := Option.some.inj hf
    refine rh_Ex.fgt [some (.ref 0), none, some (.int s25.1), some (.int s25.2.1), none, none] ⟨rfl, rfl, rfl, trivial⟩ ?_
    exact hk
  · rw [if_neg q4] at hf
    refine rh_Ex.stp (s' := ((32, [some (.ref 0), some (.int u1), some (.int s25.1), some (.int s25.2.1), some (.int s25.2.2.1), none], []), (s25.2.2.2.1, g, mw_R s25.2.2.2.2))) rfl (st_icgt_n q4) ?_
    refine rh_Ex.blk 3 (s' := ((36, [some (.ref 0), some (.int u1), some (.int s25.1), some (.int s25.2.1), some (.int s25.2.2.1), none], [.int s25.2.2.1, .int u1, .ref 0]), (s25.2.2.2.1, g, mw_R s25.2.2.2.2))) rfl ?_
    obtain ⟨x5, hx5, hf⟩ := rh_bq hf
    refine rh_Ex.call (j := 252) (rc := some 11) [.ref 0, .int u1, .int s25.2.2.1] [] (some (.int x5.1)) rfl rfl rfl (Nat.le_of_ble_eq_true rfl) (R_Mo_findCross d s25.2.2.2.2 s25.2.2.2.1 g u1 s25.2.2.1 hx5) ?_
    show rh_Ex _ _ _ ((39, [some (.ref 0), some (.int u1), some (.int s25.1), some (.int s25.2.1), some (.int s25.2.2.1), none], [.int x5.1]), (x5.2.1, g, mw_R x5.2.2)) _ _
    refine rh_Ex.blk 3 (s' := ((44, [some (.ref 0), some (.int u1), some (.int s25.1), some (.int s25.2.1), some (.int s25.2.2.1), some (.int x5.1)], [.int s25.2.1, .int x5.1]), (x5.2.1, g, mw_R x5.2.2))) rfl ?_
    by_cases q6 : x5.1 < s25.2.1
    · rw [if_pos q6] at hf
      refine rh_Ex.stp (s' := ((50, [some (.ref 0), some (.int u1), some (.int s25.1), some (.int s25.2.1), some (.int s25.2.2.1), some (.int x5.1)], []), (x5.2.1, g, mw_R x5.2.2))) rfl (st_iclt_p q6) ?_
      refine rh_Ex.blk 6 (s' := ((25, [some (.ref 0), some (.int u1), some (.int s25.2.2.1), some (.int x5.1), some (.int (s25.2.2.1 + (1 : Int32))), some (.int x5.1)], []), (x5.2.1, g, mw_R x5.2.2))) rfl ?_
      obtain rfl := Option.some.inj hf
      refine rh_Ex.fgt [some (.ref 0), some (.int u1), some (.int s25.2.2.1), some (.int x5.1), some (.int (s25.2.2.1 + (1 : Int32))), none] ⟨rfl, rfl, rfl, rfl, rfl, trivial⟩ ?_
      exact hk
    · rw [if_neg q6] at hf
      refine rh_Ex.stp (s' := ((47, [some (.ref 0), some (.int u1), some (.int s25.1), some (.int s25.2.1), some (.int s25.2.2.1), some (.int x5.1)], []), (x5.2.1, g, mw_R x5.2.2))) rfl (st_iclt_n q6) ?_
      refine rh_Ex.blk 3 (s' := ((25, [some (.ref 0), some (.int u1), some (.int s25.1), some (.int s25.2.1), some (.int (s25.2.2.1 + (1 : Int32))), some (.int x5.1)], []), (x5.2.1, g, mw_R x5.2.2))) rfl ?_
      obtain rfl := Option.some.inj hf
      refine rh_Ex.fgt [some (.ref 0), some (.int u1), some (.int s25.1), some (.int s25.2.1), some (.int (s25.2.2.1 + (1 : Int32))), none] ⟨rfl, rfl, rfl, rfl, rfl, trivial⟩ ?_
      exact hk
set_option maxRecDepth 20000 in
set_option maxHeartbeats 4000000 in
theorem R_Mo_start (d : Nat) (rd : Option Nat) (h : Nat → Nat → Int32) (g : Nat → Nat → Int64) (p0 : Int32) {z9 : Int32 × (Nat → Nat → Int32) × (Option Nat)} (hf : f_Mo_start h rd p0 = some z9) : rh_M rh_PT mw_L (d + 270) 257 [.ref 0, .int p0] (h, g, mw_R rd) (some (.int z9.1)) (z9.2.1, g, mw_R z9.2.2) := by
  unfold f_Mo_start at hf
  refine rh_go pt_257 (Nat.le_of_ble_eq_true rfl) (lv := [some (.ref 0), some (.int p0), none, none, none, none]) rfl ?_
  refine rh_Ex.blk 5 (s' := ((7, [some (.ref 0), some (.int p0), none, none, none, none], [.int p0, .ref 0]), (rh_up h 0 9 (0 : Int32), g, mw_R rd))) rfl ?_
  obtain ⟨x1, hx1, hf⟩ := rh_bq hf
  refine rh_Ex.call (j := 254) (rc := some 11) [.ref 0, .int p0] [] (some (.int x1)) rfl rfl rfl (Nat.le_of_ble_eq_true rfl) (R_Mo_canSetOut (d + 266) rd (rh_up h 0 9 (0 : Int32)) g p0 hx1) ?_
  show rh_Ex _ _ _ ((10, [some (.ref 0), some (.int p0), none, none, none, none], [.int x1]), (rh_up h 0 9 (0 : Int32), g, mw_R rd)) _ _
  by_cases q2 : x1 = 0
  · rw [if_pos q2] at hf
    refine rh_Ex.stp (s' := ((13, [some (.ref 0), some (.int p0), none, none, none, none], []), (rh_up h 0 9 (0 : Int32), g, mw_R rd))) rfl (st_ifne_p q2) ?_
    refine rh_Ex.blk 1 (s' := ((14, [some (.ref 0), some (.int p0), none, none, none, none], [.int (-1 : Int32)]), (rh_up h 0 9 (0 : Int32), g, mw_R rd))) rfl ?_
    obtain rfl := Option.some.inj hf
    exact rh_Ex.ret rfl rfl
  · rw [if_neg q2] at hf
    refine rh_Ex.stp (s' := ((15, [some (.ref 0), some (.int p0), none, none, none, none], []), (rh_up h 0 9 (0 : Int32), g, mw_R rd))) rfl (st_ifne_n q2) ?_
    refine rh_Ex.blk 6 (s' := ((25, [some (.ref 0), some (.int p0), some (.int (-2 : Int32)), some (.int (1000000 : Int32)), some (.int (0 : Int32)), none], []), (rh_up h 0 9 (0 : Int32), g, mw_R rd))) rfl ?_
    obtain ⟨r7, hr7, hf⟩ := rh_bq hf
    refine rh_Ex.fgt [some (.ref 0), some (.int p0), some (.int (-2 : Int32)), some (.int (1000000 : Int32)), some (.int (0 : Int32)), none] ⟨rfl, rfl, rfl, rfl, rfl, trivial⟩ ?_
    refine rh_Ex.loop _ _ _ (lb_Mo_start_25 d p0  g _ _) rh_N _ r7 hr7 ?_
    refine rh_Ex.blk 1 (s' := ((63, [some (.ref 0), none, some (.int r7.1), some (.int r7.2.1), none, none], [.int r7.1]), (r7.2.2.1, g, mw_R r7.2.2.2))) rfl ?_
    by_cases q8 : 0 ≤ r7.1
    · rw [if_pos q8] at hf
      refine rh_Ex.stp (s' := ((69, [some (.ref 0), none, some (.int r7.1), some (.int r7.2.1), none, none], []), (r7.2.2.1, g, mw_R r7.2.2.2))) rfl (st_ifge_p q8) ?_
      refine rh_Ex.blk 5 (s' := ((76, [some (.ref 0), none, some (.int r7.1), some (.int r7.2.1), none, none], [.int r7.2.1, .ref 0]), (rh_up r7.2.2.1 0 8 (0 : Int32), g, mw_R r7.2.2.2))) rfl ?_
      obtain ⟨x9, hx9, hf⟩ := rh_bq hf
      refine rh_Ex.call (j := 182) (rc := some 11) [.ref 0, .int r7.2.1] [] none rfl rfl rfl (Nat.le_of_ble_eq_true rfl) (R_Mo_tell (d + 268) r7.2.2.2 (rh_up r7.2.2.1 0 8 (0 : Int32)) g r7.2.1 hx9) ?_
      show rh_Ex _ _ _ ((79, [some (.ref 0), none, some (.int r7.1), some (.int r7.2.1), none, none], []), (x9, g, mw_R r7.2.2.2)) _ _
      refine rh_Ex.blk 1 (s' := ((80, [some (.ref 0), none, some (.int r7.1), some (.int r7.2.1), none, none], [.int r7.1]), (x9, g, mw_R r7.2.2.2))) rfl ?_
      obtain rfl := Option.some.inj hf
      exact rh_Ex.ret rfl rfl
    · rw [if_neg q8] at hf
      refine rh_Ex.stp (s' := ((66, [some (.ref 0), none, some (.int r7.1), some (.int r7.2.1), none, none], []), (r7.2.2.1, g, mw_R r7.2.2.2))) rfl (st_ifge_n q8) ?_
      refine rh_Ex.blk 1 (s' := ((68, [some (.ref 0), none, some (.int r7.1), some (.int r7.2.1), none, none], [.int (-2 : Int32)]), (r7.2.2.1, g, mw_R r7.2.2.2))) rfl ?_
      obtain rfl := Option.some.inj hf
      exact rh_Ex.ret rfl rfl
def f_Mo_wayOf (g : Nat → Nat → Int64) (p0 : Int32) (p1 : Int32) : Option (Int32) :=
  rh_g (0 ≤ (((500 : Int32) * p0) + p1).toInt ∧ (((500 : Int32) * p0) + p1).toInt < ((10500 : Nat) : Int)) (
    some ((((g 20 (((500 : Int32) * p0) + p1).toNatClampNeg) / (100 : Int64)).toInt32))
  )
set_option maxRecDepth 20000 in
set_option maxHeartbeats 4000000 in
theorem R_Mo_wayOf (d : Nat) (rd : Option Nat) (h : Nat → Nat → Int32) (g : Nat → Nat → Int64) (p0 : Int32) (p1 : Int32) {z9 : Int32} (hf : f_Mo_wayOf g p0 p1 = some z9) : rh_M rh_PT mw_L (d + 1) 260 [.ref 0, .int p0, .int p1] (h, g, mw_R rd) (some (.int z9)) (h, g, mw_R rd) := by
  unfold f_Mo_wayOf at hf
  refine rh_go pt_260 (Nat.le_of_ble_eq_true rfl) (lv := [some (.ref 0), some (.int p0), some (.int p1)]) rfl ?_
  refine rh_Ex.blk 7 (s' := ((11, [some (.ref 0), some (.int p0), some (.int p1)], [.int (((500 : Int32) * p0) + p1), .ref 20]), (h, g, mw_R rd))) rfl ?_
  obtain ⟨q1, hf⟩ := rh_gq hf
  refine rh_Ex.stp (s' := ((12, [some (.ref 0), some (.int p0), some (.int p1)], [.long (g 20 (((500 : Int32) * p0) + p1).toNatClampNeg)]), (h, g, mw_R rd))) rfl (st_lald (n := 10500) rfl q1) ?_
  refine rh_Ex.blk 1 (s' := ((15, [some (.ref 0), some (.int p0), some (.int p1)], [.long (100 : Int64), .long (g 20 (((500 : Int32) * p0) + p1).toNatClampNeg)]), (h, g, mw_R rd))) rfl ?_
  refine rh_Ex.stp (s' := ((16, [some (.ref 0), some (.int p0), some (.int p1)], [.long ((g 20 (((500 : Int32) * p0) + p1).toNatClampNeg) / (100 : Int64))]), (h, g, mw_R rd))) rfl (st_ldiv (by decide)) ?_
  refine rh_Ex.blk 1 (s' := ((17, [some (.ref 0), some (.int p0), some (.int p1)], [.int (((g 20 (((500 : Int32) * p0) + p1).toNatClampNeg) / (100 : Int64)).toInt32)]), (h, g, mw_R rd))) rfl ?_
  obtain rfl := Option.some.inj hf
  exact rh_Ex.ret rfl rfl
def f_Mo_leftOf (g : Nat → Nat → Int64) (p0 : Int32) (p1 : Int32) : Option (Int32) :=
  rh_g (0 ≤ (((500 : Int32) * p0) + p1).toInt ∧ (((500 : Int32) * p0) + p1).toInt < ((10500 : Nat) : Int)) (
    some ((((g 20 (((500 : Int32) * p0) + p1).toNatClampNeg) - (g 20 (((500 : Int32) * p0) + p1).toNatClampNeg) / (100 : Int64) * (100 : Int64)).toInt32))
  )
set_option maxRecDepth 20000 in
set_option maxHeartbeats 4000000 in
theorem R_Mo_leftOf (d : Nat) (rd : Option Nat) (h : Nat → Nat → Int32) (g : Nat → Nat → Int64) (p0 : Int32) (p1 : Int32) {z9 : Int32} (hf : f_Mo_leftOf g p0 p1 = some z9) : rh_M rh_PT mw_L (d + 1) 261 [.ref 0, .int p0, .int p1] (h, g, mw_R rd) (some (.int z9)) (h, g, mw_R rd) := by
  unfold f_Mo_leftOf at hf
  refine rh_go pt_261 (Nat.le_of_ble_eq_true rfl) (lv := [some (.ref 0), some (.int p0), some (.int p1)]) rfl ?_
  refine rh_Ex.blk 7 (s' := ((11, [some (.ref 0), some (.int p0), some (.int p1)], [.int (((500 : Int32) * p0) + p1), .ref 20]), (h, g, mw_R rd))) rfl ?_
  obtain ⟨q1, hf⟩ := rh_gq hf
  refine rh_Ex.stp (s' := ((12, [some (.ref 0), some (.int p0), some (.int p1)], [.long (g 20 (((500 : Int32) * p0) + p1).toNatClampNeg)]), (h, g, mw_R rd))) rfl (st_lald (n := 10500) rfl q1) ?_
  refine rh_Ex.blk 1 (s' := ((15, [some (.ref 0), some (.int p0), some (.int p1)], [.long (100 : Int64), .long (g 20 (((500 : Int32) * p0) + p1).toNatClampNeg)]), (h, g, mw_R rd))) rfl ?_
  refine rh_Ex.stp (s' := ((16, [some (.ref 0), some (.int p0), some (.int p1)], [.long ((g 20 (((500 : Int32) * p0) + p1).toNatClampNeg) - (g 20 (((500 : Int32) * p0) + p1).toNatClampNeg) / (100 : Int64) * (100 : Int64))]), (h, g, mw_R rd))) rfl (st_lrem (by decide)) ?_
  refine rh_Ex.blk 1 (s' := ((17, [some (.ref 0), some (.int p0), some (.int p1)], [.int (((g 20 (((500 : Int32) * p0) + p1).toNatClampNeg) - (g 20 (((500 : Int32) * p0) + p1).toNatClampNeg) / (100 : Int64) * (100 : Int64)).toInt32)]), (h, g, mw_R rd))) rfl ?_
  obtain rfl := Option.some.inj hf
  exact rh_Ex.ret rfl rfl
def b_Mo_find_10 (u1 : Int32) (u2 : Int32) (g : Nat → Nat → Int64) : (Int32 × Int32) → Option ((Int32 × Int32) ⊕ (Int32)) := fun s10 =>
  if s10.2 ≤ s10.1 then
    some (.inr s10.1)
  else
    (f_Mo_wayOf g u1 ((s10.1 + s10.2) / (2 : Int32))).bind (fun x4 =>
      if u2 ≤ x4 then
        some (.inl (s10.1, (s10.1 + s10.2) / (2 : Int32)))
      else
        some (.inl (((s10.1 + s10.2) / (2 : Int32)) + (1 : Int32), s10.2))
    )
def f_Mo_find (h : Nat → Nat → Int32) (g : Nat → Nat → Int64) (p0 : Int32) (p1 : Int32) : Option (Int32) :=
  rh_g (0 ≤ p0.toInt ∧ p0.toInt < ((21 : Nat) : Int)) (
    (rh_loop (b_Mo_find_10 p0 p1 g) rh_N ((0 : Int32), h 21 p0.toNatClampNeg)).bind (fun r6 =>
      rh_g (0 ≤ p0.toInt ∧ p0.toInt < ((21 : Nat) : Int)) (
        if (h 21 p0.toNatClampNeg) ≤ r6 then
          some (((-1 : Int32) - r6))
        else
          (f_Mo_wayOf g p0 r6).bind (fun x9 =>
            if x9 = p1 then
              some (r6)
            else
              some (((-1 : Int32) - r6))
          )
      )
    )
  )
set_option maxRecDepth 20000 in
set_option maxHeartbeats 4000000 in
theorem lb_Mo_find_10 (d : Nat) (rd : Option Nat) (u1 : Int32) (u2 : Int32) (g : Nat → Nat → Int64) (h : Nat → Nat → Int32) (v9 : Option Value) (h9 : rh_H) : ∀ s10 x9, b_Mo_find_10 u1 u2 g s10 = some x9 → Sum.elim (fun s10 => rh_Ex (rh_M rh_PT mw_L (d + 1)) mw_L pg_X12_find ((10, [some (.ref 0), some (.int u1), some (.int u2), some (.int s10.1), some (.int s10.2), none], []), (h, g, mw_R rd)) v9 h9) (fun e9 => rh_Ex (rh_M rh_PT mw_L (d + 1)) mw_L pg_X12_find ((50, [some (.ref 0), some (.int u1), some (.int u2), some (.int e9), none, none], []), (h, g, mw_R rd)) v9 h9) x9 → rh_Ex (rh_M rh_PT mw_L (d + 1)) mw_L pg_X12_find ((10, [some (.ref 0), some (.int u1), some (.int u2), some (.int s10.1), some (.int s10.2), none], []), (h, g, mw_R rd)) v9 h9 := by
  intro s10 x9 hf hk
  unfold b_Mo_find_10 at hf
  refine rh_Ex.blk 2 (s' := ((13, [some (.ref 0), some (.int u1), some (.int u2), some (.int s10.1), some (.int s10.2), none], [.int s10.2, .int s10.1]), (h, g, mw_R rd))) rfl ?_
  by_cases q3 : s10.2 ≤ s10.1
  · rw [if_pos q3] at hf
    refine rh_Ex.stp (s' := ((50, [some (.ref 0), some (.int u1), some (.int u2), some (.int s10.1), some (.int s10.2), none], []), (h, g, mw_R rd))) rfl (st_icge_p q3) ?_
    obtain rfl := Option.some.inj hf
    refine rh_Ex.fgt [some (.ref 0), some (.int u1), some (.int u2), some (.int s10.1), none, none] ⟨rfl, rfl, rfl, rfl, trivial⟩ ?_
    exact hk
  · rw [if_neg q3] at hf
    refine rh_Ex.stp (s' := ((16, [some (.ref 0), some (.int u1), some (.int u2), some (.int s10.1), some (.int s10.2), none], []), (h, g, mw_R rd))) rfl (st_icge_n q3) ?_
    refine rh_Ex.blk 4 (s' := ((21, [some (.ref 0), some (.int u1), some (.int u2), some (.int s10.1), some (.int s10.2), none], [.int (2 : Int32), .int (s10.1 + s10.2)]), (h, g, mw_R rd))) rfl ?_
    refine rh_Ex.stp (s' := ((22, [some (.ref 0), some (.int u1), some (.int u2), some (.int s10.1), some (.int s10.2), none], [.int ((s10.1 + s10.2) / (2 : Int32))]), (h, g, mw_R rd))) rfl (st_idiv (by decide)) ?_
    refine rh_Ex.blk 4 (s' := ((28, [some (.ref 0), some (.int u1), some (.int u2), some (.int s10.1), some (.int s10.2), some (.int ((s10.1 + s10.2) / (2 : Int32)))], [.int ((s10.1 + s10.2) / (2 : Int32)), .int u1, .ref 0]), (h, g, mw_R rd))) rfl ?_
    obtain ⟨x4, hx4, hf⟩ := rh_bq hf
    refine rh_Ex.call (j := 260) (rc := some 11) [.ref 0, .int u1, .int ((s10.1 + s10.2) / (2 : Int32))] [] (some (.int x4)) rfl rfl rfl (Nat.le_of_ble_eq_true rfl) (R_Mo_wayOf d rd h g u1 ((s10.1 + s10.2) / (2 : Int32)) hx4) ?_
    show rh_Ex _ _ _ ((31, [some (.ref 0), some (.int u1), some (.int u2), some (.int s10.1), some (.int s10.2), some (.int ((s10.1 + s10.2) / (2 : Int32)))], [.int x4]), (h, g, mw_R rd)) _ _
    refine rh_Ex.blk 1 (s' := ((32, [some (.ref 0), some (.int u1), some (.int u2), some (.int s10.1), some (.int s10.2), some (.int ((s10.1 + s10.2) / (2 : Int32)))], [.int u2, .int x4]), (h, g, mw_R rd))) rfl ?_
    by_cases q5 : u2 ≤ x4
    · rw [if_pos q5] at hf
      refine rh_Ex.stp (s' := ((43, [some (.ref 0), some (.int u1), some (.int u2), some (.int s10.1), some (.int s10.2), some (.int ((s10.1 + s10.2) / (2 : Int32)))], []), (h, g, mw_R rd))) rfl (st_icge_p q5) ?_
      refine rh_Ex.blk 3 (s' := ((10, [some (.ref 0), some (.int u1), some (.int u2), some (.int s10.1), some (.int ((s10.1 + s10.2) / (2 : Int32))), some (.int ((s10.1 + s10.2) / (2 : Int32)))], []), (h, g, mw_R rd))) rfl ?_
      obtain rfl := Option.some.inj hf
      refine rh_Ex.fgt [some (.ref 0), some (.int u1), some (.int u2), some (.int s10.1), some (.int ((s10.1 + s10.2) / (2 : Int32))), none] ⟨rfl, rfl, rfl, rfl, rfl, trivial⟩ ?_
      exact hk
    · rw [if_neg q5] at hf
      refine rh_Ex.stp (s' := ((35, [some (.ref 0), some (.int u1), some (.int u2), some (.int s10.1), some (.int s10.2), some (.int ((s10.1 + s10.2) / (2 : Int32)))], []), (h, g, mw_R rd))) rfl (st_icge_n q5) ?_
      refine rh_Ex.blk 6 (s' := ((10, [some (.ref 0), some (.int u1), some (.int u2), some (.int (((s10.1 + s10.2) / (2 : Int32)) + (1 : Int32))), some (.int s10.2), some (.int ((s10.1 + s10.2) / (2 : Int32)))], []), (h, g, mw_R rd))) rfl ?_
      obtain rfl := Option.some.inj hf
      refine rh_Ex.fgt [some (.ref 0), some (.int u1), some (.int u2), some (.int (((s10.1 + s10.2) / (2 : Int32)) + (1 : Int32))), some (.int s10.2), none] ⟨rfl, rfl, rfl, rfl, rfl, trivial⟩ ?_
      exact hk
set_option maxRecDepth 20000 in
set_option maxHeartbeats 4000000 in
theorem R_Mo_find (d : Nat) (rd : Option Nat) (h : Nat → Nat → Int32) (g : Nat → Nat → Int64) (p0 : Int32) (p1 : Int32) {z9 : Int32} (hf : f_Mo_find h g p0 p1 = some z9) : rh_M rh_PT mw_L (d + 2) 262 [.ref 0, .int p0, .int p1] (h, g, mw_R rd) (some (.int z9)) (h, g, mw_R rd) := by
  unfold f_Mo_find at hf
  refine rh_go pt_262 (Nat.le_of_ble_eq_true rfl) (lv := [some (.ref 0), some (.int p0), some (.int p1), none, none, none]) rfl ?_
  refine rh_Ex.blk 5 (s' := ((7, [some (.ref 0), some (.int p0), some (.int p1), some (.int (0 : Int32)), none, none], [.int p0, .ref 21]), (h, g, mw_R rd))) rfl ?_
  obtain ⟨q1, hf⟩ := rh_gq hf
  refine rh_Ex.stp (s' := ((8, [some (.ref 0), some (.int p0), some (.int p1), some (.int (0 : Int32)), none, none], [.int (h 21 p0.toNatClampNeg)]), (h, g, mw_R rd))) rfl (st_iald (n := 21) rfl q1) ?_
  refine rh_Ex.blk 1 (s' := ((10, [some (.ref 0), some (.int p0), some (.int p1), some (.int (0 : Int32)), some (.int (h 21 p0.toNatClampNeg)), none], []), (h, g, mw_R rd))) rfl ?_
  obtain ⟨r6, hr6, hf⟩ := rh_bq hf
  refine rh_Ex.fgt [some (.ref 0), some (.int p0), some (.int p1), some (.int (0 : Int32)), some (.int (h 21 p0.toNatClampNeg)), none] ⟨rfl, rfl, rfl, rfl, rfl, trivial⟩ ?_
  refine rh_Ex.loop _ _ _ (lb_Mo_find_10 d rd p0 p1 g h  _ _) rh_N _ r6 hr6 ?_
  refine rh_Ex.blk 4 (s' := ((56, [some (.ref 0), some (.int p0), some (.int p1), some (.int r6), none, none], [.int p0, .ref 21, .int r6]), (h, g, mw_R rd))) rfl ?_
  obtain ⟨q7, hf⟩ := rh_gq hf
  refine rh_Ex.stp (s' := ((57, [some (.ref 0), some (.int p0), some (.int p1), some (.int r6), none, none], [.int (h 21 p0.toNatClampNeg), .int r6]), (h, g, mw_R rd))) rfl (st_iald (n := 21) rfl q7) ?_
  by_cases q8 : (h 21 p0.toNatClampNeg) ≤ r6
  · rw [if_pos q8] at hf
    refine rh_Ex.stp (s' := ((74, [some (.ref 0), some (.int p0), some (.int p1), some (.int r6), none, none], []), (h, g, mw_R rd))) rfl (st_icge_p q8) ?_
    refine rh_Ex.blk 3 (s' := ((77, [some (.ref 0), some (.int p0), some (.int p1), some (.int r6), none, none], [.int ((-1 : Int32) - r6)]), (h, g, mw_R rd))) rfl ?_
    obtain rfl := Option.some.inj hf
    exact rh_Ex.ret rfl rfl
  · rw [if_neg q8] at hf
    refine rh_Ex.stp (s' := ((60, [some (.ref 0), some (.int p0), some (.int p1), some (.int r6), none, none], []), (h, g, mw_R rd))) rfl (st_icge_n q8) ?_
    refine rh_Ex.blk 3 (s' := ((63, [some (.ref 0), some (.int p0), some (.int p1), some (.int r6), none, none], [.int r6, .int p0, .ref 0]), (h, g, mw_R rd))) rfl ?_
    obtain ⟨x9, hx9, hf⟩ := rh_bq hf
    refine rh_Ex.call (j := 260) (rc := some 11) [.ref 0, .int p0, .int r6] [] (some (.int x9)) rfl rfl rfl (Nat.le_of_ble_eq_true rfl) (R_Mo_wayOf d rd h g p0 r6 hx9) ?_
    show rh_Ex _ _ _ ((66, [some (.ref 0), some (.int p0), some (.int p1), some (.int r6), none, none], [.int x9]), (h, g, mw_R rd)) _ _
    refine rh_Ex.blk 1 (s' := ((67, [some (.ref 0), some (.int p0), some (.int p1), some (.int r6), none, none], [.int p1, .int x9]), (h, g, mw_R rd))) rfl ?_
    by_cases q10 : x9 = p1
    · rw [if_pos q10] at hf
      refine rh_Ex.stp (s' := ((70, [some (.ref 0), some (.int p0), some (.int p1), some (.int r6), none, none], []), (h, g, mw_R rd))) rfl (st_icne_p q10) ?_
      refine rh_Ex.blk 2 (s' := ((77, [some (.ref 0), some (.int p0), some (.int p1), some (.int r6), none, none], [.int r6]), (h, g, mw_R rd))) rfl ?_
      obtain rfl := Option.some.inj hf
      exact rh_Ex.ret rfl rfl
    · rw [if_neg q10] at hf
      refine rh_Ex.stp (s' := ((74, [some (.ref 0), some (.int p0), some (.int p1), some (.int r6), none, none], []), (h, g, mw_R rd))) rfl (st_icne_n q10) ?_
      refine rh_Ex.blk 3 (s' := ((77, [some (.ref 0), some (.int p0), some (.int p1), some (.int r6), none, none], [.int ((-1 : Int32) - r6)]), (h, g, mw_R rd))) rfl ?_
      obtain rfl := Option.some.inj hf
      exact rh_Ex.ret rfl rfl
def b_Mo_add_35 (u1 : Int32) (u2 : Int32) (u3 : Int32) (h : Nat → Nat → Int32) : (Int32 × (Nat → Nat → Int64)) → Option ((Int32 × (Nat → Nat → Int64)) ⊕ ((Nat → Nat → Int64))) := fun s35 =>
  if s35.1 ≤ ((-1 : Int32) - u3) then
    some (.inr s35.2)
  else
    rh_g (0 ≤ ((((500 : Int32) * u1) + s35.1) - (1 : Int32)).toInt ∧ ((((500 : Int32) * u1) + s35.1) - (1 : Int32)).toInt < ((10500 : Nat) : Int)) (
      rh_g (0 ≤ (((500 : Int32) * u1) + s35.1).toInt ∧ (((500 : Int32) * u1) + s35.1).toInt < ((10500 : Nat) : Int)) (
        some (.inl (s35.1 + (-1 : Int32), rh_up s35.2 20 (((500 : Int32) * u1) + s35.1).toNatClampNeg (s35.2 20 ((((500 : Int32) * u1) + s35.1) - (1 : Int32)).toNatClampNeg)))
      )
    )
def f_Mo_add (h : Nat → Nat → Int32) (g : Nat → Nat → Int64) (p0 : Int32) (p1 : Int32) : Option (Int32 × (Nat → Nat → Int32) × (Nat → Nat → Int64)) :=
  (f_Mo_find h g p0 p1).bind (fun x1 =>
    if x1 < 0 then
      rh_g (0 ≤ p0.toInt ∧ p0.toInt < ((21 : Nat) : Int)) (
        if (h 21 p0.toNatClampNeg) = (500 : Int32) then
          some (((0 : Int32), h, g))
        else
          rh_g (0 ≤ p0.toInt ∧ p0.toInt < ((21 : Nat) : Int)) (
            (rh_loop (b_Mo_add_35 p0 p1 x1 h) rh_N (h 21 p0.toNatClampNeg, g)).bind (fun r10 =>
              rh_g (0 ≤ ((((500 : Int32) * p0) - (1 : Int32)) - x1).toInt ∧ ((((500 : Int32) * p0) - (1 : Int32)) - x1).toInt < ((10500 : Nat) : Int)) (
                rh_g (0 ≤ p0.toInt ∧ p0.toInt < ((21 : Nat) : Int)) (
                  rh_g (0 ≤ p0.toInt ∧ p0.toInt < ((21 : Nat) : Int)) (
                    some (((1 : Int32), rh_up h 21 p0.toNatClampNeg ((h 21 p0.toNatClampNeg) + (1 : Int32)), rh_up r10 20 ((((500 : Int32) * p0) - (1 : Int32)) - x1).toNatClampNeg ((100 : Int64) * p1.toInt64)))
                  )
                )
              )
            )
          )
      )
    else
      some (((1 : Int32), h, g))
  )
set_option maxRecDepth 20000 in
set_option maxHeartbeats 4000000 in
theorem lb_Mo_add_35 (d : Nat) (rd : Option Nat) (u1 : Int32) (u2 : Int32) (u3 : Int32) (h : Nat → Nat → Int32) (v9 : Option Value) (h9 : rh_H) : ∀ s35 x9, b_Mo_add_35 u1 u2 u3 h s35 = some x9 → Sum.elim (fun s35 => rh_Ex (rh_M rh_PT mw_L (d + 2)) mw_L pg_X12_add ((35, [some (.ref 0), some (.int u1), some (.int u2), some (.int u3), some (.int s35.1)], []), (h, s35.2, mw_R rd)) v9 h9) (fun e9 => rh_Ex (rh_M rh_PT mw_L (d + 2)) mw_L pg_X12_add ((77, [some (.ref 0), some (.int u1), some (.int u2), some (.int u3), none], []), (h, e9, mw_R rd)) v9 h9) x9 → rh_Ex (rh_M rh_PT mw_L (d + 2)) mw_L pg_X12_add ((35, [some (.ref 0), some (.int u1), some (.int u2), some (.int u3), some (.int s35.1)], []), (h, s35.2, mw_R rd)) v9 h9 := by
  intro s35 x9 hf hk
  unfold b_Mo_add_35 at hf
  refine rh_Ex.blk 4 (s' := ((40, [some (.ref 0), some (.int u1), some (.int u2), some (.int u3), some (.int s35.1)], [.int ((-1 : Int32) - u3), .int s35.1]), (h, s35.2, mw_R rd))) rfl ?_
  by_cases q7 : s35.1 ≤ ((-1 : Int32) - u3)
  · rw [if_pos q7] at hf
    refine rh_Ex.stp (s' := ((77, [some (.ref 0), some (.int u1), some (.int u2), some (.int u3), some (.int s35.1)], []), (h, s35.2, mw_R rd))) rfl (st_icle_p q7) ?_
    obtain rfl := Option.some.inj hf
    refine rh_Ex.fgt [some (.ref 0), some (.int u1), some (.int u2), some (.int u3), none] ⟨rfl, rfl, rfl, rfl, trivial⟩ ?_
    exact hk
  · rw [if_neg q7] at hf
    refine rh_Ex.stp (s' := ((43, [some (.ref 0), some (.int u1), some (.int u2), some (.int u3), some (.int s35.1)], []), (h, s35.2, mw_R rd))) rfl (st_icle_n q7) ?_
    refine rh_Ex.blk 16 (s' := ((69, [some (.ref 0), some (.int u1), some (.int u2), some (.int u3), some (.int s35.1)], [.int ((((500 : Int32) * u1) + s35.1) - (1 : Int32)), .ref 20, .int (((500 : Int32) * u1) + s35.1), .ref 20]), (h, s35.2, mw_R rd))) rfl ?_
    obtain ⟨q8, hf⟩ := rh_gq hf
    refine rh_Ex.stp (s' := ((70, [some (.ref 0), some (.int u1), some (.int u2), some (.int u3), some (.int s35.1)], [.long (s35.2 20 ((((500 : Int32) * u1) + s35.1) - (1 : Int32)).toNatClampNeg), .int (((500 : Int32) * u1) + s35.1), .ref 20]), (h, s35.2, mw_R rd))) rfl (st_lald (n := 10500) rfl q8) ?_
    obtain ⟨q9, hf⟩ := rh_gq hf
    refine rh_Ex.stp (s' := ((71, [some (.ref 0), some (.int u1), some (.int u2), some (.int u3), some (.int s35.1)], []), (h, rh_up s35.2 20 (((500 : Int32) * u1) + s35.1).toNatClampNeg (s35.2 20 ((((500 : Int32) * u1) + s35.1) - (1 : Int32)).toNatClampNeg), mw_R rd))) rfl (st_last (n := 10500) rfl q9) ?_
    refine rh_Ex.blk 2 (s' := ((35, [some (.ref 0), some (.int u1), some (.int u2), some (.int u3), some (.int (s35.1 + (-1 : Int32)))], []), (h, rh_up s35.2 20 (((500 : Int32) * u1) + s35.1).toNatClampNeg (s35.2 20 ((((500 : Int32) * u1) + s35.1) - (1 : Int32)).toNatClampNeg), mw_R rd))) rfl ?_
    obtain rfl := Option.some.inj hf
    refine rh_Ex.fgt [some (.ref 0), some (.int u1), some (.int u2), some (.int u3), some (.int (s35.1 + (-1 : Int32)))] ⟨rfl, rfl, rfl, rfl, rfl, trivial⟩ ?_
    exact hk
set_option maxRecDepth 20000 in
set_option maxHeartbeats 4000000 in
theorem R_Mo_add (d : Nat) (rd : Option Nat) (h : Nat → Nat → Int32) (g : Nat → Nat → Int64) (p0 : Int32) (p1 : Int32) {z9 : Int32 × (Nat → Nat → Int32) × (Nat → Nat → Int64)} (hf : f_Mo_add h g p0 p1 = some z9) : rh_M rh_PT mw_L (d + 3) 263 [.ref 0, .int p0, .int p1] (h, g, mw_R rd) (some (.int z9.1)) (z9.2.1, z9.2.2, mw_R rd) := by
  unfold f_Mo_add at hf
  refine rh_go pt_263 (Nat.le_of_ble_eq_true rfl) (lv := [some (.ref 0), some (.int p0), some (.int p1), none, none]) rfl ?_
  refine rh_Ex.blk 3 (s' := ((3, [some (.ref 0), some (.int p0), some (.int p1), none, none], [.int p1, .int p0, .ref 0]), (h, g, mw_R rd))) rfl ?_
  obtain ⟨x1, hx1, hf⟩ := rh_bq hf
  refine rh_Ex.call (j := 262) (rc := some 11) [.ref 0, .int p0, .int p1] [] (some (.int x1)) rfl rfl rfl (Nat.le_of_ble_eq_true rfl) (R_Mo_find d rd h g p0 p1 hx1) ?_
  show rh_Ex _ _ _ ((6, [some (.ref 0), some (.int p0), some (.int p1), none, none], [.int x1]), (h, g, mw_R rd)) _ _
  refine rh_Ex.blk 2 (s' := ((8, [some (.ref 0), some (.int p0), some (.int p1), some (.int x1), none], [.int x1]), (h, g, mw_R rd))) rfl ?_
  by_cases q2 : x1 < 0
  · rw [if_pos q2] at hf
    refine rh_Ex.stp (s' := ((13, [some (.ref 0), some (.int p0), some (.int p1), some (.int x1), none], []), (h, g, mw_R rd))) rfl (st_iflt_p q2) ?_
    refine rh_Ex.blk 3 (s' := ((18, [some (.ref 0), some (.int p0), some (.int p1), some (.int x1), none], [.int p0, .ref 21]), (h, g, mw_R rd))) rfl ?_
    obtain ⟨q3, hf⟩ := rh_gq hf
    refine rh_Ex.stp (s' := ((19, [some (.ref 0), some (.int p0), some (.int p1), some (.int x1), none], [.int (h 21 p0.toNatClampNeg)]), (h, g, mw_R rd))) rfl (st_iald (n := 21) rfl q3) ?_
    refine rh_Ex.blk 1 (s' := ((22, [some (.ref 0), some (.int p0), some (.int p1), some (.int x1), none], [.int (500 : Int32), .int (h 21 p0.toNatClampNeg)]), (h, g, mw_R rd))) rfl ?_
    by_cases q4 : (h 21 p0.toNatClampNeg) = (500 : Int32)
    · rw [if_pos q4] at hf
      refine rh_Ex.stp (s' := ((25, [some (.ref 0), some (.int p0), some (.int p1), some (.int x1), none], []), (h, g, mw_R rd))) rfl (st_icne_p q4) ?_
      refine rh_Ex.blk 1 (s' := ((26, [some (.ref 0), some (.int p0), some (.int p1), some (.int x1), none], [.int (0 : Int32)]), (h, g, mw_R rd))) rfl ?_
      obtain rfl := Option.some.inj hf
      exact rh_Ex.ret rfl ⟨rfl, Or.inl rfl⟩
    · rw [if_neg q4] at hf
      refine rh_Ex.stp (s' := ((27, [some (.ref 0), some (.int p0), some (.int p1), some (.int x1), none], []), (h, g, mw_R rd))) rfl (st_icne_n q4) ?_
      refine rh_Ex.blk 3 (s' := ((32, [some (.ref 0), some (.int p0), some (.int p1), some (.int x1), none], [.int p0, .ref 21]), (h, g, mw_R rd))) rfl ?_
      obtain ⟨q5, hf⟩ := rh_gq hf
      refine rh_Ex.stp (s' := ((33, [some (.ref 0), some (.int p0), some (.int p1), some (.int x1), none], [.int (h 21 p0.toNatClampNeg)]), (h, g, mw_R rd))) rfl (st_iald (n := 21) rfl q5) ?_
      refine rh_Ex.blk 1 (s' := ((35, [some (.ref 0), some (.int p0), some (.int p1), some (.int x1), some (.int (h 21 p0.toNatClampNeg))], []), (h, g, mw_R rd))) rfl ?_
      obtain ⟨r10, hr10, hf⟩ := rh_bq hf
      refine rh_Ex.fgt [some (.ref 0), some (.int p0), some (.int p1), some (.int x1), some (.int (h 21 p0.toNatClampNeg))] ⟨rfl, rfl, rfl, rfl, rfl, trivial⟩ ?_
      refine rh_Ex.loop _ _ _ (lb_Mo_add_35 d rd p0 p1 x1 h   _ _) rh_N _ r10 hr10 ?_
      refine rh_Ex.blk 13 (s' := ((96, [some (.ref 0), some (.int p0), some (.int p1), some (.int x1), none], [.long ((100 : Int64) * p1.toInt64), .int ((((500 : Int32) * p0) - (1 : Int32)) - x1), .ref 20]), (h, r10, mw_R rd))) rfl ?_
      obtain ⟨q11, hf⟩ := rh_gq hf
      refine rh_Ex.stp (s' := ((97, [some (.ref 0), some (.int p0), some (.int p1), some (.int x1), none], []), (h, rh_up r10 20 ((((500 : Int32) * p0) - (1 : Int32)) - x1).toNatClampNeg ((100 : Int64) * p1.toInt64), mw_R rd))) rfl (st_last (n := 10500) rfl q11) ?_
      refine rh_Ex.blk 4 (s' := ((103, [some (.ref 0), some (.int p0), some (.int p1), some (.int x1), none], [.int p0, .ref 21, .int p0, .ref 21]), (h, rh_up r10 20 ((((500 : Int32) * p0) - (1 : Int32)) - x1).toNatClampNeg ((100 : Int64) * p1.toInt64), mw_R rd))) rfl ?_
      obtain ⟨q12, hf⟩ := rh_gq hf
      refine rh_Ex.stp (s' := ((104, [some (.ref 0), some (.int p0), some (.int p1), some (.int x1), none], [.int (h 21 p0.toNatClampNeg), .int p0, .ref 21]), (h, rh_up r10 20 ((((500 : Int32) * p0) - (1 : Int32)) - x1).toNatClampNeg ((100 : Int64) * p1.toInt64), mw_R rd))) rfl (st_iald (n := 21) rfl q12) ?_
      refine rh_Ex.blk 2 (s' := ((106, [some (.ref 0), some (.int p0), some (.int p1), some (.int x1), none], [.int ((h 21 p0.toNatClampNeg) + (1 : Int32)), .int p0, .ref 21]), (h, rh_up r10 20 ((((500 : Int32) * p0) - (1 : Int32)) - x1).toNatClampNeg ((100 : Int64) * p1.toInt64), mw_R rd))) rfl ?_
      obtain ⟨q13, hf⟩ := rh_gq hf
      refine rh_Ex.stp (s' := ((107, [some (.ref 0), some (.int p0), some (.int p1), some (.int x1), none], []), (rh_up h 21 p0.toNatClampNeg ((h 21 p0.toNatClampNeg) + (1 : Int32)), rh_up r10 20 ((((500 : Int32) * p0) - (1 : Int32)) - x1).toNatClampNeg ((100 : Int64) * p1.toInt64), mw_R rd))) rfl (st_iast (n := 21) rfl q13) ?_
      refine rh_Ex.blk 1 (s' := ((108, [some (.ref 0), some (.int p0), some (.int p1), some (.int x1), none], [.int (1 : Int32)]), (rh_up h 21 p0.toNatClampNeg ((h 21 p0.toNatClampNeg) + (1 : Int32)), rh_up r10 20 ((((500 : Int32) * p0) - (1 : Int32)) - x1).toNatClampNeg ((100 : Int64) * p1.toInt64), mw_R rd))) rfl ?_
      obtain rfl := Option.some.inj hf
      exact rh_Ex.ret rfl ⟨rfl, Or.inr rfl⟩
  · rw [if_neg q2] at hf
    refine rh_Ex.stp (s' := ((11, [some (.ref 0), some (.int p0), some (.int p1), some (.int x1), none], []), (h, g, mw_R rd))) rfl (st_iflt_n q2) ?_
    refine rh_Ex.blk 1 (s' := ((12, [some (.ref 0), some (.int p0), some (.int p1), some (.int x1), none], [.int (1 : Int32)]), (h, g, mw_R rd))) rfl ?_
    obtain rfl := Option.some.inj hf
    exact rh_Ex.ret rfl ⟨rfl, Or.inr rfl⟩
def b_Mo_stepTo_91 (u1 : Int32) (u5 : Int32) (h : Nat → Nat → Int32) : (Int32 × Int32) → Option ((Int32 × Int32) ⊕ (Int32)) := fun s91 =>
  if (h 0 1) ≤ s91.2 then
    some (.inr s91.1)
  else
    some (.inl (s91.1 * (9 : Int32), s91.2 + (1 : Int32)))
def j_Mo_stepTo_25 (h : Nat → Nat → Int32) (p0 : Int32) (p2 : Int32) (j4 : Int32) (k0 : Int32) : Option (Int32) :=
  if (f_Mo_has (h 1 (9 : Int32).toNatClampNeg) j4) = 0 then
    some ((-1 : Int32))
  else
    rh_g (0 ≤ j4.toInt ∧ j4.toInt < ((11 : Nat) : Int)) (
      if (f_Mo_in ((h 22 j4.toNatClampNeg) + k0) (-4 : Int32) (4 : Int32)) = 0 then
        some ((-1 : Int32))
      else
        rh_g (0 ≤ j4.toInt ∧ j4.toInt < ((9 : Nat) : Int)) (
          if (f_Mo_isTipping h (p2 + (k0 * (h 8 j4.toNatClampNeg)))) = 0 then
            (rh_loop (b_Mo_stepTo_91 p0 k0 h) rh_N ((1 : Int32), j4 + (1 : Int32))).bind (fun r10 =>
              some ((p0 + (k0 * r10)))
            )
          else
            some ((-1 : Int32))
        )
    )
def f_Mo_stepTo (h : Nat → Nat → Int32) (p0 : Int32) (p1 : Int32) (p2 : Int32) : Option (Int32) :=
  if p1 = (18 : Int32) then
    some (p0)
  else
    if (p1 - p1 / (2 : Int32) * (2 : Int32)) = (1 : Int32) then
      j_Mo_stepTo_25 h p0 p2 (p1 / (2 : Int32)) (1 : Int32)
    else
      j_Mo_stepTo_25 h p0 p2 (p1 / (2 : Int32)) (-1 : Int32)
set_option maxRecDepth 20000 in
set_option maxHeartbeats 4000000 in
theorem lb_Mo_stepTo_91 (d : Nat) (rd : Option Nat) (u1 : Int32) (u5 : Int32) (h : Nat → Nat → Int32) (g : Nat → Nat → Int64) (v9 : Option Value) (h9 : rh_H) : ∀ s91 x9, b_Mo_stepTo_91 u1 u5 h s91 = some x9 → Sum.elim (fun s91 => rh_Ex (rh_M rh_PT mw_L (d + 1)) mw_L pg_X12_stepTo ((91, [some (.ref 0), some (.int u1), none, none, none, some (.int u5), some (.int s91.1), some (.int s91.2)], []), (h, g, mw_R rd)) v9 h9) (fun e9 => rh_Ex (rh_M rh_PT mw_L (d + 1)) mw_L pg_X12_stepTo ((113, [none, some (.int u1), none, none, none, some (.int u5), some (.int e9), none], []), (h, g, mw_R rd)) v9 h9) x9 → rh_Ex (rh_M rh_PT mw_L (d + 1)) mw_L pg_X12_stepTo ((91, [some (.ref 0), some (.int u1), none, none, none, some (.int u5), some (.int s91.1), some (.int s91.2)], []), (h, g, mw_R rd)) v9 h9 := by
  intro s91 x9 hf hk
  unfold b_Mo_stepTo_91 at hf
  refine rh_Ex.blk 3 (s' := ((97, [some (.ref 0), some (.int u1), none, none, none, some (.int u5), some (.int s91.1), some (.int s91.2)], [.int (h 0 1), .int s91.2]), (h, g, mw_R rd))) rfl ?_
  by_cases q9 : (h 0 1) ≤ s91.2
  · rw [if_pos q9] at hf
    refine rh_Ex.stp (s' := ((113, [some (.ref 0), some (.int u1), none, none, none, some (.int u5), some (.int s91.1), some (.int s91.2)], []), (h, g, mw_R rd))) rfl (st_icge_p q9) ?_
    obtain rfl := Option.some.inj hf
    refine rh_Ex.fgt [none, some (.int u1), none, none, none, some (.int u5), some (.int s91.1), none] ⟨rfl, rfl, rfl, trivial⟩ ?_
    exact hk
  · rw [if_neg q9] at hf
    refine rh_Ex.stp (s' := ((100, [some (.ref 0), some (.int u1), none, none, none, some (.int u5), some (.int s91.1), some (.int s91.2)], []), (h, g, mw_R rd))) rfl (st_icge_n q9) ?_
    refine rh_Ex.blk 6 (s' := ((91, [some (.ref 0), some (.int u1), none, none, none, some (.int u5), some (.int (s91.1 * (9 : Int32))), some (.int (s91.2 + (1 : Int32)))], []), (h, g, mw_R rd))) rfl ?_
    obtain rfl := Option.some.inj hf
    refine rh_Ex.fgt [some (.ref 0), some (.int u1), none, none, none, some (.int u5), some (.int (s91.1 * (9 : Int32))), some (.int (s91.2 + (1 : Int32)))] ⟨rfl, rfl, rfl, rfl, rfl, trivial⟩ ?_
    exact hk
set_option maxRecDepth 20000 in
set_option maxHeartbeats 4000000 in
theorem lj_Mo_stepTo_25 (d : Nat) (rd : Option Nat) (h : Nat → Nat → Int32) (p0 : Int32) (p2 : Int32) (j4 : Int32) (k0 : Int32) (g : Nat → Nat → Int64) {z9 : Int32} (hf : j_Mo_stepTo_25 h p0 p2 j4 k0 = some z9) : rh_Ex (rh_M rh_PT mw_L (d + 1)) mw_L pg_X12_stepTo ((25, [some (.ref 0), some (.int p0), none, some (.int p2), some (.int j4), none, none, none], [.int k0]), (h, g, mw_R rd)) (some (.int z9)) (h, g, mw_R rd) := by
  unfold j_Mo_stepTo_25 at hf
  refine rh_Ex.blk 4 (s' := ((33, [some (.ref 0), some (.int p0), none, some (.int p2), some (.int j4), some (.int k0), none, none], [.int (9 : Int32), .ref 1]), (h, g, mw_R rd))) rfl ?_
  refine rh_Ex.stp (s' := ((34, [some (.ref 0), some (.int p0), none, some (.int p2), some (.int j4), some (.int k0), none, none], [.int (h 1 (9 : Int32).toNatClampNeg)]), (h, g, mw_R rd))) rfl (st_iald (n := 11) rfl (by decide)) ?_
  refine rh_Ex.blk 1 (s' := ((36, [some (.ref 0), some (.int p0), none, some (.int p2), some (.int j4), some (.int k0), none, none], [.int j4, .int (h 1 (9 : Int32).toNatClampNeg)]), (h, g, mw_R rd))) rfl ?_
  refine rh_Ex.call (j := 180) (rc := none) [.int (h 1 (9 : Int32).toNatClampNeg), .int j4] [] (some (.int (f_Mo_has (h 1 (9 : Int32).toNatClampNeg) j4))) rfl rfl trivial (Nat.le_of_ble_eq_true rfl) (R_Mo_has d mw_L (mw_R rd) h g (h 1 (9 : Int32).toNatClampNeg) j4 rfl) ?_
  show rh_Ex _ _ _ ((39, [some (.ref 0), some (.int p0), none, some (.int p2), some (.int j4), some (.int k0), none, none], [.int (f_Mo_has (h 1 (9 : Int32).toNatClampNeg) j4)]), (h, g, mw_R rd)) _ _
  by_cases q3 : (f_Mo_has (h 1 (9 : Int32).toNatClampNeg) j4) = 0
  · rw [if_pos q3] at hf
    refine rh_Ex.stp (s' := ((80, [some (.ref 0), some (.int p0), none, some (.int p2), some (.int j4), some (.int k0), none, none], []), (h, g, mw_R rd))) rfl (st_ifeq_p q3) ?_
    refine rh_Ex.blk 1 (s' := ((81, [some (.ref 0), some (.int p0), none, some (.int p2), some (.int j4), some (.int k0), none, none], [.int (-1 : Int32)]), (h, g, mw_R rd))) rfl ?_
    obtain rfl := Option.some.inj hf
    exact rh_Ex.ret rfl rfl
  · rw [if_neg q3] at hf
    refine rh_Ex.stp (s' := ((42, [some (.ref 0), some (.int p0), none, some (.int p2), some (.int j4), some (.int k0), none, none], []), (h, g, mw_R rd))) rfl (st_ifeq_n q3) ?_
    refine rh_Ex.blk 3 (s' := ((48, [some (.ref 0), some (.int p0), none, some (.int p2), some (.int j4), some (.int k0), none, none], [.int j4, .ref 22]), (h, g, mw_R rd))) rfl ?_
    obtain ⟨q4, hf⟩ := rh_gq hf
    refine rh_Ex.stp (s' := ((49, [some (.ref 0), some (.int p0), none, some (.int p2), some (.int j4), some (.int k0), none, none], [.int (h 22 j4.toNatClampNeg)]), (h, g, mw_R rd))) rfl (st_iald (n := 11) rfl q4) ?_
    refine rh_Ex.blk 4 (s' := ((55, [some (.ref 0), some (.int p0), none, some (.int p2), some (.int j4), some (.int k0), none, none], [.int (4 : Int32), .int (-4 : Int32), .int ((h 22 j4.toNatClampNeg) + k0)]), (h, g, mw_R rd))) rfl ?_
    refine rh_Ex.call (j := 179) (rc := none) [.int ((h 22 j4.toNatClampNeg) + k0), .int (-4 : Int32), .int (4 : Int32)] [] (some (.int (f_Mo_in ((h 22 j4.toNatClampNeg) + k0) (-4 : Int32) (4 : Int32)))) rfl rfl trivial (Nat.le_of_ble_eq_true rfl) (R_Mo_in d mw_L (mw_R rd) h g ((h 22 j4.toNatClampNeg) + k0) (-4 : Int32) (4 : Int32) rfl) ?_
    show rh_Ex _ _ _ ((58, [some (.ref 0), some (.int p0), none, some (.int p2), some (.int j4), some (.int k0), none, none], [.int (f_Mo_in ((h 22 j4.toNatClampNeg) + k0) (-4 : Int32) (4 : Int32))]), (h, g, mw_R rd)) _ _
    by_cases q5 : (f_Mo_in ((h 22 j4.toNatClampNeg) + k0) (-4 : Int32) (4 : Int32)) = 0
    · rw [if_pos q5] at hf
      refine rh_Ex.stp (s' := ((80, [some (.ref 0), some (.int p0), none, some (.int p2), some (.int j4), some (.int k0), none, none], []), (h, g, mw_R rd))) rfl (st_ifeq_p q5) ?_
      refine rh_Ex.blk 1 (s' := ((81, [some (.ref 0), some (.int p0), none, some (.int p2), some (.int j4), some (.int k0), none, none], [.int (-1 : Int32)]), (h, g, mw_R rd))) rfl ?_
      obtain rfl := Option.some.inj hf
      exact rh_Ex.ret rfl rfl
    · rw [if_neg q5] at hf
      refine rh_Ex.stp (s' := ((61, [some (.ref 0), some (.int p0), none, some (.int p2), some (.int j4), some (.int k0), none, none], []), (h, g, mw_R rd))) rfl (st_ifeq_n q5) ?_
      refine rh_Ex.blk 6 (s' := ((71, [some (.ref 0), some (.int p0), none, some (.int p2), some (.int j4), some (.int k0), none, none], [.int j4, .ref 8, .int k0, .int p2, .ref 0]), (h, g, mw_R rd))) rfl ?_
      obtain ⟨q6, hf⟩ := rh_gq hf
      refine rh_Ex.stp (s' := ((72, [some (.ref 0), some (.int p0), none, some (.int p2), some (.int j4), some (.int k0), none, none], [.int (h 8 j4.toNatClampNeg), .int k0, .int p2, .ref 0]), (h, g, mw_R rd))) rfl (st_iald (n := 9) rfl q6) ?_
      refine rh_Ex.blk 2 (s' := ((74, [some (.ref 0), some (.int p0), none, some (.int p2), some (.int j4), some (.int k0), none, none], [.int (p2 + (k0 * (h 8 j4.toNatClampNeg))), .ref 0]), (h, g, mw_R rd))) rfl ?_
      refine rh_Ex.call (j := 216) (rc := some 11) [.ref 0, .int (p2 + (k0 * (h 8 j4.toNatClampNeg)))] [] (some (.int (f_Mo_isTipping h (p2 + (k0 * (h 8 j4.toNatClampNeg)))))) rfl rfl rfl (Nat.le_of_ble_eq_true rfl) (R_Mo_isTipping d rd h g (p2 + (k0 * (h 8 j4.toNatClampNeg))) rfl) ?_
      show rh_Ex _ _ _ ((77, [some (.ref 0), some (.int p0), none, some (.int p2), some (.int j4), some (.int k0), none, none], [.int (f_Mo_isTipping h (p2 + (k0 * (h 8 j4.toNatClampNeg))))]), (h, g, mw_R rd)) _ _
      by_cases q7 : (f_Mo_isTipping h (p2 + (k0 * (h 8 j4.toNatClampNeg)))) = 0
      · rw [if_pos q7] at hf
        refine rh_Ex.stp (s' := ((82, [some (.ref 0), some (.int p0), none, some (.int p2), some (.int j4), some (.int k0), none, none], []), (h, g, mw_R rd))) rfl (st_ifeq_p q7) ?_
        refine rh_Ex.blk 6 (s' := ((91, [some (.ref 0), some (.int p0), none, some (.int p2), some (.int j4), some (.int k0), some (.int (1 : Int32)), some (.int (j4 + (1 : Int32)))], []), (h, g, mw_R rd))) rfl ?_
        obtain ⟨r10, hr10, hf⟩ := rh_bq hf
        refine rh_Ex.fgt [some (.ref 0), some (.int p0), none, none, none, some (.int k0), some (.int (1 : Int32)), some (.int (j4 + (1 : Int32)))] ⟨rfl, rfl, rfl, rfl, rfl, trivial⟩ ?_
        refine rh_Ex.loop _ _ _ (lb_Mo_stepTo_91 d rd p0 k0 h  g _ _) rh_N _ r10 hr10 ?_
        refine rh_Ex.blk 5 (s' := ((120, [none, some (.int p0), none, none, none, some (.int k0), some (.int r10), none], [.int (p0 + (k0 * r10))]), (h, g, mw_R rd))) rfl ?_
        obtain rfl := Option.some.inj hf
        exact rh_Ex.ret rfl rfl
      · rw [if_neg q7] at hf
        refine rh_Ex.stp (s' := ((80, [some (.ref 0), some (.int p0), none, some (.int p2), some (.int j4), some (.int k0), none, none], []), (h, g, mw_R rd))) rfl (st_ifeq_n q7) ?_
        refine rh_Ex.blk 1 (s' := ((81, [some (.ref 0), some (.int p0), none, some (.int p2), some (.int j4), some (.int k0), none, none], [.int (-1 : Int32)]), (h, g, mw_R rd))) rfl ?_
        obtain rfl := Option.some.inj hf
        exact rh_Ex.ret rfl rfl
set_option maxRecDepth 20000 in
set_option maxHeartbeats 4000000 in
theorem R_Mo_stepTo (d : Nat) (rd : Option Nat) (h : Nat → Nat → Int32) (g : Nat → Nat → Int64) (p0 : Int32) (p1 : Int32) (p2 : Int32) {z9 : Int32} (hf : f_Mo_stepTo h p0 p1 p2 = some z9) : rh_M rh_PT mw_L (d + 2) 264 [.ref 0, .int p0, .int p1, .int p2] (h, g, mw_R rd) (some (.int z9)) (h, g, mw_R rd) := by
  unfold f_Mo_stepTo at hf
  refine rh_go pt_264 (Nat.le_of_ble_eq_true rfl) (lv := [some (.ref 0), some (.int p0), some (.int p1), some (.int p2), none, none, none, none]) rfl ?_
  refine rh_Ex.blk 2 (s' := ((3, [some (.ref 0), some (.int p0), some (.int p1), some (.int p2), none, none, none, none], [.int (18 : Int32), .int p1]), (h, g, mw_R rd))) rfl ?_
  by_cases q1 : p1 = (18 : Int32)
  · rw [if_pos q1] at hf
    refine rh_Ex.stp (s' := ((6, [some (.ref 0), some (.int p0), some (.int p1), some (.int p2), none, none, none, none], []), (h, g, mw_R rd))) rfl (st_icne_p q1) ?_
    refine rh_Ex.blk 1 (s' := ((7, [some (.ref 0), some (.int p0), some (.int p1), some (.int p2), none, none, none, none], [.int p0]), (h, g, mw_R rd))) rfl ?_
    obtain rfl := Option.some.inj hf
    exact rh_Ex.ret rfl rfl
  · rw [if_neg q1] at hf
    refine rh_Ex.stp (s' := ((8, [some (.ref 0), some (.int p0), some (.int p1), some (.int p2), none, none, none, none], []), (h, g, mw_R rd))) rfl (st_icne_n q1) ?_
    refine rh_Ex.blk 2 (s' := ((10, [some (.ref 0), some (.int p0), some (.int p1), some (.int p2), none, none, none, none], [.int (2 : Int32), .int p1]), (h, g, mw_R rd))) rfl ?_
    refine rh_Ex.stp (s' := ((11, [some (.ref 0), some (.int p0), some (.int p1), some (.int p2), none, none, none, none], [.int (p1 / (2 : Int32))]), (h, g, mw_R rd))) rfl (st_idiv (by decide)) ?_
    refine rh_Ex.blk 3 (s' := ((15, [some (.ref 0), some (.int p0), some (.int p1), some (.int p2), some (.int (p1 / (2 : Int32))), none, none, none], [.int (2 : Int32), .int p1]), (h, g, mw_R rd))) rfl ?_
    refine rh_Ex.stp (s' := ((16, [some (.ref 0), some (.int p0), some (.int p1), some (.int p2), some (.int (p1 / (2 : Int32))), none, none, none], [.int (p1 - p1 / (2 : Int32) * (2 : Int32))]), (h, g, mw_R rd))) rfl (st_irem (by decide)) ?_
    refine rh_Ex.blk 1 (s' := ((17, [some (.ref 0), some (.int p0), some (.int p1), some (.int p2), some (.int (p1 / (2 : Int32))), none, none, none], [.int (1 : Int32), .int (p1 - p1 / (2 : Int32) * (2 : Int32))]), (h, g, mw_R rd))) rfl ?_
    by_cases q2 : (p1 - p1 / (2 : Int32) * (2 : Int32)) = (1 : Int32)
    · rw [if_pos q2] at hf
      refine rh_Ex.stp (s' := ((20, [some (.ref 0), some (.int p0), some (.int p1), some (.int p2), some (.int (p1 / (2 : Int32))), none, none, none], []), (h, g, mw_R rd))) rfl (st_icne_p q2) ?_
      refine rh_Ex.blk 2 (s' := ((25, [some (.ref 0), some (.int p0), some (.int p1), some (.int p2), some (.int (p1 / (2 : Int32))), none, none, none], [.int (1 : Int32)]), (h, g, mw_R rd))) rfl ?_
      refine rh_Ex.fgt [some (.ref 0), some (.int p0), none, some (.int p2), some (.int (p1 / (2 : Int32))), none, none, none] ⟨rfl, rfl, rfl, rfl, trivial⟩ ?_
      exact lj_Mo_stepTo_25 d rd h p0 p2 (p1 / (2 : Int32)) (1 : Int32) g hf
    · rw [if_neg q2] at hf
      refine rh_Ex.stp (s' := ((24, [some (.ref 0), some (.int p0), some (.int p1), some (.int p2), some (.int (p1 / (2 : Int32))), none, none, none], []), (h, g, mw_R rd))) rfl (st_icne_n q2) ?_
      refine rh_Ex.blk 1 (s' := ((25, [some (.ref 0), some (.int p0), some (.int p1), some (.int p2), some (.int (p1 / (2 : Int32))), none, none, none], [.int (-1 : Int32)]), (h, g, mw_R rd))) rfl ?_
      refine rh_Ex.fgt [some (.ref 0), some (.int p0), none, some (.int p2), some (.int (p1 / (2 : Int32))), none, none, none] ⟨rfl, rfl, rfl, rfl, trivial⟩ ?_
      exact lj_Mo_stepTo_25 d rd h p0 p2 (p1 / (2 : Int32)) (-1 : Int32) g hf
