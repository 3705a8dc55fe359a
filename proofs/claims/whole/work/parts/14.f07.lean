def b_La_pair_63 (u1 : Int32) (u4 : Int32) : (Int32 × Int32 × (Nat → Nat → Int32)) → Option ((Int32 × Int32 × (Nat → Nat → Int32)) ⊕ (Int32 × (Nat → Nat → Int32))) := fun s63 =>
  if (s63.2.2 4 0) ≤ s63.2.1 then
    some (.inr (s63.1, s63.2.2))
  else
    rh_g (0 ≤ (((1 : Int32) <<< (u4 &&& 31)) ||| ((1 : Int32) <<< (s63.2.1 &&& 31))).toInt ∧ (((1 : Int32) <<< (u4 &&& 31)) ||| ((1 : Int32) <<< (s63.2.1 &&& 31))).toInt < ((512 : Nat) : Int)) (
      if (if 0 ≤ s63.1 then s63.1 else 0 - s63.1) ≤ (if 0 ≤ ((s63.2.2 12 (((1 : Int32) <<< (u4 &&& 31)) ||| ((1 : Int32) <<< (s63.2.1 &&& 31))).toNatClampNeg) - u1) then ((s63.2.2 12 (((1 : Int32) <<< (u4 &&& 31)) ||| ((1 : Int32) <<< (s63.2.1 &&& 31))).toNatClampNeg) - u1) else 0 - ((s63.2.2 12 (((1 : Int32) <<< (u4 &&& 31)) ||| ((1 : Int32) <<< (s63.2.1 &&& 31))).toNatClampNeg) - u1)) then
        some (.inl (s63.1, s63.2.1 + (1 : Int32), s63.2.2))
      else
        (f_Ro_tell s63.2.2 u4).bind (fun x11 =>
          (f_Ro_add x11 s63.2.1).bind (fun x12 =>
            some (.inl ((s63.2.2 12 (((1 : Int32) <<< (u4 &&& 31)) ||| ((1 : Int32) <<< (s63.2.1 &&& 31))).toNatClampNeg) - u1, s63.2.1 + (1 : Int32), x12))
          )
        )
    )
def b_La_pair_45 (u1 : Int32) : (Int32 × Int32 × (Nat → Nat → Int32)) → Option ((Int32 × Int32 × (Nat → Nat → Int32)) ⊕ (Int32 × (Nat → Nat → Int32))) := fun s45 =>
  if (s45.2.2 4 0) ≤ s45.2.1 then
    some (.inr (s45.1, s45.2.2))
  else
    (rh_loop (b_La_pair_63 u1 s45.2.1) rh_N (s45.1, s45.2.1 + (1 : Int32), s45.2.2)).bind (fun r13 =>
      some (.inl (r13.1, s45.2.1 + (1 : Int32), r13.2))
    )
def f_La_pair (h : Nat → Nat → Int32) (p0 : Int32) (p1 : Int32) : Option (Int32 × (Nat → Nat → Int32)) :=
  if (f_La_within p0 (0 : Int32) (9999 : Int32)) = 0 then
    none
  else
    (f_La_isBell p1).bind (fun x2 =>
      if x2 = 0 then
        none
      else
        (f_Cr_sumAll h ((f_La_dawn h) + p1)).bind (fun x4 =>
          (rh_loop (b_La_pair_45 p0) rh_N ((1000000000 : Int32), (0 : Int32), x4)).bind (fun r14 =>
            if r14.1 = (1000000000 : Int32) then
              some (((-100000 : Int32), r14.2))
            else
              some ((r14.1, r14.2))
          )
        )
    )
set_option maxRecDepth 20000 in
set_option maxHeartbeats 4000000 in
theorem lb_La_pair_63 (d : Nat) (xx : rh_L) (sv : Option Nat) (u1 : Int32) (u4 : Int32) (g : Nat → Nat → Int64) (v9 : Option Value) (h9 : rh_H) : ∀ s63 x9, b_La_pair_63 u1 u4 s63 = some x9 → Sum.elim (fun s63 => rh_Ex (rh_M rh_PT (cw_L ++ xx) (d + 4)) (cw_L ++ xx) pg_X11_pair ((63, [some (.ref 0), some (.int u1), none, some (.int s63.1), some (.int u4), some (.int s63.2.1), none], []), (s63.2.2, g, cw_R sv)) v9 h9) (fun e9 => rh_Ex (rh_M rh_PT (cw_L ++ xx) (d + 4)) (cw_L ++ xx) pg_X11_pair ((135, [some (.ref 0), some (.int u1), none, some (.int e9.1), some (.int u4), none, none], []), (e9.2, g, cw_R sv)) v9 h9) x9 → rh_Ex (rh_M rh_PT (cw_L ++ xx) (d + 4)) (cw_L ++ xx) pg_X11_pair ((63, [some (.ref 0), some (.int u1), none, some (.int s63.1), some (.int u4), some (.int s63.2.1), none], []), (s63.2.2, g, cw_R sv)) v9 h9 := by
  intro s63 x9 hf hk
  unfold b_La_pair_63 at hf
  refine rh_Ex.blk 4 (s' := ((72, [some (.ref 0), some (.int u1), none, some (.int s63.1), some (.int u4), some (.int s63.2.1), none], [.int (s63.2.2 4 0), .int s63.2.1]), (s63.2.2, g, cw_R sv))) rfl ?_
  by_cases q8 : (s63.2.2 4 0) ≤ s63.2.1
  · rw [if_pos q8] at hf
    refine rh_Ex.stp (s' := ((135, [some (.ref 0), some (.int u1), none, some (.int s63.1), some (.int u4), some (.int s63.2.1), none], []), (s63.2.2, g, cw_R sv))) rfl (st_icge_p q8) ?_
    obtain rfl := Option.some.inj hf
    refine rh_Ex.fgt [some (.ref 0), some (.int u1), none, some (.int s63.1), some (.int u4), none, none] ⟨rfl, rfl, rfl, rfl, trivial⟩ ?_
    exact hk
  · rw [if_neg q8] at hf
    refine rh_Ex.stp (s' := ((75, [some (.ref 0), some (.int u1), none, some (.int s63.1), some (.int u4), some (.int s63.2.1), none], []), (s63.2.2, g, cw_R sv))) rfl (st_icge_n q8) ?_
    refine rh_Ex.blk 10 (s' := ((91, [some (.ref 0), some (.int u1), none, some (.int s63.1), some (.int u4), some (.int s63.2.1), none], [.int (((1 : Int32) <<< (u4 &&& 31)) ||| ((1 : Int32) <<< (s63.2.1 &&& 31))), .ref 12]), (s63.2.2, g, cw_R sv))) rfl ?_
    obtain ⟨q9, hf⟩ := rh_gq hf
    refine rh_Ex.stp (s' := ((92, [some (.ref 0), some (.int u1), none, some (.int s63.1), some (.int u4), some (.int s63.2.1), none], [.int (s63.2.2 12 (((1 : Int32) <<< (u4 &&& 31)) ||| ((1 : Int32) <<< (s63.2.1 &&& 31))).toNatClampNeg)]), (s63.2.2, g, cw_R sv))) rfl (st_iald (n := 512) rfl q9) ?_
    refine rh_Ex.blk 4 (s' := ((98, [some (.ref 0), some (.int u1), none, some (.int s63.1), some (.int u4), some (.int s63.2.1), some (.int ((s63.2.2 12 (((1 : Int32) <<< (u4 &&& 31)) ||| ((1 : Int32) <<< (s63.2.1 &&& 31))).toNatClampNeg) - u1))], [.int ((s63.2.2 12 (((1 : Int32) <<< (u4 &&& 31)) ||| ((1 : Int32) <<< (s63.2.1 &&& 31))).toNatClampNeg) - u1)]), (s63.2.2, g, cw_R sv))) rfl ?_
    refine rh_Ex.stp (s' := ((101, [some (.ref 0), some (.int u1), none, some (.int s63.1), some (.int u4), some (.int s63.2.1), some (.int ((s63.2.2 12 (((1 : Int32) <<< (u4 &&& 31)) ||| ((1 : Int32) <<< (s63.2.1 &&& 31))).toNatClampNeg) - u1))], [.int (if 0 ≤ ((s63.2.2 12 (((1 : Int32) <<< (u4 &&& 31)) ||| ((1 : Int32) <<< (s63.2.1 &&& 31))).toNatClampNeg) - u1) then ((s63.2.2 12 (((1 : Int32) <<< (u4 &&& 31)) ||| ((1 : Int32) <<< (s63.2.1 &&& 31))).toNatClampNeg) - u1) else 0 - ((s63.2.2 12 (((1 : Int32) <<< (u4 &&& 31)) ||| ((1 : Int32) <<< (s63.2.1 &&& 31))).toNatClampNeg) - u1))]), (s63.2.2, g, cw_R sv))) rfl (st_mabs (Nat.le_of_ble_eq_true rfl)) ?_
    refine rh_Ex.blk 1 (s' := ((102, [some (.ref 0), some (.int u1), none, some (.int s63.1), some (.int u4), some (.int s63.2.1), some (.int ((s63.2.2 12 (((1 : Int32) <<< (u4 &&& 31)) ||| ((1 : Int32) <<< (s63.2.1 &&& 31))).toNatClampNeg) - u1))], [.int s63.1, .int (if 0 ≤ ((s63.2.2 12 (((1 : Int32) <<< (u4 &&& 31)) ||| ((1 : Int32) <<< (s63.2.1 &&& 31))).toNatClampNeg) - u1) then ((s63.2.2 12 (((1 : Int32) <<< (u4 &&& 31)) ||| ((1 : Int32) <<< (s63.2.1 &&& 31))).toNatClampNeg) - u1) else 0 - ((s63.2.2 12 (((1 : Int32) <<< (u4 &&& 31)) ||| ((1 : Int32) <<< (s63.2.1 &&& 31))).toNatClampNeg) - u1))]), (s63.2.2, g, cw_R sv))) rfl ?_
    refine rh_Ex.stp (s' := ((105, [some (.ref 0), some (.int u1), none, some (.int s63.1), some (.int u4), some (.int s63.2.1), some (.int ((s63.2.2 12 (((1 : Int32) <<< (u4 &&& 31)) ||| ((1 : Int32) <<< (s63.2.1 &&& 31))).toNatClampNeg) - u1))], [.int (if 0 ≤ s63.1 then s63.1 else 0 - s63.1), .int (if 0 ≤ ((s63.2.2 12 (((1 : Int32) <<< (u4 &&& 31)) ||| ((1 : Int32) <<< (s63.2.1 &&& 31))).toNatClampNeg) - u1) then ((s63.2.2 12 (((1 : Int32) <<< (u4 &&& 31)) ||| ((1 : Int32) <<< (s63.2.1 &&& 31))).toNatClampNeg) - u1) else 0 - ((s63.2.2 12 (((1 : Int32) <<< (u4 &&& 31)) ||| ((1 : Int32) <<< (s63.2.1 &&& 31))).toNatClampNeg) - u1))]), (s63.2.2, g, cw_R sv))) rfl (st_mabs (Nat.le_of_ble_eq_true rfl)) ?_
    by_cases q10 : (if 0 ≤ s63.1 then s63.1 else 0 - s63.1) ≤ (if 0 ≤ ((s63.2.2 12 (((1 : Int32) <<< (u4 &&& 31)) ||| ((1 : Int32) <<< (s63.2.1 &&& 31))).toNatClampNeg) - u1) then ((s63.2.2 12 (((1 : Int32) <<< (u4 &&& 31)) ||| ((1 : Int32) <<< (s63.2.1 &&& 31))).toNatClampNeg) - u1) else 0 - ((s63.2.2 12 (((1 : Int32) <<< (u4 &&& 31)) ||| ((1 : Int32) <<< (s63.2.1 &&& 31))).toNatClampNeg) - u1))
    · rw [if_pos q10] at hf
      refine rh_Ex.stp (s' := ((129, [some (.ref 0), some (.int u1), none, some (.int s63.1), some (.int u4), some (.int s63.2.1), some (.int ((s63.2.2 12 (((1 : Int32) <<< (u4 &&& 31)) ||| ((1 : Int32) <<< (s63.2.1 &&& 31))).toNatClampNeg) - u1))], []), (s63.2.2, g, cw_R sv))) rfl (st_icge_p q10) ?_
      refine rh_Ex.blk 2 (s' := ((63, [some (.ref 0), some (.int u1), none, some (.int s63.1), some (.int u4), some (.int (s63.2.1 + (1 : Int32))), some (.int ((s63.2.2 12 (((1 : Int32) <<< (u4 &&& 31)) ||| ((1 : Int32) <<< (s63.2.1 &&& 31))).toNatClampNeg) - u1))], []), (s63.2.2, g, cw_R sv))) rfl ?_
      obtain rfl := Option.some.inj hf
      refine rh_Ex.fgt [some (.ref 0), some (.int u1), none, some (.int s63.1), some (.int u4), some (.int (s63.2.1 + (1 : Int32))), none] ⟨rfl, rfl, rfl, rfl, rfl, trivial⟩ ?_
      exact hk
    · rw [if_neg q10] at hf
      refine rh_Ex.stp (s' := ((108, [some (.ref 0), some (.int u1), none, some (.int s63.1), some (.int u4), some (.int s63.2.1), some (.int ((s63.2.2 12 (((1 : Int32) <<< (u4 &&& 31)) ||| ((1 : Int32) <<< (s63.2.1 &&& 31))).toNatClampNeg) - u1))], []), (s63.2.2, g, cw_R sv))) rfl (st_icge_n q10) ?_
      refine rh_Ex.blk 5 (s' := ((117, [some (.ref 0), some (.int u1), none, some (.int ((s63.2.2 12 (((1 : Int32) <<< (u4 &&& 31)) ||| ((1 : Int32) <<< (s63.2.1 &&& 31))).toNatClampNeg) - u1)), some (.int u4), some (.int s63.2.1), some (.int ((s63.2.2 12 (((1 : Int32) <<< (u4 &&& 31)) ||| ((1 : Int32) <<< (s63.2.1 &&& 31))).toNatClampNeg) - u1))], [.int u4, .ref 2]), (s63.2.2, g, cw_R sv))) rfl ?_
      obtain ⟨x11, hx11, hf⟩ := rh_bq hf
      refine rh_Ex.call (j := 70) (rc := some 6) [.ref 2, .int u4] [] none rfl rfl rfl (Nat.le_of_ble_eq_true rfl) (R_Ro_tell (d + 2) xx sv s63.2.2 g u4 hx11) ?_
      show rh_Ex _ _ _ ((120, [some (.ref 0), some (.int u1), none, some (.int ((s63.2.2 12 (((1 : Int32) <<< (u4 &&& 31)) ||| ((1 : Int32) <<< (s63.2.1 &&& 31))).toNatClampNeg) - u1)), some (.int u4), some (.int s63.2.1), some (.int ((s63.2.2 12 (((1 : Int32) <<< (u4 &&& 31)) ||| ((1 : Int32) <<< (s63.2.1 &&& 31))).toNatClampNeg) - u1))], []), (x11, g, cw_R sv)) _ _
      refine rh_Ex.blk 3 (s' := ((126, [some (.ref 0), some (.int u1), none, some (.int ((s63.2.2 12 (((1 : Int32) <<< (u4 &&& 31)) ||| ((1 : Int32) <<< (s63.2.1 &&& 31))).toNatClampNeg) - u1)), some (.int u4), some (.int s63.2.1), some (.int ((s63.2.2 12 (((1 : Int32) <<< (u4 &&& 31)) ||| ((1 : Int32) <<< (s63.2.1 &&& 31))).toNatClampNeg) - u1))], [.int s63.2.1, .ref 2]), (x11, g, cw_R sv))) rfl ?_
      obtain ⟨x12, hx12, hf⟩ := rh_bq hf
      refine rh_Ex.call (j := 69) (rc := some 6) [.ref 2, .int s63.2.1] [] none rfl rfl rfl (Nat.le_of_ble_eq_true rfl) (R_Ro_add (d + 3) xx sv x11 g s63.2.1 hx12) ?_
      show rh_Ex _ _ _ ((129, [some (.ref 0), some (.int u1), none, some (.int ((s63.2.2 12 (((1 : Int32) <<< (u4 &&& 31)) ||| ((1 : Int32) <<< (s63.2.1 &&& 31))).toNatClampNeg) - u1)), some (.int u4), some (.int s63.2.1), some (.int ((s63.2.2 12 (((1 : Int32) <<< (u4 &&& 31)) ||| ((1 : Int32) <<< (s63.2.1 &&& 31))).toNatClampNeg) - u1))], []), (x12, g, cw_R sv)) _ _
      refine rh_Ex.blk 2 (s' := ((63, [some (.ref 0), some (.int u1), none, some (.int ((s63.2.2 12 (((1 : Int32) <<< (u4 &&& 31)) ||| ((1 : Int32) <<< (s63.2.1 &&& 31))).toNatClampNeg) - u1)), some (.int u4), some (.int (s63.2.1 + (1 : Int32))), some (.int ((s63.2.2 12 (((1 : Int32) <<< (u4 &&& 31)) ||| ((1 : Int32) <<< (s63.2.1 &&& 31))).toNatClampNeg) - u1))], []), (x12, g, cw_R sv))) rfl ?_
      obtain rfl := Option.some.inj hf
      refine rh_Ex.fgt [some (.ref 0), some (.int u1), none, some (.int ((s63.2.2 12 (((1 : Int32) <<< (u4 &&& 31)) ||| ((1 : Int32) <<< (s63.2.1 &&& 31))).toNatClampNeg) - u1)), some (.int u4), some (.int (s63.2.1 + (1 : Int32))), none] ⟨rfl, rfl, rfl, rfl, rfl, trivial⟩ ?_
      exact hk
set_option maxRecDepth 20000 in
set_option maxHeartbeats 4000000 in
theorem lb_La_pair_45 (d : Nat) (xx : rh_L) (sv : Option Nat) (u1 : Int32) (g : Nat → Nat → Int64) (v9 : Option Value) (h9 : rh_H) : ∀ s45 x9, b_La_pair_45 u1 s45 = some x9 → Sum.elim (fun s45 => rh_Ex (rh_M rh_PT (cw_L ++ xx) (d + 4)) (cw_L ++ xx) pg_X11_pair ((45, [some (.ref 0), some (.int u1), none, some (.int s45.1), some (.int s45.2.1), none, none], []), (s45.2.2, g, cw_R sv)) v9 h9) (fun e9 => rh_Ex (rh_M rh_PT (cw_L ++ xx) (d + 4)) (cw_L ++ xx) pg_X11_pair ((141, [none, none, none, some (.int e9.1), none, none, none], []), (e9.2, g, cw_R sv)) v9 h9) x9 → rh_Ex (rh_M rh_PT (cw_L ++ xx) (d + 4)) (cw_L ++ xx) pg_X11_pair ((45, [some (.ref 0), some (.int u1), none, some (.int s45.1), some (.int s45.2.1), none, none], []), (s45.2.2, g, cw_R sv)) v9 h9 := by
  intro s45 x9 hf hk
  unfold b_La_pair_45 at hf
  refine rh_Ex.blk 4 (s' := ((54, [some (.ref 0), some (.int u1), none, some (.int s45.1), some (.int s45.2.1), none, none], [.int (s45.2.2 4 0), .int s45.2.1]), (s45.2.2, g, cw_R sv))) rfl ?_
  by_cases q6 : (s45.2.2 4 0) ≤ s45.2.1
  · rw [if_pos q6] at hf
    refine rh_Ex.stp (s' := ((141, [some (.ref 0), some (.int u1), none, some (.int s45.1), some (.int s45.2.1), none, none], []), (s45.2.2, g, cw_R sv))) rfl (st_icge_p q6) ?_
    obtain rfl := Option.some.inj hf
    refine rh_Ex.fgt [none, none, none, some (.int s45.1), none, none, none] ⟨rfl, trivial⟩ ?_
    exact hk
  · rw [if_neg q6] at hf
    refine rh_Ex.stp (s' := ((57, [some (.ref 0), some (.int u1), none, some (.int s45.1), some (.int s45.2.1), none, none], []), (s45.2.2, g, cw_R sv))) rfl (st_icge_n q6) ?_
    refine rh_Ex.blk 4 (s' := ((63, [some (.ref 0), some (.int u1), none, some (.int s45.1), some (.int s45.2.1), some (.int (s45.2.1 + (1 : Int32))), none], []), (s45.2.2, g, cw_R sv))) rfl ?_
    obtain ⟨r13, hr13, hf⟩ := rh_bq hf
    refine rh_Ex.fgt [some (.ref 0), some (.int u1), none, some (.int s45.1), some (.int s45.2.1), some (.int (s45.2.1 + (1 : Int32))), none] ⟨rfl, rfl, rfl, rfl, rfl, trivial⟩ ?_
    refine rh_Ex.loop _ _ _ (lb_La_pair_63 d xx sv u1 s45.2.1  g _ _) rh_N _ r13 hr13 ?_
    refine rh_Ex.blk 2 (s' := ((45, [some (.ref 0), some (.int u1), none, some (.int r13.1), some (.int (s45.2.1 + (1 : Int32))), none, none], []), (r13.2, g, cw_R sv))) rfl ?_
    obtain rfl := Option.some.inj hf
    refine rh_Ex.fgt [some (.ref 0), some (.int u1), none, some (.int r13.1), some (.int (s45.2.1 + (1 : Int32))), none, none] ⟨rfl, rfl, rfl, rfl, trivial⟩ ?_
    exact hk
set_option maxRecDepth 20000 in
set_option maxHeartbeats 4000000 in
theorem R_La_pair (d : Nat) (xx : rh_L) (sv : Option Nat) (h : Nat → Nat → Int32) (g : Nat → Nat → Int64) (p0 : Int32) (p1 : Int32) {z9 : Int32 × (Nat → Nat → Int32)} (hf : f_La_pair h p0 p1 = some z9) : rh_M rh_PT (cw_L ++ xx) (d + 5) 140 [.ref 0, .int p0, .int p1] (h, g, cw_R sv) (some (.int z9.1)) (z9.2, g, cw_R sv) := by
  unfold f_La_pair at hf
  refine rh_go pt_140 (Nat.le_of_ble_eq_true rfl) (lv := [some (.ref 0), some (.int p0), some (.int p1), none, none, none, none]) rfl ?_
  refine rh_Ex.blk 3 (s' := ((5, [some (.ref 0), some (.int p0), some (.int p1), none, none, none, none], [.int (9999 : Int32), .int (0 : Int32), .int p0]), (h, g, cw_R sv))) rfl ?_
  refine rh_Ex.call (j := 155) (rc := none) [.int p0, .int (0 : Int32), .int (9999 : Int32)] [] (some (.int (f_La_within p0 (0 : Int32) (9999 : Int32)))) rfl rfl trivial (Nat.le_of_ble_eq_true rfl) (R_La_within (d + 3) (cw_L ++ xx) (cw_R sv) h g p0 (0 : Int32) (9999 : Int32) rfl) ?_
  show rh_Ex _ _ _ ((8, [some (.ref 0), some (.int p0), some (.int p1), none, none, none, none], [.int (f_La_within p0 (0 : Int32) (9999 : Int32))]), (h, g, cw_R sv)) _ _
  by_cases q1 : (f_La_within p0 (0 : Int32) (9999 : Int32)) = 0
  · rw [if_pos q1] at hf
    refine rh_Ex.stp (s' := ((18, [some (.ref 0), some (.int p0), some (.int p1), none, none, none, none], []), (h, g, cw_R sv))) rfl (st_ifeq_p q1) ?_
    cases hf
  · rw [if_neg q1] at hf
    refine rh_Ex.stp (s' := ((11, [some (.ref 0), some (.int p0), some (.int p1), none, none, none, none], []), (h, g, cw_R sv))) rfl (st_ifeq_n q1) ?_
    refine rh_Ex.blk 1 (s' := ((12, [some (.ref 0), some (.int p0), some (.int p1), none, none, none, none], [.int p1]), (h, g, cw_R sv))) rfl ?_
    obtain ⟨x2, hx2, hf⟩ := rh_bq hf
    refine rh_Ex.call (j := 156) (rc := none) [.int p1] [] (some (.int x2)) rfl rfl trivial (Nat.le_of_ble_eq_true rfl) (R_La_isBell (d + 2) (cw_L ++ xx) (cw_R sv) h g p1 hx2) ?_
    show rh_Ex _ _ _ ((15, [some (.ref 0), some (.int p0), some (.int p1), none, none, none, none], [.int x2]), (h, g, cw_R sv)) _ _
    by_cases q3 : x2 = 0
    · rw [if_pos q3] at hf
      refine rh_Ex.stp (s' := ((18, [some (.ref 0), some (.int p0), some (.int p1), none, none, none, none], []), (h, g, cw_R sv))) rfl (st_ifne_p q3) ?_
      cases hf
    · rw [if_neg q3] at hf
      refine rh_Ex.stp (s' := ((26, [some (.ref 0), some (.int p0), some (.int p1), none, none, none, none], []), (h, g, cw_R sv))) rfl (st_ifne_n q3) ?_
      refine rh_Ex.blk 3 (s' := ((31, [some (.ref 0), some (.int p0), some (.int p1), none, none, none, none], [.ref 0, .ref 4]), (h, g, cw_R sv))) rfl ?_
      refine rh_Ex.call (j := 159) (rc := some 10) [.ref 0] [.ref 4] (some (.int (f_La_dawn h))) rfl rfl rfl (Nat.le_of_ble_eq_true rfl) (R_La_dawn (d + 3) xx sv h g  rfl) ?_
      show rh_Ex _ _ _ ((34, [some (.ref 0), some (.int p0), some (.int p1), none, none, none, none], [.int (f_La_dawn h), .ref 4]), (h, g, cw_R sv)) _ _
      refine rh_Ex.blk 2 (s' := ((36, [some (.ref 0), some (.int p0), some (.int p1), none, none, none, none], [.int ((f_La_dawn h) + p1), .ref 4]), (h, g, cw_R sv))) rfl ?_
      obtain ⟨x4, hx4, hf⟩ := rh_bq hf
      refine rh_Ex.call (j := 8) (rc := some 0) [.ref 4, .int ((f_La_dawn h) + p1)] [] none rfl rfl rfl (Nat.le_of_ble_eq_true rfl) (R_Cr_sumAll d xx sv h g ((f_La_dawn h) + p1) hx4) ?_
      show rh_Ex _ _ _ ((39, [some (.ref 0), some (.int p0), some (.int p1), none, none, none, none], []), (x4, g, cw_R sv)) _ _
      refine rh_Ex.blk 4 (s' := ((45, [some (.ref 0), some (.int p0), some (.int p1), some (.int (1000000000 : Int32)), some (.int (0 : Int32)), none, none], []), (x4, g, cw_R sv))) rfl ?_
      obtain ⟨r14, hr14, hf⟩ := rh_bq hf
      refine rh_Ex.fgt [some (.ref 0), some (.int p0), none, some (.int (1000000000 : Int32)), some (.int (0 : Int32)), none, none] ⟨rfl, rfl, rfl, rfl, trivial⟩ ?_
      refine rh_Ex.loop _ _ _ (lb_La_pair_45 d xx sv p0  g _ _) rh_N _ r14 hr14 ?_
      refine rh_Ex.blk 2 (s' := ((144, [none, none, none, some (.int r14.1), none, none, none], [.int (1000000000 : Int32), .int r14.1]), (r14.2, g, cw_R sv))) rfl ?_
      by_cases q15 : r14.1 = (1000000000 : Int32)
      · rw [if_pos q15] at hf
        refine rh_Ex.stp (s' := ((147, [none, none, none, some (.int r14.1), none, none, none], []), (r14.2, g, cw_R sv))) rfl (st_icne_p q15) ?_
        refine rh_Ex.blk 2 (s' := ((154, [none, none, none, some (.int r14.1), none, none, none], [.int (-100000 : Int32)]), (r14.2, g, cw_R sv))) rfl ?_
        obtain rfl := Option.some.inj hf
        exact rh_Ex.ret rfl rfl
      · rw [if_neg q15] at hf
        refine rh_Ex.stp (s' := ((153, [none, none, none, some (.int r14.1), none, none, none], []), (r14.2, g, cw_R sv))) rfl (st_icne_n q15) ?_
        refine rh_Ex.blk 1 (s' := ((154, [none, none, none, some (.int r14.1), none, none, none], [.int r14.1]), (r14.2, g, cw_R sv))) rfl ?_
        obtain rfl := Option.some.inj hf
        exact rh_Ex.ret rfl rfl
def f_La_weighed (h : Nat → Nat → Int32) (p0 : Int32) (p1 : Int32) (p2 : Int32) : Option (Int32 × (Nat → Nat → Int32)) :=
  if (f_Cr_holds h p0) = 0 then
    some (((-1 : Int32), h))
  else
    if (f_La_within p1 (0 : Int32) (99 : Int32)) = 0 then
      some (((-1 : Int32), h))
    else
      if (f_La_within p2 (0 : Int32) (9999 : Int32)) = 0 then
        some (((-1 : Int32), h))
      else
        (f_Sc_hear h p0 p1 p2).bind (fun x4 =>
          some ((x4.1, x4.2))
        )
set_option maxRecDepth 20000 in
set_option maxHeartbeats 4000000 in
theorem R_La_weighed (d : Nat) (xx : rh_L) (sv : Option Nat) (h : Nat → Nat → Int32) (g : Nat → Nat → Int64) (p0 : Int32) (p1 : Int32) (p2 : Int32) {z9 : Int32 × (Nat → Nat → Int32)} (hf : f_La_weighed h p0 p1 p2 = some z9) : rh_M rh_PT (cw_L ++ xx) (d + 3) 141 [.ref 0, .int p0, .int p1, .int p2] (h, g, cw_R sv) (some (.int z9.1)) (z9.2, g, cw_R sv) := by
  unfold f_La_weighed at hf
  refine rh_go pt_141 (Nat.le_of_ble_eq_true rfl) (lv := [some (.ref 0), some (.int p0), some (.int p1), some (.int p2)]) rfl ?_
  refine rh_Ex.blk 3 (s' := ((5, [some (.ref 0), some (.int p0), some (.int p1), some (.int p2)], [.int p0, .ref 4]), (h, g, cw_R sv))) rfl ?_
  refine rh_Ex.call (j := 1) (rc := some 0) [.ref 4, .int p0] [] (some (.int (f_Cr_holds h p0))) rfl rfl rfl (Nat.le_of_ble_eq_true rfl) (R_Cr_holds d xx sv h g p0 rfl) ?_
  show rh_Ex _ _ _ ((8, [some (.ref 0), some (.int p0), some (.int p1), some (.int p2)], [.int (f_Cr_holds h p0)]), (h, g, cw_R sv)) _ _
  by_cases q1 : (f_Cr_holds h p0) = 0
  · rw [if_pos q1] at hf
    refine rh_Ex.stp (s' := ((32, [some (.ref 0), some (.int p0), some (.int p1), some (.int p2)], []), (h, g, cw_R sv))) rfl (st_ifeq_p q1) ?_
    refine rh_Ex.blk 1 (s' := ((33, [some (.ref 0), some (.int p0), some (.int p1), some (.int p2)], [.int (-1 : Int32)]), (h, g, cw_R sv))) rfl ?_
    obtain rfl := Option.some.inj hf
    exact rh_Ex.ret rfl rfl
  · rw [if_neg q1] at hf
    refine rh_Ex.stp (s' := ((11, [some (.ref 0), some (.int p0), some (.int p1), some (.int p2)], []), (h, g, cw_R sv))) rfl (st_ifeq_n q1) ?_
    refine rh_Ex.blk 3 (s' := ((15, [some (.ref 0), some (.int p0), some (.int p1), some (.int p2)], [.int (99 : Int32), .int (0 : Int32), .int p1]), (h, g, cw_R sv))) rfl ?_
    refine rh_Ex.call (j := 155) (rc := none) [.int p1, .int (0 : Int32), .int (99 : Int32)] [] (some (.int (f_La_within p1 (0 : Int32) (99 : Int32)))) rfl rfl trivial (Nat.le_of_ble_eq_true rfl) (R_La_within (d + 1) (cw_L ++ xx) (cw_R sv) h g p1 (0 : Int32) (99 : Int32) rfl) ?_
    show rh_Ex _ _ _ ((18, [some (.ref 0), some (.int p0), some (.int p1), some (.int p2)], [.int (f_La_within p1 (0 : Int32) (99 : Int32))]), (h, g, cw_R sv)) _ _
    by_cases q2 : (f_La_within p1 (0 : Int32) (99 : Int32)) = 0
    · rw [if_pos q2] at hf
      refine rh_Ex.stp (s' := ((32, [some (.ref 0), some (.int p0), some (.int p1), some (.int p2)], []), (h, g, cw_R sv))) rfl (st_ifeq_p q2) ?_
      refine rh_Ex.blk 1 (s' := ((33, [some (.ref 0), some (.int p0), some (.int p1), some (.int p2)], [.int (-1 : Int32)]), (h, g, cw_R sv))) rfl ?_
      obtain rfl := Option.some.inj hf
      exact rh_Ex.ret rfl rfl
    · rw [if_neg q2] at hf
      refine rh_Ex.stp (s' := ((21, [some (.ref 0), some (.int p0), some (.int p1), some (.int p2)], []), (h, g, cw_R sv))) rfl (st_ifeq_n q2) ?_
      refine rh_Ex.blk 3 (s' := ((26, [some (.ref 0), some (.int p0), some (.int p1), some (.int p2)], [.int (9999 : Int32), .int (0 : Int32), .int p2]), (h, g, cw_R sv))) rfl ?_
      refine rh_Ex.call (j := 155) (rc := none) [.int p2, .int (0 : Int32), .int (9999 : Int32)] [] (some (.int (f_La_within p2 (0 : Int32) (9999 : Int32)))) rfl rfl trivial (Nat.le_of_ble_eq_true rfl) (R_La_within (d + 1) (cw_L ++ xx) (cw_R sv) h g p2 (0 : Int32) (9999 : Int32) rfl) ?_
      show rh_Ex _ _ _ ((29, [some (.ref 0), some (.int p0), some (.int p1), some (.int p2)], [.int (f_La_within p2 (0 : Int32) (9999 : Int32))]), (h, g, cw_R sv)) _ _
      by_cases q3 : (f_La_within p2 (0 : Int32) (9999 : Int32)) = 0
      · rw [if_pos q3] at hf
        refine rh_Ex.stp (s' := ((32, [some (.ref 0), some (.int p0), some (.int p1), some (.int p2)], []), (h, g, cw_R sv))) rfl (st_ifne_p q3) ?_
        refine rh_Ex.blk 1 (s' := ((33, [some (.ref 0), some (.int p0), some (.int p1), some (.int p2)], [.int (-1 : Int32)]), (h, g, cw_R sv))) rfl ?_
        obtain rfl := Option.some.inj hf
        exact rh_Ex.ret rfl rfl
      · rw [if_neg q3] at hf
        refine rh_Ex.stp (s' := ((34, [some (.ref 0), some (.int p0), some (.int p1), some (.int p2)], []), (h, g, cw_R sv))) rfl (st_ifne_n q3) ?_
        refine rh_Ex.blk 5 (s' := ((41, [some (.ref 0), some (.int p0), some (.int p1), some (.int p2)], [.int p2, .int p1, .int p0, .ref 34]), (h, g, cw_R sv))) rfl ?_
        obtain ⟨x4, hx4, hf⟩ := rh_bq hf
        refine rh_Ex.call (j := 71) (rc := some 7) [.ref 34, .int p0, .int p1, .int p2] [] (some (.int x4.1)) rfl rfl rfl (Nat.le_of_ble_eq_true rfl) (R_Sc_hear (d + 1) xx sv h g p0 p1 p2 hx4) ?_
        show rh_Ex _ _ _ ((44, [some (.ref 0), some (.int p0), some (.int p1), some (.int p2)], [.int x4.1]), (x4.2, g, cw_R sv)) _ _
        obtain rfl := Option.some.inj hf
        exact rh_Ex.ret rfl rfl
def f_La_unsay (h : Nat → Nat → Int32) : Int32 × (Nat → Nat → Int32) :=
  (h 34 1, rh_up h 34 1 (0 : Int32))
set_option maxRecDepth 20000 in
set_option maxHeartbeats 4000000 in
theorem R_La_unsay (d : Nat) (xx : rh_L) (sv : Option Nat) (h : Nat → Nat → Int32) (g : Nat → Nat → Int64)  {z9 : Int32 × (Nat → Nat → Int32)} (hf : f_La_unsay h = z9) : rh_M rh_PT (cw_L ++ xx) (d + 1) 142 [.ref 0] (h, g, cw_R sv) (some (.int z9.1)) (z9.2, g, cw_R sv) := by
  unfold f_La_unsay at hf
  refine rh_go pt_142 (Nat.le_of_ble_eq_true rfl) (lv := [some (.ref 0), none]) rfl ?_
  refine rh_Ex.blk 9 (s' := ((17, [some (.ref 0), some (.int (h 34 1))], [.int (h 34 1)]), (rh_up h 34 1 (0 : Int32), g, cw_R sv))) rfl ?_
  subst hf
  exact rh_Ex.ret rfl rfl
def f_La_believed (h : Nat → Nat → Int32) : Option (Int32 × (Nat → Nat → Int32)) :=
  (f_Sc_wrongAt h (h 13 1)).bind (fun x1 =>
    (f_Ro_tell x1.2 x1.1).bind (fun x2 =>
      if x1.1 = 0 then
        some (((1 : Int32), x2))
      else
        some (((0 : Int32), x2))
    )
  )
set_option maxRecDepth 20000 in
set_option maxHeartbeats 4000000 in
theorem R_La_believed (d : Nat) (xx : rh_L) (sv : Option Nat) (h : Nat → Nat → Int32) (g : Nat → Nat → Int64)  {z9 : Int32 × (Nat → Nat → Int32)} (hf : f_La_believed h = some z9) : rh_M rh_PT (cw_L ++ xx) (d + 6) 143 [.ref 0] (h, g, cw_R sv) (some (.int z9.1)) (z9.2, g, cw_R sv) := by
  unfold f_La_believed at hf
  refine rh_go pt_143 (Nat.le_of_ble_eq_true rfl) (lv := [some (.ref 0), none]) rfl ?_
  refine rh_Ex.blk 5 (s' := ((11, [some (.ref 0), none], [.int (h 13 1), .ref 34]), (h, g, cw_R sv))) rfl ?_
  obtain ⟨x1, hx1, hf⟩ := rh_bq hf
  refine rh_Ex.call (j := 72) (rc := some 7) [.ref 34, .int (h 13 1)] [] (some (.int x1.1)) rfl rfl rfl (Nat.le_of_ble_eq_true rfl) (R_Sc_wrongAt d xx sv h g (h 13 1) hx1) ?_
  show rh_Ex _ _ _ ((14, [some (.ref 0), none], [.int x1.1]), (x1.2, g, cw_R sv)) _ _
  refine rh_Ex.blk 4 (s' := ((20, [some (.ref 0), some (.int x1.1)], [.int x1.1, .ref 2]), (x1.2, g, cw_R sv))) rfl ?_
  obtain ⟨x2, hx2, hf⟩ := rh_bq hf
  refine rh_Ex.call (j := 70) (rc := some 6) [.ref 2, .int x1.1] [] none rfl rfl rfl (Nat.le_of_ble_eq_true rfl) (R_Ro_tell (d + 3) xx sv x1.2 g x1.1 hx2) ?_
  show rh_Ex _ _ _ ((23, [some (.ref 0), some (.int x1.1)], []), (x2, g, cw_R sv)) _ _
  refine rh_Ex.blk 1 (s' := ((24, [some (.ref 0), some (.int x1.1)], [.int x1.1]), (x2, g, cw_R sv))) rfl ?_
  by_cases q3 : x1.1 = 0
  · rw [if_pos q3] at hf
    refine rh_Ex.stp (s' := ((27, [some (.ref 0), some (.int x1.1)], []), (x2, g, cw_R sv))) rfl (st_ifne_p q3) ?_
    refine rh_Ex.blk 2 (s' := ((32, [some (.ref 0), some (.int x1.1)], [.int (1 : Int32)]), (x2, g, cw_R sv))) rfl ?_
    obtain rfl := Option.some.inj hf
    exact rh_Ex.ret rfl rfl
  · rw [if_neg q3] at hf
    refine rh_Ex.stp (s' := ((31, [some (.ref 0), some (.int x1.1)], []), (x2, g, cw_R sv))) rfl (st_ifne_n q3) ?_
    refine rh_Ex.blk 1 (s' := ((32, [some (.ref 0), some (.int x1.1)], [.int (0 : Int32)]), (x2, g, cw_R sv))) rfl ?_
    obtain rfl := Option.some.inj hf
    exact rh_Ex.ret rfl rfl
def b_La_fits_45 (u1 : Int32) : (Int32 × Int32 × Int32 × Int32 × (Nat → Nat → Int32)) → Option ((Int32 × Int32 × Int32 × Int32 × (Nat → Nat → Int32)) ⊕ (Int32 × Int32 × Int32 × (Nat → Nat → Int32))) := fun s45 =>
  if (999 : Int32) < s45.2.2.2.1 then
    some (.inr (s45.1, s45.2.1, s45.2.2.1, s45.2.2.2.2))
  else
    (f_Sc_agrees s45.2.2.2.2 u1 s45.2.2.2.1).bind (fun x6 =>
      if x6.1 = 0 then
        some (.inl (s45.1, s45.2.1, s45.2.2.1, s45.2.2.2.1 + (1 : Int32), x6.2))
      else
        if s45.2.2.1 = 0 then
          some (.inl (s45.2.2.2.1, s45.2.2.2.1, s45.2.2.1 + (1 : Int32), s45.2.2.2.1 + (1 : Int32), x6.2))
        else
          some (.inl (s45.1, s45.2.2.2.1, s45.2.2.1 + (1 : Int32), s45.2.2.2.1 + (1 : Int32), x6.2))
    )
def f_La_fits (h : Nat → Nat → Int32) (p0 : Int32) : Option (Int32 × (Nat → Nat → Int32)) :=
  if (f_Cr_has h p0) = 0 then
    some (((-1 : Int32), h))
  else
    (f_Sc_gather h p0 (h 13 1)).bind (fun x2 =>
      if x2.1 = 0 then
        some (((-2 : Int32), x2.2))
      else
        (rh_loop (b_La_fits_45 p0) rh_N ((-2 : Int32), (0 : Int32), (0 : Int32), (1 : Int32), x2.2)).bind (fun r9 =>
          if r9.2.2.1 ≤ 0 then
            some ((r9.1, r9.2.2.2))
          else
            (f_Ro_tell r9.2.2.2 r9.2.1).bind (fun x11 =>
              (f_Ro_add x11 r9.2.2.1).bind (fun x12 =>
                some ((r9.1, x12))
              )
            )
        )
    )
set_option maxRecDepth 20000 in
set_option maxHeartbeats 4000000 in
theorem lb_La_fits_45 (d : Nat) (xx : rh_L) (sv : Option Nat) (u1 : Int32) (g : Nat → Nat → Int64) (v9 : Option Value) (h9 : rh_H) : ∀ s45 x9, b_La_fits_45 u1 s45 = some x9 → Sum.elim (fun s45 => rh_Ex (rh_M rh_PT (cw_L ++ xx) (d + 5)) (cw_L ++ xx) pg_X11_fits ((45, [some (.ref 0), some (.int u1), some (.int s45.1), some (.int s45.2.1), some (.int s45.2.2.1), some (.int s45.2.2.2.1)], []), (s45.2.2.2.2, g, cw_R sv)) v9 h9) (fun e9 => rh_Ex (rh_M rh_PT (cw_L ++ xx) (d + 5)) (cw_L ++ xx) pg_X11_fits ((90, [some (.ref 0), none, some (.int e9.1), some (.int e9.2.1), some (.int e9.2.2.1), none], []), (e9.2.2.2, g, cw_R sv)) v9 h9) x9 → rh_Ex (rh_M rh_PT (cw_L ++ xx) (d + 5)) (cw_L ++ xx) pg_X11_fits ((45, [some (.ref 0), some (.int u1), some (.int s45.1), some (.int s45.2.1), some (.int s45.2.2.1), some (.int s45.2.2.2.1)], []), (s45.2.2.2.2, g, cw_R sv)) v9 h9 := by
  intro s45 x9 hf hk
  unfold b_La_fits_45 at hf
  refine rh_Ex.blk 2 (s' := ((50, [some (.ref 0), some (.int u1), some (.int s45.1), some (.int s45.2.1), some (.int s45.2.2.1), some (.int s45.2.2.2.1)], [.int (999 : Int32), .int s45.2.2.2.1]), (s45.2.2.2.2, g, cw_R sv))) rfl ?_
  by_cases q5 : (999 : Int32) < s45.2.2.2.1
  · rw [if_pos q5] at hf
    refine rh_Ex.stp (s' := ((90, [some (.ref 0), some (.int u1), some (.int s45.1), some (.int s45.2.1), some (.int s45.2.2.1), some (.int s45.2.2.2.1)], []), (s45.2.2.2.2, g, cw_R sv))) rfl (st_icgt_p q5) ?_
    obtain rfl := Option.some.inj hf
    refine rh_Ex.fgt [some (.ref 0), none, some (.int s45.1), some (.int s45.2.1), some (.int s45.2.2.1), none] ⟨rfl, rfl, rfl, rfl, trivial⟩ ?_
    exact hk
  · rw [if_neg q5] at hf
    refine rh_Ex.stp (s' := ((53, [some (.ref 0), some (.int u1), some (.int s45.1), some (.int s45.2.1), some (.int s45.2.2.1), some (.int s45.2.2.2.1)], []), (s45.2.2.2.2, g, cw_R sv))) rfl (st_icgt_n q5) ?_
    refine rh_Ex.blk 4 (s' := ((60, [some (.ref 0), some (.int u1), some (.int s45.1), some (.int s45.2.1), some (.int s45.2.2.1), some (.int s45.2.2.2.1)], [.int s45.2.2.2.1, .int u1, .ref 34]), (s45.2.2.2.2, g, cw_R sv))) rfl ?_
    obtain ⟨x6, hx6, hf⟩ := rh_bq hf
    refine rh_Ex.call (j := 74) (rc := some 7) [.ref 34, .int u1, .int s45.2.2.2.1] [] (some (.int x6.1)) rfl rfl rfl (Nat.le_of_ble_eq_true rfl) (R_Sc_agrees (d + 1) xx sv s45.2.2.2.2 g u1 s45.2.2.2.1 hx6) ?_
    show rh_Ex _ _ _ ((63, [some (.ref 0), some (.int u1), some (.int s45.1), some (.int s45.2.1), some (.int s45.2.2.1), some (.int s45.2.2.2.1)], [.int x6.1]), (x6.2, g, cw_R sv)) _ _
    by_cases q7 : x6.1 = 0
    · rw [if_pos q7] at hf
      refine rh_Ex.stp (s' := ((84, [some (.ref 0), some (.int u1), some (.int s45.1), some (.int s45.2.1), some (.int s45.2.2.1), some (.int s45.2.2.2.1)], []), (x6.2, g, cw_R sv))) rfl (st_ifeq_p q7) ?_
      refine rh_Ex.blk 2 (s' := ((45, [some (.ref 0), some (.int u1), some (.int s45.1), some (.int s45.2.1), some (.int s45.2.2.1), some (.int (s45.2.2.2.1 + (1 : Int32)))], []), (x6.2, g, cw_R sv))) rfl ?_
      obtain rfl := Option.some.inj hf
      refine rh_Ex.fgt [some (.ref 0), some (.int u1), some (.int s45.1), some (.int s45.2.1), some (.int s45.2.2.1), some (.int (s45.2.2.2.1 + (1 : Int32)))] ⟨rfl, rfl, rfl, rfl, rfl, rfl, trivial⟩ ?_
      exact hk
    · rw [if_neg q7] at hf
      refine rh_Ex.stp (s' := ((66, [some (.ref 0), some (.int u1), some (.int s45.1), some (.int s45.2.1), some (.int s45.2.2.1), some (.int s45.2.2.2.1)], []), (x6.2, g, cw_R sv))) rfl (st_ifeq_n q7) ?_
      refine rh_Ex.blk 1 (s' := ((68, [some (.ref 0), some (.int u1), some (.int s45.1), some (.int s45.2.1), some (.int s45.2.2.1), some (.int s45.2.2.2.1)], [.int s45.2.2.1]), (x6.2, g, cw_R sv))) rfl ?_
      by_cases q8 : s45.2.2.1 = 0
      · rw [if_pos q8] at hf
        refine rh_Ex.stp (s' := ((71, [some (.ref 0), some (.int u1), some (.int s45.1), some (.int s45.2.1), some (.int s45.2.2.1), some (.int s45.2.2.2.1)], []), (x6.2, g, cw_R sv))) rfl (st_ifne_p q8) ?_
        refine rh_Ex.blk 8 (s' := ((45, [some (.ref 0), some (.int u1), some (.int s45.2.2.2.1), some (.int s45.2.2.2.1), some (.int (s45.2.2.1 + (1 : Int32))), some (.int (s45.2.2.2.1 + (1 : Int32)))], []), (x6.2, g, cw_R sv))) rfl ?_
        obtain rfl := Option.some.inj hf
        refine rh_Ex.fgt [some (.ref 0), some (.int u1), some (.int s45.2.2.2.1), some (.int s45.2.2.2.1), some (.int (s45.2.2.1 + (1 : Int32))), some (.int (s45.2.2.2.1 + (1 : Int32)))] ⟨rfl, rfl, rfl, rfl, rfl, rfl, trivial⟩ ?_
        exact hk
      · rw [if_neg q8] at hf
        refine rh_Ex.stp (s' := ((76, [some (.ref 0), some (.int u1), some (.int s45.1), some (.int s45.2.1), some (.int s45.2.2.1), some (.int s45.2.2.2.1)], []), (x6.2, g, cw_R sv))) rfl (st_ifne_n q8) ?_
        refine rh_Ex.blk 7 (s' := ((45, [some (.ref 0), some (.int u1), some (.int s45.1), some (.int s45.2.2.2.1), some (.int (s45.2.2.1 + (1 : Int32))), some (.int (s45.2.2.2.1 + (1 : Int32)))], []), (x6.2, g, cw_R sv))) rfl ?_
        obtain rfl := Option.some.inj hf
        refine rh_Ex.fgt [some (.ref 0), some (.int u1), some (.int s45.1), some (.int s45.2.2.2.1), some (.int (s45.2.2.1 + (1 : Int32))), some (.int (s45.2.2.2.1 + (1 : Int32)))] ⟨rfl, rfl, rfl, rfl, rfl, rfl, trivial⟩ ?_
        exact hk
set_option maxRecDepth 20000 in
set_option maxHeartbeats 4000000 in
theorem R_La_fits (d : Nat) (xx : rh_L) (sv : Option Nat) (h : Nat → Nat → Int32) (g : Nat → Nat → Int64) (p0 : Int32) {z9 : Int32 × (Nat → Nat → Int32)} (hf : f_La_fits h p0 = some z9) : rh_M rh_PT (cw_L ++ xx) (d + 6) 144 [.ref 0, .int p0] (h, g, cw_R sv) (some (.int z9.1)) (z9.2, g, cw_R sv) := by
  unfold f_La_fits at hf
  refine rh_go pt_144 (Nat.le_of_ble_eq_true rfl) (lv := [some (.ref 0), some (.int p0), none, none, none, none]) rfl ?_
  refine rh_Ex.blk 3 (s' := ((5, [some (.ref 0), some (.int p0), none, none, none, none], [.int p0, .ref 4]), (h, g, cw_R sv))) rfl ?_
  refine rh_Ex.call (j := 0) (rc := some 0) [.ref 4, .int p0] [] (some (.int (f_Cr_has h p0))) rfl rfl rfl (Nat.le_of_ble_eq_true rfl) (R_Cr_has (d + 4) xx sv h g p0 rfl) ?_
  show rh_Ex _ _ _ ((8, [some (.ref 0), some (.int p0), none, none, none, none], [.int (f_Cr_has h p0)]), (h, g, cw_R sv)) _ _
  by_cases q1 : (f_Cr_has h p0) = 0
  · rw [if_pos q1] at hf
    refine rh_Ex.stp (s' := ((11, [some (.ref 0), some (.int p0), none, none, none, none], []), (h, g, cw_R sv))) rfl (st_ifne_p q1) ?_
    refine rh_Ex.blk 1 (s' := ((12, [some (.ref 0), some (.int p0), none, none, none, none], [.int (-1 : Int32)]), (h, g, cw_R sv))) rfl ?_
    obtain rfl := Option.some.inj hf
    exact rh_Ex.ret rfl rfl
  · rw [if_neg q1] at hf
    refine rh_Ex.stp (s' := ((13, [some (.ref 0), some (.int p0), none, none, none, none], []), (h, g, cw_R sv))) rfl (st_ifne_n q1) ?_
    refine rh_Ex.blk 6 (s' := ((25, [some (.ref 0), some (.int p0), none, none, none, none], [.int (h 13 1), .int p0, .ref 34]), (h, g, cw_R sv))) rfl ?_
    obtain ⟨x2, hx2, hf⟩ := rh_bq hf
    refine rh_Ex.call (j := 73) (rc := some 7) [.ref 34, .int p0, .int (h 13 1)] [] (some (.int x2.1)) rfl rfl rfl (Nat.le_of_ble_eq_true rfl) (R_Sc_gather d xx sv h g p0 (h 13 1) hx2) ?_
    show rh_Ex _ _ _ ((28, [some (.ref 0), some (.int p0), none, none, none, none], [.int x2.1]), (x2.2, g, cw_R sv)) _ _
    by_cases q3 : x2.1 = 0
    · rw [if_pos q3] at hf
      refine rh_Ex.stp (s' := ((31, [some (.ref 0), some (.int p0), none, none, none, none], []), (x2.2, g, cw_R sv))) rfl (st_ifne_p q3) ?_
      refine rh_Ex.blk 1 (s' := ((33, [some (.ref 0), some (.int p0), none, none, none, none], [.int (-2 : Int32)]), (x2.2, g, cw_R sv))) rfl ?_
      obtain rfl := Option.some.inj hf
      exact rh_Ex.ret rfl rfl
    · rw [if_neg q3] at hf
      refine rh_Ex.stp (s' := ((34, [some (.ref 0), some (.int p0), none, none, none, none], []), (x2.2, g, cw_R sv))) rfl (st_ifne_n q3) ?_
      refine rh_Ex.blk 8 (s' := ((45, [some (.ref 0), some (.int p0), some (.int (-2 : Int32)), some (.int (0 : Int32)), some (.int (0 : Int32)), some (.int (1 : Int32))], []), (x2.2, g, cw_R sv))) rfl ?_
      obtain ⟨r9, hr9, hf⟩ := rh_bq hf
      refine rh_Ex.fgt [some (.ref 0), some (.int p0), some (.int (-2 : Int32)), some (.int (0 : Int32)), some (.int (0 : Int32)), some (.int (1 : Int32))] ⟨rfl, rfl, rfl, rfl, rfl, rfl, trivial⟩ ?_
      refine rh_Ex.loop _ _ _ (lb_La_fits_45 d xx sv p0  g _ _) rh_N _ r9 hr9 ?_
      refine rh_Ex.blk 1 (s' := ((92, [some (.ref 0), none, some (.int r9.1), some (.int r9.2.1), some (.int r9.2.2.1), none], [.int r9.2.2.1]), (r9.2.2.2, g, cw_R sv))) rfl ?_
      by_cases q10 : r9.2.2.1 ≤ 0
      · rw [if_pos q10] at hf
        refine rh_Ex.stp (s' := ((112, [some (.ref 0), none, some (.int r9.1), some (.int r9.2.1), some (.int r9.2.2.1), none], []), (r9.2.2.2, g, cw_R sv))) rfl (st_ifle_p q10) ?_
        refine rh_Ex.blk 1 (s' := ((113, [some (.ref 0), none, some (.int r9.1), some (.int r9.2.1), some (.int r9.2.2.1), none], [.int r9.1]), (r9.2.2.2, g, cw_R sv))) rfl ?_
        obtain rfl := Option.some.inj hf
        exact rh_Ex.ret rfl rfl
      · rw [if_neg q10] at hf
        refine rh_Ex.stp (s' := ((95, [some (.ref 0), none, some (.int r9.1), some (.int r9.2.1), some (.int r9.2.2.1), none], []), (r9.2.2.2, g, cw_R sv))) rfl (st_ifle_n q10) ?_
        refine rh_Ex.blk 3 (s' := ((100, [some (.ref 0), none, some (.int r9.1), some (.int r9.2.1), some (.int r9.2.2.1), none], [.int r9.2.1, .ref 2]), (r9.2.2.2, g, cw_R sv))) rfl ?_
        obtain ⟨x11, hx11, hf⟩ := rh_bq hf
        refine rh_Ex.call (j := 70) (rc := some 6) [.ref 2, .int r9.2.1] [] none rfl rfl rfl (Nat.le_of_ble_eq_true rfl) (R_Ro_tell (d + 3) xx sv r9.2.2.2 g r9.2.1 hx11) ?_
        show rh_Ex _ _ _ ((103, [some (.ref 0), none, some (.int r9.1), some (.int r9.2.1), some (.int r9.2.2.1), none], []), (x11, g, cw_R sv)) _ _
        refine rh_Ex.blk 3 (s' := ((109, [some (.ref 0), none, some (.int r9.1), some (.int r9.2.1), some (.int r9.2.2.1), none], [.int r9.2.2.1, .ref 2]), (x11, g, cw_R sv))) rfl ?_
        obtain ⟨x12, hx12, hf⟩ := rh_bq hf
        refine rh_Ex.call (j := 69) (rc := some 6) [.ref 2, .int r9.2.2.1] [] none rfl rfl rfl (Nat.le_of_ble_eq_true rfl) (R_Ro_add (d + 4) xx sv x11 g r9.2.2.1 hx12) ?_
        show rh_Ex _ _ _ ((112, [some (.ref 0), none, some (.int r9.1), some (.int r9.2.1), some (.int r9.2.2.1), none], []), (x12, g, cw_R sv)) _ _
        refine rh_Ex.blk 1 (s' := ((113, [some (.ref 0), none, some (.int r9.1), some (.int r9.2.1), some (.int r9.2.2.1), none], [.int r9.1]), (x12, g, cw_R sv))) rfl ?_
        obtain rfl := Option.some.inj hf
        exact rh_Ex.ret rfl rfl
def b_La_canBeFalse_2 (u1 : Int32) : (Int32 × (Nat → Nat → Int32)) → Option ((Int32 × (Nat → Nat → Int32)) ⊕ (((Nat → Nat → Int32)) ⊕ (Int32 × (Nat → Nat → Int32)))) := fun s2 =>
  if (999 : Int32) < s2.1 then
    some (.inr (.inl s2.2))
  else
    rh_g (0 ≤ u1.toInt ∧ u1.toInt < ((9 : Nat) : Int)) (
      if s2.1 = (s2.2 5 u1.toNatClampNeg) then
        some (.inl (s2.1 + (1 : Int32), s2.2))
      else
        (f_Sc_agrees s2.2 u1 s2.1).bind (fun x5 =>
          if x5.1 = 0 then
            some (.inl (s2.1 + (1 : Int32), x5.2))
          else
            some (.inr (.inr ((1 : Int32), x5.2)))
        )
    )
def f_La_canBeFalse (h : Nat → Nat → Int32) (p0 : Int32) : Option (Int32 × (Nat → Nat → Int32)) :=
  (rh_loop (b_La_canBeFalse_2 p0) rh_N ((1 : Int32), h)).bind (fun r7 => match r7 with
    | .inl e8 =>
      some (((0 : Int32), e8))
    | .inr t9 => some t9)
set_option maxRecDepth 20000 in
set_option maxHeartbeats 4000000 in
theorem lb_La_canBeFalse_2 (d : Nat) (xx : rh_L) (sv : Option Nat) (u1 : Int32) (g : Nat → Nat → Int64) (v9 : Option Value) (h9 : rh_H) : ∀ s2 x9, b_La_canBeFalse_2 u1 s2 = some x9 → Sum.elim (fun s2 => rh_Ex (rh_M rh_PT (cw_L ++ xx) (d + 4)) (cw_L ++ xx) pg_X11_canBeFalse ((2, [some (.ref 0), some (.int u1), some (.int s2.1)], []), (s2.2, g, cw_R sv)) v9 h9) (Sum.elim (fun e9 => rh_Ex (rh_M rh_PT (cw_L ++ xx) (d + 4)) (cw_L ++ xx) pg_X11_canBeFalse ((42, [none, none, none], []), (e9, g, cw_R sv)) v9 h9) (fun t9 => v9 = (some (.int t9.1)) ∧ h9 = (t9.2, g, cw_R sv))) x9 → rh_Ex (rh_M rh_PT (cw_L ++ xx) (d + 4)) (cw_L ++ xx) pg_X11_canBeFalse ((2, [some (.ref 0), some (.int u1), some (.int s2.1)], []), (s2.2, g, cw_R sv)) v9 h9 := by
  intro s2 x9 hf hk
  unfold b_La_canBeFalse_2 at hf
  refine rh_Ex.blk 2 (s' := ((6, [some (.ref 0), some (.int u1), some (.int s2.1)], [.int (999 : Int32), .int s2.1]), (s2.2, g, cw_R sv))) rfl ?_
  by_cases q2 : (999 : Int32) < s2.1
  · rw [if_pos q2] at hf
    refine rh_Ex.stp (s' := ((42, [some (.ref 0), some (.int u1), some (.int s2.1)], []), (s2.2, g, cw_R sv))) rfl (st_icgt_p q2) ?_
    obtain rfl := Option.some.inj hf
    refine rh_Ex.fgt [none, none, none] trivial ?_
    exact hk
  · rw [if_neg q2] at hf
    refine rh_Ex.stp (s' := ((9, [some (.ref 0), some (.int u1), some (.int s2.1)], []), (s2.2, g, cw_R sv))) rfl (st_icgt_n q2) ?_
    refine rh_Ex.blk 5 (s' := ((18, [some (.ref 0), some (.int u1), some (.int s2.1)], [.int u1, .ref 5, .int s2.1]), (s2.2, g, cw_R sv))) rfl ?_
    obtain ⟨q3, hf⟩ := rh_gq hf
    refine rh_Ex.stp (s' := ((19, [some (.ref 0), some (.int u1), some (.int s2.1)], [.int (s2.2 5 u1.toNatClampNeg), .int s2.1]), (s2.2, g, cw_R sv))) rfl (st_iald (n := 9) rfl q3) ?_
    by_cases q4 : s2.1 = (s2.2 5 u1.toNatClampNeg)
    · rw [if_pos q4] at hf
      refine rh_Ex.stp (s' := ((36, [some (.ref 0), some (.int u1), some (.int s2.1)], []), (s2.2, g, cw_R sv))) rfl (st_iceq_p q4) ?_
      refine rh_Ex.blk 2 (s' := ((2, [some (.ref 0), some (.int u1), some (.int (s2.1 + (1 : Int32)))], []), (s2.2, g, cw_R sv))) rfl ?_
      obtain rfl := Option.some.inj hf
      refine rh_Ex.fgt [some (.ref 0), some (.int u1), some (.int (s2.1 + (1 : Int32)))] ⟨rfl, rfl, rfl, trivial⟩ ?_
      exact hk
    · rw [if_neg q4] at hf
      refine rh_Ex.stp (s' := ((22, [some (.ref 0), some (.int u1), some (.int s2.1)], []), (s2.2, g, cw_R sv))) rfl (st_iceq_n q4) ?_
      refine rh_Ex.blk 4 (s' := ((28, [some (.ref 0), some (.int u1), some (.int s2.1)], [.int s2.1, .int u1, .ref 34]), (s2.2, g, cw_R sv))) rfl ?_
      obtain ⟨x5, hx5, hf⟩ := rh_bq hf
      refine rh_Ex.call (j := 74) (rc := some 7) [.ref 34, .int u1, .int s2.1] [] (some (.int x5.1)) rfl rfl rfl (Nat.le_of_ble_eq_true rfl) (R_Sc_agrees d xx sv s2.2 g u1 s2.1 hx5) ?_
      show rh_Ex _ _ _ ((31, [some (.ref 0), some (.int u1), some (.int s2.1)], [.int x5.1]), (x5.2, g, cw_R sv)) _ _
      by_cases q6 : x5.1 = 0
      · rw [if_pos q6] at hf
        refine rh_Ex.stp (s' := ((36, [some (.ref 0), some (.int u1), some (.int s2.1)], []), (x5.2, g, cw_R sv))) rfl (st_ifeq_p q6) ?_
        refine rh_Ex.blk 2 (s' := ((2, [some (.ref 0), some (.int u1), some (.int (s2.1 + (1 : Int32)))], []), (x5.2, g, cw_R sv))) rfl ?_
        obtain rfl := Option.some.inj hf
        refine rh_Ex.fgt [some (.ref 0), some (.int u1), some (.int (s2.1 + (1 : Int32)))] ⟨rfl, rfl, rfl, trivial⟩ ?_
        exact hk
      · rw [if_neg q6] at hf
        refine rh_Ex.stp (s' := ((34, [some (.ref 0), some (.int u1), some (.int s2.1)], []), (x5.2, g, cw_R sv))) rfl (st_ifeq_n q6) ?_
        refine rh_Ex.blk 1 (s' := ((35, [some (.ref 0), some (.int u1), some (.int s2.1)], [.int (1 : Int32)]), (x5.2, g, cw_R sv))) rfl ?_
        obtain rfl := Option.some.inj hf
        obtain ⟨rfl, rfl⟩ := hk
        exact rh_Ex.ret rfl ⟨rfl, Or.inr rfl⟩
set_option maxRecDepth 20000 in
set_option maxHeartbeats 4000000 in
theorem R_La_canBeFalse (d : Nat) (xx : rh_L) (sv : Option Nat) (h : Nat → Nat → Int32) (g : Nat → Nat → Int64) (p0 : Int32) {z9 : Int32 × (Nat → Nat → Int32)} (hf : f_La_canBeFalse h p0 = some z9) : rh_M rh_PT (cw_L ++ xx) (d + 5) 173 [.ref 0, .int p0] (h, g, cw_R sv) (some (.int z9.1)) (z9.2, g, cw_R sv) := by
  unfold f_La_canBeFalse at hf
  refine rh_go pt_173 (Nat.le_of_ble_eq_true rfl) (lv := [some (.ref 0), some (.int p0), none]) rfl ?_
  refine rh_Ex.blk 2 (s' := ((2, [some (.ref 0), some (.int p0), some (.int (1 : Int32))], []), (h, g, cw_R sv))) rfl ?_
  obtain ⟨r7, hr7, hf⟩ := rh_bq hf
  refine rh_Ex.fgt [some (.ref 0), some (.int p0), some (.int (1 : Int32))] ⟨rfl, rfl, rfl, trivial⟩ ?_
  refine rh_Ex.loop _ _ _ (lb_La_canBeFalse_2 d xx sv p0  g _ _) rh_N _ r7 hr7 ?_
  rcases r7 with e8 | t9
  · dsimp only at hf
    refine rh_Ex.blk 1 (s' := ((43, [none, none, none], [.int (0 : Int32)]), (e8, g, cw_R sv))) rfl ?_
    obtain rfl := Option.some.inj hf
    exact rh_Ex.ret rfl ⟨rfl, Or.inl rfl⟩
  · dsimp only at hf
    obtain rfl := Option.some.inj hf
    exact ⟨rfl, rfl⟩
def b_La_liars_4  : (Int32 × Int32 × (Nat → Nat → Int32)) → Option ((Int32 × Int32 × (Nat → Nat → Int32)) ⊕ (Int32 × (Nat → Nat → Int32))) := fun s4 =>
  if (s4.2.2 4 0) ≤ s4.2.1 then
    some (.inr (s4.1, s4.2.2))
  else
    (f_Sc_gather s4.2.2 s4.2.1 (s4.2.2 13 1)).bind (fun x3 =>
      if x3.1 = 0 then
        some (.inl (s4.1, s4.2.1 + (1 : Int32), x3.2))
      else
        (f_La_canBeFalse x3.2 s4.2.1).bind (fun x5 =>
          if x5.1 = 0 then
            some (.inl (s4.1, s4.2.1 + (1 : Int32), x5.2))
          else
            some (.inl (s4.1 ||| ((1 : Int32) <<< (s4.2.1 &&& 31)), s4.2.1 + (1 : Int32), x5.2))
        )
    )
def f_La_liars (h : Nat → Nat → Int32) : Option (Int32 × (Nat → Nat → Int32)) :=
  (rh_loop (b_La_liars_4 ) rh_N ((0 : Int32), (0 : Int32), h)).bind (fun r7 =>
    some ((r7.1, r7.2))
  )
set_option maxRecDepth 20000 in
set_option maxHeartbeats 4000000 in
theorem lb_La_liars_4 (d : Nat) (xx : rh_L) (sv : Option Nat)  (g : Nat → Nat → Int64) (v9 : Option Value) (h9 : rh_H) : ∀ s4 x9, b_La_liars_4  s4 = some x9 → Sum.elim (fun s4 => rh_Ex (rh_M rh_PT (cw_L ++ xx) (d + 5)) (cw_L ++ xx) pg_X11_liars ((4, [some (.ref 0), some (.int s4.1), some (.int s4.2.1)], []), (s4.2.2, g, cw_R sv)) v9 h9) (fun e9 => rh_Ex (rh_M rh_PT (cw_L ++ xx) (d + 5)) (cw_L ++ xx) pg_X11_liars ((53, [none, some (.int e9.1), none], []), (e9.2, g, cw_R sv)) v9 h9) x9 → rh_Ex (rh_M rh_PT (cw_L ++ xx) (d + 5)) (cw_L ++ xx) pg_X11_liars ((4, [some (.ref 0), some (.int s4.1), some (.int s4.2.1)], []), (s4.2.2, g, cw_R sv)) v9 h9 := by
  intro s4 x9 hf hk
  unfold b_La_liars_4 at hf
  refine rh_Ex.blk 4 (s' := ((12, [some (.ref 0), some (.int s4.1), some (.int s4.2.1)], [.int (s4.2.2 4 0), .int s4.2.1]), (s4.2.2, g, cw_R sv))) rfl ?_
  by_cases q2 : (s4.2.2 4 0) ≤ s4.2.1
  · rw [if_pos q2] at hf
    refine rh_Ex.stp (s' := ((53, [some (.ref 0), some (.int s4.1), some (.int s4.2.1)], []), (s4.2.2, g, cw_R sv))) rfl (st_icge_p q2) ?_
    obtain rfl := Option.some.inj hf
    refine rh_Ex.fgt [none, some (.int s4.1), none] ⟨rfl, trivial⟩ ?_
    exact hk
  · rw [if_neg q2] at hf
    refine rh_Ex.stp (s' := ((15, [some (.ref 0), some (.int s4.1), some (.int s4.2.1)], []), (s4.2.2, g, cw_R sv))) rfl (st_icge_n q2) ?_
    refine rh_Ex.blk 6 (s' := ((27, [some (.ref 0), some (.int s4.1), some (.int s4.2.1)], [.int (s4.2.2 13 1), .int s4.2.1, .ref 34]), (s4.2.2, g, cw_R sv))) rfl ?_
    obtain ⟨x3, hx3, hf⟩ := rh_bq hf
    refine rh_Ex.call (j := 73) (rc := some 7) [.ref 34, .int s4.2.1, .int (s4.2.2 13 1)] [] (some (.int x3.1)) rfl rfl rfl (Nat.le_of_ble_eq_true rfl) (R_Sc_gather d xx sv s4.2.2 g s4.2.1 (s4.2.2 13 1) hx3) ?_
    show rh_Ex _ _ _ ((30, [some (.ref 0), some (.int s4.1), some (.int s4.2.1)], [.int x3.1]), (x3.2, g, cw_R sv)) _ _
    by_cases q4 : x3.1 = 0
    · rw [if_pos q4] at hf
      refine rh_Ex.stp (s' := ((47, [some (.ref 0), some (.int s4.1), some (.int s4.2.1)], []), (x3.2, g, cw_R sv))) rfl (st_ifeq_p q4) ?_
      refine rh_Ex.blk 2 (s' := ((4, [some (.ref 0), some (.int s4.1), some (.int (s4.2.1 + (1 : Int32)))], []), (x3.2, g, cw_R sv))) rfl ?_
      obtain rfl := Option.some.inj hf
      refine rh_Ex.fgt [some (.ref 0), some (.int s4.1), some (.int (s4.2.1 + (1 : Int32)))] ⟨rfl, rfl, rfl, trivial⟩ ?_
      exact hk
    · rw [if_neg q4] at hf
      refine rh_Ex.stp (s' := ((33, [some (.ref 0), some (.int s4.1), some (.int s4.2.1)], []), (x3.2, g, cw_R sv))) rfl (st_ifeq_n q4) ?_
      refine rh_Ex.blk 2 (s' := ((35, [some (.ref 0), some (.int s4.1), some (.int s4.2.1)], [.int s4.2.1, .ref 0]), (x3.2, g, cw_R sv))) rfl ?_
      obtain ⟨x5, hx5, hf⟩ := rh_bq hf
      refine rh_Ex.call (j := 173) (rc := some 10) [.ref 0, .int s4.2.1] [] (some (.int x5.1)) rfl rfl rfl (Nat.le_of_ble_eq_true rfl) (R_La_canBeFalse d xx sv x3.2 g s4.2.1 hx5) ?_
      show rh_Ex _ _ _ ((38, [some (.ref 0), some (.int s4.1), some (.int s4.2.1)], [.int x5.1]), (x5.2, g, cw_R sv)) _ _
      by_cases q6 : x5.1 = 0
      · rw [if_pos q6] at hf
        refine rh_Ex.stp (s' := ((47, [some (.ref 0), some (.int s4.1), some (.int s4.2.1)], []), (x5.2, g, cw_R sv))) rfl (st_ifeq_p q6) ?_
        refine rh_Ex.blk 2 (s' := ((4, [some (.ref 0), some (.int s4.1), some (.int (s4.2.1 + (1 : Int32)))], []), (x5.2, g, cw_R sv))) rfl ?_
        obtain rfl := Option.some.inj hf
        refine rh_Ex.fgt [some (.ref 0), some (.int s4.1), some (.int (s4.2.1 + (1 : Int32)))] ⟨rfl, rfl, rfl, trivial⟩ ?_
        exact hk
      · rw [if_neg q6] at hf
        refine rh_Ex.stp (s' := ((41, [some (.ref 0), some (.int s4.1), some (.int s4.2.1)], []), (x5.2, g, cw_R sv))) rfl (st_ifeq_n q6) ?_
        refine rh_Ex.blk 8 (s' := ((4, [some (.ref 0), some (.int (s4.1 ||| ((1 : Int32) <<< (s4.2.1 &&& 31)))), some (.int (s4.2.1 + (1 : Int32)))], []), (x5.2, g, cw_R sv))) rfl ?_
        obtain rfl := Option.some.inj hf
        refine rh_Ex.fgt [some (.ref 0), some (.int (s4.1 ||| ((1 : Int32) <<< (s4.2.1 &&& 31)))), some (.int (s4.2.1 + (1 : Int32)))] ⟨rfl, rfl, rfl, trivial⟩ ?_
        exact hk
set_option maxRecDepth 20000 in
set_option maxHeartbeats 4000000 in
theorem R_La_liars (d : Nat) (xx : rh_L) (sv : Option Nat) (h : Nat → Nat → Int32) (g : Nat → Nat → Int64)  {z9 : Int32 × (Nat → Nat → Int32)} (hf : f_La_liars h = some z9) : rh_M rh_PT (cw_L ++ xx) (d + 6) 145 [.ref 0] (h, g, cw_R sv) (some (.int z9.1)) (z9.2, g, cw_R sv) := by
  unfold f_La_liars at hf
  refine rh_go pt_145 (Nat.le_of_ble_eq_true rfl) (lv := [some (.ref 0), none, none]) rfl ?_
  refine rh_Ex.blk 4 (s' := ((4, [some (.ref 0), some (.int (0 : Int32)), some (.int (0 : Int32))], []), (h, g, cw_R sv))) rfl ?_
  obtain ⟨r7, hr7, hf⟩ := rh_bq hf
  refine rh_Ex.fgt [some (.ref 0), some (.int (0 : Int32)), some (.int (0 : Int32))] ⟨rfl, rfl, rfl, trivial⟩ ?_
  refine rh_Ex.loop _ _ _ (lb_La_liars_4 d xx sv   g _ _) rh_N _ r7 hr7 ?_
  refine rh_Ex.blk 1 (s' := ((54, [none, some (.int r7.1), none], [.int r7.1]), (r7.2, g, cw_R sv))) rfl ?_
  obtain rfl := Option.some.inj hf
  exact rh_Ex.ret rfl rfl
def f_La_isDepth (p0 : Int32) (p1 : Int32) : Int32 :=
  if (f_La_within p0 (0 : Int32) (9999 : Int32)) = 0 then
    (0 : Int32)
  else
    if (f_La_within p1 (0 : Int32) (999 : Int32)) = 0 then
      (0 : Int32)
    else
      (1 : Int32)
set_option maxRecDepth 20000 in
set_option maxHeartbeats 4000000 in
theorem R_La_isDepth (d : Nat) (LL : rh_L) (rr : Nat → Nat → Option Nat) (h : Nat → Nat → Int32) (g : Nat → Nat → Int64) (p0 : Int32) (p1 : Int32) {z9 : Int32} (hf : f_La_isDepth p0 p1 = z9) : rh_M rh_PT LL (d + 2) 157 [.int p0, .int p1] (h, g, rr) (some (.int z9)) (h, g, rr) := by
  unfold f_La_isDepth at hf
  refine rh_go pt_157 (Nat.le_of_ble_eq_true rfl) (lv := [some (.int p0), some (.int p1)]) rfl ?_
  refine rh_Ex.blk 3 (s' := ((5, [some (.int p0), some (.int p1)], [.int (9999 : Int32), .int (0 : Int32), .int p0]), (h, g, rr))) rfl ?_
  refine rh_Ex.call (j := 155) (rc := none) [.int p0, .int (0 : Int32), .int (9999 : Int32)] [] (some (.int (f_La_within p0 (0 : Int32) (9999 : Int32)))) rfl rfl trivial (Nat.le_of_ble_eq_true rfl) (R_La_within d LL (rr) h g p0 (0 : Int32) (9999 : Int32) rfl) ?_
  show rh_Ex _ _ _ ((8, [some (.int p0), some (.int p1)], [.int (f_La_within p0 (0 : Int32) (9999 : Int32))]), (h, g, rr)) _ _
  by_cases q1 : (f_La_within p0 (0 : Int32) (9999 : Int32)) = 0
  · rw [if_pos q1] at hf
    refine rh_Ex.stp (s' := ((26, [some (.int p0), some (.int p1)], []), (h, g, rr))) rfl (st_ifeq_p q1) ?_
    refine rh_Ex.blk 1 (s' := ((27, [some (.int p0), some (.int p1)], [.int (0 : Int32)]), (h, g, rr))) rfl ?_
    subst hf
    exact rh_Ex.ret rfl ⟨rfl, Or.inl rfl⟩
  · rw [if_neg q1] at hf
    refine rh_Ex.stp (s' := ((11, [some (.int p0), some (.int p1)], []), (h, g, rr))) rfl (st_ifeq_n q1) ?_
    refine rh_Ex.blk 3 (s' := ((16, [some (.int p0), some (.int p1)], [.int (999 : Int32), .int (0 : Int32), .int p1]), (h, g, rr))) rfl ?_
    refine rh_Ex.call (j := 155) (rc := none) [.int p1, .int (0 : Int32), .int (999 : Int32)] [] (some (.int (f_La_within p1 (0 : Int32) (999 : Int32)))) rfl rfl trivial (Nat.le_of_ble_eq_true rfl) (R_La_within d LL (rr) h g p1 (0 : Int32) (999 : Int32) rfl) ?_
    show rh_Ex _ _ _ ((19, [some (.int p0), some (.int p1)], [.int (f_La_within p1 (0 : Int32) (999 : Int32))]), (h, g, rr)) _ _
    by_cases q2 : (f_La_within p1 (0 : Int32) (999 : Int32)) = 0
    · rw [if_pos q2] at hf
      refine rh_Ex.stp (s' := ((26, [some (.int p0), some (.int p1)], []), (h, g, rr))) rfl (st_ifeq_p q2) ?_
      refine rh_Ex.blk 1 (s' := ((27, [some (.int p0), some (.int p1)], [.int (0 : Int32)]), (h, g, rr))) rfl ?_
      subst hf
      exact rh_Ex.ret rfl ⟨rfl, Or.inl rfl⟩
    · rw [if_neg q2] at hf
      refine rh_Ex.stp (s' := ((22, [some (.int p0), some (.int p1)], []), (h, g, rr))) rfl (st_ifeq_n q2) ?_
      refine rh_Ex.blk 2 (s' := ((27, [some (.int p0), some (.int p1)], [.int (1 : Int32)]), (h, g, rr))) rfl ?_
      subst hf
      exact rh_Ex.ret rfl ⟨rfl, Or.inr rfl⟩
def j_La_thingsThatFit_48 (h : Nat → Nat → Int32) (u1 : Int32) (u2 : Int32) (u3 : Int32) (j4 : Int32) (j5 : Int32) (k0 : Int32) : Option ((Int32 × Int32) ⊕ (Int32)) :=
  if k0 = 0 then
    some (.inl (j4, j5 + (1 : Int32)))
  else
    if (f_Cr_isPerson h j5) = 0 then
      some (.inl (j4 ||| ((1 : Int32) <<< (j5 &&& 31)), j5 + (1 : Int32)))
    else
      some (.inl (j4, j5 + (1 : Int32)))
def b_La_thingsThatFit_6 (u1 : Int32) (u2 : Int32) (u3 : Int32) (h : Nat → Nat → Int32) : (Int32 × Int32) → Option ((Int32 × Int32) ⊕ (Int32)) := fun s6 =>
  if (h 4 0) ≤ s6.2 then
    some (.inr s6.1)
  else
    rh_g (0 ≤ (((1 : Int32) <<< (u1 &&& 31)) ||| ((1 : Int32) <<< (s6.2 &&& 31))).toInt ∧ (((1 : Int32) <<< (u1 &&& 31)) ||| ((1 : Int32) <<< (s6.2 &&& 31))).toInt < ((512 : Nat) : Int)) (
      if u3 < (if 0 ≤ ((h 12 (((1 : Int32) <<< (u1 &&& 31)) ||| ((1 : Int32) <<< (s6.2 &&& 31))).toNatClampNeg) - u2) then ((h 12 (((1 : Int32) <<< (u1 &&& 31)) ||| ((1 : Int32) <<< (s6.2 &&& 31))).toNatClampNeg) - u2) else 0 - ((h 12 (((1 : Int32) <<< (u1 &&& 31)) ||| ((1 : Int32) <<< (s6.2 &&& 31))).toNatClampNeg) - u2)) then
        j_La_thingsThatFit_48 h u1 u2 u3 s6.1 s6.2 (0 : Int32)
      else
        j_La_thingsThatFit_48 h u1 u2 u3 s6.1 s6.2 (1 : Int32)
    )
def f_La_thingsThatFit (h : Nat → Nat → Int32) (p0 : Int32) (p1 : Int32) (p2 : Int32) : Option (Int32) :=
  (rh_loop (b_La_thingsThatFit_6 p0 p1 p2 h) rh_N ((0 : Int32), (0 : Int32))).bind (fun r7 =>
    some (r7)
  )
set_option maxRecDepth 20000 in
set_option maxHeartbeats 4000000 in
theorem lj_La_thingsThatFit_48 (d : Nat) (xx : rh_L) (sv : Option Nat) (h : Nat → Nat → Int32) (u1 : Int32) (u2 : Int32) (u3 : Int32) (j4 : Int32) (j5 : Int32) (k0 : Int32) (g : Nat → Nat → Int64) (v9 : Option Value) (h9 : rh_H) (x9 : (Int32 × Int32) ⊕ (Int32)) (hf : j_La_thingsThatFit_48 h u1 u2 u3 j4 j5 k0 = some x9) (hk : Sum.elim (fun s6 => rh_Ex (rh_M rh_PT (cw_L ++ xx) (d + 1)) (cw_L ++ xx) pg_X11_thingsThatFit ((6, [some (.ref 0), some (.int u1), some (.int u2), some (.int u3), some (.int s6.1), some (.int s6.2), none], []), (h, g, cw_R sv)) v9 h9) (fun e9 => rh_Ex (rh_M rh_PT (cw_L ++ xx) (d + 1)) (cw_L ++ xx) pg_X11_thingsThatFit ((82, [none, none, none, none, some (.int e9), none, none], []), (h, g, cw_R sv)) v9 h9) x9) : rh_Ex (rh_M rh_PT (cw_L ++ xx) (d + 1)) (cw_L ++ xx) pg_X11_thingsThatFit ((48, [some (.ref 0), some (.int u1), some (.int u2), some (.int u3), some (.int j4), some (.int j5), none], [.int k0]), (h, g, cw_R sv)) v9 h9 := by
  unfold j_La_thingsThatFit_48 at hf
  refine rh_Ex.blk 2 (s' := ((52, [some (.ref 0), some (.int u1), some (.int u2), some (.int u3), some (.int j4), some (.int j5), some (.int k0)], [.int k0]), (h, g, cw_R sv))) rfl ?_
  by_cases q5 : k0 = 0
  · rw [if_pos q5] at hf
    refine rh_Ex.stp (s' := ((76, [some (.ref 0), some (.int u1), some (.int u2), some (.int u3), some (.int j4), some (.int j5), some (.int k0)], []), (h, g, cw_R sv))) rfl (st_ifeq_p q5) ?_
    refine rh_Ex.blk 2 (s' := ((6, [some (.ref 0), some (.int u1), some (.int u2), some (.int u3), some (.int j4), some (.int (j5 + (1 : Int32))), some (.int k0)], []), (h, g, cw_R sv))) rfl ?_
    obtain rfl := Option.some.inj hf
    refine rh_Ex.fgt [some (.ref 0), some (.int u1), some (.int u2), some (.int u3), some (.int j4), some (.int (j5 + (1 : Int32))), none] ⟨rfl, rfl, rfl, rfl, rfl, rfl, trivial⟩ ?_
    exact hk
  · rw [if_neg q5] at hf
    refine rh_Ex.stp (s' := ((55, [some (.ref 0), some (.int u1), some (.int u2), some (.int u3), some (.int j4), some (.int j5), some (.int k0)], []), (h, g, cw_R sv))) rfl (st_ifeq_n q5) ?_
    refine rh_Ex.blk 3 (s' := ((61, [some (.ref 0), some (.int u1), some (.int u2), some (.int u3), some (.int j4), some (.int j5), some (.int k0)], [.int j5, .ref 4]), (h, g, cw_R sv))) rfl ?_
    refine rh_Ex.call (j := 3) (rc := some 0) [.ref 4, .int j5] [] (some (.int (f_Cr_isPerson h j5))) rfl rfl rfl (Nat.le_of_ble_eq_true rfl) (R_Cr_isPerson d xx sv h g j5 rfl) ?_
    show rh_Ex _ _ _ ((64, [some (.ref 0), some (.int u1), some (.int u2), some (.int u3), some (.int j4), some (.int j5), some (.int k0)], [.int (f_Cr_isPerson h j5)]), (h, g, cw_R sv)) _ _
    by_cases q6 : (f_Cr_isPerson h j5) = 0
    · rw [if_pos q6] at hf
      refine rh_Ex.stp (s' := ((67, [some (.ref 0), some (.int u1), some (.int u2), some (.int u3), some (.int j4), some (.int j5), some (.int k0)], []), (h, g, cw_R sv))) rfl (st_ifne_p q6) ?_
      refine rh_Ex.blk 8 (s' := ((6, [some (.ref 0), some (.int u1), some (.int u2), some (.int u3), some (.int (j4 ||| ((1 : Int32) <<< (j5 &&& 31)))), some (.int (j5 + (1 : Int32))), some (.int k0)], []), (h, g, cw_R sv))) rfl ?_
      obtain rfl := Option.some.inj hf
      refine rh_Ex.fgt [some (.ref 0), some (.int u1), some (.int u2), some (.int u3), some (.int (j4 ||| ((1 : Int32) <<< (j5 &&& 31)))), some (.int (j5 + (1 : Int32))), none] ⟨rfl, rfl, rfl, rfl, rfl, rfl, trivial⟩ ?_
      exact hk
    · rw [if_neg q6] at hf
      refine rh_Ex.stp (s' := ((76, [some (.ref 0), some (.int u1), some (.int u2), some (.int u3), some (.int j4), some (.int j5), some (.int k0)], []), (h, g, cw_R sv))) rfl (st_ifne_n q6) ?_
      refine rh_Ex.blk 2 (s' := ((6, [some (.ref 0), some (.int u1), some (.int u2), some (.int u3), some (.int j4), some (.int (j5 + (1 : Int32))), some (.int k0)], []), (h, g, cw_R sv))) rfl ?_
      obtain rfl := Option.some.inj hf
      refine rh_Ex.fgt [some (.ref 0), some (.int u1), some (.int u2), some (.int u3), some (.int j4), some (.int (j5 + (1 : Int32))), none] ⟨rfl, rfl, rfl, rfl, rfl, rfl, trivial⟩ ?_
      exact hk
set_option maxRecDepth 20000 in
set_option maxHeartbeats 4000000 in
theorem lb_La_thingsThatFit_6 (d : Nat) (xx : rh_L) (sv : Option Nat) (u1 : Int32) (u2 : Int32) (u3 : Int32) (h : Nat → Nat → Int32) (g : Nat → Nat → Int64) (v9 : Option Value) (h9 : rh_H) : ∀ s6 x9, b_La_thingsThatFit_6 u1 u2 u3 h s6 = some x9 → Sum.elim (fun s6 => rh_Ex (rh_M rh_PT (cw_L ++ xx) (d + 1)) (cw_L ++ xx) pg_X11_thingsThatFit ((6, [some (.ref 0), some (.int u1), some (.int u2), some (.int u3), some (.int s6.1), some (.int s6.2), none], []), (h, g, cw_R sv)) v9 h9) (fun e9 => rh_Ex (rh_M rh_PT (cw_L ++ xx) (d + 1)) (cw_L ++ xx) pg_X11_thingsThatFit ((82, [none, none, none, none, some (.int e9), none, none], []), (h, g, cw_R sv)) v9 h9) x9 → rh_Ex (rh_M rh_PT (cw_L ++ xx) (d + 1)) (cw_L ++ xx) pg_X11_thingsThatFit ((6, [some (.ref 0), some (.int u1), some (.int u2), some (.int u3), some (.int s6.1), some (.int s6.2), none], []), (h, g, cw_R sv)) v9 h9 := by
  intro s6 x9 hf hk
  unfold b_La_thingsThatFit_6 at hf
  refine rh_Ex.blk 4 (s' := ((15, [some (.ref 0), some (.int u1), some (.int u2), some (.int u3), some (.int s6.1), some (.int s6.2), none], [.int (h 4 0), .int s6.2]), (h, g, cw_R sv))) rfl ?_
  by_cases q2 : (h 4 0) ≤ s6.2
  · rw [if_pos q2] at hf
    refine rh_Ex.stp (s' := ((82, [some (.ref 0), some (.int u1), some (.int u2), some (.int u3), some (.int s6.1), some (.int s6.2), none], []), (h, g, cw_R sv))) rfl (st_icge_p q2) ?_
    obtain rfl := Option.some.inj hf
    refine rh_Ex.fgt [none, none, none, none, some (.int s6.1), none, none] ⟨rfl, trivial⟩ ?_
    exact hk
  · rw [if_neg q2] at hf
    refine rh_Ex.stp (s' := ((18, [some (.ref 0), some (.int u1), some (.int u2), some (.int u3), some (.int s6.1), some (.int s6.2), none], []), (h, g, cw_R sv))) rfl (st_icge_n q2) ?_
    refine rh_Ex.blk 10 (s' := ((33, [some (.ref 0), some (.int u1), some (.int u2), some (.int u3), some (.int s6.1), some (.int s6.2), none], [.int (((1 : Int32) <<< (u1 &&& 31)) ||| ((1 : Int32) <<< (s6.2 &&& 31))), .ref 12]), (h, g, cw_R sv))) rfl ?_
    obtain ⟨q3, hf⟩ := rh_gq hf
    refine rh_Ex.stp (s' := ((34, [some (.ref 0), some (.int u1), some (.int u2), some (.int u3), some (.int s6.1), some (.int s6.2), none], [.int (h 12 (((1 : Int32) <<< (u1 &&& 31)) ||| ((1 : Int32) <<< (s6.2 &&& 31))).toNatClampNeg)]), (h, g, cw_R sv))) rfl (st_iald (n := 512) rfl q3) ?_
    refine rh_Ex.blk 2 (s' := ((36, [some (.ref 0), some (.int u1), some (.int u2), some (.int u3), some (.int s6.1), some (.int s6.2), none], [.int ((h 12 (((1 : Int32) <<< (u1 &&& 31)) ||| ((1 : Int32) <<< (s6.2 &&& 31))).toNatClampNeg) - u2)]), (h, g, cw_R sv))) rfl ?_
    refine rh_Ex.stp (s' := ((39, [some (.ref 0), some (.int u1), some (.int u2), some (.int u3), some (.int s6.1), some (.int s6.2), none], [.int (if 0 ≤ ((h 12 (((1 : Int32) <<< (u1 &&& 31)) ||| ((1 : Int32) <<< (s6.2 &&& 31))).toNatClampNeg) - u2) then ((h 12 (((1 : Int32) <<< (u1 &&& 31)) ||| ((1 : Int32) <<< (s6.2 &&& 31))).toNatClampNeg) - u2) else 0 - ((h 12 (((1 : Int32) <<< (u1 &&& 31)) ||| ((1 : Int32) <<< (s6.2 &&& 31))).toNatClampNeg) - u2))]), (h, g, cw_R sv))) rfl (st_mabs (Nat.le_of_ble_eq_true rfl)) ?_
    refine rh_Ex.blk 1 (s' := ((40, [some (.ref 0), some (.int u1), some (.int u2), some (.int u3), some (.int s6.1), some (.int s6.2), none], [.int u3, .int (if 0 ≤ ((h 12 (((1 : Int32) <<< (u1 &&& 31)) ||| ((1 : Int32) <<< (s6.2 &&& 31))).toNatClampNeg) - u2) then ((h 12 (((1 : Int32) <<< (u1 &&& 31)) ||| ((1 : Int32) <<< (s6.2 &&& 31))).toNatClampNeg) - u2) else 0 - ((h 12 (((1 : Int32) <<< (u1 &&& 31)) ||| ((1 : Int32) <<< (s6.2 &&& 31))).toNatClampNeg) - u2))]), (h, g, cw_R sv))) rfl ?_
    by_cases q4 : u3 < (if 0 ≤ ((h 12 (((1 : Int32) <<< (u1 &&& 31)) ||| ((1 : Int32) <<< (s6.2 &&& 31))).toNatClampNeg) - u2) then ((h 12 (((1 : Int32) <<< (u1 &&& 31)) ||| ((1 : Int32) <<< (s6.2 &&& 31))).toNatClampNeg) - u2) else 0 - ((h 12 (((1 : Int32) <<< (u1 &&& 31)) ||| ((1 : Int32) <<< (s6.2 &&& 31))).toNatClampNeg) - u2))
    · rw [if_pos q4] at hf
      refine rh_Ex.stp (s' := ((47, [some (.ref 0), some (.int u1), some (.int u2), some (.int u3), some (.int s6.1), some (.int s6.2), none], []), (h, g, cw_R sv))) rfl (st_icgt_p q4) ?_
      refine rh_Ex.blk 1 (s' := ((48, [some (.ref 0), some (.int u1), some (.int u2), some (.int u3), some (.int s6.1), some (.int s6.2), none], [.int (0 : Int32)]), (h, g, cw_R sv))) rfl ?_
      refine rh_Ex.fgt [some (.ref 0), some (.int u1), some (.int u2), some (.int u3), some (.int s6.1), some (.int s6.2), none] ⟨rfl, rfl, rfl, rfl, rfl, rfl, trivial⟩ ?_
      exact lj_La_thingsThatFit_48 d xx sv h u1 u2 u3 s6.1 s6.2 (0 : Int32) g _ _ _ hf hk
    · rw [if_neg q4] at hf
      refine rh_Ex.stp (s' := ((43, [some (.ref 0), some (.int u1), some (.int u2), some (.int u3), some (.int s6.1), some (.int s6.2), none], []), (h, g, cw_R sv))) rfl (st_icgt_n q4) ?_
      refine rh_Ex.blk 2 (s' := ((48, [some (.ref 0), some (.int u1), some (.int u2), some (.int u3), some (.int s6.1), some (.int s6.2), none], [.int (1 : Int32)]), (h, g, cw_R sv))) rfl ?_
      refine rh_Ex.fgt [some (.ref 0), some (.int u1), some (.int u2), some (.int u3), some (.int s6.1), some (.int s6.2), none] ⟨rfl, rfl, rfl, rfl, rfl, rfl, trivial⟩ ?_
      exact lj_La_thingsThatFit_48 d xx sv h u1 u2 u3 s6.1 s6.2 (1 : Int32) g _ _ _ hf hk
set_option maxRecDepth 20000 in
set_option maxHeartbeats 4000000 in
theorem R_La_thingsThatFit (d : Nat) (xx : rh_L) (sv : Option Nat) (h : Nat → Nat → Int32) (g : Nat → Nat → Int64) (p0 : Int32) (p1 : Int32) (p2 : Int32) {z9 : Int32} (hf : f_La_thingsThatFit h p0 p1 p2 = some z9) : rh_M rh_PT (cw_L ++ xx) (d + 2) 174 [.ref 0, .int p0, .int p1, .int p2] (h, g, cw_R sv) (some (.int z9)) (h, g, cw_R sv) := by
  unfold f_La_thingsThatFit at hf
  refine rh_go pt_174 (Nat.le_of_ble_eq_true rfl) (lv := [some (.ref 0), some (.int p0), some (.int p1), some (.int p2), none, none, none]) rfl ?_
  refine rh_Ex.blk 4 (s' := ((6, [some (.ref 0), some (.int p0), some (.int p1), some (.int p2), some (.int (0 : Int32)), some (.int (0 : Int32)), none], []), (h, g, cw_R sv))) rfl ?_
  obtain ⟨r7, hr7, hf⟩ := rh_bq hf
  refine rh_Ex.fgt [some (.ref 0), some (.int p0), some (.int p1), some (.int p2), some (.int (0 : Int32)), some (.int (0 : Int32)), none] ⟨rfl, rfl, rfl, rfl, rfl, rfl, trivial⟩ ?_
  refine rh_Ex.loop _ _ _ (lb_La_thingsThatFit_6 d xx sv p0 p1 p2 h  g _ _) rh_N _ r7 hr7 ?_
  refine rh_Ex.blk 1 (s' := ((84, [none, none, none, none, some (.int r7), none, none], [.int r7]), (h, g, cw_R sv))) rfl ?_
  obtain rfl := Option.some.inj hf
  exact rh_Ex.ret rfl rfl
def j_La_print_119 (h : Nat → Nat → Int32) (u2 : Int32) (u3 : Int32) (j4 : Int32) (j5 : Int32) (j6 : Int32) (j7 : Int32) (j8 : Int32) (k0 : Int32) : Option ((Int32 × Int32 × Int32 × Int32) ⊕ (Int32 × Int32 × Int32)) :=
  if k0 = 0 then
    if k0 = 0 then
      if j8 = 0 then
        some (.inl (j4 ||| (0 : Int32), j5 ||| (0 : Int32), j6 ||| j8, j7 + (1 : Int32)))
      else
        some (.inl (j4 ||| (0 : Int32), j5 ||| ((1 : Int32) <<< (j7 &&& 31)), j6 ||| j8, j7 + (1 : Int32)))
    else
      some (.inl (j4 ||| (0 : Int32), j5 ||| ((1 : Int32) <<< (j7 &&& 31)), j6 ||| j8, j7 + (1 : Int32)))
  else
    if k0 = 0 then
      if j8 = 0 then
        some (.inl (j4 ||| ((1 : Int32) <<< (j7 &&& 31)), j5 ||| (0 : Int32), j6 ||| j8, j7 + (1 : Int32)))
      else
        some (.inl (j4 ||| ((1 : Int32) <<< (j7 &&& 31)), j5 ||| ((1 : Int32) <<< (j7 &&& 31)), j6 ||| j8, j7 + (1 : Int32)))
    else
      some (.inl (j4 ||| ((1 : Int32) <<< (j7 &&& 31)), j5 ||| ((1 : Int32) <<< (j7 &&& 31)), j6 ||| j8, j7 + (1 : Int32)))
def b_La_print_59 (u2 : Int32) (u3 : Int32) (h : Nat → Nat → Int32) : (Int32 × Int32 × Int32 × Int32) → Option ((Int32 × Int32 × Int32 × Int32) ⊕ (Int32 × Int32 × Int32)) := fun s59 =>
  if (h 4 0) ≤ s59.2.2.2 then
    some (.inr (s59.1, s59.2.1, s59.2.2.1))
  else
    if (f_Cr_isPerson h s59.2.2.2) = 0 then
      some (.inl (s59.1, s59.2.1, s59.2.2.1, s59.2.2.2 + (1 : Int32)))
    else
      (f_La_thingsThatFit h s59.2.2.2 u2 u3).bind (fun x8 =>
        rh_g (0 ≤ ((1 : Int32) <<< (s59.2.2.2 &&& 31)).toInt ∧ ((1 : Int32) <<< (s59.2.2.2 &&& 31)).toInt < ((512 : Nat) : Int)) (
          if u3 < (if 0 ≤ ((h 12 ((1 : Int32) <<< (s59.2.2.2 &&& 31)).toNatClampNeg) - u2) then ((h 12 ((1 : Int32) <<< (s59.2.2.2 &&& 31)).toNatClampNeg) - u2) else 0 - ((h 12 ((1 : Int32) <<< (s59.2.2.2 &&& 31)).toNatClampNeg) - u2)) then
            j_La_print_119 h u2 u3 s59.1 s59.2.1 s59.2.2.1 s59.2.2.2 x8 (0 : Int32)
          else
            j_La_print_119 h u2 u3 s59.1 s59.2.1 s59.2.2.1 s59.2.2.2 x8 (1 : Int32)
        )
      )
def f_La_print (h : Nat → Nat → Int32) (p0 : Int32) (p1 : Int32) (p2 : Int32) : Option (Int32 × (Nat → Nat → Int32)) :=
  if (f_La_within p0 (0 : Int32) (99 : Int32)) = 0 then
    some (((-1 : Int32), h))
  else
    if (h 13 1) < p0 then
      some (((-1 : Int32), h))
    else
      if (f_La_isDepth p1 p2) = 0 then
        some (((-1 : Int32), h))
      else
        (f_Cr_sumAll h ((h 13 1) - p0)).bind (fun x4 =>
          (rh_loop (b_La_print_59 p1 p2 x4) rh_N ((0 : Int32), (0 : Int32), (0 : Int32), (0 : Int32))).bind (fun r16 =>
            (f_Ro_tell x4 r16.2.1).bind (fun x17 =>
              (f_Ro_add x17 r16.2.2).bind (fun x18 =>
                some ((r16.1, x18))
              )
            )
          )
        )
set_option maxRecDepth 20000 in
set_option maxHeartbeats 4000000 in
theorem lj_La_print_119 (d : Nat) (xx : rh_L) (sv : Option Nat) (h : Nat → Nat → Int32) (u2 : Int32) (u3 : Int32) (j4 : Int32) (j5 : Int32) (j6 : Int32) (j7 : Int32) (j8 : Int32) (k0 : Int32) (g : Nat → Nat → Int64) (v9 : Option Value) (h9 : rh_H) (x9 : (Int32 × Int32 × Int32 × Int32) ⊕ (Int32 × Int32 × Int32)) (hf : j_La_print_119 h u2 u3 j4 j5 j6 j7 j8 k0 = some x9) (hk : Sum.elim (fun s59 => rh_Ex (rh_M rh_PT (cw_L ++ xx) (d + 4)) (cw_L ++ xx) pg_X11_print ((59, [some (.ref 0), none, some (.int u2), some (.int u3), some (.int s59.1), some (.int s59.2.1), some (.int s59.2.2.1), some (.int s59.2.2.2), none, none], []), (h, g, cw_R sv)) v9 h9) (fun e9 => rh_Ex (rh_M rh_PT (cw_L ++ xx) (d + 4)) (cw_L ++ xx) pg_X11_print ((175, [some (.ref 0), none, none, none, some (.int e9.1), some (.int e9.2.1), some (.int e9.2.2), none, none, none], []), (h, g, cw_R sv)) v9 h9) x9) : rh_Ex (rh_M rh_PT (cw_L ++ xx) (d + 4)) (cw_L ++ xx) pg_X11_print ((119, [some (.ref 0), none, some (.int u2), some (.int u3), some (.int j4), some (.int j5), some (.int j6), some (.int j7), some (.int j8), none], [.int k0]), (h, g, cw_R sv)) v9 h9 := by
  unfold j_La_print_119 at hf
  refine rh_Ex.blk 3 (s' := ((125, [some (.ref 0), none, some (.int u2), some (.int u3), some (.int j4), some (.int j5), some (.int j6), some (.int j7), some (.int j8), some (.int k0)], [.int k0, .int j4]), (h, g, cw_R sv))) rfl ?_
  by_cases q11 : k0 = 0
  · rw [if_pos q11] at hf
    refine rh_Ex.stp (s' := ((135, [some (.ref 0), none, some (.int u2), some (.int u3), some (.int j4), some (.int j5), some (.int j6), some (.int j7), some (.int j8), some (.int k0)], [.int j4]), (h, g, cw_R sv))) rfl (st_ifeq_p q11) ?_
    refine rh_Ex.blk 5 (s' := ((143, [some (.ref 0), none, some (.int u2), some (.int u3), some (.int (j4 ||| (0 : Int32))), some (.int j5), some (.int j6), some (.int j7), some (.int j8), some (.int k0)], [.int k0, .int j5]), (h, g, cw_R sv))) rfl ?_
    by_cases q12 : k0 = 0
    · rw [if_pos q12] at hf
      refine rh_Ex.stp (s' := ((146, [some (.ref 0), none, some (.int u2), some (.int u3), some (.int (j4 ||| (0 : Int32))), some (.int j5), some (.int j6), some (.int j7), some (.int j8), some (.int k0)], [.int j5]), (h, g, cw_R sv))) rfl (st_ifne_p q12) ?_
      refine rh_Ex.blk 1 (s' := ((148, [some (.ref 0), none, some (.int u2), some (.int u3), some (.int (j4 ||| (0 : Int32))), some (.int j5), some (.int j6), some (.int j7), some (.int j8), some (.int k0)], [.int j8, .int j5]), (h, g, cw_R sv))) rfl ?_
      by_cases q13 : j8 = 0
      · rw [if_pos q13] at hf
        refine rh_Ex.stp (s' := ((158, [some (.ref 0), none, some (.int u2), some (.int u3), some (.int (j4 ||| (0 : Int32))), some (.int j5), some (.int j6), some (.int j7), some (.int j8), some (.int k0)], [.int j5]), (h, g, cw_R sv))) rfl (st_ifeq_p q13) ?_
        refine rh_Ex.blk 9 (s' := ((59, [some (.ref 0), none, some (.int u2), some (.int u3), some (.int (j4 ||| (0 : Int32))), some (.int (j5 ||| (0 : Int32))), some (.int (j6 ||| j8)), some (.int (j7 + (1 : Int32))), some (.int j8), some (.int k0)], []), (h, g, cw_R sv))) rfl ?_
        obtain rfl := Option.some.inj hf
        refine rh_Ex.fgt [some (.ref 0), none, some (.int u2), some (.int u3), some (.int (j4 ||| (0 : Int32))), some (.int (j5 ||| (0 : Int32))), some (.int (j6 ||| j8)), some (.int (j7 + (1 : Int32))), none, none] ⟨rfl, rfl, rfl, rfl, rfl, rfl, rfl, trivial⟩ ?_
        exact hk
      · rw [if_neg q13] at hf
        refine rh_Ex.stp (s' := ((151, [some (.ref 0), none, some (.int u2), some (.int u3), some (.int (j4 ||| (0 : Int32))), some (.int j5), some (.int j6), some (.int j7), some (.int j8), some (.int k0)], [.int j5]), (h, g, cw_R sv))) rfl (st_ifeq_n q13) ?_
        refine rh_Ex.blk 12 (s' := ((59, [some (.ref 0), none, some (.int u2), some (.int u3), some (.int (j4 ||| (0 : Int32))), some (.int (j5 ||| ((1 : Int32) <<< (j7 &&& 31)))), some (.int (j6 ||| j8)), some (.int (j7 + (1 : Int32))), some (.int j8), some (.int k0)], []), (h, g, cw_R sv))) rfl ?_
        obtain rfl := Option.some.inj hf
        refine rh_Ex.fgt [some (.ref 0), none, some (.int u2), some (.int u3), some (.int (j4 ||| (0 : Int32))), some (.int (j5 ||| ((1 : Int32) <<< (j7 &&& 31)))), some (.int (j6 ||| j8)), some (.int (j7 + (1 : Int32))), none, none] ⟨rfl, rfl, rfl, rfl, rfl, rfl, rfl, trivial⟩ ?_
        exact hk
    · rw [if_neg q12] at hf
      refine rh_Ex.stp (s' := ((151, [some (.ref 0), none, some (.int u2), some (.int u3), some (.int (j4 ||| (0 : Int32))), some (.int j5), some (.int j6), some (.int j7), some (.int j8), some (.int k0)], [.int j5]), (h, g, cw_R sv))) rfl (st_ifne_n q12) ?_
      refine rh_Ex.blk 12 (s' := ((59, [some (.ref 0), none, some (.int u2), some (.int u3), some (.int (j4 ||| (0 : Int32))), some (.int (j5 ||| ((1 : Int32) <<< (j7 &&& 31)))), some (.int (j6 ||| j8)), some (.int (j7 + (1 : Int32))), some (.int j8), some (.int k0)], []), (h, g, cw_R sv))) rfl ?_
      obtain rfl := Option.some.inj hf
      refine rh_Ex.fgt [some (.ref 0), none, some (.int u2), some (.int u3), some (.int (j4 ||| (0 : Int32))), some (.int (j5 ||| ((1 : Int32) <<< (j7 &&& 31)))), some (.int (j6 ||| j8)), some (.int (j7 + (1 : Int32))), none, none] ⟨rfl, rfl, rfl, rfl, rfl, rfl, rfl, trivial⟩ ?_
      exact hk
  · rw [if_neg q11] at hf
    refine rh_Ex.stp (s' := ((128, [some (.ref 0), none, some (.int u2), some (.int u3), some (.int j4), some (.int j5), some (.int j6), some (.int j7), some (.int j8), some (.int k0)], [.int j4]), (h, g, cw_R sv))) rfl (st_ifeq_n q11) ?_
    refine rh_Ex.blk 8 (s' := ((143, [some (.ref 0), none, some (.int u2), some (.int u3), some (.int (j4 ||| ((1 : Int32) <<< (j7 &&& 31)))), some (.int j5), some (.int j6), some (.int j7), some (.int j8), some (.int k0)], [.int k0, .int j5]), (h, g, cw_R sv))) rfl ?_
    by_cases q14 : k0 = 0
    · rw [if_pos q14] at hf
      refine rh_Ex.stp (s' := ((146, [some (.ref 0), none, some (.int u2), some (.int u3), some (.int (j4 ||| ((1 : Int32) <<< (j7 &&& 31)))), some (.int j5), some (.int j6), some (.int j7), some (.int j8), some (.int k0)], [.int j5]), (h, g, cw_R sv))) rfl (st_ifne_p q14) ?_
      refine rh_Ex.blk 1 (s' := ((148, [some (.ref 0), none, some (.int u2), some (.int u3), some (.int (j4 ||| ((1 : Int32) <<< (j7 &&& 31)))), some (.int j5), some (.int j6), some (.int j7), some (.int j8), some (.int k0)], [.int j8, .int j5]), (h, g, cw_R sv))) rfl ?_
      by_cases q15 : j8 = 0
      · rw [if_pos q15] at hf
        refine rh_Ex.stp (s' := ((158, [some (.ref 0), none, some (.int u2), some (.int u3), some (.int (j4 ||| ((1 : Int32) <<< (j7 &&& 31)))), some (.int j5), some (.int j6), some (.int j7), some (.int j8), some (.int k0)], [.int j5]), (h, g, cw_R sv))) rfl (st_ifeq_p q15) ?_
        refine rh_Ex.blk 9 (s' := ((59, [some (.ref 0), none, some (.int u2), some (.int u3), some (.int (j4 ||| ((1 : Int32) <<< (j7 &&& 31)))), some (.int (j5 ||| (0 : Int32))), some (.int (j6 ||| j8)), some (.int (j7 + (1 : Int32))), some (.int j8), some (.int k0)], []), (h, g, cw_R sv))) rfl ?_
        obtain rfl := Option.some.inj hf
        refine rh_Ex.fgt [some (.ref 0), none, some (.int u2), some (.int u3), some (.int (j4 ||| ((1 : Int32) <<< (j7 &&& 31)))), some (.int (j5 ||| (0 : Int32))), some (.int (j6 ||| j8)), some (.int (j7 + (1 : Int32))), none, none] ⟨rfl, rfl, rfl, rfl, rfl, rfl, rfl, trivial⟩ ?_
        exact hk
      · rw [if_neg q15] at hf
        refine rh_Ex.stp (s' := ((151, [some (.ref 0), none, some (.int u2), some (.int u3), some (.int (j4 ||| ((1 : Int32) <<< (j7 &&& 31)))), some (.int j5), some (.int j6), some (.int j7), some (.int j8), some (.int k0)], [.int j5]), (h, g, cw_R sv))) rfl (st_ifeq_n q15) ?_
        refine rh_Ex.blk 12 (s' := ((59, [some (.ref 0), none, some (.int u2), some (.int u3), some (.int (j4 ||| ((1 : Int32) <<< (j7 &&& 31)))), some (.int (j5 ||| ((1 : Int32) <<< (j7 &&& 31)))), some (.int (j6 ||| j8)), some (.int (j7 + (1 : Int32))), some (.int j8), some (.int k0)], []), (h, g, cw_R sv))) rfl ?_
        obtain rfl := Option.some.inj hf
        refine rh_Ex.fgt [some (.ref 0), none, some (.int u2), some (.int u3), some (.int (j4 ||| ((1 : Int32) <<< (j7 &&& 31)))), some (.int (j5 ||| ((1 : Int32) <<< (j7 &&& 31)))), some (.int (j6 ||| j8)), some (.int (j7 + (1 : Int32))), none, none] ⟨rfl, rfl, rfl, rfl, rfl, rfl, rfl, trivial⟩ ?_
        exact hk
    · rw [if_neg q14] at hf
      refine rh_Ex.stp (s' := ((151, [some (.ref 0), none, some (.int u2), some (.int u3), some (.int (j4 ||| ((1 : Int32) <<< (j7 &&& 31)))), some (.int j5), some (.int j6), some (.int j7), some (.int j8), some (.int k0)], [.int j5]), (h, g, cw_R sv))) rfl (st_ifne_n q14) ?_
      refine rh_Ex.blk 12 (s' := ((59, [some (.ref 0), none, some (.int u2), some (.int u3), some (.int (j4 ||| ((1 : Int32) <<< (j7 &&& 31)))), some (.int (j5 ||| ((1 : Int32) <<< (j7 &&& 31)))), some (.int (j6 ||| j8)), some (.int (j7 + (1 : Int32))), some (.int j8), some (.int k0)], []), (h, g, cw_R sv))) rfl ?_
      obtain rfl := Option.some.inj hf
      refine rh_Ex.fgt [some (.ref 0), none, some (.int u2), some (.int u3), some (.int (j4 ||| ((1 : Int32) <<< (j7 &&& 31)))), some (.int (j5 ||| ((1 : Int32) <<< (j7 &&& 31)))), some (.int (j6 ||| j8)), some (.int (j7 + (1 : Int32))), none, none] ⟨rfl, rfl, rfl, rfl, rfl, rfl, rfl, trivial⟩ ?_
      exact hk
set_option maxRecDepth 20000 in
set_option maxHeartbeats 4000000 in
theorem lb_La_print_59 (d : Nat) (xx : rh_L) (sv : Option Nat) (u2 : Int32) (u3 : Int32) (h : Nat → Nat → Int32) (g : Nat → Nat → Int64) (v9 : Option Value) (h9 : rh_H) : ∀ s59 x9, b_La_print_59 u2 u3 h s59 = some x9 → Sum.elim (fun s59 => rh_Ex (rh_M rh_PT (cw_L ++ xx) (d + 4)) (cw_L ++ xx) pg_X11_print ((59, [some (.ref 0), none, some (.int u2), some (.int u3), some (.int s59.1), some (.int s59.2.1), some (.int s59.2.2.1), some (.int s59.2.2.2), none, none], []), (h, g, cw_R sv)) v9 h9) (fun e9 => rh_Ex (rh_M rh_PT (cw_L ++ xx) (d + 4)) (cw_L ++ xx) pg_X11_print ((175, [some (.ref 0), none, none, none, some (.int e9.1), some (.int e9.2.1), some (.int e9.2.2), none, none, none], []), (h, g, cw_R sv)) v9 h9) x9 → rh_Ex (rh_M rh_PT (cw_L ++ xx) (d + 4)) (cw_L ++ xx) pg_X11_print ((59, [some (.ref 0), none, some (.int u2), some (.int u3), some (.int s59.1), some (.int s59.2.1), some (.int s59.2.2.1), some (.int s59.2.2.2), none, none], []), (h, g, cw_R sv)) v9 h9 := by
  intro s59 x9 hf hk
  unfold b_La_print_59 at hf
  refine rh_Ex.blk 4 (s' := ((68, [some (.ref 0), none, some (.int u2), some (.int u3), some (.int s59.1), some (.int s59.2.1), some (.int s59.2.2.1), some (.int s59.2.2.2), none, none], [.int (h 4 0), .int s59.2.2.2]), (h, g, cw_R sv))) rfl ?_
  by_cases q6 : (h 4 0) ≤ s59.2.2.2
  · rw [if_pos q6] at hf
    refine rh_Ex.stp (s' := ((175, [some (.ref 0), none, some (.int u2), some (.int u3), some (.int s59.1), some (.int s59.2.1), some (.int s59.2.2.1), some (.int s59.2.2.2), none, none], []), (h, g, cw_R sv))) rfl (st_icge_p q6) ?_
    obtain rfl := Option.some.inj hf
    refine rh_Ex.fgt [some (.ref 0), none, none, none, some (.int s59.1), some (.int s59.2.1), some (.int s59.2.2.1), none, none, none] ⟨rfl, rfl, rfl, rfl, trivial⟩ ?_
    exact hk
  · rw [if_neg q6] at hf
    refine rh_Ex.stp (s' := ((71, [some (.ref 0), none, some (.int u2), some (.int u3), some (.int s59.1), some (.int s59.2.1), some (.int s59.2.2.1), some (.int s59.2.2.2), none, none], []), (h, g, cw_R sv))) rfl (st_icge_n q6) ?_
    refine rh_Ex.blk 3 (s' := ((77, [some (.ref 0), none, some (.int u2), some (.int u3), some (.int s59.1), some (.int s59.2.1), some (.int s59.2.2.1), some (.int s59.2.2.2), none, none], [.int s59.2.2.2, .ref 4]), (h, g, cw_R sv))) rfl ?_
    refine rh_Ex.call (j := 3) (rc := some 0) [.ref 4, .int s59.2.2.2] [] (some (.int (f_Cr_isPerson h s59.2.2.2))) rfl rfl rfl (Nat.le_of_ble_eq_true rfl) (R_Cr_isPerson (d + 3) xx sv h g s59.2.2.2 rfl) ?_
    show rh_Ex _ _ _ ((80, [some (.ref 0), none, some (.int u2), some (.int u3), some (.int s59.1), some (.int s59.2.1), some (.int s59.2.2.1), some (.int s59.2.2.2), none, none], [.int (f_Cr_isPerson h s59.2.2.2)]), (h, g, cw_R sv)) _ _
    by_cases q7 : (f_Cr_isPerson h s59.2.2.2) = 0
    · rw [if_pos q7] at hf
      refine rh_Ex.stp (s' := ((169, [some (.ref 0), none, some (.int u2), some (.int u3), some (.int s59.1), some (.int s59.2.1), some (.int s59.2.2.1), some (.int s59.2.2.2), none, none], []), (h, g, cw_R sv))) rfl (st_ifeq_p q7) ?_
      refine rh_Ex.blk 2 (s' := ((59, [some (.ref 0), none, some (.int u2), some (.int u3), some (.int s59.1), some (.int s59.2.1), some (.int s59.2.2.1), some (.int (s59.2.2.2 + (1 : Int32))), none, none], []), (h, g, cw_R sv))) rfl ?_
      obtain rfl := Option.some.inj hf
      refine rh_Ex.fgt [some (.ref 0), none, some (.int u2), some (.int u3), some (.int s59.1), some (.int s59.2.1), some (.int s59.2.2.1), some (.int (s59.2.2.2 + (1 : Int32))), none, none] ⟨rfl, rfl, rfl, rfl, rfl, rfl, rfl, trivial⟩ ?_
      exact hk
    · rw [if_neg q7] at hf
      refine rh_Ex.stp (s' := ((83, [some (.ref 0), none, some (.int u2), some (.int u3), some (.int s59.1), some (.int s59.2.1), some (.int s59.2.2.1), some (.int s59.2.2.2), none, none], []), (h, g, cw_R sv))) rfl (st_ifeq_n q7) ?_
      refine rh_Ex.blk 4 (s' := ((88, [some (.ref 0), none, some (.int u2), some (.int u3), some (.int s59.1), some (.int s59.2.1), some (.int s59.2.2.1), some (.int s59.2.2.2), none, none], [.int u3, .int u2, .int s59.2.2.2, .ref 0]), (h, g, cw_R sv))) rfl ?_
      obtain ⟨x8, hx8, hf⟩ := rh_bq hf
      refine rh_Ex.call (j := 174) (rc := some 10) [.ref 0, .int s59.2.2.2, .int u2, .int u3] [] (some (.int x8)) rfl rfl rfl (Nat.le_of_ble_eq_true rfl) (R_La_thingsThatFit (d + 2) xx sv h g s59.2.2.2 u2 u3 hx8) ?_
      show rh_Ex _ _ _ ((91, [some (.ref 0), none, some (.int u2), some (.int u3), some (.int s59.1), some (.int s59.2.1), some (.int s59.2.2.1), some (.int s59.2.2.2), none, none], [.int x8]), (h, g, cw_R sv)) _ _
      refine rh_Ex.blk 7 (s' := ((104, [some (.ref 0), none, some (.int u2), some (.int u3), some (.int s59.1), some (.int s59.2.1), some (.int s59.2.2.1), some (.int s59.2.2.2), some (.int x8), none], [.int ((1 : Int32) <<< (s59.2.2.2 &&& 31)), .ref 12]), (h, g, cw_R sv))) rfl ?_
      obtain ⟨q9, hf⟩ := rh_gq hf
      refine rh_Ex.stp (s' := ((105, [some (.ref 0), none, some (.int u2), some (.int u3), some (.int s59.1), some (.int s59.2.1), some (.int s59.2.2.1), some (.int s59.2.2.2), some (.int x8), none], [.int (h 12 ((1 : Int32) <<< (s59.2.2.2 &&& 31)).toNatClampNeg)]), (h, g, cw_R sv))) rfl (st_iald (n := 512) rfl q9) ?_
      refine rh_Ex.blk 2 (s' := ((107, [some (.ref 0), none, some (.int u2), some (.int u3), some (.int s59.1), some (.int s59.2.1), some (.int s59.2.2.1), some (.int s59.2.2.2), some (.int x8), none], [.int ((h 12 ((1 : Int32) <<< (s59.2.2.2 &&& 31)).toNatClampNeg) - u2)]), (h, g, cw_R sv))) rfl ?_
      refine rh_Ex.stp (s' := ((110, [some (.ref 0), none, some (.int u2), some (.int u3), some (.int s59.1), some (.int s59.2.1), some (.int s59.2.2.1), some (.int s59.2.2.2), some (.int x8), none], [.int (if 0 ≤ ((h 12 ((1 : Int32) <<< (s59.2.2.2 &&& 31)).toNatClampNeg) - u2) then ((h 12 ((1 : Int32) <<< (s59.2.2.2 &&& 31)).toNatClampNeg) - u2) else 0 - ((h 12 ((1 : Int32) <<< (s59.2.2.2 &&& 31)).toNatClampNeg) - u2))]), (h, g, cw_R sv))) rfl (st_mabs (Nat.le_of_ble_eq_true rfl)) ?_
      refine rh_Ex.blk 1 (s' := ((111, [some (.ref 0), none, some (.int u2), some (.int u3), some (.int s59.1), some (.int s59.2.1), some (.int s59.2.2.1), some (.int s59.2.2.2), some (.int x8), none], [.int u3, .int (if 0 ≤ ((h 12 ((1 : Int32) <<< (s59.2.2.2 &&& 31)).toNatClampNeg) - u2) then ((h 12 ((1 : Int32) <<< (s59.2.2.2 &&& 31)).toNatClampNeg) - u2) else 0 - ((h 12 ((1 : Int32) <<< (s59.2.2.2 &&& 31)).toNatClampNeg) - u2))]), (h, g, cw_R sv))) rfl ?_
      by_cases q10 : u3 < (if 0 ≤ ((h 12 ((1 : Int32) <<< (s59.2.2.2 &&& 31)).toNatClampNeg) - u2) then ((h 12 ((1 : Int32) <<< (s59.2.2.2 &&& 31)).toNatClampNeg) - u2) else 0 - ((h 12 ((1 : Int32) <<< (s59.2.2.2 &&& 31)).toNatClampNeg) - u2))
      · rw [if_pos q10] at hf
        refine rh_Ex.stp (s' := ((118, [some (.ref 0), none, some (.int u2), some (.int u3), some (.int s59.1), some (.int s59.2.1), some (.int s59.2.2.1), some (.int s59.2.2.2), some (.int x8), none], []), (h, g, cw_R sv))) rfl (st_icgt_p q10) ?_
        refine rh_Ex.blk 1 (s' := ((119, [some (.ref 0), none, some (.int u2), some (.int u3), some (.int s59.1), some (.int s59.2.1), some (.int s59.2.2.1), some (.int s59.2.2.2), some (.int x8), none], [.int (0 : Int32)]), (h, g, cw_R sv))) rfl ?_
        refine rh_Ex.fgt [some (.ref 0), none, some (.int u2), some (.int u3), some (.int s59.1), some (.int s59.2.1), some (.int s59.2.2.1), some (.int s59.2.2.2), some (.int x8), none] ⟨rfl, rfl, rfl, rfl, rfl, rfl, rfl, rfl, trivial⟩ ?_
        exact lj_La_print_119 d xx sv h u2 u3 s59.1 s59.2.1 s59.2.2.1 s59.2.2.2 x8 (0 : Int32) g _ _ _ hf hk
      · rw [if_neg q10] at hf
        refine rh_Ex.stp (s' := ((114, [some (.ref 0), none, some (.int u2), some (.int u3), some (.int s59.1), some (.int s59.2.1), some (.int s59.2.2.1), some (.int s59.2.2.2), some (.int x8), none], []), (h, g, cw_R sv))) rfl (st_icgt_n q10) ?_
        refine rh_Ex.blk 2 (s' := ((119, [some (.ref 0), none, some (.int u2), some (.int u3), some (.int s59.1), some (.int s59.2.1), some (.int s59.2.2.1), some (.int s59.2.2.2), some (.int x8), none], [.int (1 : Int32)]), (h, g, cw_R sv))) rfl ?_
        refine rh_Ex.fgt [some (.ref 0), none, some (.int u2), some (.int u3), some (.int s59.1), some (.int s59.2.1), some (.int s59.2.2.1), some (.int s59.2.2.2), some (.int x8), none] ⟨rfl, rfl, rfl, rfl, rfl, rfl, rfl, rfl, trivial⟩ ?_
        exact lj_La_print_119 d xx sv h u2 u3 s59.1 s59.2.1 s59.2.2.1 s59.2.2.2 x8 (1 : Int32) g _ _ _ hf hk
set_option maxRecDepth 20000 in
set_option maxHeartbeats 4000000 in
theorem R_La_print (d : Nat) (xx : rh_L) (sv : Option Nat) (h : Nat → Nat → Int32) (g : Nat → Nat → Int64) (p0 : Int32) (p1 : Int32) (p2 : Int32) {z9 : Int32 × (Nat → Nat → Int32)} (hf : f_La_print h p0 p1 p2 = some z9) : rh_M rh_PT (cw_L ++ xx) (d + 5) 146 [.ref 0, .int p0, .int p1, .int p2] (h, g, cw_R sv) (some (.int z9.1)) (z9.2, g, cw_R sv) := by
  unfold f_La_print at hf
  refine rh_go pt_146 (Nat.le_of_ble_eq_true rfl) (lv := [some (.ref 0), some (.int p0), some (.int p1), some (.int p2), none, none, none, none, none, none]) rfl ?_
  refine rh_Ex.blk 3 (s' := ((4, [some (.ref 0), some (.int p0), some (.int p1), some (.int p2), none, none, none, none, none, none], [.int (99 : Int32), .int (0 : Int32), .int p0]), (h, g, cw_R sv))) rfl ?_
  refine rh_Ex.call (j := 155) (rc := none) [.int p0, .int (0 : Int32), .int (99 : Int32)] [] (some (.int (f_La_within p0 (0 : Int32) (99 : Int32)))) rfl rfl trivial (Nat.le_of_ble_eq_true rfl) (R_La_within (d + 3) (cw_L ++ xx) (cw_R sv) h g p0 (0 : Int32) (99 : Int32) rfl) ?_
  show rh_Ex _ _ _ ((7, [some (.ref 0), some (.int p0), some (.int p1), some (.int p2), none, none, none, none, none, none], [.int (f_La_within p0 (0 : Int32) (99 : Int32))]), (h, g, cw_R sv)) _ _
  by_cases q1 : (f_La_within p0 (0 : Int32) (99 : Int32)) = 0
  · rw [if_pos q1] at hf
    refine rh_Ex.stp (s' := ((29, [some (.ref 0), some (.int p0), some (.int p1), some (.int p2), none, none, none, none, none, none], []), (h, g, cw_R sv))) rfl (st_ifeq_p q1) ?_
    refine rh_Ex.blk 1 (s' := ((30, [some (.ref 0), some (.int p0), some (.int p1), some (.int p2), none, none, none, none, none, none], [.int (-1 : Int32)]), (h, g, cw_R sv))) rfl ?_
    obtain rfl := Option.some.inj hf
    exact rh_Ex.ret rfl rfl
  · rw [if_neg q1] at hf
    refine rh_Ex.stp (s' := ((10, [some (.ref 0), some (.int p0), some (.int p1), some (.int p2), none, none, none, none, none, none], []), (h, g, cw_R sv))) rfl (st_ifeq_n q1) ?_
    refine rh_Ex.blk 4 (s' := ((18, [some (.ref 0), some (.int p0), some (.int p1), some (.int p2), none, none, none, none, none, none], [.int (h 13 1), .int p0]), (h, g, cw_R sv))) rfl ?_
    by_cases q2 : (h 13 1) < p0
    · rw [if_pos q2] at hf
      refine rh_Ex.stp (s' := ((29, [some (.ref 0), some (.int p0), some (.int p1), some (.int p2), none, none, none, none, none, none], []), (h, g, cw_R sv))) rfl (st_icgt_p q2) ?_
      refine rh_Ex.blk 1 (s' := ((30, [some (.ref 0), some (.int p0), some (.int p1), some (.int p2), none, none, none, none, none, none], [.int (-1 : Int32)]), (h, g, cw_R sv))) rfl ?_
      obtain rfl := Option.some.inj hf
      exact rh_Ex.ret rfl rfl
    · rw [if_neg q2] at hf
      refine rh_Ex.stp (s' := ((21, [some (.ref 0), some (.int p0), some (.int p1), some (.int p2), none, none, none, none, none, none], []), (h, g, cw_R sv))) rfl (st_icgt_n q2) ?_
      refine rh_Ex.blk 2 (s' := ((23, [some (.ref 0), some (.int p0), some (.int p1), some (.int p2), none, none, none, none, none, none], [.int p2, .int p1]), (h, g, cw_R sv))) rfl ?_
      refine rh_Ex.call (j := 157) (rc := none) [.int p1, .int p2] [] (some (.int (f_La_isDepth p1 p2))) rfl rfl trivial (Nat.le_of_ble_eq_true rfl) (R_La_isDepth (d + 2) (cw_L ++ xx) (cw_R sv) h g p1 p2 rfl) ?_
      show rh_Ex _ _ _ ((26, [some (.ref 0), some (.int p0), some (.int p1), some (.int p2), none, none, none, none, none, none], [.int (f_La_isDepth p1 p2)]), (h, g, cw_R sv)) _ _
      by_cases q3 : (f_La_isDepth p1 p2) = 0
      · rw [if_pos q3] at hf
        refine rh_Ex.stp (s' := ((29, [some (.ref 0), some (.int p0), some (.int p1), some (.int p2), none, none, none, none, none, none], []), (h, g, cw_R sv))) rfl (st_ifne_p q3) ?_
        refine rh_Ex.blk 1 (s' := ((30, [some (.ref 0), some (.int p0), some (.int p1), some (.int p2), none, none, none, none, none, none], [.int (-1 : Int32)]), (h, g, cw_R sv))) rfl ?_
        obtain rfl := Option.some.inj hf
        exact rh_Ex.ret rfl rfl
      · rw [if_neg q3] at hf
        refine rh_Ex.stp (s' := ((31, [some (.ref 0), some (.int p0), some (.int p1), some (.int p2), none, none, none, none, none, none], []), (h, g, cw_R sv))) rfl (st_ifne_n q3) ?_
        refine rh_Ex.blk 7 (s' := ((44, [some (.ref 0), some (.int p0), some (.int p1), some (.int p2), none, none, none, none, none, none], [.int ((h 13 1) - p0), .ref 4]), (h, g, cw_R sv))) rfl ?_
        obtain ⟨x4, hx4, hf⟩ := rh_bq hf
        refine rh_Ex.call (j := 8) (rc := some 0) [.ref 4, .int ((h 13 1) - p0)] [] none rfl rfl rfl (Nat.le_of_ble_eq_true rfl) (R_Cr_sumAll d xx sv h g ((h 13 1) - p0) hx4) ?_
        show rh_Ex _ _ _ ((47, [some (.ref 0), some (.int p0), some (.int p1), some (.int p2), none, none, none, none, none, none], []), (x4, g, cw_R sv)) _ _
        refine rh_Ex.blk 8 (s' := ((59, [some (.ref 0), some (.int p0), some (.int p1), some (.int p2), some (.int (0 : Int32)), some (.int (0 : Int32)), some (.int (0 : Int32)), some (.int (0 : Int32)), none, none], []), (x4, g, cw_R sv))) rfl ?_
        obtain ⟨r16, hr16, hf⟩ := rh_bq hf
        refine rh_Ex.fgt [some (.ref 0), none, some (.int p1), some (.int p2), some (.int (0 : Int32)), some (.int (0 : Int32)), some (.int (0 : Int32)), some (.int (0 : Int32)), none, none] ⟨rfl, rfl, rfl, rfl, rfl, rfl, rfl, trivial⟩ ?_
        refine rh_Ex.loop _ _ _ (lb_La_print_59 d xx sv p1 p2 x4  g _ _) rh_N _ r16 hr16 ?_
        refine rh_Ex.blk 3 (s' := ((181, [some (.ref 0), none, none, none, some (.int r16.1), some (.int r16.2.1), some (.int r16.2.2), none, none, none], [.int r16.2.1, .ref 2]), (x4, g, cw_R sv))) rfl ?_
        obtain ⟨x17, hx17, hf⟩ := rh_bq hf
        refine rh_Ex.call (j := 70) (rc := some 6) [.ref 2, .int r16.2.1] [] none rfl rfl rfl (Nat.le_of_ble_eq_true rfl) (R_Ro_tell (d + 2) xx sv x4 g r16.2.1 hx17) ?_
        show rh_Ex _ _ _ ((184, [some (.ref 0), none, none, none, some (.int r16.1), some (.int r16.2.1), some (.int r16.2.2), none, none, none], []), (x17, g, cw_R sv)) _ _
        refine rh_Ex.blk 3 (s' := ((190, [some (.ref 0), none, none, none, some (.int r16.1), some (.int r16.2.1), some (.int r16.2.2), none, none, none], [.int r16.2.2, .ref 2]), (x17, g, cw_R sv))) rfl ?_
        obtain ⟨x18, hx18, hf⟩ := rh_bq hf
        refine rh_Ex.call (j := 69) (rc := some 6) [.ref 2, .int r16.2.2] [] none rfl rfl rfl (Nat.le_of_ble_eq_true rfl) (R_Ro_add (d + 3) xx sv x17 g r16.2.2 hx18) ?_
        show rh_Ex _ _ _ ((193, [some (.ref 0), none, none, none, some (.int r16.1), some (.int r16.2.1), some (.int r16.2.2), none, none, none], []), (x18, g, cw_R sv)) _ _
        refine rh_Ex.blk 1 (s' := ((195, [some (.ref 0), none, none, none, some (.int r16.1), some (.int r16.2.1), some (.int r16.2.2), none, none, none], [.int r16.1]), (x18, g, cw_R sv))) rfl ?_
        obtain rfl := Option.some.inj hf
        exact rh_Ex.ret rfl rfl
def f_La_hour (h : Nat → Nat → Int32) (p0 : Int32) (p1 : Int32) (p2 : Int32) (p3 : Int32) : Option (Int32 × (Nat → Nat → Int32)) :=
  if (f_Cr_has h p0) = 0 then
    some (((-1 : Int32), h))
  else
    if (f_Cr_isPerson h p0) = 0 then
      some (((-1 : Int32), h))
    else
      if (f_La_isDepth p2 p3) = 0 then
        some (((-1 : Int32), h))
      else
        if (f_Cr_holds h p1) = 0 then
          some (((-1 : Int32), h))
        else
          if (p1 &&& (h 4 1)) = 0 then
            (f_La_bellsWithin h (p1 ||| ((1 : Int32) <<< (p0 &&& 31))) (p2 - p3) (p2 + p3)).bind (fun x6 =>
              some ((x6.1, x6.2))
            )
          else
            some (((-1 : Int32), h))
set_option maxRecDepth 20000 in
set_option maxHeartbeats 4000000 in
theorem R_La_hour (d : Nat) (xx : rh_L) (sv : Option Nat) (h : Nat → Nat → Int32) (g : Nat → Nat → Int64) (p0 : Int32) (p1 : Int32) (p2 : Int32) (p3 : Int32) {z9 : Int32 × (Nat → Nat → Int32)} (hf : f_La_hour h p0 p1 p2 p3 = some z9) : rh_M rh_PT (cw_L ++ xx) (d + 6) 147 [.ref 0, .int p0, .int p1, .int p2, .int p3] (h, g, cw_R sv) (some (.int z9.1)) (z9.2, g, cw_R sv) := by
  unfold f_La_hour at hf
  refine rh_go pt_147 (Nat.le_of_ble_eq_true rfl) (lv := [some (.ref 0), some (.int p0), some (.int p1), some (.int p2), some (.int p3)]) rfl ?_
  refine rh_Ex.blk 3 (s' := ((5, [some (.ref 0), some (.int p0), some (.int p1), some (.int p2), some (.int p3)], [.int p0, .ref 4]), (h, g, cw_R sv))) rfl ?_
  refine rh_Ex.call (j := 0) (rc := some 0) [.ref 4, .int p0] [] (some (.int (f_Cr_has h p0))) rfl rfl rfl (Nat.le_of_ble_eq_true rfl) (R_Cr_has (d + 4) xx sv h g p0 rfl) ?_
  show rh_Ex _ _ _ ((8, [some (.ref 0), some (.int p0), some (.int p1), some (.int p2), some (.int p3)], [.int (f_Cr_has h p0)]), (h, g, cw_R sv)) _ _
  by_cases q1 : (f_Cr_has h p0) = 0
  · rw [if_pos q1] at hf
    refine rh_Ex.stp (s' := ((31, [some (.ref 0), some (.int p0), some (.int p1), some (.int p2), some (.int p3)], []), (h, g, cw_R sv))) rfl (st_ifeq_p q1) ?_
    refine rh_Ex.blk 1 (s' := ((32, [some (.ref 0), some (.int p0), some (.int p1), some (.int p2), some (.int p3)], [.int (-1 : Int32)]), (h, g, cw_R sv))) rfl ?_
    obtain rfl := Option.some.inj hf
    exact rh_Ex.ret rfl rfl
  · rw [if_neg q1] at hf
    refine rh_Ex.stp (s' := ((11, [some (.ref 0), some (.int p0), some (.int p1), some (.int p2), some (.int p3)], []), (h, g, cw_R sv))) rfl (st_ifeq_n q1) ?_
    refine rh_Ex.blk 3 (s' := ((16, [some (.ref 0), some (.int p0), some (.int p1), some (.int p2), some (.int p3)], [.int p0, .ref 4]), (h, g, cw_R sv))) rfl ?_
    refine rh_Ex.call (j := 3) (rc := some 0) [.ref 4, .int p0] [] (some (.int (f_Cr_isPerson h p0))) rfl rfl rfl (Nat.le_of_ble_eq_true rfl) (R_Cr_isPerson (d + 4) xx sv h g p0 rfl) ?_
    show rh_Ex _ _ _ ((19, [some (.ref 0), some (.int p0), some (.int p1), some (.int p2), some (.int p3)], [.int (f_Cr_isPerson h p0)]), (h, g, cw_R sv)) _ _
    by_cases q2 : (f_Cr_isPerson h p0) = 0
    · rw [if_pos q2] at hf
      refine rh_Ex.stp (s' := ((31, [some (.ref 0), some (.int p0), some (.int p1), some (.int p2), some (.int p3)], []), (h, g, cw_R sv))) rfl (st_ifeq_p q2) ?_
      refine rh_Ex.blk 1 (s' := ((32, [some (.ref 0), some (.int p0), some (.int p1), some (.int p2), some (.int p3)], [.int (-1 : Int32)]), (h, g, cw_R sv))) rfl ?_
      obtain rfl := Option.some.inj hf
      exact rh_Ex.ret rfl rfl
    · rw [if_neg q2] at hf
      refine rh_Ex.stp (s' := ((22, [some (.ref 0), some (.int p0), some (.int p1), some (.int p2), some (.int p3)], []), (h, g, cw_R sv))) rfl (st_ifeq_n q2) ?_
      refine rh_Ex.blk 2 (s' := ((25, [some (.ref 0), some (.int p0), some (.int p1), some (.int p2), some (.int p3)], [.int p3, .int p2]), (h, g, cw_R sv))) rfl ?_
      refine rh_Ex.call (j := 157) (rc := none) [.int p2, .int p3] [] (some (.int (f_La_isDepth p2 p3))) rfl rfl trivial (Nat.le_of_ble_eq_true rfl) (R_La_isDepth (d + 3) (cw_L ++ xx) (cw_R sv) h g p2 p3 rfl) ?_
      show rh_Ex _ _ _ ((28, [some (.ref 0), some (.int p0), some (.int p1), some (.int p2), some (.int p3)], [.int (f_La_isDepth p2 p3)]), (h, g, cw_R sv)) _ _
      by_cases q3 : (f_La_isDepth p2 p3) = 0
      · rw [if_pos q3] at hf
        refine rh_Ex.stp (s' := ((31, [some (.ref 0), some (.int p0), some (.int p1), some (.int p2), some (.int p3)], []), (h, g, cw_R sv))) rfl (st_ifne_p q3) ?_
        refine rh_Ex.blk 1 (s' := ((32, [some (.ref 0), some (.int p0), some (.int p1), some (.int p2), some (.int p3)], [.int (-1 : Int32)]), (h, g, cw_R sv))) rfl ?_
        obtain rfl := Option.some.inj hf
        exact rh_Ex.ret rfl rfl
      · rw [if_neg q3] at hf
        refine rh_Ex.stp (s' := ((33, [some (.ref 0), some (.int p0), some (.int p1), some (.int p2), some (.int p3)], []), (h, g, cw_R sv))) rfl (st_ifne_n q3) ?_
        refine rh_Ex.blk 3 (s' := ((38, [some (.ref 0), some (.int p0), some (.int p1), some (.int p2), some (.int p3)], [.int p1, .ref 4]), (h, g, cw_R sv))) rfl ?_
        refine rh_Ex.call (j := 1) (rc := some 0) [.ref 4, .int p1] [] (some (.int (f_Cr_holds h p1))) rfl rfl rfl (Nat.le_of_ble_eq_true rfl) (R_Cr_holds (d + 3) xx sv h g p1 rfl) ?_
        show rh_Ex _ _ _ ((41, [some (.ref 0), some (.int p0), some (.int p1), some (.int p2), some (.int p3)], [.int (f_Cr_holds h p1)]), (h, g, cw_R sv)) _ _
        by_cases q4 : (f_Cr_holds h p1) = 0
        · rw [if_pos q4] at hf
          refine rh_Ex.stp (s' := ((56, [some (.ref 0), some (.int p0), some (.int p1), some (.int p2), some (.int p3)], []), (h, g, cw_R sv))) rfl (st_ifeq_p q4) ?_
          refine rh_Ex.blk 1 (s' := ((57, [some (.ref 0), some (.int p0), some (.int p1), some (.int p2), some (.int p3)], [.int (-1 : Int32)]), (h, g, cw_R sv))) rfl ?_
          obtain rfl := Option.some.inj hf
          exact rh_Ex.ret rfl rfl
        · rw [if_neg q4] at hf
          refine rh_Ex.stp (s' := ((44, [some (.ref 0), some (.int p0), some (.int p1), some (.int p2), some (.int p3)], []), (h, g, cw_R sv))) rfl (st_ifeq_n q4) ?_
          refine rh_Ex.blk 5 (s' := ((53, [some (.ref 0), some (.int p0), some (.int p1), some (.int p2), some (.int p3)], [.int (p1 &&& (h 4 1))]), (h, g, cw_R sv))) rfl ?_
          by_cases q5 : (p1 &&& (h 4 1)) = 0
          · rw [if_pos q5] at hf
            refine rh_Ex.stp (s' := ((58, [some (.ref 0), some (.int p0), some (.int p1), some (.int p2), some (.int p3)], []), (h, g, cw_R sv))) rfl (st_ifeq_p q5) ?_
            refine rh_Ex.blk 12 (s' := ((72, [some (.ref 0), some (.int p0), some (.int p1), some (.int p2), some (.int p3)], [.int (p2 + p3), .int (p2 - p3), .int (p1 ||| ((1 : Int32) <<< (p0 &&& 31))), .ref 0]), (h, g, cw_R sv))) rfl ?_
            obtain ⟨x6, hx6, hf⟩ := rh_bq hf
            refine rh_Ex.call (j := 165) (rc := some 10) [.ref 0, .int (p1 ||| ((1 : Int32) <<< (p0 &&& 31))), .int (p2 - p3), .int (p2 + p3)] [] (some (.int x6.1)) rfl rfl rfl (Nat.le_of_ble_eq_true rfl) (R_La_bellsWithin d xx sv h g (p1 ||| ((1 : Int32) <<< (p0 &&& 31))) (p2 - p3) (p2 + p3) hx6) ?_
            show rh_Ex _ _ _ ((75, [some (.ref 0), some (.int p0), some (.int p1), some (.int p2), some (.int p3)], [.int x6.1]), (x6.2, g, cw_R sv)) _ _
            obtain rfl := Option.some.inj hf
            exact rh_Ex.ret rfl rfl
          · rw [if_neg q5] at hf
            refine rh_Ex.stp (s' := ((56, [some (.ref 0), some (.int p0), some (.int p1), some (.int p2), some (.int p3)], []), (h, g, cw_R sv))) rfl (st_ifeq_n q5) ?_
            refine rh_Ex.blk 1 (s' := ((57, [some (.ref 0), some (.int p0), some (.int p1), some (.int p2), some (.int p3)], [.int (-1 : Int32)]), (h, g, cw_R sv))) rfl ?_
            obtain rfl := Option.some.inj hf
            exact rh_Ex.ret rfl rfl
def f_La_isSlighter (h : Nat → Nat → Int32) (p0 : Int32) (p1 : Int32) : Option (Int32) :=
  rh_g (0 ≤ p0.toInt ∧ p0.toInt < ((512 : Nat) : Int)) (
    rh_g (0 ≤ p1.toInt ∧ p1.toInt < ((512 : Nat) : Int)) (
      if ((h 12 p0.toNatClampNeg) - (h 12 p1.toNatClampNeg)) < 0 then
        some ((1 : Int32))
      else
        if ((h 12 p0.toNatClampNeg) - (h 12 p1.toNatClampNeg)) = 0 then
          if (f_In_bitCount p1) ≤ (f_In_bitCount p0) then
            some ((0 : Int32))
          else
            some ((1 : Int32))
        else
          some ((0 : Int32))
    )
  )
set_option maxRecDepth 20000 in
set_option maxHeartbeats 4000000 in
theorem R_La_isSlighter (d : Nat) (xx : rh_L) (sv : Option Nat) (h : Nat → Nat → Int32) (g : Nat → Nat → Int64) (p0 : Int32) (p1 : Int32) {z9 : Int32} (hf : f_La_isSlighter h p0 p1 = some z9) : rh_M rh_PT (cw_L ++ xx) (d + 2) 172 [.ref 0, .int p0, .int p1] (h, g, cw_R sv) (some (.int z9)) (h, g, cw_R sv) := by
  unfold f_La_isSlighter at hf
  refine rh_go pt_172 (Nat.le_of_ble_eq_true rfl) (lv := [some (.ref 0), some (.int p0), some (.int p1), none]) rfl ?_
  refine rh_Ex.blk 4 (s' := ((8, [some (.ref 0), some (.int p0), some (.int p1), none], [.int p0, .ref 12]), (h, g, cw_R sv))) rfl ?_
  obtain ⟨q1, hf⟩ := rh_gq hf
  refine rh_Ex.stp (s' := ((9, [some (.ref 0), some (.int p0), some (.int p1), none], [.int (h 12 p0.toNatClampNeg)]), (h, g, cw_R sv))) rfl (st_iald (n := 512) rfl q1) ?_
  refine rh_Ex.blk 4 (s' := ((17, [some (.ref 0), some (.int p0), some (.int p1), none], [.int p1, .ref 12, .int (h 12 p0.toNatClampNeg)]), (h, g, cw_R sv))) rfl ?_
  obtain ⟨q2, hf⟩ := rh_gq hf
  refine rh_Ex.stp (s' := ((18, [some (.ref 0), some (.int p0), some (.int p1), none], [.int (h 12 p1.toNatClampNeg), .int (h 12 p0.toNatClampNeg)]), (h, g, cw_R sv))) rfl (st_iald (n := 512) rfl q2) ?_
  refine rh_Ex.blk 3 (s' := ((21, [some (.ref 0), some (.int p0), some (.int p1), some (.int ((h 12 p0.toNatClampNeg) - (h 12 p1.toNatClampNeg)))], [.int ((h 12 p0.toNatClampNeg) - (h 12 p1.toNatClampNeg))]), (h, g, cw_R sv))) rfl ?_
  by_cases q3 : ((h 12 p0.toNatClampNeg) - (h 12 p1.toNatClampNeg)) < 0
  · rw [if_pos q3] at hf
    refine rh_Ex.stp (s' := ((39, [some (.ref 0), some (.int p0), some (.int p1), some (.int ((h 12 p0.toNatClampNeg) - (h 12 p1.toNatClampNeg)))], []), (h, g, cw_R sv))) rfl (st_iflt_p q3) ?_
    refine rh_Ex.blk 2 (s' := ((44, [some (.ref 0), some (.int p0), some (.int p1), some (.int ((h 12 p0.toNatClampNeg) - (h 12 p1.toNatClampNeg)))], [.int (1 : Int32)]), (h, g, cw_R sv))) rfl ?_
    obtain rfl := Option.some.inj hf
    exact rh_Ex.ret rfl ⟨rfl, Or.inr rfl⟩
  · rw [if_neg q3] at hf
    refine rh_Ex.stp (s' := ((24, [some (.ref 0), some (.int p0), some (.int p1), some (.int ((h 12 p0.toNatClampNeg) - (h 12 p1.toNatClampNeg)))], []), (h, g, cw_R sv))) rfl (st_iflt_n q3) ?_
    refine rh_Ex.blk 1 (s' := ((25, [some (.ref 0), some (.int p0), some (.int p1), some (.int ((h 12 p0.toNatClampNeg) - (h 12 p1.toNatClampNeg)))], [.int ((h 12 p0.toNatClampNeg) - (h 12 p1.toNatClampNeg))]), (h, g, cw_R sv))) rfl ?_
    by_cases q4 : ((h 12 p0.toNatClampNeg) - (h 12 p1.toNatClampNeg)) = 0
    · rw [if_pos q4] at hf
      refine rh_Ex.stp (s' := ((28, [some (.ref 0), some (.int p0), some (.int p1), some (.int ((h 12 p0.toNatClampNeg) - (h 12 p1.toNatClampNeg)))], []), (h, g, cw_R sv))) rfl (st_ifne_p q4) ?_
      refine rh_Ex.blk 1 (s' := ((29, [some (.ref 0), some (.int p0), some (.int p1), some (.int ((h 12 p0.toNatClampNeg) - (h 12 p1.toNatClampNeg)))], [.int p0]), (h, g, cw_R sv))) rfl ?_
      refine rh_Ex.call (j := 298) (rc := none) [.int p0] [] (some (.int (f_In_bitCount p0))) rfl rfl trivial (Nat.le_of_ble_eq_true rfl) (R_In_bitCount d (cw_L ++ xx) (cw_R sv) h g p0 rfl) ?_
      show rh_Ex _ _ _ ((32, [some (.ref 0), some (.int p0), some (.int p1), some (.int ((h 12 p0.toNatClampNeg) - (h 12 p1.toNatClampNeg)))], [.int (f_In_bitCount p0)]), (h, g, cw_R sv)) _ _
      refine rh_Ex.blk 1 (s' := ((33, [some (.ref 0), some (.int p0), some (.int p1), some (.int ((h 12 p0.toNatClampNeg) - (h 12 p1.toNatClampNeg)))], [.int p1, .int (f_In_bitCount p0)]), (h, g, cw_R sv))) rfl ?_
      refine rh_Ex.call (j := 298) (rc := none) [.int p1] [.int (f_In_bitCount p0)] (some (.int (f_In_bitCount p1))) rfl rfl trivial (Nat.le_of_ble_eq_true rfl) (R_In_bitCount d (cw_L ++ xx) (cw_R sv) h g p1 rfl) ?_
      show rh_Ex _ _ _ ((36, [some (.ref 0), some (.int p0), some (.int p1), some (.int ((h 12 p0.toNatClampNeg) - (h 12 p1.toNatClampNeg)))], [.int (f_In_bitCount p1), .int (f_In_bitCount p0)]), (h, g, cw_R sv)) _ _
      by_cases q5 : (f_In_bitCount p1) ≤ (f_In_bitCount p0)
      · rw [if_pos q5] at hf
        refine rh_Ex.stp (s' := ((43, [some (.ref 0), some (.int p0), some (.int p1), some (.int ((h 12 p0.toNatClampNeg) - (h 12 p1.toNatClampNeg)))], []), (h, g, cw_R sv))) rfl (st_icge_p q5) ?_
        refine rh_Ex.blk 1 (s' := ((44, [some (.ref 0), some (.int p0), some (.int p1), some (.int ((h 12 p0.toNatClampNeg) - (h 12 p1.toNatClampNeg)))], [.int (0 : Int32)]), (h, g, cw_R sv))) rfl ?_
        obtain rfl := Option.some.inj hf
        exact rh_Ex.ret rfl ⟨rfl, Or.inl rfl⟩
      · rw [if_neg q5] at hf
        refine rh_Ex.stp (s' := ((39, [some (.ref 0), some (.int p0), some (.int p1), some (.int ((h 12 p0.toNatClampNeg) - (h 12 p1.toNatClampNeg)))], []), (h, g, cw_R sv))) rfl (st_icge_n q5) ?_
        refine rh_Ex.blk 2 (s' := ((44, [some (.ref 0), some (.int p0), some (.int p1), some (.int ((h 12 p0.toNatClampNeg) - (h 12 p1.toNatClampNeg)))], [.int (1 : Int32)]), (h, g, cw_R sv))) rfl ?_
        obtain rfl := Option.some.inj hf
        exact rh_Ex.ret rfl ⟨rfl, Or.inr rfl⟩
    · rw [if_neg q4] at hf
      refine rh_Ex.stp (s' := ((43, [some (.ref 0), some (.int p0), some (.int p1), some (.int ((h 12 p0.toNatClampNeg) - (h 12 p1.toNatClampNeg)))], []), (h, g, cw_R sv))) rfl (st_ifne_n q4) ?_
      refine rh_Ex.blk 1 (s' := ((44, [some (.ref 0), some (.int p0), some (.int p1), some (.int ((h 12 p0.toNatClampNeg) - (h 12 p1.toNatClampNeg)))], [.int (0 : Int32)]), (h, g, cw_R sv))) rfl ?_
      obtain rfl := Option.some.inj hf
      exact rh_Ex.ret rfl ⟨rfl, Or.inl rfl⟩
def b_La_ballast_30 (u1 : Int32) (u2 : Int32) : (Int32 × Int32 × (Nat → Nat → Int32)) → Option ((Int32 × Int32 × (Nat → Nat → Int32)) ⊕ (Int32 × (Nat → Nat → Int32))) := fun s30 =>
  if (9 : Int32) ≤ s30.2.1 then
    some (.inr (s30.1, s30.2.2))
  else
    (f_Cr_together s30.2.2 u1 ((f_La_dawn s30.2.2) + s30.2.1)).bind (fun x5 =>
      some (.inl ((if x5.1 < s30.1 then x5.1 else s30.1), s30.2.1 + (1 : Int32), x5.2))
    )
def j_La_ballast_112 (h : Nat → Nat → Int32) (u1 : Int32) (u2 : Int32) (u3 : Int32) (j4 : Int32) (j5 : Int32) (k0 : Int32) : Option ((Int32 × Int32) ⊕ (Int32)) :=
  if k0 = 0 then
    some (.inl (j4, j5 + (1 : Int32)))
  else
    rh_g (0 ≤ j5.toInt ∧ j5.toInt < ((512 : Nat) : Int)) (
      if (u3 + (h 12 j5.toNatClampNeg)) < u2 then
        some (.inl (j4, j5 + (1 : Int32)))
      else
        if j4 = (-1 : Int32) then
          some (.inl (j5, j5 + (1 : Int32)))
        else
          (f_La_isSlighter h j5 j4).bind (fun x15 =>
            if x15 = 0 then
              some (.inl (j4, j5 + (1 : Int32)))
            else
              some (.inl (j5, j5 + (1 : Int32)))
          )
    )
def b_La_ballast_80 (u1 : Int32) (u2 : Int32) (u3 : Int32) (h : Nat → Nat → Int32) : (Int32 × Int32) → Option ((Int32 × Int32) ⊕ (Int32)) := fun s80 =>
  if (f_Cr_sets h) ≤ s80.2 then
    some (.inr s80.1)
  else
    if (s80.2 &&& (u1 ||| (h 4 1))) = 0 then
      j_La_ballast_112 h u1 u2 u3 s80.1 s80.2 (1 : Int32)
    else
      j_La_ballast_112 h u1 u2 u3 s80.1 s80.2 (0 : Int32)
def f_La_ballast (h : Nat → Nat → Int32) (p0 : Int32) (p1 : Int32) : Option (Int32 × (Nat → Nat → Int32)) :=
  if (f_Cr_holds h p0) = 0 then
    some (((-1 : Int32), h))
  else
    if (f_La_within p1 (0 : Int32) (9999 : Int32)) = 0 then
      some (((-1 : Int32), h))
    else
      (rh_loop (b_La_ballast_30 p0 p1) rh_N ((1000000000 : Int32), (0 : Int32), h)).bind (fun r6 =>
        (f_Cr_sumAll r6.2 (f_La_dawn r6.2)).bind (fun x7 =>
          (rh_loop (b_La_ballast_80 p0 p1 r6.1 x7) rh_N ((-1 : Int32), (0 : Int32))).bind (fun r17 =>
            if r17 = (-1 : Int32) then
              some (((-2 : Int32), x7))
            else
              (f_Ro_tell x7 r17).bind (fun x19 =>
                rh_g (0 ≤ r17.toInt ∧ r17.toInt < ((512 : Nat) : Int)) (
                  some ((x19 12 r17.toNatClampNeg, x19))
                )
              )
          )
        )
      )
set_option maxRecDepth 20000 in
set_option maxHeartbeats 4000000 in
theorem lb_La_ballast_30 (d : Nat) (xx : rh_L) (sv : Option Nat) (u1 : Int32) (u2 : Int32) (g : Nat → Nat → Int64) (v9 : Option Value) (h9 : rh_H) : ∀ s30 x9, b_La_ballast_30 u1 u2 s30 = some x9 → Sum.elim (fun s30 => rh_Ex (rh_M rh_PT (cw_L ++ xx) (d + 4)) (cw_L ++ xx) pg_X11_ballast ((30, [some (.ref 0), some (.int u1), some (.int u2), some (.int s30.1), some (.int s30.2.1), none, none], []), (s30.2.2, g, cw_R sv)) v9 h9) (fun e9 => rh_Ex (rh_M rh_PT (cw_L ++ xx) (d + 4)) (cw_L ++ xx) pg_X11_ballast ((63, [some (.ref 0), some (.int u1), some (.int u2), some (.int e9.1), none, none, none], []), (e9.2, g, cw_R sv)) v9 h9) x9 → rh_Ex (rh_M rh_PT (cw_L ++ xx) (d + 4)) (cw_L ++ xx) pg_X11_ballast ((30, [some (.ref 0), some (.int u1), some (.int u2), some (.int s30.1), some (.int s30.2.1), none, none], []), (s30.2.2, g, cw_R sv)) v9 h9 := by
  intro s30 x9 hf hk
  unfold b_La_ballast_30 at hf
  refine rh_Ex.blk 2 (s' := ((34, [some (.ref 0), some (.int u1), some (.int u2), some (.int s30.1), some (.int s30.2.1), none, none], [.int (9 : Int32), .int s30.2.1]), (s30.2.2, g, cw_R sv))) rfl ?_
  by_cases q4 : (9 : Int32) ≤ s30.2.1
  · rw [if_pos q4] at hf
    refine rh_Ex.stp (s' := ((63, [some (.ref 0), some (.int u1), some (.int u2), some (.int s30.1), some (.int s30.2.1), none, none], []), (s30.2.2, g, cw_R sv))) rfl (st_icge_p q4) ?_
    obtain rfl := Option.some.inj hf
    refine rh_Ex.fgt [some (.ref 0), some (.int u1), some (.int u2), some (.int s30.1), none, none, none] ⟨rfl, rfl, rfl, rfl, trivial⟩ ?_
    exact hk
  · rw [if_neg q4] at hf
    refine rh_Ex.stp (s' := ((37, [some (.ref 0), some (.int u1), some (.int u2), some (.int s30.1), some (.int s30.2.1), none, none], []), (s30.2.2, g, cw_R sv))) rfl (st_icge_n q4) ?_
    refine rh_Ex.blk 5 (s' := ((44, [some (.ref 0), some (.int u1), some (.int u2), some (.int s30.1), some (.int s30.2.1), none, none], [.ref 0, .int u1, .ref 4, .int s30.1]), (s30.2.2, g, cw_R sv))) rfl ?_
    refine rh_Ex.call (j := 159) (rc := some 10) [.ref 0] [.int u1, .ref 4, .int s30.1] (some (.int (f_La_dawn s30.2.2))) rfl rfl rfl (Nat.le_of_ble_eq_true rfl) (R_La_dawn (d + 3) xx sv s30.2.2 g  rfl) ?_
    show rh_Ex _ _ _ ((47, [some (.ref 0), some (.int u1), some (.int u2), some (.int s30.1), some (.int s30.2.1), none, none], [.int (f_La_dawn s30.2.2), .int u1, .ref 4, .int s30.1]), (s30.2.2, g, cw_R sv)) _ _
    refine rh_Ex.blk 2 (s' := ((50, [some (.ref 0), some (.int u1), some (.int u2), some (.int s30.1), some (.int s30.2.1), none, none], [.int ((f_La_dawn s30.2.2) + s30.2.1), .int u1, .ref 4, .int s30.1]), (s30.2.2, g, cw_R sv))) rfl ?_
    obtain ⟨x5, hx5, hf⟩ := rh_bq hf
    refine rh_Ex.call (j := 7) (rc := some 0) [.ref 4, .int u1, .int ((f_La_dawn s30.2.2) + s30.2.1)] [.int s30.1] (some (.int x5.1)) rfl rfl rfl (Nat.le_of_ble_eq_true rfl) (R_Cr_together d xx sv s30.2.2 g u1 ((f_La_dawn s30.2.2) + s30.2.1) hx5) ?_
    show rh_Ex _ _ _ ((53, [some (.ref 0), some (.int u1), some (.int u2), some (.int s30.1), some (.int s30.2.1), none, none], [.int x5.1, .int s30.1]), (x5.2, g, cw_R sv)) _ _
    refine rh_Ex.stp (s' := ((56, [some (.ref 0), some (.int u1), some (.int u2), some (.int s30.1), some (.int s30.2.1), none, none], [.int (if x5.1 < s30.1 then x5.1 else s30.1)]), (x5.2, g, cw_R sv))) rfl (st_mmin (Nat.le_of_ble_eq_true rfl)) ?_
    refine rh_Ex.blk 3 (s' := ((30, [some (.ref 0), some (.int u1), some (.int u2), some (.int (if x5.1 < s30.1 then x5.1 else s30.1)), some (.int (s30.2.1 + (1 : Int32))), none, none], []), (x5.2, g, cw_R sv))) rfl ?_
    obtain rfl := Option.some.inj hf
    refine rh_Ex.fgt [some (.ref 0), some (.int u1), some (.int u2), some (.int (if x5.1 < s30.1 then x5.1 else s30.1)), some (.int (s30.2.1 + (1 : Int32))), none, none] ⟨rfl, rfl, rfl, rfl, rfl, trivial⟩ ?_
    exact hk
set_option maxRecDepth 20000 in
set_option maxHeartbeats 4000000 in
theorem lj_La_ballast_112 (d : Nat) (xx : rh_L) (sv : Option Nat) (h : Nat → Nat → Int32) (u1 : Int32) (u2 : Int32) (u3 : Int32) (j4 : Int32) (j5 : Int32) (k0 : Int32) (g : Nat → Nat → Int64) (v9 : Option Value) (h9 : rh_H) (x9 : (Int32 × Int32) ⊕ (Int32)) (hf : j_La_ballast_112 h u1 u2 u3 j4 j5 k0 = some x9) (hk : Sum.elim (fun s80 => rh_Ex (rh_M rh_PT (cw_L ++ xx) (d + 4)) (cw_L ++ xx) pg_X11_ballast ((80, [some (.ref 0), some (.int u1), some (.int u2), some (.int u3), some (.int s80.1), some (.int s80.2), none], []), (h, g, cw_R sv)) v9 h9) (fun e9 => rh_Ex (rh_M rh_PT (cw_L ++ xx) (d + 4)) (cw_L ++ xx) pg_X11_ballast ((162, [some (.ref 0), none, none, none, some (.int e9), none, none], []), (h, g, cw_R sv)) v9 h9) x9) : rh_Ex (rh_M rh_PT (cw_L ++ xx) (d + 4)) (cw_L ++ xx) pg_X11_ballast ((112, [some (.ref 0), some (.int u1), some (.int u2), some (.int u3), some (.int j4), some (.int j5), none], [.int k0]), (h, g, cw_R sv)) v9 h9 := by
  unfold j_La_ballast_112 at hf
  refine rh_Ex.blk 2 (s' := ((116, [some (.ref 0), some (.int u1), some (.int u2), some (.int u3), some (.int j4), some (.int j5), some (.int k0)], [.int k0]), (h, g, cw_R sv))) rfl ?_
  by_cases q11 : k0 = 0
  · rw [if_pos q11] at hf
    refine rh_Ex.stp (s' := ((156, [some (.ref 0), some (.int u1), some (.int u2), some (.int u3), some (.int j4), some (.int j5), some (.int k0)], []), (h, g, cw_R sv))) rfl (st_ifeq_p q11) ?_
    refine rh_Ex.blk 2 (s' := ((80, [some (.ref 0), some (.int u1), some (.int u2), some (.int u3), some (.int j4), some (.int (j5 + (1 : Int32))), some (.int k0)], []), (h, g, cw_R sv))) rfl ?_
    obtain rfl := Option.some.inj hf
    refine rh_Ex.fgt [some (.ref 0), some (.int u1), some (.int u2), some (.int u3), some (.int j4), some (.int (j5 + (1 : Int32))), none] ⟨rfl, rfl, rfl, rfl, rfl, rfl, trivial⟩ ?_
    exact hk
  · rw [if_neg q11] at hf
    refine rh_Ex.stp (s' := ((119, [some (.ref 0), some (.int u1), some (.int u2), some (.int u3), some (.int j4), some (.int j5), some (.int k0)], []), (h, g, cw_R sv))) rfl (st_ifeq_n q11) ?_
    refine rh_Ex.blk 5 (s' := ((129, [some (.ref 0), some (.int u1), some (.int u2), some (.int u3), some (.int j4), some (.int j5), some (.int k0)], [.int j5, .ref 12, .int u3]), (h, g, cw_R sv))) rfl ?_
    obtain ⟨q12, hf⟩ := rh_gq hf
    refine rh_Ex.stp (s' := ((130, [some (.ref 0), some (.int u1), some (.int u2), some (.int u3), some (.int j4), some (.int j5), some (.int k0)], [.int (h 12 j5.toNatClampNeg), .int u3]), (h, g, cw_R sv))) rfl (st_iald (n := 512) rfl q12) ?_
    refine rh_Ex.blk 2 (s' := ((132, [some (.ref 0), some (.int u1), some (.int u2), some (.int u3), some (.int j4), some (.int j5), some (.int k0)], [.int u2, .int (u3 + (h 12 j5.toNatClampNeg))]), (h, g, cw_R sv))) rfl ?_
    by_cases q13 : (u3 + (h 12 j5.toNatClampNeg)) < u2
    · rw [if_pos q13] at hf
      refine rh_Ex.stp (s' := ((156, [some (.ref 0), some (.int u1), some (.int u2), some (.int u3), some (.int j4), some (.int j5), some (.int k0)], []), (h, g, cw_R sv))) rfl (st_iclt_p q13) ?_
      refine rh_Ex.blk 2 (s' := ((80, [some (.ref 0), some (.int u1), some (.int u2), some (.int u3), some (.int j4), some (.int (j5 + (1 : Int32))), some (.int k0)], []), (h, g, cw_R sv))) rfl ?_
      obtain rfl := Option.some.inj hf
      refine rh_Ex.fgt [some (.ref 0), some (.int u1), some (.int u2), some (.int u3), some (.int j4), some (.int (j5 + (1 : Int32))), none] ⟨rfl, rfl, rfl, rfl, rfl, rfl, trivial⟩ ?_
      exact hk
    · rw [if_neg q13] at hf
      refine rh_Ex.stp (s' := ((135, [some (.ref 0), some (.int u1), some (.int u2), some (.int u3), some (.int j4), some (.int j5), some (.int k0)], []), (h, g, cw_R sv))) rfl (st_iclt_n q13) ?_
      refine rh_Ex.blk 2 (s' := ((138, [some (.ref 0), some (.int u1), some (.int u2), some (.int u3), some (.int j4), some (.int j5), some (.int k0)], [.int (-1 : Int32), .int j4]), (h, g, cw_R sv))) rfl ?_
      by_cases q14 : j4 = (-1 : Int32)
      · rw [if_pos q14] at hf
        refine rh_Ex.stp (s' := ((152, [some (.ref 0), some (.int u1), some (.int u2), some (.int u3), some (.int j4), some (.int j5), some (.int k0)], []), (h, g, cw_R sv))) rfl (st_iceq_p q14) ?_
        refine rh_Ex.blk 4 (s' := ((80, [some (.ref 0), some (.int u1), some (.int u2), some (.int u3), some (.int j5), some (.int (j5 + (1 : Int32))), some (.int k0)], []), (h, g, cw_R sv))) rfl ?_
        obtain rfl := Option.some.inj hf
        refine rh_Ex.fgt [some (.ref 0), some (.int u1), some (.int u2), some (.int u3), some (.int j5), some (.int (j5 + (1 : Int32))), none] ⟨rfl, rfl, rfl, rfl, rfl, rfl, trivial⟩ ?_
        exact hk
      · rw [if_neg q14] at hf
        refine rh_Ex.stp (s' := ((141, [some (.ref 0), some (.int u1), some (.int u2), some (.int u3), some (.int j4), some (.int j5), some (.int k0)], []), (h, g, cw_R sv))) rfl (st_iceq_n q14) ?_
        refine rh_Ex.blk 3 (s' := ((146, [some (.ref 0), some (.int u1), some (.int u2), some (.int u3), some (.int j4), some (.int j5), some (.int k0)], [.int j4, .int j5, .ref 0]), (h, g, cw_R sv))) rfl ?_
        obtain ⟨x15, hx15, hf⟩ := rh_bq hf
        refine rh_Ex.call (j := 172) (rc := some 10) [.ref 0, .int j5, .int j4] [] (some (.int x15)) rfl rfl rfl (Nat.le_of_ble_eq_true rfl) (R_La_isSlighter (d + 2) xx sv h g j5 j4 hx15) ?_
        show rh_Ex _ _ _ ((149, [some (.ref 0), some (.int u1), some (.int u2), some (.int u3), some (.int j4), some (.int j5), some (.int k0)], [.int x15]), (h, g, cw_R sv)) _ _
        by_cases q16 : x15 = 0
        · rw [if_pos q16] at hf
          refine rh_Ex.stp (s' := ((156, [some (.ref 0), some (.int u1), some (.int u2), some (.int u3), some (.int j4), some (.int j5), some (.int k0)], []), (h, g, cw_R sv))) rfl (st_ifeq_p q16) ?_
          refine rh_Ex.blk 2 (s' := ((80, [some (.ref 0), some (.int u1), some (.int u2), some (.int u3), some (.int j4), some (.int (j5 + (1 : Int32))), some (.int k0)], []), (h, g, cw_R sv))) rfl ?_
          obtain rfl := Option.some.inj hf
          refine rh_Ex.fgt [some (.ref 0), some (.int u1), some (.int u2), some (.int u3), some (.int j4), some (.int (j5 + (1 : Int32))), none] ⟨rfl, rfl, rfl, rfl, rfl, rfl, trivial⟩ ?_
          exact hk
        · rw [if_neg q16] at hf
          refine rh_Ex.stp (s' := ((152, [some (.ref 0), some (.int u1), some (.int u2), some (.int u3), some (.int j4), some (.int j5), some (.int k0)], []), (h, g, cw_R sv))) rfl (st_ifeq_n q16) ?_
          refine rh_Ex.blk 4 (s' := ((80, [some (.ref 0), some (.int u1), some (.int u2), some (.int u3), some (.int j5), some (.int (j5 + (1 : Int32))), some (.int k0)], []), (h, g, cw_R sv))) rfl ?_
          obtain rfl := Option.some.inj hf
          refine rh_Ex.fgt [some (.ref 0), some (.int u1), some (.int u2), some (.int u3), some (.int j5), some (.int (j5 + (1 : Int32))), none] ⟨rfl, rfl, rfl, rfl, rfl, rfl, trivial⟩ ?_
          exact hk
set_option maxRecDepth 20000 in
set_option maxHeartbeats 4000000 in
theorem lb_La_ballast_80 (d : Nat) (xx : rh_L) (sv : Option Nat) (u1 : Int32) (u2 : Int32) (u3 : Int32) (h : Nat → Nat → Int32) (g : Nat → Nat → Int64) (v9 : Option Value) (h9 : rh_H) : ∀ s80 x9, b_La_ballast_80 u1 u2 u3 h s80 = some x9 → Sum.elim (fun s80 => rh_Ex (rh_M rh_PT (cw_L ++ xx) (d + 4)) (cw_L ++ xx) pg_X11_ballast ((80, [some (.ref 0), some (.int u1), some (.int u2), some (.int u3), some (.int s80.1), some (.int s80.2), none], []), (h, g, cw_R sv)) v9 h9) (fun e9 => rh_Ex (rh_M rh_PT (cw_L ++ xx) (d + 4)) (cw_L ++ xx) pg_X11_ballast ((162, [some (.ref 0), none, none, none, some (.int e9), none, none], []), (h, g, cw_R sv)) v9 h9) x9 → rh_Ex (rh_M rh_PT (cw_L ++ xx) (d + 4)) (cw_L ++ xx) pg_X11_ballast ((80, [some (.ref 0), some (.int u1), some (.int u2), some (.int u3), some (.int s80.1), some (.int s80.2), none], []), (h, g, cw_R sv)) v9 h9 := by
  intro s80 x9 hf hk
  unfold b_La_ballast_80 at hf
  refine rh_Ex.blk 3 (s' := ((86, [some (.ref 0), some (.int u1), some (.int u2), some (.int u3), some (.int s80.1), some (.int s80.2), none], [.ref 4, .int s80.2]), (h, g, cw_R sv))) rfl ?_
  refine rh_Ex.call (j := 2) (rc := some 0) [.ref 4] [.int s80.2] (some (.int (f_Cr_sets h))) rfl rfl rfl (Nat.le_of_ble_eq_true rfl) (R_Cr_sets (d + 3) xx sv h g  rfl) ?_
  show rh_Ex _ _ _ ((89, [some (.ref 0), some (.int u1), some (.int u2), some (.int u3), some (.int s80.1), some (.int s80.2), none], [.int (f_Cr_sets h), .int s80.2]), (h, g, cw_R sv)) _ _
  by_cases q9 : (f_Cr_sets h) ≤ s80.2
  · rw [if_pos q9] at hf
    refine rh_Ex.stp (s' := ((162, [some (.ref 0), some (.int u1), some (.int u2), some (.int u3), some (.int s80.1), some (.int s80.2), none], []), (h, g, cw_R sv))) rfl (st_icge_p q9) ?_
    obtain rfl := Option.some.inj hf
    refine rh_Ex.fgt [some (.ref 0), none, none, none, some (.int s80.1), none, none] ⟨rfl, rfl, trivial⟩ ?_
    exact hk
  · rw [if_neg q9] at hf
    refine rh_Ex.stp (s' := ((92, [some (.ref 0), some (.int u1), some (.int u2), some (.int u3), some (.int s80.1), some (.int s80.2), none], []), (h, g, cw_R sv))) rfl (st_icge_n q9) ?_
    refine rh_Ex.blk 7 (s' := ((104, [some (.ref 0), some (.int u1), some (.int u2), some (.int u3), some (.int s80.1), some (.int s80.2), none], [.int (s80.2 &&& (u1 ||| (h 4 1)))]), (h, g, cw_R sv))) rfl ?_
    by_cases q10 : (s80.2 &&& (u1 ||| (h 4 1))) = 0
    · rw [if_pos q10] at hf
      refine rh_Ex.stp (s' := ((107, [some (.ref 0), some (.int u1), some (.int u2), some (.int u3), some (.int s80.1), some (.int s80.2), none], []), (h, g, cw_R sv))) rfl (st_ifne_p q10) ?_
      refine rh_Ex.blk 2 (s' := ((112, [some (.ref 0), some (.int u1), some (.int u2), some (.int u3), some (.int s80.1), some (.int s80.2), none], [.int (1 : Int32)]), (h, g, cw_R sv))) rfl ?_
      refine rh_Ex.fgt [some (.ref 0), some (.int u1), some (.int u2), some (.int u3), some (.int s80.1), some (.int s80.2), none] ⟨rfl, rfl, rfl, rfl, rfl, rfl, trivial⟩ ?_
      exact lj_La_ballast_112 d xx sv h u1 u2 u3 s80.1 s80.2 (1 : Int32) g _ _ _ hf hk
    · rw [if_neg q10] at hf
      refine rh_Ex.stp (s' := ((111, [some (.ref 0), some (.int u1), some (.int u2), some (.int u3), some (.int s80.1), some (.int s80.2), none], []), (h, g, cw_R sv))) rfl (st_ifne_n q10) ?_
      refine rh_Ex.blk 1 (s' := ((112, [some (.ref 0), some (.int u1), some (.int u2), some (.int u3), some (.int s80.1), some (.int s80.2), none], [.int (0 : Int32)]), (h, g, cw_R sv))) rfl ?_
      refine rh_Ex.fgt [some (.ref 0), some (.int u1), some (.int u2), some (.int u3), some (.int s80.1), some (.int s80.2), none] ⟨rfl, rfl, rfl, rfl, rfl, rfl, trivial⟩ ?_
      exact lj_La_ballast_112 d xx sv h u1 u2 u3 s80.1 s80.2 (0 : Int32) g _ _ _ hf hk
set_option maxRecDepth 20000 in
set_option maxHeartbeats 4000000 in
theorem R_La_ballast (d : Nat) (xx : rh_L) (sv : Option Nat) (h : Nat → Nat → Int32) (g : Nat → Nat → Int64) (p0 : Int32) (p1 : Int32) {z9 : Int32 × (Nat → Nat → Int32)} (hf : f_La_ballast h p0 p1 = some z9) : rh_M rh_PT (cw_L ++ xx) (d + 5) 148 [.ref 0, .int p0, .int p1] (h, g, cw_R sv) (some (.int z9.1)) (z9.2, g, cw_R sv) := by
  unfold f_La_ballast at hf
  refine rh_go pt_148 (Nat.le_of_ble_eq_true rfl) (lv := [some (.ref 0), some (.int p0), some (.int p1), none, none, none, none]) rfl ?_
  refine rh_Ex.blk 3 (s' := ((5, [some (.ref 0), some (.int p0), some (.int p1), none, none, none, none], [.int p0, .ref 4]), (h, g, cw_R sv))) rfl ?_
  refine rh_Ex.call (j := 1) (rc := some 0) [.ref 4, .int p0] [] (some (.int (f_Cr_holds h p0))) rfl rfl rfl (Nat.le_of_ble_eq_true rfl) (R_Cr_holds (d + 2) xx sv h g p0 rfl) ?_
  show rh_Ex _ _ _ ((8, [some (.ref 0), some (.int p0), some (.int p1), none, none, none, none], [.int (f_Cr_holds h p0)]), (h, g, cw_R sv)) _ _
  by_cases q1 : (f_Cr_holds h p0) = 0
  · rw [if_pos q1] at hf
    refine rh_Ex.stp (s' := ((22, [some (.ref 0), some (.int p0), some (.int p1), none, none, none, none], []), (h, g, cw_R sv))) rfl (st_ifeq_p q1) ?_
    refine rh_Ex.blk 1 (s' := ((23, [some (.ref 0), some (.int p0), some (.int p1), none, none, none, none], [.int (-1 : Int32)]), (h, g, cw_R sv))) rfl ?_
    obtain rfl := Option.some.inj hf
    exact rh_Ex.ret rfl rfl
  · rw [if_neg q1] at hf
    refine rh_Ex.stp (s' := ((11, [some (.ref 0), some (.int p0), some (.int p1), none, none, none, none], []), (h, g, cw_R sv))) rfl (st_ifeq_n q1) ?_
    refine rh_Ex.blk 3 (s' := ((16, [some (.ref 0), some (.int p0), some (.int p1), none, none, none, none], [.int (9999 : Int32), .int (0 : Int32), .int p1]), (h, g, cw_R sv))) rfl ?_
    refine rh_Ex.call (j := 155) (rc := none) [.int p1, .int (0 : Int32), .int (9999 : Int32)] [] (some (.int (f_La_within p1 (0 : Int32) (9999 : Int32)))) rfl rfl trivial (Nat.le_of_ble_eq_true rfl) (R_La_within (d + 3) (cw_L ++ xx) (cw_R sv) h g p1 (0 : Int32) (9999 : Int32) rfl) ?_
    show rh_Ex _ _ _ ((19, [some (.ref 0), some (.int p0), some (.int p1), none, none, none, none], [.int (f_La_within p1 (0 : Int32) (9999 : Int32))]), (h, g, cw_R sv)) _ _
    by_cases q2 : (f_La_within p1 (0 : Int32) (9999 : Int32)) = 0
    · rw [if_pos q2] at hf
      refine rh_Ex.stp (s' := ((22, [some (.ref 0), some (.int p0), some (.int p1), none, none, none, none], []), (h, g, cw_R sv))) rfl (st_ifne_p q2) ?_
      refine rh_Ex.blk 1 (s' := ((23, [some (.ref 0), some (.int p0), some (.int p1), none, none, none, none], [.int (-1 : Int32)]), (h, g, cw_R sv))) rfl ?_
      obtain rfl := Option.some.inj hf
      exact rh_Ex.ret rfl rfl
    · rw [if_neg q2] at hf
      refine rh_Ex.stp (s' := ((24, [some (.ref 0), some (.int p0), some (.int p1), none, none, none, none], []), (h, g, cw_R sv))) rfl (st_ifne_n q2) ?_
      refine rh_Ex.blk 4 (s' := ((30, [some (.ref 0), some (.int p0), some (.int p1), some (.int (1000000000 : Int32)), some (.int (0 : Int32)), none, none], []), (h, g, cw_R sv))) rfl ?_
      obtain ⟨r6, hr6, hf⟩ := rh_bq hf
      refine rh_Ex.fgt [some (.ref 0), some (.int p0), some (.int p1), some (.int (1000000000 : Int32)), some (.int (0 : Int32)), none, none] ⟨rfl, rfl, rfl, rfl, rfl, trivial⟩ ?_
      refine rh_Ex.loop _ _ _ (lb_La_ballast_30 d xx sv p0 p1  g _ _) rh_N _ r6 hr6 ?_
      refine rh_Ex.blk 3 (s' := ((68, [some (.ref 0), some (.int p0), some (.int p1), some (.int r6.1), none, none, none], [.ref 0, .ref 4]), (r6.2, g, cw_R sv))) rfl ?_
      refine rh_Ex.call (j := 159) (rc := some 10) [.ref 0] [.ref 4] (some (.int (f_La_dawn r6.2))) rfl rfl rfl (Nat.le_of_ble_eq_true rfl) (R_La_dawn (d + 3) xx sv r6.2 g  rfl) ?_
      show rh_Ex _ _ _ ((71, [some (.ref 0), some (.int p0), some (.int p1), some (.int r6.1), none, none, none], [.int (f_La_dawn r6.2), .ref 4]), (r6.2, g, cw_R sv)) _ _
      obtain ⟨x7, hx7, hf⟩ := rh_bq hf
      refine rh_Ex.call (j := 8) (rc := some 0) [.ref 4, .int (f_La_dawn r6.2)] [] none rfl rfl rfl (Nat.le_of_ble_eq_true rfl) (R_Cr_sumAll d xx sv r6.2 g (f_La_dawn r6.2) hx7) ?_
      show rh_Ex _ _ _ ((74, [some (.ref 0), some (.int p0), some (.int p1), some (.int r6.1), none, none, none], []), (x7, g, cw_R sv)) _ _
      refine rh_Ex.blk 4 (s' := ((80, [some (.ref 0), some (.int p0), some (.int p1), some (.int r6.1), some (.int (-1 : Int32)), some (.int (0 : Int32)), none], []), (x7, g, cw_R sv))) rfl ?_
      obtain ⟨r17, hr17, hf⟩ := rh_bq hf
      refine rh_Ex.fgt [some (.ref 0), some (.int p0), some (.int p1), some (.int r6.1), some (.int (-1 : Int32)), some (.int (0 : Int32)), none] ⟨rfl, rfl, rfl, rfl, rfl, rfl, trivial⟩ ?_
      refine rh_Ex.loop _ _ _ (lb_La_ballast_80 d xx sv p0 p1 r6.1 x7  g _ _) rh_N _ r17 hr17 ?_
      refine rh_Ex.blk 2 (s' := ((165, [some (.ref 0), none, none, none, some (.int r17), none, none], [.int (-1 : Int32), .int r17]), (x7, g, cw_R sv))) rfl ?_
      by_cases q18 : r17 = (-1 : Int32)
      · rw [if_pos q18] at hf
        refine rh_Ex.stp (s' := ((168, [some (.ref 0), none, none, none, some (.int r17), none, none], []), (x7, g, cw_R sv))) rfl (st_icne_p q18) ?_
        refine rh_Ex.blk 1 (s' := ((170, [some (.ref 0), none, none, none, some (.int r17), none, none], [.int (-2 : Int32)]), (x7, g, cw_R sv))) rfl ?_
        obtain rfl := Option.some.inj hf
        exact rh_Ex.ret rfl rfl
      · rw [if_neg q18] at hf
        refine rh_Ex.stp (s' := ((171, [some (.ref 0), none, none, none, some (.int r17), none, none], []), (x7, g, cw_R sv))) rfl (st_icne_n q18) ?_
        refine rh_Ex.blk 3 (s' := ((177, [some (.ref 0), none, none, none, some (.int r17), none, none], [.int r17, .ref 2]), (x7, g, cw_R sv))) rfl ?_
        obtain ⟨x19, hx19, hf⟩ := rh_bq hf
        refine rh_Ex.call (j := 70) (rc := some 6) [.ref 2, .int r17] [] none rfl rfl rfl (Nat.le_of_ble_eq_true rfl) (R_Ro_tell (d + 2) xx sv x7 g r17 hx19) ?_
        show rh_Ex _ _ _ ((180, [some (.ref 0), none, none, none, some (.int r17), none, none], []), (x19, g, cw_R sv)) _ _
        refine rh_Ex.blk 4 (s' := ((189, [some (.ref 0), none, none, none, some (.int r17), none, none], [.int r17, .ref 12]), (x19, g, cw_R sv))) rfl ?_
        obtain ⟨q20, hf⟩ := rh_gq hf
        refine rh_Ex.stp (s' := ((190, [some (.ref 0), none, none, none, some (.int r17), none, none], [.int (x19 12 r17.toNatClampNeg)]), (x19, g, cw_R sv))) rfl (st_iald (n := 512) rfl q20) ?_
        obtain rfl := Option.some.inj hf
        exact rh_Ex.ret rfl rfl
def f_La_swap (h : Nat → Nat → Int32) (p0 : Int32) (p1 : Int32) (p2 : Int32) (p3 : Int32) : Option (Int32 × (Nat → Nat → Int32)) :=
  if (f_Cr_has h p0) = 0 then
    none
  else
    if (f_Cr_has h p2) = 0 then
      none
    else
      if p0 = p2 then
        none
      else
        (f_La_isBell p1).bind (fun x4 =>
          if x4 = 0 then
            none
          else
            (f_La_isBell p3).bind (fun x6 =>
              if x6 = 0 then
                none
              else
                if (f_Cr_isPerson h p0) = 0 then
                  none
                else
                  if (f_Cr_isPerson h p2) = 0 then
                    none
                  else
                    (f_Cr_weightAt h p2 ((f_La_dawn h) + p1)).bind (fun x10 =>
                      (f_Cr_weightAt x10.2 p0 ((f_La_dawn x10.2) + p3)).bind (fun x11 =>
                        (f_Cr_weightAt x11.2 p2 ((f_La_dawn x11.2) + p3)).bind (fun x12 =>
                          (f_Cr_weightAt x12.2 p0 ((f_La_dawn x12.2) + p1)).bind (fun x13 =>
                            some (((x10.1 + x11.1) - (x12.1 + x13.1), x13.2))
                          )
                        )
                      )
                    )
            )
        )
set_option maxRecDepth 20000 in
set_option maxHeartbeats 4000000 in
theorem R_La_swap (d : Nat) (xx : rh_L) (sv : Option Nat) (h : Nat → Nat → Int32) (g : Nat → Nat → Int64) (p0 : Int32) (p1 : Int32) (p2 : Int32) (p3 : Int32) {z9 : Int32 × (Nat → Nat → Int32)} (hf : f_La_swap h p0 p1 p2 p3 = some z9) : rh_M rh_PT (cw_L ++ xx) (d + 4) 149 [.ref 0, .int p0, .int p1, .int p2, .int p3] (h, g, cw_R sv) (some (.int z9.1)) (z9.2, g, cw_R sv) := by
  unfold f_La_swap at hf
  refine rh_go pt_149 (Nat.le_of_ble_eq_true rfl) (lv := [some (.ref 0), some (.int p0), some (.int p1), some (.int p2), some (.int p3), none, none]) rfl ?_
  refine rh_Ex.blk 3 (s' := ((5, [some (.ref 0), some (.int p0), some (.int p1), some (.int p2), some (.int p3), none, none], [.int p0, .ref 4]), (h, g, cw_R sv))) rfl ?_
  refine rh_Ex.call (j := 0) (rc := some 0) [.ref 4, .int p0] [] (some (.int (f_Cr_has h p0))) rfl rfl rfl (Nat.le_of_ble_eq_true rfl) (R_Cr_has (d + 2) xx sv h g p0 rfl) ?_
  show rh_Ex _ _ _ ((8, [some (.ref 0), some (.int p0), some (.int p1), some (.int p2), some (.int p3), none, none], [.int (f_Cr_has h p0)]), (h, g, cw_R sv)) _ _
  by_cases q1 : (f_Cr_has h p0) = 0
  · rw [if_pos q1] at hf
    refine rh_Ex.stp (s' := ((42, [some (.ref 0), some (.int p0), some (.int p1), some (.int p2), some (.int p3), none, none], []), (h, g, cw_R sv))) rfl (st_ifeq_p q1) ?_
    cases hf
  · rw [if_neg q1] at hf
    refine rh_Ex.stp (s' := ((11, [some (.ref 0), some (.int p0), some (.int p1), some (.int p2), some (.int p3), none, none], []), (h, g, cw_R sv))) rfl (st_ifeq_n q1) ?_
    refine rh_Ex.blk 3 (s' := ((16, [some (.ref 0), some (.int p0), some (.int p1), some (.int p2), some (.int p3), none, none], [.int p2, .ref 4]), (h, g, cw_R sv))) rfl ?_
    refine rh_Ex.call (j := 0) (rc := some 0) [.ref 4, .int p2] [] (some (.int (f_Cr_has h p2))) rfl rfl rfl (Nat.le_of_ble_eq_true rfl) (R_Cr_has (d + 2) xx sv h g p2 rfl) ?_
    show rh_Ex _ _ _ ((19, [some (.ref 0), some (.int p0), some (.int p1), some (.int p2), some (.int p3), none, none], [.int (f_Cr_has h p2)]), (h, g, cw_R sv)) _ _
    by_cases q2 : (f_Cr_has h p2) = 0
    · rw [if_pos q2] at hf
      refine rh_Ex.stp (s' := ((42, [some (.ref 0), some (.int p0), some (.int p1), some (.int p2), some (.int p3), none, none], []), (h, g, cw_R sv))) rfl (st_ifeq_p q2) ?_
      cases hf
    · rw [if_neg q2] at hf
      refine rh_Ex.stp (s' := ((22, [some (.ref 0), some (.int p0), some (.int p1), some (.int p2), some (.int p3), none, none], []), (h, g, cw_R sv))) rfl (st_ifeq_n q2) ?_
      refine rh_Ex.blk 2 (s' := ((24, [some (.ref 0), some (.int p0), some (.int p1), some (.int p2), some (.int p3), none, none], [.int p2, .int p0]), (h, g, cw_R sv))) rfl ?_
      by_cases q3 : p0 = p2
      · rw [if_pos q3] at hf
        refine rh_Ex.stp (s' := ((42, [some (.ref 0), some (.int p0), some (.int p1), some (.int p2), some (.int p3), none, none], []), (h, g, cw_R sv))) rfl (st_iceq_p q3) ?_
        cases hf
      · rw [if_neg q3] at hf
        refine rh_Ex.stp (s' := ((27, [some (.ref 0), some (.int p0), some (.int p1), some (.int p2), some (.int p3), none, none], []), (h, g, cw_R sv))) rfl (st_iceq_n q3) ?_
        refine rh_Ex.blk 1 (s' := ((28, [some (.ref 0), some (.int p0), some (.int p1), some (.int p2), some (.int p3), none, none], [.int p1]), (h, g, cw_R sv))) rfl ?_
        obtain ⟨x4, hx4, hf⟩ := rh_bq hf
        refine rh_Ex.call (j := 156) (rc := none) [.int p1] [] (some (.int x4)) rfl rfl trivial (Nat.le_of_ble_eq_true rfl) (R_La_isBell (d + 1) (cw_L ++ xx) (cw_R sv) h g p1 hx4) ?_
        show rh_Ex _ _ _ ((31, [some (.ref 0), some (.int p0), some (.int p1), some (.int p2), some (.int p3), none, none], [.int x4]), (h, g, cw_R sv)) _ _
        by_cases q5 : x4 = 0
        · rw [if_pos q5] at hf
          refine rh_Ex.stp (s' := ((42, [some (.ref 0), some (.int p0), some (.int p1), some (.int p2), some (.int p3), none, none], []), (h, g, cw_R sv))) rfl (st_ifeq_p q5) ?_
          cases hf
        · rw [if_neg q5] at hf
          refine rh_Ex.stp (s' := ((34, [some (.ref 0), some (.int p0), some (.int p1), some (.int p2), some (.int p3), none, none], []), (h, g, cw_R sv))) rfl (st_ifeq_n q5) ?_
          refine rh_Ex.blk 1 (s' := ((36, [some (.ref 0), some (.int p0), some (.int p1), some (.int p2), some (.int p3), none, none], [.int p3]), (h, g, cw_R sv))) rfl ?_
          obtain ⟨x6, hx6, hf⟩ := rh_bq hf
          refine rh_Ex.call (j := 156) (rc := none) [.int p3] [] (some (.int x6)) rfl rfl trivial (Nat.le_of_ble_eq_true rfl) (R_La_isBell (d + 1) (cw_L ++ xx) (cw_R sv) h g p3 hx6) ?_
          show rh_Ex _ _ _ ((39, [some (.ref 0), some (.int p0), some (.int p1), some (.int p2), some (.int p3), none, none], [.int x6]), (h, g, cw_R sv)) _ _
          by_cases q7 : x6 = 0
          · rw [if_pos q7] at hf
            refine rh_Ex.stp (s' := ((42, [some (.ref 0), some (.int p0), some (.int p1), some (.int p2), some (.int p3), none, none], []), (h, g, cw_R sv))) rfl (st_ifne_p q7) ?_
            cases hf
          · rw [if_neg q7] at hf
            refine rh_Ex.stp (s' := ((50, [some (.ref 0), some (.int p0), some (.int p1), some (.int p2), some (.int p3), none, none], []), (h, g, cw_R sv))) rfl (st_ifne_n q7) ?_
            refine rh_Ex.blk 3 (s' := ((55, [some (.ref 0), some (.int p0), some (.int p1), some (.int p2), some (.int p3), none, none], [.int p0, .ref 4]), (h, g, cw_R sv))) rfl ?_
            refine rh_Ex.call (j := 3) (rc := some 0) [.ref 4, .int p0] [] (some (.int (f_Cr_isPerson h p0))) rfl rfl rfl (Nat.le_of_ble_eq_true rfl) (R_Cr_isPerson (d + 2) xx sv h g p0 rfl) ?_
            show rh_Ex _ _ _ ((58, [some (.ref 0), some (.int p0), some (.int p1), some (.int p2), some (.int p3), none, none], [.int (f_Cr_isPerson h p0)]), (h, g, cw_R sv)) _ _
            by_cases q8 : (f_Cr_isPerson h p0) = 0
            · rw [if_pos q8] at hf
              refine rh_Ex.stp (s' := ((72, [some (.ref 0), some (.int p0), some (.int p1), some (.int p2), some (.int p3), none, none], []), (h, g, cw_R sv))) rfl (st_ifeq_p q8) ?_
              cases hf
            · rw [if_neg q8] at hf
              refine rh_Ex.stp (s' := ((61, [some (.ref 0), some (.int p0), some (.int p1), some (.int p2), some (.int p3), none, none], []), (h, g, cw_R sv))) rfl (st_ifeq_n q8) ?_
              refine rh_Ex.blk 3 (s' := ((66, [some (.ref 0), some (.int p0), some (.int p1), some (.int p2), some (.int p3), none, none], [.int p2, .ref 4]), (h, g, cw_R sv))) rfl ?_
              refine rh_Ex.call (j := 3) (rc := some 0) [.ref 4, .int p2] [] (some (.int (f_Cr_isPerson h p2))) rfl rfl rfl (Nat.le_of_ble_eq_true rfl) (R_Cr_isPerson (d + 2) xx sv h g p2 rfl) ?_
              show rh_Ex _ _ _ ((69, [some (.ref 0), some (.int p0), some (.int p1), some (.int p2), some (.int p3), none, none], [.int (f_Cr_isPerson h p2)]), (h, g, cw_R sv)) _ _
              by_cases q9 : (f_Cr_isPerson h p2) = 0
              · rw [if_pos q9] at hf
                refine rh_Ex.stp (s' := ((72, [some (.ref 0), some (.int p0), some (.int p1), some (.int p2), some (.int p3), none, none], []), (h, g, cw_R sv))) rfl (st_ifne_p q9) ?_
                cases hf
              · rw [if_neg q9] at hf
                refine rh_Ex.stp (s' := ((80, [some (.ref 0), some (.int p0), some (.int p1), some (.int p2), some (.int p3), none, none], []), (h, g, cw_R sv))) rfl (st_ifne_n q9) ?_
                refine rh_Ex.blk 4 (s' := ((86, [some (.ref 0), some (.int p0), some (.int p1), some (.int p2), some (.int p3), none, none], [.ref 0, .int p2, .ref 4]), (h, g, cw_R sv))) rfl ?_
                refine rh_Ex.call (j := 159) (rc := some 10) [.ref 0] [.int p2, .ref 4] (some (.int (f_La_dawn h))) rfl rfl rfl (Nat.le_of_ble_eq_true rfl) (R_La_dawn (d + 2) xx sv h g  rfl) ?_
                show rh_Ex _ _ _ ((89, [some (.ref 0), some (.int p0), some (.int p1), some (.int p2), some (.int p3), none, none], [.int (f_La_dawn h), .int p2, .ref 4]), (h, g, cw_R sv)) _ _
                refine rh_Ex.blk 2 (s' := ((91, [some (.ref 0), some (.int p0), some (.int p1), some (.int p2), some (.int p3), none, none], [.int ((f_La_dawn h) + p1), .int p2, .ref 4]), (h, g, cw_R sv))) rfl ?_
                obtain ⟨x10, hx10, hf⟩ := rh_bq hf
                refine rh_Ex.call (j := 5) (rc := some 0) [.ref 4, .int p2, .int ((f_La_dawn h) + p1)] [] (some (.int x10.1)) rfl rfl rfl (Nat.le_of_ble_eq_true rfl) (R_Cr_weightAt d xx sv h g p2 ((f_La_dawn h) + p1) hx10) ?_
                show rh_Ex _ _ _ ((94, [some (.ref 0), some (.int p0), some (.int p1), some (.int p2), some (.int p3), none, none], [.int x10.1]), (x10.2, g, cw_R sv)) _ _
                refine rh_Ex.blk 4 (s' := ((100, [some (.ref 0), some (.int p0), some (.int p1), some (.int p2), some (.int p3), none, none], [.ref 0, .int p0, .ref 4, .int x10.1]), (x10.2, g, cw_R sv))) rfl ?_
                refine rh_Ex.call (j := 159) (rc := some 10) [.ref 0] [.int p0, .ref 4, .int x10.1] (some (.int (f_La_dawn x10.2))) rfl rfl rfl (Nat.le_of_ble_eq_true rfl) (R_La_dawn (d + 2) xx sv x10.2 g  rfl) ?_
                show rh_Ex _ _ _ ((103, [some (.ref 0), some (.int p0), some (.int p1), some (.int p2), some (.int p3), none, none], [.int (f_La_dawn x10.2), .int p0, .ref 4, .int x10.1]), (x10.2, g, cw_R sv)) _ _
                refine rh_Ex.blk 2 (s' := ((106, [some (.ref 0), some (.int p0), some (.int p1), some (.int p2), some (.int p3), none, none], [.int ((f_La_dawn x10.2) + p3), .int p0, .ref 4, .int x10.1]), (x10.2, g, cw_R sv))) rfl ?_
                obtain ⟨x11, hx11, hf⟩ := rh_bq hf
                refine rh_Ex.call (j := 5) (rc := some 0) [.ref 4, .int p0, .int ((f_La_dawn x10.2) + p3)] [.int x10.1] (some (.int x11.1)) rfl rfl rfl (Nat.le_of_ble_eq_true rfl) (R_Cr_weightAt d xx sv x10.2 g p0 ((f_La_dawn x10.2) + p3) hx11) ?_
                show rh_Ex _ _ _ ((109, [some (.ref 0), some (.int p0), some (.int p1), some (.int p2), some (.int p3), none, none], [.int x11.1, .int x10.1]), (x11.2, g, cw_R sv)) _ _
                refine rh_Ex.blk 6 (s' := ((118, [some (.ref 0), some (.int p0), some (.int p1), some (.int p2), some (.int p3), some (.int (x10.1 + x11.1)), none], [.ref 0, .int p2, .ref 4]), (x11.2, g, cw_R sv))) rfl ?_
                refine rh_Ex.call (j := 159) (rc := some 10) [.ref 0] [.int p2, .ref 4] (some (.int (f_La_dawn x11.2))) rfl rfl rfl (Nat.le_of_ble_eq_true rfl) (R_La_dawn (d + 2) xx sv x11.2 g  rfl) ?_
                show rh_Ex _ _ _ ((121, [some (.ref 0), some (.int p0), some (.int p1), some (.int p2), some (.int p3), some (.int (x10.1 + x11.1)), none], [.int (f_La_dawn x11.2), .int p2, .ref 4]), (x11.2, g, cw_R sv)) _ _
                refine rh_Ex.blk 2 (s' := ((124, [some (.ref 0), some (.int p0), some (.int p1), some (.int p2), some (.int p3), some (.int (x10.1 + x11.1)), none], [.int ((f_La_dawn x11.2) + p3), .int p2, .ref 4]), (x11.2, g, cw_R sv))) rfl ?_
                obtain ⟨x12, hx12, hf⟩ := rh_bq hf
                refine rh_Ex.call (j := 5) (rc := some 0) [.ref 4, .int p2, .int ((f_La_dawn x11.2) + p3)] [] (some (.int x12.1)) rfl rfl rfl (Nat.le_of_ble_eq_true rfl) (R_Cr_weightAt d xx sv x11.2 g p2 ((f_La_dawn x11.2) + p3) hx12) ?_
                show rh_Ex _ _ _ ((127, [some (.ref 0), some (.int p0), some (.int p1), some (.int p2), some (.int p3), some (.int (x10.1 + x11.1)), none], [.int x12.1]), (x12.2, g, cw_R sv)) _ _
                refine rh_Ex.blk 4 (s' := ((133, [some (.ref 0), some (.int p0), some (.int p1), some (.int p2), some (.int p3), some (.int (x10.1 + x11.1)), none], [.ref 0, .int p0, .ref 4, .int x12.1]), (x12.2, g, cw_R sv))) rfl ?_
                refine rh_Ex.call (j := 159) (rc := some 10) [.ref 0] [.int p0, .ref 4, .int x12.1] (some (.int (f_La_dawn x12.2))) rfl rfl rfl (Nat.le_of_ble_eq_true rfl) (R_La_dawn (d + 2) xx sv x12.2 g  rfl) ?_
                show rh_Ex _ _ _ ((136, [some (.ref 0), some (.int p0), some (.int p1), some (.int p2), some (.int p3), some (.int (x10.1 + x11.1)), none], [.int (f_La_dawn x12.2), .int p0, .ref 4, .int x12.1]), (x12.2, g, cw_R sv)) _ _
                refine rh_Ex.blk 2 (s' := ((138, [some (.ref 0), some (.int p0), some (.int p1), some (.int p2), some (.int p3), some (.int (x10.1 + x11.1)), none], [.int ((f_La_dawn x12.2) + p1), .int p0, .ref 4, .int x12.1]), (x12.2, g, cw_R sv))) rfl ?_
                obtain ⟨x13, hx13, hf⟩ := rh_bq hf
                refine rh_Ex.call (j := 5) (rc := some 0) [.ref 4, .int p0, .int ((f_La_dawn x12.2) + p1)] [.int x12.1] (some (.int x13.1)) rfl rfl rfl (Nat.le_of_ble_eq_true rfl) (R_Cr_weightAt d xx sv x12.2 g p0 ((f_La_dawn x12.2) + p1) hx13) ?_
                show rh_Ex _ _ _ ((141, [some (.ref 0), some (.int p0), some (.int p1), some (.int p2), some (.int p3), some (.int (x10.1 + x11.1)), none], [.int x13.1, .int x12.1]), (x13.2, g, cw_R sv)) _ _
                refine rh_Ex.blk 5 (s' := ((149, [some (.ref 0), some (.int p0), some (.int p1), some (.int p2), some (.int p3), some (.int (x10.1 + x11.1)), some (.int (x12.1 + x13.1))], [.int ((x10.1 + x11.1) - (x12.1 + x13.1))]), (x13.2, g, cw_R sv))) rfl ?_
                obtain rfl := Option.some.inj hf
                exact rh_Ex.ret rfl rfl
