def j_Mo_spread_62 (h : Nat → Nat → Int32) (rd : Option Nat) (u1 : Int32) (j2 : Int32) (j3 : Int32) (j4 : Int32) (j5 : Int32) : Option ((Int32 × Int32 × Int32 × (Nat → Nat → Int32) × (Option Nat)) ⊕ (Int32 × Int32 × (Nat → Nat → Int32) × (Option Nat))) :=
  (f_Mo_weightOfAll h rd u1 ((f_Mo_dawn h) + j3)).bind (fun x8 =>
    if j5 ≤ x8.1 then
      some (.inl (j2, j3, j4 + (1 : Int32), x8.2.1, x8.2.2))
    else
      some (.inl (j2, j4, j4 + (1 : Int32), x8.2.1, x8.2.2))
  )
def b_Mo_spread_22 (u1 : Int32) : (Int32 × Int32 × Int32 × (Nat → Nat → Int32) × (Option Nat)) → Option ((Int32 × Int32 × Int32 × (Nat → Nat → Int32) × (Option Nat)) ⊕ (Int32 × Int32 × (Nat → Nat → Int32) × (Option Nat))) := fun s22 =>
  if (9 : Int32) ≤ s22.2.2.1 then
    some (.inr (s22.1, s22.2.1, s22.2.2.2.1, s22.2.2.2.2))
  else
    (f_Mo_weightOfAll s22.2.2.2.1 s22.2.2.2.2 u1 ((f_Mo_dawn s22.2.2.2.1) + s22.2.2.1)).bind (fun x5 =>
      (f_Mo_weightOfAll x5.2.1 x5.2.2 u1 ((f_Mo_dawn x5.2.1) + s22.1)).bind (fun x6 =>
        if x6.1 ≤ x5.1 then
          j_Mo_spread_62 x6.2.1 x6.2.2 u1 s22.1 s22.2.1 s22.2.2.1 x5.1
        else
          j_Mo_spread_62 x6.2.1 x6.2.2 u1 s22.2.2.1 s22.2.1 s22.2.2.1 x5.1
      )
    )
def f_Mo_spread (h : Nat → Nat → Int32) (rd : Option Nat) (p0 : Int32) : Option (Int32 × (Nat → Nat → Int32) × (Option Nat)) :=
  (f_Mo_areFolk (rh_up h 0 9 (0 : Int32)) p0).bind (fun x1 =>
    if x1 = 0 then
      some (((-1 : Int32), rh_up h 0 9 (0 : Int32), rd))
    else
      (rh_loop (b_Mo_spread_22 p0) rh_N ((0 : Int32), (0 : Int32), (1 : Int32), rh_up h 0 9 (0 : Int32), rd)).bind (fun r10 =>
        (f_Mo_tell (rh_up r10.2.2.1 0 8 (0 : Int32)) r10.1).bind (fun x11 =>
          (f_Mo_tell x11 r10.2.1).bind (fun x12 =>
            (f_Mo_weightOfAll x12 r10.2.2.2 p0 ((f_Mo_dawn x12) + r10.2.1)).bind (fun x13 =>
              (f_Mo_weightOfAll x13.2.1 x13.2.2 p0 ((f_Mo_dawn x13.2.1) + r10.1)).bind (fun x14 =>
                some ((x13.1 - x14.1, x14.2.1, x14.2.2))
              )
            )
          )
        )
      )
  )
set_option maxRecDepth 20000 in
set_option maxHeartbeats 4000000 in
theorem lj_Mo_spread_62 (d : Nat) (h : Nat → Nat → Int32) (rd : Option Nat) (u1 : Int32) (j2 : Int32) (j3 : Int32) (j4 : Int32) (j5 : Int32) (g : Nat → Nat → Int64) (v9 : Option Value) (h9 : rh_H) (x9 : (Int32 × Int32 × Int32 × (Nat → Nat → Int32) × (Option Nat)) ⊕ (Int32 × Int32 × (Nat → Nat → Int32) × (Option Nat))) (hf : j_Mo_spread_62 h rd u1 j2 j3 j4 j5 = some x9) (hk : Sum.elim (fun s22 => rh_Ex (rh_M rh_PT mw_L (d + 268)) mw_L pg_X12_spread ((22, [some (.ref 0), some (.int u1), some (.int s22.1), some (.int s22.2.1), some (.int s22.2.2.1), none], []), (s22.2.2.2.1, g, mw_R s22.2.2.2.2)) v9 h9) (fun e9 => rh_Ex (rh_M rh_PT mw_L (d + 268)) mw_L pg_X12_spread ((87, [some (.ref 0), some (.int u1), some (.int e9.1), some (.int e9.2.1), none, none], []), (e9.2.2.1, g, mw_R e9.2.2.2)) v9 h9) x9) : rh_Ex (rh_M rh_PT mw_L (d + 268)) mw_L pg_X12_spread ((62, [some (.ref 0), some (.int u1), some (.int j2), some (.int j3), some (.int j4), some (.int j5)], []), (h, g, mw_R rd)) v9 h9 := by
  unfold j_Mo_spread_62 at hf
  refine rh_Ex.blk 4 (s' := ((67, [some (.ref 0), some (.int u1), some (.int j2), some (.int j3), some (.int j4), some (.int j5)], [.ref 0, .int u1, .ref 0, .int j5]), (h, g, mw_R rd))) rfl ?_
  refine rh_Ex.call (j := 209) (rc := some 11) [.ref 0] [.int u1, .ref 0, .int j5] (some (.int (f_Mo_dawn h))) rfl rfl rfl (Nat.le_of_ble_eq_true rfl) (R_Mo_dawn (d + 267) rd h g  rfl) ?_
  show rh_Ex _ _ _ ((70, [some (.ref 0), some (.int u1), some (.int j2), some (.int j3), some (.int j4), some (.int j5)], [.int (f_Mo_dawn h), .int u1, .ref 0, .int j5]), (h, g, mw_R rd)) _ _
  refine rh_Ex.blk 2 (s' := ((72, [some (.ref 0), some (.int u1), some (.int j2), some (.int j3), some (.int j4), some (.int j5)], [.int ((f_Mo_dawn h) + j3), .int u1, .ref 0, .int j5]), (h, g, mw_R rd))) rfl ?_
  obtain ⟨x8, hx8, hf⟩ := rh_bq hf
  refine rh_Ex.call (j := 207) (rc := some 11) [.ref 0, .int u1, .int ((f_Mo_dawn h) + j3)] [.int j5] (some (.int x8.1)) rfl rfl rfl (Nat.le_of_ble_eq_true rfl) (R_Mo_weightOfAll d rd h g u1 ((f_Mo_dawn h) + j3) hx8) ?_
  show rh_Ex _ _ _ ((75, [some (.ref 0), some (.int u1), some (.int j2), some (.int j3), some (.int j4), some (.int j5)], [.int x8.1, .int j5]), (x8.2.1, g, mw_R x8.2.2)) _ _
  by_cases q9 : j5 ≤ x8.1
  · rw [if_pos q9] at hf
    refine rh_Ex.stp (s' := ((81, [some (.ref 0), some (.int u1), some (.int j2), some (.int j3), some (.int j4), some (.int j5)], []), (x8.2.1, g, mw_R x8.2.2))) rfl (st_icle_p q9) ?_
    refine rh_Ex.blk 2 (s' := ((22, [some (.ref 0), some (.int u1), some (.int j2), some (.int j3), some (.int (j4 + (1 : Int32))), some (.int j5)], []), (x8.2.1, g, mw_R x8.2.2))) rfl ?_
    obtain rfl := Option.some.inj hf
    refine rh_Ex.fgt [some (.ref 0), some (.int u1), some (.int j2), some (.int j3), some (.int (j4 + (1 : Int32))), none] ⟨rfl, rfl, rfl, rfl, rfl, trivial⟩ ?_
    exact hk
  · rw [if_neg q9] at hf
    refine rh_Ex.stp (s' := ((78, [some (.ref 0), some (.int u1), some (.int j2), some (.int j3), some (.int j4), some (.int j5)], []), (x8.2.1, g, mw_R x8.2.2))) rfl (st_icle_n q9) ?_
    refine rh_Ex.blk 4 (s' := ((22, [some (.ref 0), some (.int u1), some (.int j2), some (.int j4), some (.int (j4 + (1 : Int32))), some (.int j5)], []), (x8.2.1, g, mw_R x8.2.2))) rfl ?_
    obtain rfl := Option.some.inj hf
    refine rh_Ex.fgt [some (.ref 0), some (.int u1), some (.int j2), some (.int j4), some (.int (j4 + (1 : Int32))), none] ⟨rfl, rfl, rfl, rfl, rfl, trivial⟩ ?_
    exact hk
set_option maxRecDepth 20000 in
set_option maxHeartbeats 4000000 in
theorem lb_Mo_spread_22 (d : Nat) (u1 : Int32) (g : Nat → Nat → Int64) (v9 : Option Value) (h9 : rh_H) : ∀ s22 x9, b_Mo_spread_22 u1 s22 = some x9 → Sum.elim (fun s22 => rh_Ex (rh_M rh_PT mw_L (d + 268)) mw_L pg_X12_spread ((22, [some (.ref 0), some (.int u1), some (.int s22.1), some (.int s22.2.1), some (.int s22.2.2.1), none], []), (s22.2.2.2.1, g, mw_R s22.2.2.2.2)) v9 h9) (fun e9 => rh_Ex (rh_M rh_PT mw_L (d + 268)) mw_L pg_X12_spread ((87, [some (.ref 0), some (.int u1), some (.int e9.1), some (.int e9.2.1), none, none], []), (e9.2.2.1, g, mw_R e9.2.2.2)) v9 h9) x9 → rh_Ex (rh_M rh_PT mw_L (d + 268)) mw_L pg_X12_spread ((22, [some (.ref 0), some (.int u1), some (.int s22.1), some (.int s22.2.1), some (.int s22.2.2.1), none], []), (s22.2.2.2.1, g, mw_R s22.2.2.2.2)) v9 h9 := by
  intro s22 x9 hf hk
  unfold b_Mo_spread_22 at hf
  refine rh_Ex.blk 2 (s' := ((26, [some (.ref 0), some (.int u1), some (.int s22.1), some (.int s22.2.1), some (.int s22.2.2.1), none], [.int (9 : Int32), .int s22.2.2.1]), (s22.2.2.2.1, g, mw_R s22.2.2.2.2))) rfl ?_
  by_cases q4 : (9 : Int32) ≤ s22.2.2.1
  · rw [if_pos q4] at hf
    refine rh_Ex.stp (s' := ((87, [some (.ref 0), some (.int u1), some (.int s22.1), some (.int s22.2.1), some (.int s22.2.2.1), none], []), (s22.2.2.2.1, g, mw_R s22.2.2.2.2))) rfl (st_icge_p q4) ?_
    obtain rfl := Option.some.inj hf
    refine rh_Ex.fgt [some (.ref 0), some (.int u1), some (.int s22.1), some (.int s22.2.1), none, none] ⟨rfl, rfl, rfl, rfl, trivial⟩ ?_
    exact hk
  · rw [if_neg q4] at hf
    refine rh_Ex.stp (s' := ((29, [some (.ref 0), some (.int u1), some (.int s22.1), some (.int s22.2.1), some (.int s22.2.2.1), none], []), (s22.2.2.2.1, g, mw_R s22.2.2.2.2))) rfl (st_icge_n q4) ?_
    refine rh_Ex.blk 3 (s' := ((32, [some (.ref 0), some (.int u1), some (.int s22.1), some (.int s22.2.1), some (.int s22.2.2.1), none], [.ref 0, .int u1, .ref 0]), (s22.2.2.2.1, g, mw_R s22.2.2.2.2))) rfl ?_
    refine rh_Ex.call (j := 209) (rc := some 11) [.ref 0] [.int u1, .ref 0] (some (.int (f_Mo_dawn s22.2.2.2.1))) rfl rfl rfl (Nat.le_of_ble_eq_true rfl) (R_Mo_dawn (d + 267) s22.2.2.2.2 s22.2.2.2.1 g  rfl) ?_
    show rh_Ex _ _ _ ((35, [some (.ref 0), some (.int u1), some (.int s22.1), some (.int s22.2.1), some (.int s22.2.2.1), none], [.int (f_Mo_dawn s22.2.2.2.1), .int u1, .ref 0]), (s22.2.2.2.1, g, mw_R s22.2.2.2.2)) _ _
    refine rh_Ex.blk 2 (s' := ((38, [some (.ref 0), some (.int u1), some (.int s22.1), some (.int s22.2.1), some (.int s22.2.2.1), none], [.int ((f_Mo_dawn s22.2.2.2.1) + s22.2.2.1), .int u1, .ref 0]), (s22.2.2.2.1, g, mw_R s22.2.2.2.2))) rfl ?_
    obtain ⟨x5, hx5, hf⟩ := rh_bq hf
    refine rh_Ex.call (j := 207) (rc := some 11) [.ref 0, .int u1, .int ((f_Mo_dawn s22.2.2.2.1) + s22.2.2.1)] [] (some (.int x5.1)) rfl rfl rfl (Nat.le_of_ble_eq_true rfl) (R_Mo_weightOfAll d s22.2.2.2.2 s22.2.2.2.1 g u1 ((f_Mo_dawn s22.2.2.2.1) + s22.2.2.1) hx5) ?_
    show rh_Ex _ _ _ ((41, [some (.ref 0), some (.int u1), some (.int s22.1), some (.int s22.2.1), some (.int s22.2.2.1), none], [.int x5.1]), (x5.2.1, g, mw_R x5.2.2)) _ _
    refine rh_Ex.blk 5 (s' := ((48, [some (.ref 0), some (.int u1), some (.int s22.1), some (.int s22.2.1), some (.int s22.2.2.1), some (.int x5.1)], [.ref 0, .int u1, .ref 0, .int x5.1]), (x5.2.1, g, mw_R x5.2.2))) rfl ?_
    refine rh_Ex.call (j := 209) (rc := some 11) [.ref 0] [.int u1, .ref 0, .int x5.1] (some (.int (f_Mo_dawn x5.2.1))) rfl rfl rfl (Nat.le_of_ble_eq_true rfl) (R_Mo_dawn (d + 267) x5.2.2 x5.2.1 g  rfl) ?_
    show rh_Ex _ _ _ ((51, [some (.ref 0), some (.int u1), some (.int s22.1), some (.int s22.2.1), some (.int s22.2.2.1), some (.int x5.1)], [.int (f_Mo_dawn x5.2.1), .int u1, .ref 0, .int x5.1]), (x5.2.1, g, mw_R x5.2.2)) _ _
    refine rh_Ex.blk 2 (s' := ((53, [some (.ref 0), some (.int u1), some (.int s22.1), some (.int s22.2.1), some (.int s22.2.2.1), some (.int x5.1)], [.int ((f_Mo_dawn x5.2.1) + s22.1), .int u1, .ref 0, .int x5.1]), (x5.2.1, g, mw_R x5.2.2))) rfl ?_
    obtain ⟨x6, hx6, hf⟩ := rh_bq hf
    refine rh_Ex.call (j := 207) (rc := some 11) [.ref 0, .int u1, .int ((f_Mo_dawn x5.2.1) + s22.1)] [.int x5.1] (some (.int x6.1)) rfl rfl rfl (Nat.le_of_ble_eq_true rfl) (R_Mo_weightOfAll d x5.2.2 x5.2.1 g u1 ((f_Mo_dawn x5.2.1) + s22.1) hx6) ?_
    show rh_Ex _ _ _ ((56, [some (.ref 0), some (.int u1), some (.int s22.1), some (.int s22.2.1), some (.int s22.2.2.1), some (.int x5.1)], [.int x6.1, .int x5.1]), (x6.2.1, g, mw_R x6.2.2)) _ _
    by_cases q7 : x6.1 ≤ x5.1
    · rw [if_pos q7] at hf
      refine rh_Ex.stp (s' := ((62, [some (.ref 0), some (.int u1), some (.int s22.1), some (.int s22.2.1), some (.int s22.2.2.1), some (.int x5.1)], []), (x6.2.1, g, mw_R x6.2.2))) rfl (st_icge_p q7) ?_
      refine rh_Ex.fgt [some (.ref 0), some (.int u1), some (.int s22.1), some (.int s22.2.1), some (.int s22.2.2.1), some (.int x5.1)] ⟨rfl, rfl, rfl, rfl, rfl, rfl, trivial⟩ ?_
      exact lj_Mo_spread_62 d x6.2.1 x6.2.2 u1 s22.1 s22.2.1 s22.2.2.1 x5.1 g _ _ _ hf hk
    · rw [if_neg q7] at hf
      refine rh_Ex.stp (s' := ((59, [some (.ref 0), some (.int u1), some (.int s22.1), some (.int s22.2.1), some (.int s22.2.2.1), some (.int x5.1)], []), (x6.2.1, g, mw_R x6.2.2))) rfl (st_icge_n q7) ?_
      refine rh_Ex.blk 2 (s' := ((62, [some (.ref 0), some (.int u1), some (.int s22.2.2.1), some (.int s22.2.1), some (.int s22.2.2.1), some (.int x5.1)], []), (x6.2.1, g, mw_R x6.2.2))) rfl ?_
      refine rh_Ex.fgt [some (.ref 0), some (.int u1), some (.int s22.2.2.1), some (.int s22.2.1), some (.int s22.2.2.1), some (.int x5.1)] ⟨rfl, rfl, rfl, rfl, rfl, rfl, trivial⟩ ?_
      exact lj_Mo_spread_62 d x6.2.1 x6.2.2 u1 s22.2.2.1 s22.2.1 s22.2.2.1 x5.1 g _ _ _ hf hk
set_option maxRecDepth 20000 in
set_option maxHeartbeats 4000000 in
theorem R_Mo_spread (d : Nat) (rd : Option Nat) (h : Nat → Nat → Int32) (g : Nat → Nat → Int64) (p0 : Int32) {z9 : Int32 × (Nat → Nat → Int32) × (Option Nat)} (hf : f_Mo_spread h rd p0 = some z9) : rh_M rh_PT mw_L (d + 269) 237 [.ref 0, .int p0] (h, g, mw_R rd) (some (.int z9.1)) (z9.2.1, g, mw_R z9.2.2) := by
  unfold f_Mo_spread at hf
  refine rh_go pt_237 (Nat.le_of_ble_eq_true rfl) (lv := [some (.ref 0), some (.int p0), none, none, none, none]) rfl ?_
  refine rh_Ex.blk 5 (s' := ((7, [some (.ref 0), some (.int p0), none, none, none, none], [.int p0, .ref 0]), (rh_up h 0 9 (0 : Int32), g, mw_R rd))) rfl ?_
  obtain ⟨x1, hx1, hf⟩ := rh_bq hf
  refine rh_Ex.call (j := 185) (rc := some 11) [.ref 0, .int p0] [] (some (.int x1)) rfl rfl rfl (Nat.le_of_ble_eq_true rfl) (R_Mo_areFolk (d + 266) rd (rh_up h 0 9 (0 : Int32)) g p0 hx1) ?_
  show rh_Ex _ _ _ ((10, [some (.ref 0), some (.int p0), none, none, none, none], [.int x1]), (rh_up h 0 9 (0 : Int32), g, mw_R rd)) _ _
  by_cases q2 : x1 = 0
  · rw [if_pos q2] at hf
    refine rh_Ex.stp (s' := ((13, [some (.ref 0), some (.int p0), none, none, none, none], []), (rh_up h 0 9 (0 : Int32), g, mw_R rd))) rfl (st_ifne_p q2) ?_
    refine rh_Ex.blk 1 (s' := ((14, [some (.ref 0), some (.int p0), none, none, none, none], [.int (-1 : Int32)]), (rh_up h 0 9 (0 : Int32), g, mw_R rd))) rfl ?_
    obtain rfl := Option.some.inj hf
    exact rh_Ex.ret rfl rfl
  · rw [if_neg q2] at hf
    refine rh_Ex.stp (s' := ((15, [some (.ref 0), some (.int p0), none, none, none, none], []), (rh_up h 0 9 (0 : Int32), g, mw_R rd))) rfl (st_ifne_n q2) ?_
    refine rh_Ex.blk 6 (s' := ((22, [some (.ref 0), some (.int p0), some (.int (0 : Int32)), some (.int (0 : Int32)), some (.int (1 : Int32)), none], []), (rh_up h 0 9 (0 : Int32), g, mw_R rd))) rfl ?_
    obtain ⟨r10, hr10, hf⟩ := rh_bq hf
    refine rh_Ex.fgt [some (.ref 0), some (.int p0), some (.int (0 : Int32)), some (.int (0 : Int32)), some (.int (1 : Int32)), none] ⟨rfl, rfl, rfl, rfl, rfl, trivial⟩ ?_
    refine rh_Ex.loop _ _ _ (lb_Mo_spread_22 d p0  g _ _) rh_N _ r10 hr10 ?_
    refine rh_Ex.blk 5 (s' := ((94, [some (.ref 0), some (.int p0), some (.int r10.1), some (.int r10.2.1), none, none], [.int r10.1, .ref 0]), (rh_up r10.2.2.1 0 8 (0 : Int32), g, mw_R r10.2.2.2))) rfl ?_
    obtain ⟨x11, hx11, hf⟩ := rh_bq hf
    refine rh_Ex.call (j := 182) (rc := some 11) [.ref 0, .int r10.1] [] none rfl rfl rfl (Nat.le_of_ble_eq_true rfl) (R_Mo_tell (d + 267) r10.2.2.2 (rh_up r10.2.2.1 0 8 (0 : Int32)) g r10.1 hx11) ?_
    show rh_Ex _ _ _ ((97, [some (.ref 0), some (.int p0), some (.int r10.1), some (.int r10.2.1), none, none], []), (x11, g, mw_R r10.2.2.2)) _ _
    refine rh_Ex.blk 2 (s' := ((99, [some (.ref 0), some (.int p0), some (.int r10.1), some (.int r10.2.1), none, none], [.int r10.2.1, .ref 0]), (x11, g, mw_R r10.2.2.2))) rfl ?_
    obtain ⟨x12, hx12, hf⟩ := rh_bq hf
    refine rh_Ex.call (j := 182) (rc := some 11) [.ref 0, .int r10.2.1] [] none rfl rfl rfl (Nat.le_of_ble_eq_true rfl) (R_Mo_tell (d + 267) r10.2.2.2 x11 g r10.2.1 hx12) ?_
    show rh_Ex _ _ _ ((102, [some (.ref 0), some (.int p0), some (.int r10.1), some (.int r10.2.1), none, none], []), (x12, g, mw_R r10.2.2.2)) _ _
    refine rh_Ex.blk 3 (s' := ((105, [some (.ref 0), some (.int p0), some (.int r10.1), some (.int r10.2.1), none, none], [.ref 0, .int p0, .ref 0]), (x12, g, mw_R r10.2.2.2))) rfl ?_
    refine rh_Ex.call (j := 209) (rc := some 11) [.ref 0] [.int p0, .ref 0] (some (.int (f_Mo_dawn x12))) rfl rfl rfl (Nat.le_of_ble_eq_true rfl) (R_Mo_dawn (d + 267) r10.2.2.2 x12 g  rfl) ?_
    show rh_Ex _ _ _ ((108, [some (.ref 0), some (.int p0), some (.int r10.1), some (.int r10.2.1), none, none], [.int (f_Mo_dawn x12), .int p0, .ref 0]), (x12, g, mw_R r10.2.2.2)) _ _
    refine rh_Ex.blk 2 (s' := ((110, [some (.ref 0), some (.int p0), some (.int r10.1), some (.int r10.2.1), none, none], [.int ((f_Mo_dawn x12) + r10.2.1), .int p0, .ref 0]), (x12, g, mw_R r10.2.2.2))) rfl ?_
    obtain ⟨x13, hx13, hf⟩ := rh_bq hf
    refine rh_Ex.call (j := 207) (rc := some 11) [.ref 0, .int p0, .int ((f_Mo_dawn x12) + r10.2.1)] [] (some (.int x13.1)) rfl rfl rfl (Nat.le_of_ble_eq_true rfl) (R_Mo_weightOfAll d r10.2.2.2 x12 g p0 ((f_Mo_dawn x12) + r10.2.1) hx13) ?_
    show rh_Ex _ _ _ ((113, [some (.ref 0), some (.int p0), some (.int r10.1), some (.int r10.2.1), none, none], [.int x13.1]), (x13.2.1, g, mw_R x13.2.2)) _ _
    refine rh_Ex.blk 3 (s' := ((116, [some (.ref 0), some (.int p0), some (.int r10.1), some (.int r10.2.1), none, none], [.ref 0, .int p0, .ref 0, .int x13.1]), (x13.2.1, g, mw_R x13.2.2))) rfl ?_
    refine rh_Ex.call (j := 209) (rc := some 11) [.ref 0] [.int p0, .ref 0, .int x13.1] (some (.int (f_Mo_dawn x13.2.1))) rfl rfl rfl (Nat.le_of_ble_eq_true rfl) (R_Mo_dawn (d + 267) x13.2.2 x13.2.1 g  rfl) ?_
    show rh_Ex _ _ _ ((119, [some (.ref 0), some (.int p0), some (.int r10.1), some (.int r10.2.1), none, none], [.int (f_Mo_dawn x13.2.1), .int p0, .ref 0, .int x13.1]), (x13.2.1, g, mw_R x13.2.2)) _ _
    refine rh_Ex.blk 2 (s' := ((121, [some (.ref 0), some (.int p0), some (.int r10.1), some (.int r10.2.1), none, none], [.int ((f_Mo_dawn x13.2.1) + r10.1), .int p0, .ref 0, .int x13.1]), (x13.2.1, g, mw_R x13.2.2))) rfl ?_
    obtain ⟨x14, hx14, hf⟩ := rh_bq hf
    refine rh_Ex.call (j := 207) (rc := some 11) [.ref 0, .int p0, .int ((f_Mo_dawn x13.2.1) + r10.1)] [.int x13.1] (some (.int x14.1)) rfl rfl rfl (Nat.le_of_ble_eq_true rfl) (R_Mo_weightOfAll d x13.2.2 x13.2.1 g p0 ((f_Mo_dawn x13.2.1) + r10.1) hx14) ?_
    show rh_Ex _ _ _ ((124, [some (.ref 0), some (.int p0), some (.int r10.1), some (.int r10.2.1), none, none], [.int x14.1, .int x13.1]), (x14.2.1, g, mw_R x14.2.2)) _ _
    refine rh_Ex.blk 1 (s' := ((125, [some (.ref 0), some (.int p0), some (.int r10.1), some (.int r10.2.1), none, none], [.int (x13.1 - x14.1)]), (x14.2.1, g, mw_R x14.2.2))) rfl ?_
    obtain rfl := Option.some.inj hf
    exact rh_Ex.ret rfl rfl
def b_Mo_floor_28 (h : Nat → Nat → Int32) (rd : Option Nat) : (Int32 × Int32) → Option ((Int32 × Int32) ⊕ (Int32)) := fun s28 =>
  if (f_Mo_everybody h) < s28.2 then
    some (.inr s28.1)
  else
    rh_g (0 ≤ s28.2.toInt ∧ s28.2.toInt < ((512 : Nat) : Int)) (
      if (h 9 s28.2.toNatClampNeg) ≤ (h 3 (2 : Int32).toNatClampNeg) then
        if 0 < ((f_In_bitCount s28.2) - (f_In_bitCount s28.1)) then
          some (.inl (s28.2, s28.2 + (1 : Int32)))
        else
          if ((f_In_bitCount s28.2) - (f_In_bitCount s28.1)) = 0 then
            rh_g (0 ≤ s28.2.toInt ∧ s28.2.toInt < ((512 : Nat) : Int)) (
              rh_g (0 ≤ s28.1.toInt ∧ s28.1.toInt < ((512 : Nat) : Int)) (
                if (h 9 s28.1.toNatClampNeg) ≤ (h 9 s28.2.toNatClampNeg) then
                  some (.inl (s28.1, s28.2 + (1 : Int32)))
                else
                  some (.inl (s28.2, s28.2 + (1 : Int32)))
              )
            )
          else
            some (.inl (s28.1, s28.2 + (1 : Int32)))
      else
        some (.inl (s28.1, s28.2 + (1 : Int32)))
    )
def f_Mo_floor (h : Nat → Nat → Int32) (rd : Option Nat) (p0 : Int32) : Option (Int32 × (Nat → Nat → Int32) × (Option Nat)) :=
  (f_Mo_isBell p0).bind (fun x1 =>
    if x1 = 0 then
      some (((-1 : Int32), rh_up h 0 9 (0 : Int32), rd))
    else
      (f_Mo_findSets (rh_up h 0 9 (0 : Int32)) rd ((f_Mo_dawn (rh_up h 0 9 (0 : Int32))) + p0)).bind (fun x3 =>
        (rh_loop (b_Mo_floor_28 x3.1 x3.2) rh_N ((0 : Int32), (1 : Int32))).bind (fun r13 =>
          (f_Mo_tell (rh_up x3.1 0 8 (0 : Int32)) r13).bind (fun x14 =>
            some (((f_In_bitCount r13), x14, x3.2))
          )
        )
      )
  )
set_option maxRecDepth 20000 in
set_option maxHeartbeats 4000000 in
theorem lb_Mo_floor_28 (d : Nat) (h : Nat → Nat → Int32) (rd : Option Nat) (g : Nat → Nat → Int64) (v9 : Option Value) (h9 : rh_H) : ∀ s28 x9, b_Mo_floor_28 h rd s28 = some x9 → Sum.elim (fun s28 => rh_Ex (rh_M rh_PT mw_L (d + 268)) mw_L pg_X12_floor ((28, [some (.ref 0), none, some (.int s28.1), some (.int s28.2), none], []), (h, g, mw_R rd)) v9 h9) (fun e9 => rh_Ex (rh_M rh_PT mw_L (d + 268)) mw_L pg_X12_floor ((98, [some (.ref 0), none, some (.int e9), none, none], []), (h, g, mw_R rd)) v9 h9) x9 → rh_Ex (rh_M rh_PT mw_L (d + 268)) mw_L pg_X12_floor ((28, [some (.ref 0), none, some (.int s28.1), some (.int s28.2), none], []), (h, g, mw_R rd)) v9 h9 := by
  intro s28 x9 hf hk
  unfold b_Mo_floor_28 at hf
  refine rh_Ex.blk 2 (s' := ((30, [some (.ref 0), none, some (.int s28.1), some (.int s28.2), none], [.ref 0, .int s28.2]), (h, g, mw_R rd))) rfl ?_
  refine rh_Ex.call (j := 184) (rc := some 11) [.ref 0] [.int s28.2] (some (.int (f_Mo_everybody h))) rfl rfl rfl (Nat.le_of_ble_eq_true rfl) (R_Mo_everybody (d + 267) rd h g  rfl) ?_
  show rh_Ex _ _ _ ((33, [some (.ref 0), none, some (.int s28.1), some (.int s28.2), none], [.int (f_Mo_everybody h), .int s28.2]), (h, g, mw_R rd)) _ _
  by_cases q5 : (f_Mo_everybody h) < s28.2
  · rw [if_pos q5] at hf
    refine rh_Ex.stp (s' := ((98, [some (.ref 0), none, some (.int s28.1), some (.int s28.2), none], []), (h, g, mw_R rd))) rfl (st_icgt_p q5) ?_
    obtain rfl := Option.some.inj hf
    refine rh_Ex.fgt [some (.ref 0), none, some (.int s28.1), none, none] ⟨rfl, rfl, trivial⟩ ?_
    exact hk
  · rw [if_neg q5] at hf
    refine rh_Ex.stp (s' := ((36, [some (.ref 0), none, some (.int s28.1), some (.int s28.2), none], []), (h, g, mw_R rd))) rfl (st_icgt_n q5) ?_
    refine rh_Ex.blk 3 (s' := ((41, [some (.ref 0), none, some (.int s28.1), some (.int s28.2), none], [.int s28.2, .ref 9]), (h, g, mw_R rd))) rfl ?_
    obtain ⟨q6, hf⟩ := rh_gq hf
    refine rh_Ex.stp (s' := ((42, [some (.ref 0), none, some (.int s28.1), some (.int s28.2), none], [.int (h 9 s28.2.toNatClampNeg)]), (h, g, mw_R rd))) rfl (st_iald (n := 512) rfl q6) ?_
    refine rh_Ex.blk 3 (s' := ((47, [some (.ref 0), none, some (.int s28.1), some (.int s28.2), none], [.int (2 : Int32), .ref 3, .int (h 9 s28.2.toNatClampNeg)]), (h, g, mw_R rd))) rfl ?_
    refine rh_Ex.stp (s' := ((48, [some (.ref 0), none, some (.int s28.1), some (.int s28.2), none], [.int (h 3 (2 : Int32).toNatClampNeg), .int (h 9 s28.2.toNatClampNeg)]), (h, g, mw_R rd))) rfl (st_iald (n := 3) rfl (by decide)) ?_
    by_cases q7 : (h 9 s28.2.toNatClampNeg) ≤ (h 3 (2 : Int32).toNatClampNeg)
    · rw [if_pos q7] at hf
      refine rh_Ex.stp (s' := ((54, [some (.ref 0), none, some (.int s28.1), some (.int s28.2), none], []), (h, g, mw_R rd))) rfl (st_icle_p q7) ?_
      refine rh_Ex.blk 1 (s' := ((55, [some (.ref 0), none, some (.int s28.1), some (.int s28.2), none], [.int s28.2]), (h, g, mw_R rd))) rfl ?_
      refine rh_Ex.call (j := 298) (rc := none) [.int s28.2] [] (some (.int (f_In_bitCount s28.2))) rfl rfl trivial (Nat.le_of_ble_eq_true rfl) (R_In_bitCount (d + 267) mw_L (mw_R rd) h g s28.2 rfl) ?_
      show rh_Ex _ _ _ ((58, [some (.ref 0), none, some (.int s28.1), some (.int s28.2), none], [.int (f_In_bitCount s28.2)]), (h, g, mw_R rd)) _ _
      refine rh_Ex.blk 1 (s' := ((59, [some (.ref 0), none, some (.int s28.1), some (.int s28.2), none], [.int s28.1, .int (f_In_bitCount s28.2)]), (h, g, mw_R rd))) rfl ?_
      refine rh_Ex.call (j := 298) (rc := none) [.int s28.1] [.int (f_In_bitCount s28.2)] (some (.int (f_In_bitCount s28.1))) rfl rfl trivial (Nat.le_of_ble_eq_true rfl) (R_In_bitCount (d + 267) mw_L (mw_R rd) h g s28.1 rfl) ?_
      show rh_Ex _ _ _ ((62, [some (.ref 0), none, some (.int s28.1), some (.int s28.2), none], [.int (f_In_bitCount s28.1), .int (f_In_bitCount s28.2)]), (h, g, mw_R rd)) _ _
      refine rh_Ex.blk 3 (s' := ((67, [some (.ref 0), none, some (.int s28.1), some (.int s28.2), some (.int ((f_In_bitCount s28.2) - (f_In_bitCount s28.1)))], [.int ((f_In_bitCount s28.2) - (f_In_bitCount s28.1))]), (h, g, mw_R rd))) rfl ?_
      by_cases q8 : 0 < ((f_In_bitCount s28.2) - (f_In_bitCount s28.1))
      · rw [if_pos q8] at hf
        refine rh_Ex.stp (s' := ((90, [some (.ref 0), none, some (.int s28.1), some (.int s28.2), some (.int ((f_In_bitCount s28.2) - (f_In_bitCount s28.1)))], []), (h, g, mw_R rd))) rfl (st_ifgt_p q8) ?_
        refine rh_Ex.blk 4 (s' := ((28, [some (.ref 0), none, some (.int s28.2), some (.int (s28.2 + (1 : Int32))), some (.int ((f_In_bitCount s28.2) - (f_In_bitCount s28.1)))], []), (h, g, mw_R rd))) rfl ?_
        obtain rfl := Option.some.inj hf
        refine rh_Ex.fgt [some (.ref 0), none, some (.int s28.2), some (.int (s28.2 + (1 : Int32))), none] ⟨rfl, rfl, rfl, trivial⟩ ?_
        exact hk
      · rw [if_neg q8] at hf
        refine rh_Ex.stp (s' := ((70, [some (.ref 0), none, some (.int s28.1), some (.int s28.2), some (.int ((f_In_bitCount s28.2) - (f_In_bitCount s28.1)))], []), (h, g, mw_R rd))) rfl (st_ifgt_n q8) ?_
        refine rh_Ex.blk 1 (s' := ((72, [some (.ref 0), none, some (.int s28.1), some (.int s28.2), some (.int ((f_In_bitCount s28.2) - (f_In_bitCount s28.1)))], [.int ((f_In_bitCount s28.2) - (f_In_bitCount s28.1))]), (h, g, mw_R rd))) rfl ?_
        by_cases q9 : ((f_In_bitCount s28.2) - (f_In_bitCount s28.1)) = 0
        · rw [if_pos q9] at hf
          refine rh_Ex.stp (s' := ((75, [some (.ref 0), none, some (.int s28.1), some (.int s28.2), some (.int ((f_In_bitCount s28.2) - (f_In_bitCount s28.1)))], []), (h, g, mw_R rd))) rfl (st_ifne_p q9) ?_
          refine rh_Ex.blk 3 (s' := ((80, [some (.ref 0), none, some (.int s28.1), some (.int s28.2), some (.int ((f_In_bitCount s28.2) - (f_In_bitCount s28.1)))], [.int s28.2, .ref 9]), (h, g, mw_R rd))) rfl ?_
          obtain ⟨q10, hf⟩ := rh_gq hf
          refine rh_Ex.stp (s' := ((81, [some (.ref 0), none, some (.int s28.1), some (.int s28.2), some (.int ((f_In_bitCount s28.2) - (f_In_bitCount s28.1)))], [.int (h 9 s28.2.toNatClampNeg)]), (h, g, mw_R rd))) rfl (st_iald (n := 512) rfl q10) ?_
          refine rh_Ex.blk 3 (s' := ((86, [some (.ref 0), none, some (.int s28.1), some (.int s28.2), some (.int ((f_In_bitCount s28.2) - (f_In_bitCount s28.1)))], [.int s28.1, .ref 9, .int (h 9 s28.2.toNatClampNeg)]), (h, g, mw_R rd))) rfl ?_
          obtain ⟨q11, hf⟩ := rh_gq hf
          refine rh_Ex.stp (s' := ((87, [some (.ref 0), none, some (.int s28.1), some (.int s28.2), some (.int ((f_In_bitCount s28.2) - (f_In_bitCount s28.1)))], [.int (h 9 s28.1.toNatClampNeg), .int (h 9 s28.2.toNatClampNeg)]), (h, g, mw_R rd))) rfl (st_iald (n := 512) rfl q11) ?_
          by_cases q12 : (h 9 s28.1.toNatClampNeg) ≤ (h 9 s28.2.toNatClampNeg)
          · rw [if_pos q12] at hf
            refine rh_Ex.stp (s' := ((92, [some (.ref 0), none, some (.int s28.1), some (.int s28.2), some (.int ((f_In_bitCount s28.2) - (f_In_bitCount s28.1)))], []), (h, g, mw_R rd))) rfl (st_icge_p q12) ?_
            refine rh_Ex.blk 2 (s' := ((28, [some (.ref 0), none, some (.int s28.1), some (.int (s28.2 + (1 : Int32))), some (.int ((f_In_bitCount s28.2) - (f_In_bitCount s28.1)))], []), (h, g, mw_R rd))) rfl ?_
            obtain rfl := Option.some.inj hf
            refine rh_Ex.fgt [some (.ref 0), none, some (.int s28.1), some (.int (s28.2 + (1 : Int32))), none] ⟨rfl, rfl, rfl, trivial⟩ ?_
            exact hk
          · rw [if_neg q12] at hf
            refine rh_Ex.stp (s' := ((90, [some (.ref 0), none, some (.int s28.1), some (.int s28.2), some (.int ((f_In_bitCount s28.2) - (f_In_bitCount s28.1)))], []), (h, g, mw_R rd))) rfl (st_icge_n q12) ?_
            refine rh_Ex.blk 4 (s' := ((28, [some (.ref 0), none, some (.int s28.2), some (.int (s28.2 + (1 : Int32))), some (.int ((f_In_bitCount s28.2) - (f_In_bitCount s28.1)))], []), (h, g, mw_R rd))) rfl ?_
            obtain rfl := Option.some.inj hf
            refine rh_Ex.fgt [some (.ref 0), none, some (.int s28.2), some (.int (s28.2 + (1 : Int32))), none] ⟨rfl, rfl, rfl, trivial⟩ ?_
            exact hk
        · rw [if_neg q9] at hf
          refine rh_Ex.stp (s' := ((92, [some (.ref 0), none, some (.int s28.1), some (.int s28.2), some (.int ((f_In_bitCount s28.2) - (f_In_bitCount s28.1)))], []), (h, g, mw_R rd))) rfl (st_ifne_n q9) ?_
          refine rh_Ex.blk 2 (s' := ((28, [some (.ref 0), none, some (.int s28.1), some (.int (s28.2 + (1 : Int32))), some (.int ((f_In_bitCount s28.2) - (f_In_bitCount s28.1)))], []), (h, g, mw_R rd))) rfl ?_
          obtain rfl := Option.some.inj hf
          refine rh_Ex.fgt [some (.ref 0), none, some (.int s28.1), some (.int (s28.2 + (1 : Int32))), none] ⟨rfl, rfl, rfl, trivial⟩ ?_
          exact hk
    · rw [if_neg q7] at hf
      refine rh_Ex.stp (s' := ((51, [some (.ref 0), none, some (.int s28.1), some (.int s28.2), none], []), (h, g, mw_R rd))) rfl (st_icle_n q7) ?_
      refine rh_Ex.blk 3 (s' := ((28, [some (.ref 0), none, some (.int s28.1), some (.int (s28.2 + (1 : Int32))), none], []), (h, g, mw_R rd))) rfl ?_
      obtain rfl := Option.some.inj hf
      refine rh_Ex.fgt [some (.ref 0), none, some (.int s28.1), some (.int (s28.2 + (1 : Int32))), none] ⟨rfl, rfl, rfl, trivial⟩ ?_
      exact hk
set_option maxRecDepth 20000 in
set_option maxHeartbeats 4000000 in
theorem R_Mo_floor (d : Nat) (rd : Option Nat) (h : Nat → Nat → Int32) (g : Nat → Nat → Int64) (p0 : Int32) {z9 : Int32 × (Nat → Nat → Int32) × (Option Nat)} (hf : f_Mo_floor h rd p0 = some z9) : rh_M rh_PT mw_L (d + 269) 238 [.ref 0, .int p0] (h, g, mw_R rd) (some (.int z9.1)) (z9.2.1, g, mw_R z9.2.2) := by
  unfold f_Mo_floor at hf
  refine rh_go pt_238 (Nat.le_of_ble_eq_true rfl) (lv := [some (.ref 0), some (.int p0), none, none, none]) rfl ?_
  refine rh_Ex.blk 4 (s' := ((6, [some (.ref 0), some (.int p0), none, none, none], [.int p0]), (rh_up h 0 9 (0 : Int32), g, mw_R rd))) rfl ?_
  obtain ⟨x1, hx1, hf⟩ := rh_bq hf
  refine rh_Ex.call (j := 186) (rc := none) [.int p0] [] (some (.int x1)) rfl rfl trivial (Nat.le_of_ble_eq_true rfl) (R_Mo_isBell (d + 266) mw_L (mw_R rd) (rh_up h 0 9 (0 : Int32)) g p0 hx1) ?_
  show rh_Ex _ _ _ ((9, [some (.ref 0), some (.int p0), none, none, none], [.int x1]), (rh_up h 0 9 (0 : Int32), g, mw_R rd)) _ _
  by_cases q2 : x1 = 0
  · rw [if_pos q2] at hf
    refine rh_Ex.stp (s' := ((12, [some (.ref 0), some (.int p0), none, none, none], []), (rh_up h 0 9 (0 : Int32), g, mw_R rd))) rfl (st_ifne_p q2) ?_
    refine rh_Ex.blk 1 (s' := ((13, [some (.ref 0), some (.int p0), none, none, none], [.int (-1 : Int32)]), (rh_up h 0 9 (0 : Int32), g, mw_R rd))) rfl ?_
    obtain rfl := Option.some.inj hf
    exact rh_Ex.ret rfl rfl
  · rw [if_neg q2] at hf
    refine rh_Ex.stp (s' := ((14, [some (.ref 0), some (.int p0), none, none, none], []), (rh_up h 0 9 (0 : Int32), g, mw_R rd))) rfl (st_ifne_n q2) ?_
    refine rh_Ex.blk 2 (s' := ((16, [some (.ref 0), some (.int p0), none, none, none], [.ref 0, .ref 0]), (rh_up h 0 9 (0 : Int32), g, mw_R rd))) rfl ?_
    refine rh_Ex.call (j := 209) (rc := some 11) [.ref 0] [.ref 0] (some (.int (f_Mo_dawn (rh_up h 0 9 (0 : Int32))))) rfl rfl rfl (Nat.le_of_ble_eq_true rfl) (R_Mo_dawn (d + 267) rd (rh_up h 0 9 (0 : Int32)) g  rfl) ?_
    show rh_Ex _ _ _ ((19, [some (.ref 0), some (.int p0), none, none, none], [.int (f_Mo_dawn (rh_up h 0 9 (0 : Int32))), .ref 0]), (rh_up h 0 9 (0 : Int32), g, mw_R rd)) _ _
    refine rh_Ex.blk 2 (s' := ((21, [some (.ref 0), some (.int p0), none, none, none], [.int ((f_Mo_dawn (rh_up h 0 9 (0 : Int32))) + p0), .ref 0]), (rh_up h 0 9 (0 : Int32), g, mw_R rd))) rfl ?_
    obtain ⟨x3, hx3, hf⟩ := rh_bq hf
    refine rh_Ex.call (j := 208) (rc := some 11) [.ref 0, .int ((f_Mo_dawn (rh_up h 0 9 (0 : Int32))) + p0)] [] none rfl rfl rfl (Nat.le_of_ble_eq_true rfl) (R_Mo_findSets d rd (rh_up h 0 9 (0 : Int32)) g ((f_Mo_dawn (rh_up h 0 9 (0 : Int32))) + p0) hx3) ?_
    show rh_Ex _ _ _ ((24, [some (.ref 0), some (.int p0), none, none, none], []), (x3.1, g, mw_R x3.2)) _ _
    refine rh_Ex.blk 4 (s' := ((28, [some (.ref 0), some (.int p0), some (.int (0 : Int32)), some (.int (1 : Int32)), none], []), (x3.1, g, mw_R x3.2))) rfl ?_
    obtain ⟨r13, hr13, hf⟩ := rh_bq hf
    refine rh_Ex.fgt [some (.ref 0), none, some (.int (0 : Int32)), some (.int (1 : Int32)), none] ⟨rfl, rfl, rfl, trivial⟩ ?_
    refine rh_Ex.loop _ _ _ (lb_Mo_floor_28 d x3.1 x3.2  g _ _) rh_N _ r13 hr13 ?_
    refine rh_Ex.blk 5 (s' := ((105, [some (.ref 0), none, some (.int r13), none, none], [.int r13, .ref 0]), (rh_up x3.1 0 8 (0 : Int32), g, mw_R x3.2))) rfl ?_
    obtain ⟨x14, hx14, hf⟩ := rh_bq hf
    refine rh_Ex.call (j := 182) (rc := some 11) [.ref 0, .int r13] [] none rfl rfl rfl (Nat.le_of_ble_eq_true rfl) (R_Mo_tell (d + 267) x3.2 (rh_up x3.1 0 8 (0 : Int32)) g r13 hx14) ?_
    show rh_Ex _ _ _ ((108, [some (.ref 0), none, some (.int r13), none, none], []), (x14, g, mw_R x3.2)) _ _
    refine rh_Ex.blk 1 (s' := ((109, [some (.ref 0), none, some (.int r13), none, none], [.int r13]), (x14, g, mw_R x3.2))) rfl ?_
    refine rh_Ex.call (j := 298) (rc := none) [.int r13] [] (some (.int (f_In_bitCount r13))) rfl rfl trivial (Nat.le_of_ble_eq_true rfl) (R_In_bitCount (d + 267) mw_L (mw_R x3.2) x14 g r13 rfl) ?_
    show rh_Ex _ _ _ ((112, [some (.ref 0), none, some (.int r13), none, none], [.int (f_In_bitCount r13)]), (x14, g, mw_R x3.2)) _ _
    obtain rfl := Option.some.inj hf
    exact rh_Ex.ret rfl rfl
def b_Mo_heaviest_28 (h : Nat → Nat → Int32) (rd : Option Nat) : (Int32 × Int32) → Option ((Int32 × Int32) ⊕ (Int32)) := fun s28 =>
  if (f_Mo_everybody h) < s28.2 then
    some (.inr s28.1)
  else
    rh_g (0 ≤ s28.2.toInt ∧ s28.2.toInt < ((512 : Nat) : Int)) (
      if (h 3 (2 : Int32).toNatClampNeg) < (h 9 s28.2.toNatClampNeg) then
        some (.inl (s28.1, s28.2 + (1 : Int32)))
      else
        rh_g (0 ≤ s28.2.toInt ∧ s28.2.toInt < ((512 : Nat) : Int)) (
          rh_g (0 ≤ s28.1.toInt ∧ s28.1.toInt < ((512 : Nat) : Int)) (
            if (h 9 s28.2.toNatClampNeg) ≤ (h 9 s28.1.toNatClampNeg) then
              some (.inl (s28.1, s28.2 + (1 : Int32)))
            else
              some (.inl (s28.2, s28.2 + (1 : Int32)))
          )
        )
    )
def f_Mo_heaviest (h : Nat → Nat → Int32) (rd : Option Nat) (p0 : Int32) : Option (Int32 × (Nat → Nat → Int32) × (Option Nat)) :=
  (f_Mo_isBell p0).bind (fun x1 =>
    if x1 = 0 then
      some (((-1 : Int32), rh_up h 0 9 (0 : Int32), rd))
    else
      (f_Mo_findSets (rh_up h 0 9 (0 : Int32)) rd ((f_Mo_dawn (rh_up h 0 9 (0 : Int32))) + p0)).bind (fun x3 =>
        (rh_loop (b_Mo_heaviest_28 x3.1 x3.2) rh_N ((0 : Int32), (1 : Int32))).bind (fun r11 =>
          (f_Mo_tell (rh_up x3.1 0 8 (0 : Int32)) r11).bind (fun x12 =>
            rh_g (0 ≤ r11.toInt ∧ r11.toInt < ((512 : Nat) : Int)) (
              some ((x12 9 r11.toNatClampNeg, x12, x3.2))
            )
          )
        )
      )
  )
set_option maxRecDepth 20000 in
set_option maxHeartbeats 4000000 in
theorem lb_Mo_heaviest_28 (d : Nat) (h : Nat → Nat → Int32) (rd : Option Nat) (g : Nat → Nat → Int64) (v9 : Option Value) (h9 : rh_H) : ∀ s28 x9, b_Mo_heaviest_28 h rd s28 = some x9 → Sum.elim (fun s28 => rh_Ex (rh_M rh_PT mw_L (d + 268)) mw_L pg_X12_heaviest ((28, [some (.ref 0), none, some (.int s28.1), some (.int s28.2)], []), (h, g, mw_R rd)) v9 h9) (fun e9 => rh_Ex (rh_M rh_PT mw_L (d + 268)) mw_L pg_X12_heaviest ((74, [some (.ref 0), none, some (.int e9), none], []), (h, g, mw_R rd)) v9 h9) x9 → rh_Ex (rh_M rh_PT mw_L (d + 268)) mw_L pg_X12_heaviest ((28, [some (.ref 0), none, some (.int s28.1), some (.int s28.2)], []), (h, g, mw_R rd)) v9 h9 := by
  intro s28 x9 hf hk
  unfold b_Mo_heaviest_28 at hf
  refine rh_Ex.blk 2 (s' := ((30, [some (.ref 0), none, some (.int s28.1), some (.int s28.2)], [.ref 0, .int s28.2]), (h, g, mw_R rd))) rfl ?_
  refine rh_Ex.call (j := 184) (rc := some 11) [.ref 0] [.int s28.2] (some (.int (f_Mo_everybody h))) rfl rfl rfl (Nat.le_of_ble_eq_true rfl) (R_Mo_everybody (d + 267) rd h g  rfl) ?_
  show rh_Ex _ _ _ ((33, [some (.ref 0), none, some (.int s28.1), some (.int s28.2)], [.int (f_Mo_everybody h), .int s28.2]), (h, g, mw_R rd)) _ _
  by_cases q5 : (f_Mo_everybody h) < s28.2
  · rw [if_pos q5] at hf
    refine rh_Ex.stp (s' := ((74, [some (.ref 0), none, some (.int s28.1), some (.int s28.2)], []), (h, g, mw_R rd))) rfl (st_icgt_p q5) ?_
    obtain rfl := Option.some.inj hf
    refine rh_Ex.fgt [some (.ref 0), none, some (.int s28.1), none] ⟨rfl, rfl, trivial⟩ ?_
    exact hk
  · rw [if_neg q5] at hf
    refine rh_Ex.stp (s' := ((36, [some (.ref 0), none, some (.int s28.1), some (.int s28.2)], []), (h, g, mw_R rd))) rfl (st_icgt_n q5) ?_
    refine rh_Ex.blk 3 (s' := ((41, [some (.ref 0), none, some (.int s28.1), some (.int s28.2)], [.int s28.2, .ref 9]), (h, g, mw_R rd))) rfl ?_
    obtain ⟨q6, hf⟩ := rh_gq hf
    refine rh_Ex.stp (s' := ((42, [some (.ref 0), none, some (.int s28.1), some (.int s28.2)], [.int (h 9 s28.2.toNatClampNeg)]), (h, g, mw_R rd))) rfl (st_iald (n := 512) rfl q6) ?_
    refine rh_Ex.blk 3 (s' := ((47, [some (.ref 0), none, some (.int s28.1), some (.int s28.2)], [.int (2 : Int32), .ref 3, .int (h 9 s28.2.toNatClampNeg)]), (h, g, mw_R rd))) rfl ?_
    refine rh_Ex.stp (s' := ((48, [some (.ref 0), none, some (.int s28.1), some (.int s28.2)], [.int (h 3 (2 : Int32).toNatClampNeg), .int (h 9 s28.2.toNatClampNeg)]), (h, g, mw_R rd))) rfl (st_iald (n := 3) rfl (by decide)) ?_
    by_cases q7 : (h 3 (2 : Int32).toNatClampNeg) < (h 9 s28.2.toNatClampNeg)
    · rw [if_pos q7] at hf
      refine rh_Ex.stp (s' := ((68, [some (.ref 0), none, some (.int s28.1), some (.int s28.2)], []), (h, g, mw_R rd))) rfl (st_icgt_p q7) ?_
      refine rh_Ex.blk 2 (s' := ((28, [some (.ref 0), none, some (.int s28.1), some (.int (s28.2 + (1 : Int32)))], []), (h, g, mw_R rd))) rfl ?_
      obtain rfl := Option.some.inj hf
      refine rh_Ex.fgt [some (.ref 0), none, some (.int s28.1), some (.int (s28.2 + (1 : Int32)))] ⟨rfl, rfl, rfl, trivial⟩ ?_
      exact hk
    · rw [if_neg q7] at hf
      refine rh_Ex.stp (s' := ((51, [some (.ref 0), none, some (.int s28.1), some (.int s28.2)], []), (h, g, mw_R rd))) rfl (st_icgt_n q7) ?_
      refine rh_Ex.blk 3 (s' := ((56, [some (.ref 0), none, some (.int s28.1), some (.int s28.2)], [.int s28.2, .ref 9]), (h, g, mw_R rd))) rfl ?_
      obtain ⟨q8, hf⟩ := rh_gq hf
      refine rh_Ex.stp (s' := ((57, [some (.ref 0), none, some (.int s28.1), some (.int s28.2)], [.int (h 9 s28.2.toNatClampNeg)]), (h, g, mw_R rd))) rfl (st_iald (n := 512) rfl q8) ?_
      refine rh_Ex.blk 3 (s' := ((62, [some (.ref 0), none, some (.int s28.1), some (.int s28.2)], [.int s28.1, .ref 9, .int (h 9 s28.2.toNatClampNeg)]), (h, g, mw_R rd))) rfl ?_
      obtain ⟨q9, hf⟩ := rh_gq hf
      refine rh_Ex.stp (s' := ((63, [some (.ref 0), none, some (.int s28.1), some (.int s28.2)], [.int (h 9 s28.1.toNatClampNeg), .int (h 9 s28.2.toNatClampNeg)]), (h, g, mw_R rd))) rfl (st_iald (n := 512) rfl q9) ?_
      by_cases q10 : (h 9 s28.2.toNatClampNeg) ≤ (h 9 s28.1.toNatClampNeg)
      · rw [if_pos q10] at hf
        refine rh_Ex.stp (s' := ((68, [some (.ref 0), none, some (.int s28.1), some (.int s28.2)], []), (h, g, mw_R rd))) rfl (st_icle_p q10) ?_
        refine rh_Ex.blk 2 (s' := ((28, [some (.ref 0), none, some (.int s28.1), some (.int (s28.2 + (1 : Int32)))], []), (h, g, mw_R rd))) rfl ?_
        obtain rfl := Option.some.inj hf
        refine rh_Ex.fgt [some (.ref 0), none, some (.int s28.1), some (.int (s28.2 + (1 : Int32)))] ⟨rfl, rfl, rfl, trivial⟩ ?_
        exact hk
      · rw [if_neg q10] at hf
        refine rh_Ex.stp (s' := ((66, [some (.ref 0), none, some (.int s28.1), some (.int s28.2)], []), (h, g, mw_R rd))) rfl (st_icle_n q10) ?_
        refine rh_Ex.blk 4 (s' := ((28, [some (.ref 0), none, some (.int s28.2), some (.int (s28.2 + (1 : Int32)))], []), (h, g, mw_R rd))) rfl ?_
        obtain rfl := Option.some.inj hf
        refine rh_Ex.fgt [some (.ref 0), none, some (.int s28.2), some (.int (s28.2 + (1 : Int32)))] ⟨rfl, rfl, rfl, trivial⟩ ?_
        exact hk
set_option maxRecDepth 20000 in
set_option maxHeartbeats 4000000 in
theorem R_Mo_heaviest (d : Nat) (rd : Option Nat) (h : Nat → Nat → Int32) (g : Nat → Nat → Int64) (p0 : Int32) {z9 : Int32 × (Nat → Nat → Int32) × (Option Nat)} (hf : f_Mo_heaviest h rd p0 = some z9) : rh_M rh_PT mw_L (d + 269) 239 [.ref 0, .int p0] (h, g, mw_R rd) (some (.int z9.1)) (z9.2.1, g, mw_R z9.2.2) := by
  unfold f_Mo_heaviest at hf
  refine rh_go pt_239 (Nat.le_of_ble_eq_true rfl) (lv := [some (.ref 0), some (.int p0), none, none]) rfl ?_
  refine rh_Ex.blk 4 (s' := ((6, [some (.ref 0), some (.int p0), none, none], [.int p0]), (rh_up h 0 9 (0 : Int32), g, mw_R rd))) rfl ?_
  obtain ⟨x1, hx1, hf⟩ := rh_bq hf
  refine rh_Ex.call (j := 186) (rc := none) [.int p0] [] (some (.int x1)) rfl rfl trivial (Nat.le_of_ble_eq_true rfl) (R_Mo_isBell (d + 266) mw_L (mw_R rd) (rh_up h 0 9 (0 : Int32)) g p0 hx1) ?_
  show rh_Ex _ _ _ ((9, [some (.ref 0), some (.int p0), none, none], [.int x1]), (rh_up h 0 9 (0 : Int32), g, mw_R rd)) _ _
  by_cases q2 : x1 = 0
  · rw [if_pos q2] at hf
    refine rh_Ex.stp (s' := ((12, [some (.ref 0), some (.int p0), none, none], []), (rh_up h 0 9 (0 : Int32), g, mw_R rd))) rfl (st_ifne_p q2) ?_
    refine rh_Ex.blk 1 (s' := ((13, [some (.ref 0), some (.int p0), none, none], [.int (-1 : Int32)]), (rh_up h 0 9 (0 : Int32), g, mw_R rd))) rfl ?_
    obtain rfl := Option.some.inj hf
    exact rh_Ex.ret rfl rfl
  · rw [if_neg q2] at hf
    refine rh_Ex.stp (s' := ((14, [some (.ref 0), some (.int p0), none, none], []), (rh_up h 0 9 (0 : Int32), g, mw_R rd))) rfl (st_ifne_n q2) ?_
    refine rh_Ex.blk 2 (s' := ((16, [some (.ref 0), some (.int p0), none, none], [.ref 0, .ref 0]), (rh_up h 0 9 (0 : Int32), g, mw_R rd))) rfl ?_
    refine rh_Ex.call (j := 209) (rc := some 11) [.ref 0] [.ref 0] (some (.int (f_Mo_dawn (rh_up h 0 9 (0 : Int32))))) rfl rfl rfl (Nat.le_of_ble_eq_true rfl) (R_Mo_dawn (d + 267) rd (rh_up h 0 9 (0 : Int32)) g  rfl) ?_
    show rh_Ex _ _ _ ((19, [some (.ref 0), some (.int p0), none, none], [.int (f_Mo_dawn (rh_up h 0 9 (0 : Int32))), .ref 0]), (rh_up h 0 9 (0 : Int32), g, mw_R rd)) _ _
    refine rh_Ex.blk 2 (s' := ((21, [some (.ref 0), some (.int p0), none, none], [.int ((f_Mo_dawn (rh_up h 0 9 (0 : Int32))) + p0), .ref 0]), (rh_up h 0 9 (0 : Int32), g, mw_R rd))) rfl ?_
    obtain ⟨x3, hx3, hf⟩ := rh_bq hf
    refine rh_Ex.call (j := 208) (rc := some 11) [.ref 0, .int ((f_Mo_dawn (rh_up h 0 9 (0 : Int32))) + p0)] [] none rfl rfl rfl (Nat.le_of_ble_eq_true rfl) (R_Mo_findSets d rd (rh_up h 0 9 (0 : Int32)) g ((f_Mo_dawn (rh_up h 0 9 (0 : Int32))) + p0) hx3) ?_
    show rh_Ex _ _ _ ((24, [some (.ref 0), some (.int p0), none, none], []), (x3.1, g, mw_R x3.2)) _ _
    refine rh_Ex.blk 4 (s' := ((28, [some (.ref 0), some (.int p0), some (.int (0 : Int32)), some (.int (1 : Int32))], []), (x3.1, g, mw_R x3.2))) rfl ?_
    obtain ⟨r11, hr11, hf⟩ := rh_bq hf
    refine rh_Ex.fgt [some (.ref 0), none, some (.int (0 : Int32)), some (.int (1 : Int32))] ⟨rfl, rfl, rfl, trivial⟩ ?_
    refine rh_Ex.loop _ _ _ (lb_Mo_heaviest_28 d x3.1 x3.2  g _ _) rh_N _ r11 hr11 ?_
    refine rh_Ex.blk 5 (s' := ((81, [some (.ref 0), none, some (.int r11), none], [.int r11, .ref 0]), (rh_up x3.1 0 8 (0 : Int32), g, mw_R x3.2))) rfl ?_
    obtain ⟨x12, hx12, hf⟩ := rh_bq hf
    refine rh_Ex.call (j := 182) (rc := some 11) [.ref 0, .int r11] [] none rfl rfl rfl (Nat.le_of_ble_eq_true rfl) (R_Mo_tell (d + 267) x3.2 (rh_up x3.1 0 8 (0 : Int32)) g r11 hx12) ?_
    show rh_Ex _ _ _ ((84, [some (.ref 0), none, some (.int r11), none], []), (x12, g, mw_R x3.2)) _ _
    refine rh_Ex.blk 3 (s' := ((89, [some (.ref 0), none, some (.int r11), none], [.int r11, .ref 9]), (x12, g, mw_R x3.2))) rfl ?_
    obtain ⟨q13, hf⟩ := rh_gq hf
    refine rh_Ex.stp (s' := ((90, [some (.ref 0), none, some (.int r11), none], [.int (x12 9 r11.toNatClampNeg)]), (x12, g, mw_R x3.2))) rfl (st_iald (n := 512) rfl q13) ?_
    obtain rfl := Option.some.inj hf
    exact rh_Ex.ret rfl rfl
def b_Mo_timber_34 (u1 : Int32) (u2 : Int32) : (Int32 × Int32 × Int32 × (Nat → Nat → Int32) × (Option Nat)) → Option ((Int32 × Int32 × Int32 × (Nat → Nat → Int32) × (Option Nat)) ⊕ (Int32 × Int32 × (Nat → Nat → Int32) × (Option Nat))) := fun s34 =>
  if (9 : Int32) ≤ s34.2.2.1 then
    some (.inr (s34.1, s34.2.1, s34.2.2.2.1, s34.2.2.2.2))
  else
    (f_Mo_weightOfAll s34.2.2.2.1 s34.2.2.2.2 u1 ((f_Mo_dawn s34.2.2.2.1) + s34.2.2.1)).bind (fun x6 =>
      if s34.1 < x6.1 then
        some (.inl (x6.1, s34.2.2.1, s34.2.2.1 + (1 : Int32), x6.2.1, x6.2.2))
      else
        some (.inl (s34.1, s34.2.1, s34.2.2.1 + (1 : Int32), x6.2.1, x6.2.2))
    )
def f_Mo_timber (h : Nat → Nat → Int32) (rd : Option Nat) (p0 : Int32) (p1 : Int32) : Option (Int32 × (Nat → Nat → Int32) × (Option Nat)) :=
  (f_Mo_areFolk (rh_up h 0 9 (0 : Int32)) p0).bind (fun x1 =>
    if x1 = 0 then
      some (((-1 : Int32), rh_up h 0 9 (0 : Int32), rd))
    else
      if (f_Mo_in p1 (1 : Int32) (999 : Int32)) = 0 then
        some (((-1 : Int32), rh_up h 0 9 (0 : Int32), rd))
      else
        (rh_loop (b_Mo_timber_34 p0 p1) rh_N ((-1 : Int32), (0 : Int32), (0 : Int32), rh_up h 0 9 (0 : Int32), rd)).bind (fun r8 =>
          (f_Mo_tell (rh_up r8.2.2.1 0 8 (0 : Int32)) r8.2.1).bind (fun x9 =>
            rh_g (¬ p1 = 0) (
              (f_Mo_tell x9 (((r8.1 + p1) - (1 : Int32)) / p1)).bind (fun x11 =>
                some ((r8.1, x11, r8.2.2.2))
              )
            )
          )
        )
  )
set_option maxRecDepth 20000 in
set_option maxHeartbeats 4000000 in
theorem lb_Mo_timber_34 (d : Nat) (u1 : Int32) (u2 : Int32) (g : Nat → Nat → Int64) (v9 : Option Value) (h9 : rh_H) : ∀ s34 x9, b_Mo_timber_34 u1 u2 s34 = some x9 → Sum.elim (fun s34 => rh_Ex (rh_M rh_PT mw_L (d + 268)) mw_L pg_X12_timber ((34, [some (.ref 0), some (.int u1), some (.int u2), some (.int s34.1), some (.int s34.2.1), some (.int s34.2.2.1), none], []), (s34.2.2.2.1, g, mw_R s34.2.2.2.2)) v9 h9) (fun e9 => rh_Ex (rh_M rh_PT mw_L (d + 268)) mw_L pg_X12_timber ((77, [some (.ref 0), none, some (.int u2), some (.int e9.1), some (.int e9.2.1), none, none], []), (e9.2.2.1, g, mw_R e9.2.2.2)) v9 h9) x9 → rh_Ex (rh_M rh_PT mw_L (d + 268)) mw_L pg_X12_timber ((34, [some (.ref 0), some (.int u1), some (.int u2), some (.int s34.1), some (.int s34.2.1), some (.int s34.2.2.1), none], []), (s34.2.2.2.1, g, mw_R s34.2.2.2.2)) v9 h9 := by
  intro s34 x9 hf hk
  unfold b_Mo_timber_34 at hf
  refine rh_Ex.blk 2 (s' := ((38, [some (.ref 0), some (.int u1), some (.int u2), some (.int s34.1), some (.int s34.2.1), some (.int s34.2.2.1), none], [.int (9 : Int32), .int s34.2.2.1]), (s34.2.2.2.1, g, mw_R s34.2.2.2.2))) rfl ?_
  by_cases q5 : (9 : Int32) ≤ s34.2.2.1
  · rw [if_pos q5] at hf
    refine rh_Ex.stp (s' := ((77, [some (.ref 0), some (.int u1), some (.int u2), some (.int s34.1), some (.int s34.2.1), some (.int s34.2.2.1), none], []), (s34.2.2.2.1, g, mw_R s34.2.2.2.2))) rfl (st_icge_p q5) ?_
    obtain rfl := Option.some.inj hf
    refine rh_Ex.fgt [some (.ref 0), none, some (.int u2), some (.int s34.1), some (.int s34.2.1), none, none] ⟨rfl, rfl, rfl, rfl, trivial⟩ ?_
    exact hk
  · rw [if_neg q5] at hf
    refine rh_Ex.stp (s' := ((41, [some (.ref 0), some (.int u1), some (.int u2), some (.int s34.1), some (.int s34.2.1), some (.int s34.2.2.1), none], []), (s34.2.2.2.1, g, mw_R s34.2.2.2.2))) rfl (st_icge_n q5) ?_
    refine rh_Ex.blk 3 (s' := ((44, [some (.ref 0), some (.int u1), some (.int u2), some (.int s34.1), some (.int s34.2.1), some (.int s34.2.2.1), none], [.ref 0, .int u1, .ref 0]), (s34.2.2.2.1, g, mw_R s34.2.2.2.2))) rfl ?_
    refine rh_Ex.call (j := 209) (rc := some 11) [.ref 0] [.int u1, .ref 0] (some (.int (f_Mo_dawn s34.2.2.2.1))) rfl rfl rfl (Nat.le_of_ble_eq_true rfl) (R_Mo_dawn (d + 267) s34.2.2.2.2 s34.2.2.2.1 g  rfl) ?_
    show rh_Ex _ _ _ ((47, [some (.ref 0), some (.int u1), some (.int u2), some (.int s34.1), some (.int s34.2.1), some (.int s34.2.2.1), none], [.int (f_Mo_dawn s34.2.2.2.1), .int u1, .ref 0]), (s34.2.2.2.1, g, mw_R s34.2.2.2.2)) _ _
    refine rh_Ex.blk 2 (s' := ((50, [some (.ref 0), some (.int u1), some (.int u2), some (.int s34.1), some (.int s34.2.1), some (.int s34.2.2.1), none], [.int ((f_Mo_dawn s34.2.2.2.1) + s34.2.2.1), .int u1, .ref 0]), (s34.2.2.2.1, g, mw_R s34.2.2.2.2))) rfl ?_
    obtain ⟨x6, hx6, hf⟩ := rh_bq hf
    refine rh_Ex.call (j := 207) (rc := some 11) [.ref 0, .int u1, .int ((f_Mo_dawn s34.2.2.2.1) + s34.2.2.1)] [] (some (.int x6.1)) rfl rfl rfl (Nat.le_of_ble_eq_true rfl) (R_Mo_weightOfAll d s34.2.2.2.2 s34.2.2.2.1 g u1 ((f_Mo_dawn s34.2.2.2.1) + s34.2.2.1) hx6) ?_
    show rh_Ex _ _ _ ((53, [some (.ref 0), some (.int u1), some (.int u2), some (.int s34.1), some (.int s34.2.1), some (.int s34.2.2.1), none], [.int x6.1]), (x6.2.1, g, mw_R x6.2.2)) _ _
    refine rh_Ex.blk 3 (s' := ((58, [some (.ref 0), some (.int u1), some (.int u2), some (.int s34.1), some (.int s34.2.1), some (.int s34.2.2.1), some (.int x6.1)], [.int s34.1, .int x6.1]), (x6.2.1, g, mw_R x6.2.2))) rfl ?_
    by_cases q7 : s34.1 < x6.1
    · rw [if_pos q7] at hf
      refine rh_Ex.stp (s' := ((64, [some (.ref 0), some (.int u1), some (.int u2), some (.int s34.1), some (.int s34.2.1), some (.int s34.2.2.1), some (.int x6.1)], []), (x6.2.1, g, mw_R x6.2.2))) rfl (st_icgt_p q7) ?_
      refine rh_Ex.blk 6 (s' := ((34, [some (.ref 0), some (.int u1), some (.int u2), some (.int x6.1), some (.int s34.2.2.1), some (.int (s34.2.2.1 + (1 : Int32))), some (.int x6.1)], []), (x6.2.1, g, mw_R x6.2.2))) rfl ?_
      obtain rfl := Option.some.inj hf
      refine rh_Ex.fgt [some (.ref 0), some (.int u1), some (.int u2), some (.int x6.1), some (.int s34.2.2.1), some (.int (s34.2.2.1 + (1 : Int32))), none] ⟨rfl, rfl, rfl, rfl, rfl, rfl, trivial⟩ ?_
      exact hk
    · rw [if_neg q7] at hf
      refine rh_Ex.stp (s' := ((61, [some (.ref 0), some (.int u1), some (.int u2), some (.int s34.1), some (.int s34.2.1), some (.int s34.2.2.1), some (.int x6.1)], []), (x6.2.1, g, mw_R x6.2.2))) rfl (st_icgt_n q7) ?_
      refine rh_Ex.blk 3 (s' := ((34, [some (.ref 0), some (.int u1), some (.int u2), some (.int s34.1), some (.int s34.2.1), some (.int (s34.2.2.1 + (1 : Int32))), some (.int x6.1)], []), (x6.2.1, g, mw_R x6.2.2))) rfl ?_
      obtain rfl := Option.some.inj hf
      refine rh_Ex.fgt [some (.ref 0), some (.int u1), some (.int u2), some (.int s34.1), some (.int s34.2.1), some (.int (s34.2.2.1 + (1 : Int32))), none] ⟨rfl, rfl, rfl, rfl, rfl, rfl, trivial⟩ ?_
      exact hk
set_option maxRecDepth 20000 in
set_option maxHeartbeats 4000000 in
theorem R_Mo_timber (d : Nat) (rd : Option Nat) (h : Nat → Nat → Int32) (g : Nat → Nat → Int64) (p0 : Int32) (p1 : Int32) {z9 : Int32 × (Nat → Nat → Int32) × (Option Nat)} (hf : f_Mo_timber h rd p0 p1 = some z9) : rh_M rh_PT mw_L (d + 269) 240 [.ref 0, .int p0, .int p1] (h, g, mw_R rd) (some (.int z9.1)) (z9.2.1, g, mw_R z9.2.2) := by
  unfold f_Mo_timber at hf
  refine rh_go pt_240 (Nat.le_of_ble_eq_true rfl) (lv := [some (.ref 0), some (.int p0), some (.int p1), none, none, none, none]) rfl ?_
  refine rh_Ex.blk 5 (s' := ((7, [some (.ref 0), some (.int p0), some (.int p1), none, none, none, none], [.int p0, .ref 0]), (rh_up h 0 9 (0 : Int32), g, mw_R rd))) rfl ?_
  obtain ⟨x1, hx1, hf⟩ := rh_bq hf
  refine rh_Ex.call (j := 185) (rc := some 11) [.ref 0, .int p0] [] (some (.int x1)) rfl rfl rfl (Nat.le_of_ble_eq_true rfl) (R_Mo_areFolk (d + 266) rd (rh_up h 0 9 (0 : Int32)) g p0 hx1) ?_
  show rh_Ex _ _ _ ((10, [some (.ref 0), some (.int p0), some (.int p1), none, none, none, none], [.int x1]), (rh_up h 0 9 (0 : Int32), g, mw_R rd)) _ _
  by_cases q2 : x1 = 0
  · rw [if_pos q2] at hf
    refine rh_Ex.stp (s' := ((24, [some (.ref 0), some (.int p0), some (.int p1), none, none, none, none], []), (rh_up h 0 9 (0 : Int32), g, mw_R rd))) rfl (st_ifeq_p q2) ?_
    refine rh_Ex.blk 1 (s' := ((25, [some (.ref 0), some (.int p0), some (.int p1), none, none, none, none], [.int (-1 : Int32)]), (rh_up h 0 9 (0 : Int32), g, mw_R rd))) rfl ?_
    obtain rfl := Option.some.inj hf
    exact rh_Ex.ret rfl rfl
  · rw [if_neg q2] at hf
    refine rh_Ex.stp (s' := ((13, [some (.ref 0), some (.int p0), some (.int p1), none, none, none, none], []), (rh_up h 0 9 (0 : Int32), g, mw_R rd))) rfl (st_ifeq_n q2) ?_
    refine rh_Ex.blk 3 (s' := ((18, [some (.ref 0), some (.int p0), some (.int p1), none, none, none, none], [.int (999 : Int32), .int (1 : Int32), .int p1]), (rh_up h 0 9 (0 : Int32), g, mw_R rd))) rfl ?_
    refine rh_Ex.call (j := 179) (rc := none) [.int p1, .int (1 : Int32), .int (999 : Int32)] [] (some (.int (f_Mo_in p1 (1 : Int32) (999 : Int32)))) rfl rfl trivial (Nat.le_of_ble_eq_true rfl) (R_Mo_in (d + 267) mw_L (mw_R rd) (rh_up h 0 9 (0 : Int32)) g p1 (1 : Int32) (999 : Int32) rfl) ?_
    show rh_Ex _ _ _ ((21, [some (.ref 0), some (.int p0), some (.int p1), none, none, none, none], [.int (f_Mo_in p1 (1 : Int32) (999 : Int32))]), (rh_up h 0 9 (0 : Int32), g, mw_R rd)) _ _
    by_cases q3 : (f_Mo_in p1 (1 : Int32) (999 : Int32)) = 0
    · rw [if_pos q3] at hf
      refine rh_Ex.stp (s' := ((24, [some (.ref 0), some (.int p0), some (.int p1), none, none, none, none], []), (rh_up h 0 9 (0 : Int32), g, mw_R rd))) rfl (st_ifne_p q3) ?_
      refine rh_Ex.blk 1 (s' := ((25, [some (.ref 0), some (.int p0), some (.int p1), none, none, none, none], [.int (-1 : Int32)]), (rh_up h 0 9 (0 : Int32), g, mw_R rd))) rfl ?_
      obtain rfl := Option.some.inj hf
      exact rh_Ex.ret rfl rfl
    · rw [if_neg q3] at hf
      refine rh_Ex.stp (s' := ((26, [some (.ref 0), some (.int p0), some (.int p1), none, none, none, none], []), (rh_up h 0 9 (0 : Int32), g, mw_R rd))) rfl (st_ifne_n q3) ?_
      refine rh_Ex.blk 6 (s' := ((34, [some (.ref 0), some (.int p0), some (.int p1), some (.int (-1 : Int32)), some (.int (0 : Int32)), some (.int (0 : Int32)), none], []), (rh_up h 0 9 (0 : Int32), g, mw_R rd))) rfl ?_
      obtain ⟨r8, hr8, hf⟩ := rh_bq hf
      refine rh_Ex.fgt [some (.ref 0), some (.int p0), some (.int p1), some (.int (-1 : Int32)), some (.int (0 : Int32)), some (.int (0 : Int32)), none] ⟨rfl, rfl, rfl, rfl, rfl, rfl, trivial⟩ ?_
      refine rh_Ex.loop _ _ _ (lb_Mo_timber_34 d p0 p1  g _ _) rh_N _ r8 hr8 ?_
      refine rh_Ex.blk 5 (s' := ((85, [some (.ref 0), none, some (.int p1), some (.int r8.1), some (.int r8.2.1), none, none], [.int r8.2.1, .ref 0]), (rh_up r8.2.2.1 0 8 (0 : Int32), g, mw_R r8.2.2.2))) rfl ?_
      obtain ⟨x9, hx9, hf⟩ := rh_bq hf
      refine rh_Ex.call (j := 182) (rc := some 11) [.ref 0, .int r8.2.1] [] none rfl rfl rfl (Nat.le_of_ble_eq_true rfl) (R_Mo_tell (d + 267) r8.2.2.2 (rh_up r8.2.2.1 0 8 (0 : Int32)) g r8.2.1 hx9) ?_
      show rh_Ex _ _ _ ((88, [some (.ref 0), none, some (.int p1), some (.int r8.1), some (.int r8.2.1), none, none], []), (x9, g, mw_R r8.2.2.2)) _ _
      refine rh_Ex.blk 7 (s' := ((95, [some (.ref 0), none, some (.int p1), some (.int r8.1), some (.int r8.2.1), none, none], [.int p1, .int ((r8.1 + p1) - (1 : Int32)), .ref 0]), (x9, g, mw_R r8.2.2.2))) rfl ?_
      obtain ⟨q10, hf⟩ := rh_gq hf
      refine rh_Ex.stp (s' := ((96, [some (.ref 0), none, some (.int p1), some (.int r8.1), some (.int r8.2.1), none, none], [.int (((r8.1 + p1) - (1 : Int32)) / p1), .ref 0]), (x9, g, mw_R r8.2.2.2))) rfl (st_idiv q10) ?_
      obtain ⟨x11, hx11, hf⟩ := rh_bq hf
      refine rh_Ex.call (j := 182) (rc := some 11) [.ref 0, .int (((r8.1 + p1) - (1 : Int32)) / p1)] [] none rfl rfl rfl (Nat.le_of_ble_eq_true rfl) (R_Mo_tell (d + 267) r8.2.2.2 x9 g (((r8.1 + p1) - (1 : Int32)) / p1) hx11) ?_
      show rh_Ex _ _ _ ((99, [some (.ref 0), none, some (.int p1), some (.int r8.1), some (.int r8.2.1), none, none], []), (x11, g, mw_R r8.2.2.2)) _ _
      refine rh_Ex.blk 1 (s' := ((100, [some (.ref 0), none, some (.int p1), some (.int r8.1), some (.int r8.2.1), none, none], [.int r8.1]), (x11, g, mw_R r8.2.2.2))) rfl ?_
      obtain rfl := Option.some.inj hf
      exact rh_Ex.ret rfl rfl
def f_Mo_task (h : Nat → Nat → Int32) (p0 : Int32) (p1 : Int32) : Option (Int32 × (Nat → Nat → Int32)) :=
  (f_Mo_isHeavy p0).bind (fun x1 =>
    if x1 = 0 then
      some (((-1 : Int32), rh_up h 0 9 (0 : Int32)))
    else
      (f_Mo_isHeavy p1).bind (fun x3 =>
        if x3 = 0 then
          some (((-1 : Int32), rh_up h 0 9 (0 : Int32)))
        else
          if p0 ≤ p1 then
            if (h 0 29) = (6 : Int32) then
              some (((-2 : Int32), rh_up h 0 9 (0 : Int32)))
            else
              rh_g (0 ≤ ((2 : Int32) * (h 0 29)).toInt ∧ ((2 : Int32) * (h 0 29)).toInt < ((12 : Nat) : Int)) (
                rh_g (0 ≤ (((2 : Int32) * (h 0 29)) + (1 : Int32)).toInt ∧ (((2 : Int32) * (h 0 29)) + (1 : Int32)).toInt < ((12 : Nat) : Int)) (
                  some ((((h 0 29) + (1 : Int32)) - (1 : Int32), rh_up (rh_up (rh_up (rh_up h 0 9 (0 : Int32)) 14 ((2 : Int32) * (h 0 29)).toNatClampNeg p0) 14 (((2 : Int32) * (h 0 29)) + (1 : Int32)).toNatClampNeg p1) 0 29 ((h 0 29) + (1 : Int32))))
                )
              )
          else
            some (((-1 : Int32), rh_up h 0 9 (0 : Int32)))
      )
  )
set_option maxRecDepth 20000 in
set_option maxHeartbeats 4000000 in
theorem R_Mo_task (d : Nat) (rd : Option Nat) (h : Nat → Nat → Int32) (g : Nat → Nat → Int64) (p0 : Int32) (p1 : Int32) {z9 : Int32 × (Nat → Nat → Int32)} (hf : f_Mo_task h p0 p1 = some z9) : rh_M rh_PT mw_L (d + 3) 241 [.ref 0, .int p0, .int p1] (h, g, mw_R rd) (some (.int z9.1)) (z9.2, g, mw_R rd) := by
  unfold f_Mo_task at hf
  refine rh_go pt_241 (Nat.le_of_ble_eq_true rfl) (lv := [some (.ref 0), some (.int p0), some (.int p1)]) rfl ?_
  refine rh_Ex.blk 4 (s' := ((6, [some (.ref 0), some (.int p0), some (.int p1)], [.int p0]), (rh_up h 0 9 (0 : Int32), g, mw_R rd))) rfl ?_
  obtain ⟨x1, hx1, hf⟩ := rh_bq hf
  refine rh_Ex.call (j := 187) (rc := none) [.int p0] [] (some (.int x1)) rfl rfl trivial (Nat.le_of_ble_eq_true rfl) (R_Mo_isHeavy d mw_L (mw_R rd) (rh_up h 0 9 (0 : Int32)) g p0 hx1) ?_
  show rh_Ex _ _ _ ((9, [some (.ref 0), some (.int p0), some (.int p1)], [.int x1]), (rh_up h 0 9 (0 : Int32), g, mw_R rd)) _ _
  by_cases q2 : x1 = 0
  · rw [if_pos q2] at hf
    refine rh_Ex.stp (s' := ((24, [some (.ref 0), some (.int p0), some (.int p1)], []), (rh_up h 0 9 (0 : Int32), g, mw_R rd))) rfl (st_ifeq_p q2) ?_
    refine rh_Ex.blk 1 (s' := ((25, [some (.ref 0), some (.int p0), some (.int p1)], [.int (-1 : Int32)]), (rh_up h 0 9 (0 : Int32), g, mw_R rd))) rfl ?_
    obtain rfl := Option.some.inj hf
    exact rh_Ex.ret rfl rfl
  · rw [if_neg q2] at hf
    refine rh_Ex.stp (s' := ((12, [some (.ref 0), some (.int p0), some (.int p1)], []), (rh_up h 0 9 (0 : Int32), g, mw_R rd))) rfl (st_ifeq_n q2) ?_
    refine rh_Ex.blk 1 (s' := ((13, [some (.ref 0), some (.int p0), some (.int p1)], [.int p1]), (rh_up h 0 9 (0 : Int32), g, mw_R rd))) rfl ?_
    obtain ⟨x3, hx3, hf⟩ := rh_bq hf
    refine rh_Ex.call (j := 187) (rc := none) [.int p1] [] (some (.int x3)) rfl rfl trivial (Nat.le_of_ble_eq_true rfl) (R_Mo_isHeavy d mw_L (mw_R rd) (rh_up h 0 9 (0 : Int32)) g p1 hx3) ?_
    show rh_Ex _ _ _ ((16, [some (.ref 0), some (.int p0), some (.int p1)], [.int x3]), (rh_up h 0 9 (0 : Int32), g, mw_R rd)) _ _
    by_cases q4 : x3 = 0
    · rw [if_pos q4] at hf
      refine rh_Ex.stp (s' := ((24, [some (.ref 0), some (.int p0), some (.int p1)], []), (rh_up h 0 9 (0 : Int32), g, mw_R rd))) rfl (st_ifeq_p q4) ?_
      refine rh_Ex.blk 1 (s' := ((25, [some (.ref 0), some (.int p0), some (.int p1)], [.int (-1 : Int32)]), (rh_up h 0 9 (0 : Int32), g, mw_R rd))) rfl ?_
      obtain rfl := Option.some.inj hf
      exact rh_Ex.ret rfl rfl
    · rw [if_neg q4] at hf
      refine rh_Ex.stp (s' := ((19, [some (.ref 0), some (.int p0), some (.int p1)], []), (rh_up h 0 9 (0 : Int32), g, mw_R rd))) rfl (st_ifeq_n q4) ?_
      refine rh_Ex.blk 2 (s' := ((21, [some (.ref 0), some (.int p0), some (.int p1)], [.int p1, .int p0]), (rh_up h 0 9 (0 : Int32), g, mw_R rd))) rfl ?_
      by_cases q5 : p0 ≤ p1
      · rw [if_pos q5] at hf
        refine rh_Ex.stp (s' := ((26, [some (.ref 0), some (.int p0), some (.int p1)], []), (rh_up h 0 9 (0 : Int32), g, mw_R rd))) rfl (st_icle_p q5) ?_
        refine rh_Ex.blk 3 (s' := ((32, [some (.ref 0), some (.int p0), some (.int p1)], [.int (6 : Int32), .int (h 0 29)]), (rh_up h 0 9 (0 : Int32), g, mw_R rd))) rfl ?_
        by_cases q6 : (h 0 29) = (6 : Int32)
        · rw [if_pos q6] at hf
          refine rh_Ex.stp (s' := ((35, [some (.ref 0), some (.int p0), some (.int p1)], []), (rh_up h 0 9 (0 : Int32), g, mw_R rd))) rfl (st_icne_p q6) ?_
          refine rh_Ex.blk 1 (s' := ((37, [some (.ref 0), some (.int p0), some (.int p1)], [.int (-2 : Int32)]), (rh_up h 0 9 (0 : Int32), g, mw_R rd))) rfl ?_
          obtain rfl := Option.some.inj hf
          exact rh_Ex.ret rfl rfl
        · rw [if_neg q6] at hf
          refine rh_Ex.stp (s' := ((38, [some (.ref 0), some (.int p0), some (.int p1)], []), (rh_up h 0 9 (0 : Int32), g, mw_R rd))) rfl (st_icne_n q6) ?_
          refine rh_Ex.blk 7 (s' := ((49, [some (.ref 0), some (.int p0), some (.int p1)], [.int p0, .int ((2 : Int32) * (h 0 29)), .ref 14]), (rh_up h 0 9 (0 : Int32), g, mw_R rd))) rfl ?_
          obtain ⟨q7, hf⟩ := rh_gq hf
          refine rh_Ex.stp (s' := ((50, [some (.ref 0), some (.int p0), some (.int p1)], []), (rh_up (rh_up h 0 9 (0 : Int32)) 14 ((2 : Int32) * (h 0 29)).toNatClampNeg p0, g, mw_R rd))) rfl (st_iast (n := 12) rfl q7) ?_
          refine rh_Ex.blk 9 (s' := ((63, [some (.ref 0), some (.int p0), some (.int p1)], [.int p1, .int (((2 : Int32) * (h 0 29)) + (1 : Int32)), .ref 14]), (rh_up (rh_up h 0 9 (0 : Int32)) 14 ((2 : Int32) * (h 0 29)).toNatClampNeg p0, g, mw_R rd))) rfl ?_
          obtain ⟨q8, hf⟩ := rh_gq hf
          refine rh_Ex.stp (s' := ((64, [some (.ref 0), some (.int p0), some (.int p1)], []), (rh_up (rh_up (rh_up h 0 9 (0 : Int32)) 14 ((2 : Int32) * (h 0 29)).toNatClampNeg p0) 14 (((2 : Int32) * (h 0 29)) + (1 : Int32)).toNatClampNeg p1, g, mw_R rd))) rfl (st_iast (n := 12) rfl q8) ?_
          refine rh_Ex.blk 10 (s' := ((80, [some (.ref 0), some (.int p0), some (.int p1)], [.int (((h 0 29) + (1 : Int32)) - (1 : Int32))]), (rh_up (rh_up (rh_up (rh_up h 0 9 (0 : Int32)) 14 ((2 : Int32) * (h 0 29)).toNatClampNeg p0) 14 (((2 : Int32) * (h 0 29)) + (1 : Int32)).toNatClampNeg p1) 0 29 ((h 0 29) + (1 : Int32)), g, mw_R rd))) rfl ?_
          obtain rfl := Option.some.inj hf
          exact rh_Ex.ret rfl rfl
      · rw [if_neg q5] at hf
        refine rh_Ex.stp (s' := ((24, [some (.ref 0), some (.int p0), some (.int p1)], []), (rh_up h 0 9 (0 : Int32), g, mw_R rd))) rfl (st_icle_n q5) ?_
        refine rh_Ex.blk 1 (s' := ((25, [some (.ref 0), some (.int p0), some (.int p1)], [.int (-1 : Int32)]), (rh_up h 0 9 (0 : Int32), g, mw_R rd))) rfl ?_
        obtain rfl := Option.some.inj hf
        exact rh_Ex.ret rfl rfl
def f_Mo_forget (h : Nat → Nat → Int32) : Int32 × (Nat → Nat → Int32) :=
  (h 0 29, rh_up (rh_up h 0 9 (0 : Int32)) 0 29 (0 : Int32))
set_option maxRecDepth 20000 in
set_option maxHeartbeats 4000000 in
theorem R_Mo_forget (d : Nat) (rd : Option Nat) (h : Nat → Nat → Int32) (g : Nat → Nat → Int64)  {z9 : Int32 × (Nat → Nat → Int32)} (hf : f_Mo_forget h = z9) : rh_M rh_PT mw_L (d + 1) 242 [.ref 0] (h, g, mw_R rd) (some (.int z9.1)) (z9.2, g, mw_R rd) := by
  unfold f_Mo_forget at hf
  refine rh_go pt_242 (Nat.le_of_ble_eq_true rfl) (lv := [some (.ref 0), none]) rfl ?_
  refine rh_Ex.blk 10 (s' := ((16, [some (.ref 0), some (.int (h 0 29))], [.int (h 0 29)]), (rh_up (rh_up h 0 9 (0 : Int32)) 0 29 (0 : Int32), g, mw_R rd))) rfl ?_
  subst hf
  exact rh_Ex.ret rfl rfl
def f_Mo_does (h : Nat → Nat → Int32) (p0 : Int32) (p1 : Int32) : Option (Int32) :=
  if p1 = 0 then
    some ((0 : Int32))
  else
    rh_g (0 ≤ p1.toInt ∧ p1.toInt < ((512 : Nat) : Int)) (
      rh_g (0 ≤ ((2 : Int32) * p0).toInt ∧ ((2 : Int32) * p0).toInt < ((12 : Nat) : Int)) (
        rh_g (0 ≤ (((2 : Int32) * p0) + (1 : Int32)).toInt ∧ (((2 : Int32) * p0) + (1 : Int32)).toInt < ((12 : Nat) : Int)) (
          if (f_Mo_in (h 9 p1.toNatClampNeg) (h 14 ((2 : Int32) * p0).toNatClampNeg) (h 14 (((2 : Int32) * p0) + (1 : Int32)).toNatClampNeg)) = 0 then
            some ((0 : Int32))
          else
            some ((1 : Int32))
        )
      )
    )
set_option maxRecDepth 20000 in
set_option maxHeartbeats 4000000 in
theorem R_Mo_does (d : Nat) (rd : Option Nat) (h : Nat → Nat → Int32) (g : Nat → Nat → Int64) (p0 : Int32) (p1 : Int32) {z9 : Int32} (hf : f_Mo_does h p0 p1 = some z9) : rh_M rh_PT mw_L (d + 2) 243 [.ref 0, .int p0, .int p1] (h, g, mw_R rd) (some (.int z9)) (h, g, mw_R rd) := by
  unfold f_Mo_does at hf
  refine rh_go pt_243 (Nat.le_of_ble_eq_true rfl) (lv := [some (.ref 0), some (.int p0), some (.int p1)]) rfl ?_
  refine rh_Ex.blk 1 (s' := ((1, [some (.ref 0), some (.int p0), some (.int p1)], [.int p1]), (h, g, mw_R rd))) rfl ?_
  by_cases q1 : p1 = 0
  · rw [if_pos q1] at hf
    refine rh_Ex.stp (s' := ((38, [some (.ref 0), some (.int p0), some (.int p1)], []), (h, g, mw_R rd))) rfl (st_ifeq_p q1) ?_
    refine rh_Ex.blk 1 (s' := ((39, [some (.ref 0), some (.int p0), some (.int p1)], [.int (0 : Int32)]), (h, g, mw_R rd))) rfl ?_
    obtain rfl := Option.some.inj hf
    exact rh_Ex.ret rfl ⟨rfl, Or.inl rfl⟩
  · rw [if_neg q1] at hf
    refine rh_Ex.stp (s' := ((4, [some (.ref 0), some (.int p0), some (.int p1)], []), (h, g, mw_R rd))) rfl (st_ifeq_n q1) ?_
    refine rh_Ex.blk 3 (s' := ((9, [some (.ref 0), some (.int p0), some (.int p1)], [.int p1, .ref 9]), (h, g, mw_R rd))) rfl ?_
    obtain ⟨q2, hf⟩ := rh_gq hf
    refine rh_Ex.stp (s' := ((10, [some (.ref 0), some (.int p0), some (.int p1)], [.int (h 9 p1.toNatClampNeg)]), (h, g, mw_R rd))) rfl (st_iald (n := 512) rfl q2) ?_
    refine rh_Ex.blk 5 (s' := ((17, [some (.ref 0), some (.int p0), some (.int p1)], [.int ((2 : Int32) * p0), .ref 14, .int (h 9 p1.toNatClampNeg)]), (h, g, mw_R rd))) rfl ?_
    obtain ⟨q3, hf⟩ := rh_gq hf
    refine rh_Ex.stp (s' := ((18, [some (.ref 0), some (.int p0), some (.int p1)], [.int (h 14 ((2 : Int32) * p0).toNatClampNeg), .int (h 9 p1.toNatClampNeg)]), (h, g, mw_R rd))) rfl (st_iald (n := 12) rfl q3) ?_
    refine rh_Ex.blk 7 (s' := ((27, [some (.ref 0), some (.int p0), some (.int p1)], [.int (((2 : Int32) * p0) + (1 : Int32)), .ref 14, .int (h 14 ((2 : Int32) * p0).toNatClampNeg), .int (h 9 p1.toNatClampNeg)]), (h, g, mw_R rd))) rfl ?_
    obtain ⟨q4, hf⟩ := rh_gq hf
    refine rh_Ex.stp (s' := ((28, [some (.ref 0), some (.int p0), some (.int p1)], [.int (h 14 (((2 : Int32) * p0) + (1 : Int32)).toNatClampNeg), .int (h 14 ((2 : Int32) * p0).toNatClampNeg), .int (h 9 p1.toNatClampNeg)]), (h, g, mw_R rd))) rfl (st_iald (n := 12) rfl q4) ?_
    refine rh_Ex.call (j := 179) (rc := none) [.int (h 9 p1.toNatClampNeg), .int (h 14 ((2 : Int32) * p0).toNatClampNeg), .int (h 14 (((2 : Int32) * p0) + (1 : Int32)).toNatClampNeg)] [] (some (.int (f_Mo_in (h 9 p1.toNatClampNeg) (h 14 ((2 : Int32) * p0).toNatClampNeg) (h 14 (((2 : Int32) * p0) + (1 : Int32)).toNatClampNeg)))) rfl rfl trivial (Nat.le_of_ble_eq_true rfl) (R_Mo_in d mw_L (mw_R rd) h g (h 9 p1.toNatClampNeg) (h 14 ((2 : Int32) * p0).toNatClampNeg) (h 14 (((2 : Int32) * p0) + (1 : Int32)).toNatClampNeg) rfl) ?_
    show rh_Ex _ _ _ ((31, [some (.ref 0), some (.int p0), some (.int p1)], [.int (f_Mo_in (h 9 p1.toNatClampNeg) (h 14 ((2 : Int32) * p0).toNatClampNeg) (h 14 (((2 : Int32) * p0) + (1 : Int32)).toNatClampNeg))]), (h, g, mw_R rd)) _ _
    by_cases q5 : (f_Mo_in (h 9 p1.toNatClampNeg) (h 14 ((2 : Int32) * p0).toNatClampNeg) (h 14 (((2 : Int32) * p0) + (1 : Int32)).toNatClampNeg)) = 0
    · rw [if_pos q5] at hf
      refine rh_Ex.stp (s' := ((38, [some (.ref 0), some (.int p0), some (.int p1)], []), (h, g, mw_R rd))) rfl (st_ifeq_p q5) ?_
      refine rh_Ex.blk 1 (s' := ((39, [some (.ref 0), some (.int p0), some (.int p1)], [.int (0 : Int32)]), (h, g, mw_R rd))) rfl ?_
      obtain rfl := Option.some.inj hf
      exact rh_Ex.ret rfl ⟨rfl, Or.inl rfl⟩
    · rw [if_neg q5] at hf
      refine rh_Ex.stp (s' := ((34, [some (.ref 0), some (.int p0), some (.int p1)], []), (h, g, mw_R rd))) rfl (st_ifeq_n q5) ?_
      refine rh_Ex.blk 2 (s' := ((39, [some (.ref 0), some (.int p0), some (.int p1)], [.int (1 : Int32)]), (h, g, mw_R rd))) rfl ?_
      obtain rfl := Option.some.inj hf
      exact rh_Ex.ret rfl ⟨rfl, Or.inr rfl⟩
def b_Mo_crewOf_4 (u1 : Int32) (h : Nat → Nat → Int32) : (Int32 × Int32) → Option ((Int32 × Int32) ⊕ (Int32)) := fun s4 =>
  if (f_Mo_everybody h) < s4.2 then
    some (.inr s4.1)
  else
    (f_Mo_does h u1 s4.2).bind (fun x3 =>
      if x3 = 0 then
        some (.inl (s4.1, s4.2 + (1 : Int32)))
      else
        if s4.1 = 0 then
          some (.inl (s4.2, s4.2 + (1 : Int32)))
        else
          if (f_In_bitCount s4.1) ≤ (f_In_bitCount s4.2) then
            some (.inl (s4.1, s4.2 + (1 : Int32)))
          else
            some (.inl (s4.2, s4.2 + (1 : Int32)))
    )
def f_Mo_crewOf (h : Nat → Nat → Int32) (p0 : Int32) : Option (Int32) :=
  (rh_loop (b_Mo_crewOf_4 p0 h) rh_N ((0 : Int32), (1 : Int32))).bind (fun r7 =>
    some (r7)
  )
set_option maxRecDepth 20000 in
set_option maxHeartbeats 4000000 in
theorem lb_Mo_crewOf_4 (d : Nat) (rd : Option Nat) (u1 : Int32) (h : Nat → Nat → Int32) (g : Nat → Nat → Int64) (v9 : Option Value) (h9 : rh_H) : ∀ s4 x9, b_Mo_crewOf_4 u1 h s4 = some x9 → Sum.elim (fun s4 => rh_Ex (rh_M rh_PT mw_L (d + 2)) mw_L pg_X12_crewOf ((4, [some (.ref 0), some (.int u1), some (.int s4.1), some (.int s4.2)], []), (h, g, mw_R rd)) v9 h9) (fun e9 => rh_Ex (rh_M rh_PT mw_L (d + 2)) mw_L pg_X12_crewOf ((44, [none, none, some (.int e9), none], []), (h, g, mw_R rd)) v9 h9) x9 → rh_Ex (rh_M rh_PT mw_L (d + 2)) mw_L pg_X12_crewOf ((4, [some (.ref 0), some (.int u1), some (.int s4.1), some (.int s4.2)], []), (h, g, mw_R rd)) v9 h9 := by
  intro s4 x9 hf hk
  unfold b_Mo_crewOf_4 at hf
  refine rh_Ex.blk 2 (s' := ((6, [some (.ref 0), some (.int u1), some (.int s4.1), some (.int s4.2)], [.ref 0, .int s4.2]), (h, g, mw_R rd))) rfl ?_
  refine rh_Ex.call (j := 184) (rc := some 11) [.ref 0] [.int s4.2] (some (.int (f_Mo_everybody h))) rfl rfl rfl (Nat.le_of_ble_eq_true rfl) (R_Mo_everybody (d + 1) rd h g  rfl) ?_
  show rh_Ex _ _ _ ((9, [some (.ref 0), some (.int u1), some (.int s4.1), some (.int s4.2)], [.int (f_Mo_everybody h), .int s4.2]), (h, g, mw_R rd)) _ _
  by_cases q2 : (f_Mo_everybody h) < s4.2
  · rw [if_pos q2] at hf
    refine rh_Ex.stp (s' := ((44, [some (.ref 0), some (.int u1), some (.int s4.1), some (.int s4.2)], []), (h, g, mw_R rd))) rfl (st_icgt_p q2) ?_
    obtain rfl := Option.some.inj hf
    refine rh_Ex.fgt [none, none, some (.int s4.1), none] ⟨rfl, trivial⟩ ?_
    exact hk
  · rw [if_neg q2] at hf
    refine rh_Ex.stp (s' := ((12, [some (.ref 0), some (.int u1), some (.int s4.1), some (.int s4.2)], []), (h, g, mw_R rd))) rfl (st_icgt_n q2) ?_
    refine rh_Ex.blk 3 (s' := ((15, [some (.ref 0), some (.int u1), some (.int s4.1), some (.int s4.2)], [.int s4.2, .int u1, .ref 0]), (h, g, mw_R rd))) rfl ?_
    obtain ⟨x3, hx3, hf⟩ := rh_bq hf
    refine rh_Ex.call (j := 243) (rc := some 11) [.ref 0, .int u1, .int s4.2] [] (some (.int x3)) rfl rfl rfl (Nat.le_of_ble_eq_true rfl) (R_Mo_does d rd h g u1 s4.2 hx3) ?_
    show rh_Ex _ _ _ ((18, [some (.ref 0), some (.int u1), some (.int s4.1), some (.int s4.2)], [.int x3]), (h, g, mw_R rd)) _ _
    by_cases q4 : x3 = 0
    · rw [if_pos q4] at hf
      refine rh_Ex.stp (s' := ((38, [some (.ref 0), some (.int u1), some (.int s4.1), some (.int s4.2)], []), (h, g, mw_R rd))) rfl (st_ifeq_p q4) ?_
      refine rh_Ex.blk 2 (s' := ((4, [some (.ref 0), some (.int u1), some (.int s4.1), some (.int (s4.2 + (1 : Int32)))], []), (h, g, mw_R rd))) rfl ?_
      obtain rfl := Option.some.inj hf
      refine rh_Ex.fgt [some (.ref 0), some (.int u1), some (.int s4.1), some (.int (s4.2 + (1 : Int32)))] ⟨rfl, rfl, rfl, rfl, trivial⟩ ?_
      exact hk
    · rw [if_neg q4] at hf
      refine rh_Ex.stp (s' := ((21, [some (.ref 0), some (.int u1), some (.int s4.1), some (.int s4.2)], []), (h, g, mw_R rd))) rfl (st_ifeq_n q4) ?_
      refine rh_Ex.blk 1 (s' := ((22, [some (.ref 0), some (.int u1), some (.int s4.1), some (.int s4.2)], [.int s4.1]), (h, g, mw_R rd))) rfl ?_
      by_cases q5 : s4.1 = 0
      · rw [if_pos q5] at hf
        refine rh_Ex.stp (s' := ((36, [some (.ref 0), some (.int u1), some (.int s4.1), some (.int s4.2)], []), (h, g, mw_R rd))) rfl (st_ifeq_p q5) ?_
        refine rh_Ex.blk 4 (s' := ((4, [some (.ref 0), some (.int u1), some (.int s4.2), some (.int (s4.2 + (1 : Int32)))], []), (h, g, mw_R rd))) rfl ?_
        obtain rfl := Option.some.inj hf
        refine rh_Ex.fgt [some (.ref 0), some (.int u1), some (.int s4.2), some (.int (s4.2 + (1 : Int32)))] ⟨rfl, rfl, rfl, rfl, trivial⟩ ?_
        exact hk
      · rw [if_neg q5] at hf
        refine rh_Ex.stp (s' := ((25, [some (.ref 0), some (.int u1), some (.int s4.1), some (.int s4.2)], []), (h, g, mw_R rd))) rfl (st_ifeq_n q5) ?_
        refine rh_Ex.blk 1 (s' := ((26, [some (.ref 0), some (.int u1), some (.int s4.1), some (.int s4.2)], [.int s4.2]), (h, g, mw_R rd))) rfl ?_
        refine rh_Ex.call (j := 298) (rc := none) [.int s4.2] [] (some (.int (f_In_bitCount s4.2))) rfl rfl trivial (Nat.le_of_ble_eq_true rfl) (R_In_bitCount (d + 1) mw_L (mw_R rd) h g s4.2 rfl) ?_
        show rh_Ex _ _ _ ((29, [some (.ref 0), some (.int u1), some (.int s4.1), some (.int s4.2)], [.int (f_In_bitCount s4.2)]), (h, g, mw_R rd)) _ _
        refine rh_Ex.blk 1 (s' := ((30, [some (.ref 0), some (.int u1), some (.int s4.1), some (.int s4.2)], [.int s4.1, .int (f_In_bitCount s4.2)]), (h, g, mw_R rd))) rfl ?_
        refine rh_Ex.call (j := 298) (rc := none) [.int s4.1] [.int (f_In_bitCount s4.2)] (some (.int (f_In_bitCount s4.1))) rfl rfl trivial (Nat.le_of_ble_eq_true rfl) (R_In_bitCount (d + 1) mw_L (mw_R rd) h g s4.1 rfl) ?_
        show rh_Ex _ _ _ ((33, [some (.ref 0), some (.int u1), some (.int s4.1), some (.int s4.2)], [.int (f_In_bitCount s4.1), .int (f_In_bitCount s4.2)]), (h, g, mw_R rd)) _ _
        by_cases q6 : (f_In_bitCount s4.1) ≤ (f_In_bitCount s4.2)
        · rw [if_pos q6] at hf
          refine rh_Ex.stp (s' := ((38, [some (.ref 0), some (.int u1), some (.int s4.1), some (.int s4.2)], []), (h, g, mw_R rd))) rfl (st_icge_p q6) ?_
          refine rh_Ex.blk 2 (s' := ((4, [some (.ref 0), some (.int u1), some (.int s4.1), some (.int (s4.2 + (1 : Int32)))], []), (h, g, mw_R rd))) rfl ?_
          obtain rfl := Option.some.inj hf
          refine rh_Ex.fgt [some (.ref 0), some (.int u1), some (.int s4.1), some (.int (s4.2 + (1 : Int32)))] ⟨rfl, rfl, rfl, rfl, trivial⟩ ?_
          exact hk
        · rw [if_neg q6] at hf
          refine rh_Ex.stp (s' := ((36, [some (.ref 0), some (.int u1), some (.int s4.1), some (.int s4.2)], []), (h, g, mw_R rd))) rfl (st_icge_n q6) ?_
          refine rh_Ex.blk 4 (s' := ((4, [some (.ref 0), some (.int u1), some (.int s4.2), some (.int (s4.2 + (1 : Int32)))], []), (h, g, mw_R rd))) rfl ?_
          obtain rfl := Option.some.inj hf
          refine rh_Ex.fgt [some (.ref 0), some (.int u1), some (.int s4.2), some (.int (s4.2 + (1 : Int32)))] ⟨rfl, rfl, rfl, rfl, trivial⟩ ?_
          exact hk
set_option maxRecDepth 20000 in
set_option maxHeartbeats 4000000 in
theorem R_Mo_crewOf (d : Nat) (rd : Option Nat) (h : Nat → Nat → Int32) (g : Nat → Nat → Int64) (p0 : Int32) {z9 : Int32} (hf : f_Mo_crewOf h p0 = some z9) : rh_M rh_PT mw_L (d + 3) 244 [.ref 0, .int p0] (h, g, mw_R rd) (some (.int z9)) (h, g, mw_R rd) := by
  unfold f_Mo_crewOf at hf
  refine rh_go pt_244 (Nat.le_of_ble_eq_true rfl) (lv := [some (.ref 0), some (.int p0), none, none]) rfl ?_
  refine rh_Ex.blk 4 (s' := ((4, [some (.ref 0), some (.int p0), some (.int (0 : Int32)), some (.int (1 : Int32))], []), (h, g, mw_R rd))) rfl ?_
  obtain ⟨r7, hr7, hf⟩ := rh_bq hf
  refine rh_Ex.fgt [some (.ref 0), some (.int p0), some (.int (0 : Int32)), some (.int (1 : Int32))] ⟨rfl, rfl, rfl, rfl, trivial⟩ ?_
  refine rh_Ex.loop _ _ _ (lb_Mo_crewOf_4 d rd p0 h  g _ _) rh_N _ r7 hr7 ?_
  refine rh_Ex.blk 1 (s' := ((45, [none, none, some (.int r7), none], [.int r7]), (h, g, mw_R rd))) rfl ?_
  obtain rfl := Option.some.inj hf
  exact rh_Ex.ret rfl rfl
def f_Mo_crew (h : Nat → Nat → Int32) (rd : Option Nat) (p0 : Int32) (p1 : Int32) : Option (Int32 × (Nat → Nat → Int32) × (Option Nat)) :=
  if (f_Mo_in p0 (0 : Int32) ((h 0 29) - (1 : Int32))) = 0 then
    some (((-1 : Int32), rh_up h 0 9 (0 : Int32), rd))
  else
    (f_Mo_isBell p1).bind (fun x2 =>
      if x2 = 0 then
        some (((-1 : Int32), rh_up h 0 9 (0 : Int32), rd))
      else
        (f_Mo_findSets (rh_up h 0 9 (0 : Int32)) rd ((f_Mo_dawn (rh_up h 0 9 (0 : Int32))) + p1)).bind (fun x4 =>
          (f_Mo_crewOf x4.1 p0).bind (fun x5 =>
            if x5 = 0 then
              some (((-2 : Int32), x4.1, x4.2))
            else
              (f_Mo_tell (rh_up x4.1 0 8 (0 : Int32)) x5).bind (fun x7 =>
                some (((f_In_bitCount x5), x7, x4.2))
              )
          )
        )
    )
set_option maxRecDepth 20000 in
set_option maxHeartbeats 4000000 in
theorem R_Mo_crew (d : Nat) (rd : Option Nat) (h : Nat → Nat → Int32) (g : Nat → Nat → Int64) (p0 : Int32) (p1 : Int32) {z9 : Int32 × (Nat → Nat → Int32) × (Option Nat)} (hf : f_Mo_crew h rd p0 p1 = some z9) : rh_M rh_PT mw_L (d + 269) 245 [.ref 0, .int p0, .int p1] (h, g, mw_R rd) (some (.int z9.1)) (z9.2.1, g, mw_R z9.2.2) := by
  unfold f_Mo_crew at hf
  refine rh_go pt_245 (Nat.le_of_ble_eq_true rfl) (lv := [some (.ref 0), some (.int p0), some (.int p1), none]) rfl ?_
  refine rh_Ex.blk 9 (s' := ((13, [some (.ref 0), some (.int p0), some (.int p1), none], [.int ((h 0 29) - (1 : Int32)), .int (0 : Int32), .int p0]), (rh_up h 0 9 (0 : Int32), g, mw_R rd))) rfl ?_
  refine rh_Ex.call (j := 179) (rc := none) [.int p0, .int (0 : Int32), .int ((h 0 29) - (1 : Int32))] [] (some (.int (f_Mo_in p0 (0 : Int32) ((h 0 29) - (1 : Int32))))) rfl rfl trivial (Nat.le_of_ble_eq_true rfl) (R_Mo_in (d + 267) mw_L (mw_R rd) (rh_up h 0 9 (0 : Int32)) g p0 (0 : Int32) ((h 0 29) - (1 : Int32)) rfl) ?_
  show rh_Ex _ _ _ ((16, [some (.ref 0), some (.int p0), some (.int p1), none], [.int (f_Mo_in p0 (0 : Int32) ((h 0 29) - (1 : Int32)))]), (rh_up h 0 9 (0 : Int32), g, mw_R rd)) _ _
  by_cases q1 : (f_Mo_in p0 (0 : Int32) ((h 0 29) - (1 : Int32))) = 0
  · rw [if_pos q1] at hf
    refine rh_Ex.stp (s' := ((26, [some (.ref 0), some (.int p0), some (.int p1), none], []), (rh_up h 0 9 (0 : Int32), g, mw_R rd))) rfl (st_ifeq_p q1) ?_
    refine rh_Ex.blk 1 (s' := ((27, [some (.ref 0), some (.int p0), some (.int p1), none], [.int (-1 : Int32)]), (rh_up h 0 9 (0 : Int32), g, mw_R rd))) rfl ?_
    obtain rfl := Option.some.inj hf
    exact rh_Ex.ret rfl rfl
  · rw [if_neg q1] at hf
    refine rh_Ex.stp (s' := ((19, [some (.ref 0), some (.int p0), some (.int p1), none], []), (rh_up h 0 9 (0 : Int32), g, mw_R rd))) rfl (st_ifeq_n q1) ?_
    refine rh_Ex.blk 1 (s' := ((20, [some (.ref 0), some (.int p0), some (.int p1), none], [.int p1]), (rh_up h 0 9 (0 : Int32), g, mw_R rd))) rfl ?_
    obtain ⟨x2, hx2, hf⟩ := rh_bq hf
    refine rh_Ex.call (j := 186) (rc := none) [.int p1] [] (some (.int x2)) rfl rfl trivial (Nat.le_of_ble_eq_true rfl) (R_Mo_isBell (d + 266) mw_L (mw_R rd) (rh_up h 0 9 (0 : Int32)) g p1 hx2) ?_
    show rh_Ex _ _ _ ((23, [some (.ref 0), some (.int p0), some (.int p1), none], [.int x2]), (rh_up h 0 9 (0 : Int32), g, mw_R rd)) _ _
    by_cases q3 : x2 = 0
    · rw [if_pos q3] at hf
      refine rh_Ex.stp (s' := ((26, [some (.ref 0), some (.int p0), some (.int p1), none], []), (rh_up h 0 9 (0 : Int32), g, mw_R rd))) rfl (st_ifne_p q3) ?_
      refine rh_Ex.blk 1 (s' := ((27, [some (.ref 0), some (.int p0), some (.int p1), none], [.int (-1 : Int32)]), (rh_up h 0 9 (0 : Int32), g, mw_R rd))) rfl ?_
      obtain rfl := Option.some.inj hf
      exact rh_Ex.ret rfl rfl
    · rw [if_neg q3] at hf
      refine rh_Ex.stp (s' := ((28, [some (.ref 0), some (.int p0), some (.int p1), none], []), (rh_up h 0 9 (0 : Int32), g, mw_R rd))) rfl (st_ifne_n q3) ?_
      refine rh_Ex.blk 2 (s' := ((30, [some (.ref 0), some (.int p0), some (.int p1), none], [.ref 0, .ref 0]), (rh_up h 0 9 (0 : Int32), g, mw_R rd))) rfl ?_
      refine rh_Ex.call (j := 209) (rc := some 11) [.ref 0] [.ref 0] (some (.int (f_Mo_dawn (rh_up h 0 9 (0 : Int32))))) rfl rfl rfl (Nat.le_of_ble_eq_true rfl) (R_Mo_dawn (d + 267) rd (rh_up h 0 9 (0 : Int32)) g  rfl) ?_
      show rh_Ex _ _ _ ((33, [some (.ref 0), some (.int p0), some (.int p1), none], [.int (f_Mo_dawn (rh_up h 0 9 (0 : Int32))), .ref 0]), (rh_up h 0 9 (0 : Int32), g, mw_R rd)) _ _
      refine rh_Ex.blk 2 (s' := ((35, [some (.ref 0), some (.int p0), some (.int p1), none], [.int ((f_Mo_dawn (rh_up h 0 9 (0 : Int32))) + p1), .ref 0]), (rh_up h 0 9 (0 : Int32), g, mw_R rd))) rfl ?_
      obtain ⟨x4, hx4, hf⟩ := rh_bq hf
      refine rh_Ex.call (j := 208) (rc := some 11) [.ref 0, .int ((f_Mo_dawn (rh_up h 0 9 (0 : Int32))) + p1)] [] none rfl rfl rfl (Nat.le_of_ble_eq_true rfl) (R_Mo_findSets d rd (rh_up h 0 9 (0 : Int32)) g ((f_Mo_dawn (rh_up h 0 9 (0 : Int32))) + p1) hx4) ?_
      show rh_Ex _ _ _ ((38, [some (.ref 0), some (.int p0), some (.int p1), none], []), (x4.1, g, mw_R x4.2)) _ _
      refine rh_Ex.blk 2 (s' := ((40, [some (.ref 0), some (.int p0), some (.int p1), none], [.int p0, .ref 0]), (x4.1, g, mw_R x4.2))) rfl ?_
      obtain ⟨x5, hx5, hf⟩ := rh_bq hf
      refine rh_Ex.call (j := 244) (rc := some 11) [.ref 0, .int p0] [] (some (.int x5)) rfl rfl rfl (Nat.le_of_ble_eq_true rfl) (R_Mo_crewOf (d + 265) x4.2 x4.1 g p0 hx5) ?_
      show rh_Ex _ _ _ ((43, [some (.ref 0), some (.int p0), some (.int p1), none], [.int x5]), (x4.1, g, mw_R x4.2)) _ _
      refine rh_Ex.blk 2 (s' := ((45, [some (.ref 0), some (.int p0), some (.int p1), some (.int x5)], [.int x5]), (x4.1, g, mw_R x4.2))) rfl ?_
      by_cases q6 : x5 = 0
      · rw [if_pos q6] at hf
        refine rh_Ex.stp (s' := ((48, [some (.ref 0), some (.int p0), some (.int p1), some (.int x5)], []), (x4.1, g, mw_R x4.2))) rfl (st_ifne_p q6) ?_
        refine rh_Ex.blk 1 (s' := ((50, [some (.ref 0), some (.int p0), some (.int p1), some (.int x5)], [.int (-2 : Int32)]), (x4.1, g, mw_R x4.2))) rfl ?_
        obtain rfl := Option.some.inj hf
        exact rh_Ex.ret rfl rfl
      · rw [if_neg q6] at hf
        refine rh_Ex.stp (s' := ((51, [some (.ref 0), some (.int p0), some (.int p1), some (.int x5)], []), (x4.1, g, mw_R x4.2))) rfl (st_ifne_n q6) ?_
        refine rh_Ex.blk 5 (s' := ((58, [some (.ref 0), some (.int p0), some (.int p1), some (.int x5)], [.int x5, .ref 0]), (rh_up x4.1 0 8 (0 : Int32), g, mw_R x4.2))) rfl ?_
        obtain ⟨x7, hx7, hf⟩ := rh_bq hf
        refine rh_Ex.call (j := 182) (rc := some 11) [.ref 0, .int x5] [] none rfl rfl rfl (Nat.le_of_ble_eq_true rfl) (R_Mo_tell (d + 267) x4.2 (rh_up x4.1 0 8 (0 : Int32)) g x5 hx7) ?_
        show rh_Ex _ _ _ ((61, [some (.ref 0), some (.int p0), some (.int p1), some (.int x5)], []), (x7, g, mw_R x4.2)) _ _
        refine rh_Ex.blk 1 (s' := ((62, [some (.ref 0), some (.int p0), some (.int p1), some (.int x5)], [.int x5]), (x7, g, mw_R x4.2))) rfl ?_
        refine rh_Ex.call (j := 298) (rc := none) [.int x5] [] (some (.int (f_In_bitCount x5))) rfl rfl trivial (Nat.le_of_ble_eq_true rfl) (R_In_bitCount (d + 267) mw_L (mw_R x4.2) x7 g x5 rfl) ?_
        show rh_Ex _ _ _ ((65, [some (.ref 0), some (.int p0), some (.int p1), some (.int x5)], [.int (f_In_bitCount x5)]), (x7, g, mw_R x4.2)) _ _
        obtain rfl := Option.some.inj hf
        exact rh_Ex.ret rfl rfl
def b_Mo_findAble_27 (u1 : Int32) (rd : Option Nat) : (Int32 × (Nat → Nat → Int32)) → Option ((Int32 × (Nat → Nat → Int32)) ⊕ ((Nat → Nat → Int32))) := fun s27 =>
  if (s27.2 0 29) ≤ s27.1 then
    some (.inr s27.2)
  else
    rh_g (0 ≤ u1.toInt ∧ u1.toInt < ((9 : Nat) : Int)) (
      (f_Mo_crewOf s27.2 s27.1).bind (fun x8 =>
        if x8 = 0 then
          rh_g (0 ≤ u1.toInt ∧ u1.toInt < ((9 : Nat) : Int)) (
            some (.inl (s27.1 + (1 : Int32), rh_up s27.2 15 u1.toNatClampNeg ((s27.2 15 u1.toNatClampNeg) ||| (0 : Int32))))
          )
        else
          rh_g (0 ≤ u1.toInt ∧ u1.toInt < ((9 : Nat) : Int)) (
            some (.inl (s27.1 + (1 : Int32), rh_up s27.2 15 u1.toNatClampNeg ((s27.2 15 u1.toNatClampNeg) ||| ((1 : Int32) <<< (s27.1 &&& 31)))))
          )
      )
    )
def b_Mo_findAble_2  : (Int32 × (Nat → Nat → Int32) × (Option Nat)) → Option ((Int32 × (Nat → Nat → Int32) × (Option Nat)) ⊕ ((Nat → Nat → Int32) × (Option Nat))) := fun s2 =>
  if (9 : Int32) ≤ s2.1 then
    some (.inr (s2.2.1, s2.2.2))
  else
    (f_Mo_findSets s2.2.1 s2.2.2 ((f_Mo_dawn s2.2.1) + s2.1)).bind (fun x3 =>
      rh_g (0 ≤ s2.1.toInt ∧ s2.1.toInt < ((9 : Nat) : Int)) (
        (rh_loop (b_Mo_findAble_27 s2.1 x3.2) rh_N ((0 : Int32), rh_up x3.1 15 s2.1.toNatClampNeg (0 : Int32))).bind (fun r12 =>
          some (.inl (s2.1 + (1 : Int32), r12, x3.2))
        )
      )
    )
def f_Mo_findAble (h : Nat → Nat → Int32) (rd : Option Nat) : Option ((Nat → Nat → Int32) × (Option Nat)) :=
  (rh_loop (b_Mo_findAble_2 ) rh_N ((0 : Int32), h, rd)).bind (fun r13 =>
    some ((r13.1, r13.2))
  )
set_option maxRecDepth 20000 in
set_option maxHeartbeats 4000000 in
theorem lb_Mo_findAble_27 (d : Nat) (u1 : Int32) (rd : Option Nat) (g : Nat → Nat → Int64) (v9 : Option Value) (h9 : rh_H) : ∀ s27 x9, b_Mo_findAble_27 u1 rd s27 = some x9 → Sum.elim (fun s27 => rh_Ex (rh_M rh_PT mw_L (d + 268)) mw_L pg_X12_findAble ((27, [some (.ref 0), some (.int u1), some (.int s27.1)], []), (s27.2, g, mw_R rd)) v9 h9) (fun e9 => rh_Ex (rh_M rh_PT mw_L (d + 268)) mw_L pg_X12_findAble ((65, [some (.ref 0), some (.int u1), none], []), (e9, g, mw_R rd)) v9 h9) x9 → rh_Ex (rh_M rh_PT mw_L (d + 268)) mw_L pg_X12_findAble ((27, [some (.ref 0), some (.int u1), some (.int s27.1)], []), (s27.2, g, mw_R rd)) v9 h9 := by
  intro s27 x9 hf hk
  unfold b_Mo_findAble_27 at hf
  refine rh_Ex.blk 3 (s' := ((32, [some (.ref 0), some (.int u1), some (.int s27.1)], [.int (s27.2 0 29), .int s27.1]), (s27.2, g, mw_R rd))) rfl ?_
  by_cases q6 : (s27.2 0 29) ≤ s27.1
  · rw [if_pos q6] at hf
    refine rh_Ex.stp (s' := ((65, [some (.ref 0), some (.int u1), some (.int s27.1)], []), (s27.2, g, mw_R rd))) rfl (st_icge_p q6) ?_
    obtain rfl := Option.some.inj hf
    refine rh_Ex.fgt [some (.ref 0), some (.int u1), none] ⟨rfl, rfl, trivial⟩ ?_
    exact hk
  · rw [if_neg q6] at hf
    refine rh_Ex.stp (s' := ((35, [some (.ref 0), some (.int u1), some (.int s27.1)], []), (s27.2, g, mw_R rd))) rfl (st_icge_n q6) ?_
    refine rh_Ex.blk 4 (s' := ((41, [some (.ref 0), some (.int u1), some (.int s27.1)], [.int u1, .ref 15, .int u1, .ref 15]), (s27.2, g, mw_R rd))) rfl ?_
    obtain ⟨q7, hf⟩ := rh_gq hf
    refine rh_Ex.stp (s' := ((42, [some (.ref 0), some (.int u1), some (.int s27.1)], [.int (s27.2 15 u1.toNatClampNeg), .int u1, .ref 15]), (s27.2, g, mw_R rd))) rfl (st_iald (n := 9) rfl q7) ?_
    refine rh_Ex.blk 2 (s' := ((44, [some (.ref 0), some (.int u1), some (.int s27.1)], [.int s27.1, .ref 0, .int (s27.2 15 u1.toNatClampNeg), .int u1, .ref 15]), (s27.2, g, mw_R rd))) rfl ?_
    obtain ⟨x8, hx8, hf⟩ := rh_bq hf
    refine rh_Ex.call (j := 244) (rc := some 11) [.ref 0, .int s27.1] [.int (s27.2 15 u1.toNatClampNeg), .int u1, .ref 15] (some (.int x8)) rfl rfl rfl (Nat.le_of_ble_eq_true rfl) (R_Mo_crewOf (d + 265) rd s27.2 g s27.1 hx8) ?_
    show rh_Ex _ _ _ ((47, [some (.ref 0), some (.int u1), some (.int s27.1)], [.int x8, .int (s27.2 15 u1.toNatClampNeg), .int u1, .ref 15]), (s27.2, g, mw_R rd)) _ _
    by_cases q9 : x8 = 0
    · rw [if_pos q9] at hf
      refine rh_Ex.stp (s' := ((50, [some (.ref 0), some (.int u1), some (.int s27.1)], [.int (s27.2 15 u1.toNatClampNeg), .int u1, .ref 15]), (s27.2, g, mw_R rd))) rfl (st_ifne_p q9) ?_
      refine rh_Ex.blk 3 (s' := ((58, [some (.ref 0), some (.int u1), some (.int s27.1)], [.int ((s27.2 15 u1.toNatClampNeg) ||| (0 : Int32)), .int u1, .ref 15]), (s27.2, g, mw_R rd))) rfl ?_
      obtain ⟨q10, hf⟩ := rh_gq hf
      refine rh_Ex.stp (s' := ((59, [some (.ref 0), some (.int u1), some (.int s27.1)], []), (rh_up s27.2 15 u1.toNatClampNeg ((s27.2 15 u1.toNatClampNeg) ||| (0 : Int32)), g, mw_R rd))) rfl (st_iast (n := 9) rfl q10) ?_
      refine rh_Ex.blk 2 (s' := ((27, [some (.ref 0), some (.int u1), some (.int (s27.1 + (1 : Int32)))], []), (rh_up s27.2 15 u1.toNatClampNeg ((s27.2 15 u1.toNatClampNeg) ||| (0 : Int32)), g, mw_R rd))) rfl ?_
      obtain rfl := Option.some.inj hf
      refine rh_Ex.fgt [some (.ref 0), some (.int u1), some (.int (s27.1 + (1 : Int32)))] ⟨rfl, rfl, rfl, trivial⟩ ?_
      exact hk
    · rw [if_neg q9] at hf
      refine rh_Ex.stp (s' := ((54, [some (.ref 0), some (.int u1), some (.int s27.1)], [.int (s27.2 15 u1.toNatClampNeg), .int u1, .ref 15]), (s27.2, g, mw_R rd))) rfl (st_ifne_n q9) ?_
      refine rh_Ex.blk 4 (s' := ((58, [some (.ref 0), some (.int u1), some (.int s27.1)], [.int ((s27.2 15 u1.toNatClampNeg) ||| ((1 : Int32) <<< (s27.1 &&& 31))), .int u1, .ref 15]), (s27.2, g, mw_R rd))) rfl ?_
      obtain ⟨q11, hf⟩ := rh_gq hf
      refine rh_Ex.stp (s' := ((59, [some (.ref 0), some (.int u1), some (.int s27.1)], []), (rh_up s27.2 15 u1.toNatClampNeg ((s27.2 15 u1.toNatClampNeg) ||| ((1 : Int32) <<< (s27.1 &&& 31))), g, mw_R rd))) rfl (st_iast (n := 9) rfl q11) ?_
      refine rh_Ex.blk 2 (s' := ((27, [some (.ref 0), some (.int u1), some (.int (s27.1 + (1 : Int32)))], []), (rh_up s27.2 15 u1.toNatClampNeg ((s27.2 15 u1.toNatClampNeg) ||| ((1 : Int32) <<< (s27.1 &&& 31))), g, mw_R rd))) rfl ?_
      obtain rfl := Option.some.inj hf
      refine rh_Ex.fgt [some (.ref 0), some (.int u1), some (.int (s27.1 + (1 : Int32)))] ⟨rfl, rfl, rfl, trivial⟩ ?_
      exact hk
set_option maxRecDepth 20000 in
set_option maxHeartbeats 4000000 in
theorem lb_Mo_findAble_2 (d : Nat)  (g : Nat → Nat → Int64) (v9 : Option Value) (h9 : rh_H) : ∀ s2 x9, b_Mo_findAble_2  s2 = some x9 → Sum.elim (fun s2 => rh_Ex (rh_M rh_PT mw_L (d + 268)) mw_L pg_X12_findAble ((2, [some (.ref 0), some (.int s2.1), none], []), (s2.2.1, g, mw_R s2.2.2)) v9 h9) (fun e9 => rh_Ex (rh_M rh_PT mw_L (d + 268)) mw_L pg_X12_findAble ((71, [none, none, none], []), (e9.1, g, mw_R e9.2)) v9 h9) x9 → rh_Ex (rh_M rh_PT mw_L (d + 268)) mw_L pg_X12_findAble ((2, [some (.ref 0), some (.int s2.1), none], []), (s2.2.1, g, mw_R s2.2.2)) v9 h9 := by
  intro s2 x9 hf hk
  unfold b_Mo_findAble_2 at hf
  refine rh_Ex.blk 2 (s' := ((5, [some (.ref 0), some (.int s2.1), none], [.int (9 : Int32), .int s2.1]), (s2.2.1, g, mw_R s2.2.2))) rfl ?_
  by_cases q2 : (9 : Int32) ≤ s2.1
  · rw [if_pos q2] at hf
    refine rh_Ex.stp (s' := ((71, [some (.ref 0), some (.int s2.1), none], []), (s2.2.1, g, mw_R s2.2.2))) rfl (st_icge_p q2) ?_
    obtain rfl := Option.some.inj hf
    refine rh_Ex.fgt [none, none, none] trivial ?_
    exact hk
  · rw [if_neg q2] at hf
    refine rh_Ex.stp (s' := ((8, [some (.ref 0), some (.int s2.1), none], []), (s2.2.1, g, mw_R s2.2.2))) rfl (st_icge_n q2) ?_
    refine rh_Ex.blk 2 (s' := ((10, [some (.ref 0), some (.int s2.1), none], [.ref 0, .ref 0]), (s2.2.1, g, mw_R s2.2.2))) rfl ?_
    refine rh_Ex.call (j := 209) (rc := some 11) [.ref 0] [.ref 0] (some (.int (f_Mo_dawn s2.2.1))) rfl rfl rfl (Nat.le_of_ble_eq_true rfl) (R_Mo_dawn (d + 267) s2.2.2 s2.2.1 g  rfl) ?_
    show rh_Ex _ _ _ ((13, [some (.ref 0), some (.int s2.1), none], [.int (f_Mo_dawn s2.2.1), .ref 0]), (s2.2.1, g, mw_R s2.2.2)) _ _
    refine rh_Ex.blk 2 (s' := ((15, [some (.ref 0), some (.int s2.1), none], [.int ((f_Mo_dawn s2.2.1) + s2.1), .ref 0]), (s2.2.1, g, mw_R s2.2.2))) rfl ?_
    obtain ⟨x3, hx3, hf⟩ := rh_bq hf
    refine rh_Ex.call (j := 208) (rc := some 11) [.ref 0, .int ((f_Mo_dawn s2.2.1) + s2.1)] [] none rfl rfl rfl (Nat.le_of_ble_eq_true rfl) (R_Mo_findSets d s2.2.2 s2.2.1 g ((f_Mo_dawn s2.2.1) + s2.1) hx3) ?_
    show rh_Ex _ _ _ ((18, [some (.ref 0), some (.int s2.1), none], []), (x3.1, g, mw_R x3.2)) _ _
    refine rh_Ex.blk 4 (s' := ((24, [some (.ref 0), some (.int s2.1), none], [.int (0 : Int32), .int s2.1, .ref 15]), (x3.1, g, mw_R x3.2))) rfl ?_
    obtain ⟨q4, hf⟩ := rh_gq hf
    refine rh_Ex.stp (s' := ((25, [some (.ref 0), some (.int s2.1), none], []), (rh_up x3.1 15 s2.1.toNatClampNeg (0 : Int32), g, mw_R x3.2))) rfl (st_iast (n := 9) rfl q4) ?_
    refine rh_Ex.blk 2 (s' := ((27, [some (.ref 0), some (.int s2.1), some (.int (0 : Int32))], []), (rh_up x3.1 15 s2.1.toNatClampNeg (0 : Int32), g, mw_R x3.2))) rfl ?_
    obtain ⟨r12, hr12, hf⟩ := rh_bq hf
    refine rh_Ex.fgt [some (.ref 0), some (.int s2.1), some (.int (0 : Int32))] ⟨rfl, rfl, rfl, trivial⟩ ?_
    refine rh_Ex.loop _ _ _ (lb_Mo_findAble_27 d s2.1 x3.2  g _ _) rh_N _ r12 hr12 ?_
    refine rh_Ex.blk 2 (s' := ((2, [some (.ref 0), some (.int (s2.1 + (1 : Int32))), none], []), (r12, g, mw_R x3.2))) rfl ?_
    obtain rfl := Option.some.inj hf
    refine rh_Ex.fgt [some (.ref 0), some (.int (s2.1 + (1 : Int32))), none] ⟨rfl, rfl, trivial⟩ ?_
    exact hk
set_option maxRecDepth 20000 in
set_option maxHeartbeats 4000000 in
theorem R_Mo_findAble (d : Nat) (rd : Option Nat) (h : Nat → Nat → Int32) (g : Nat → Nat → Int64)  {z9 : (Nat → Nat → Int32) × (Option Nat)} (hf : f_Mo_findAble h rd = some z9) : rh_M rh_PT mw_L (d + 269) 246 [.ref 0] (h, g, mw_R rd) none (z9.1, g, mw_R z9.2) := by
  unfold f_Mo_findAble at hf
  refine rh_go pt_246 (Nat.le_of_ble_eq_true rfl) (lv := [some (.ref 0), none, none]) rfl ?_
  refine rh_Ex.blk 2 (s' := ((2, [some (.ref 0), some (.int (0 : Int32)), none], []), (h, g, mw_R rd))) rfl ?_
  obtain ⟨r13, hr13, hf⟩ := rh_bq hf
  refine rh_Ex.fgt [some (.ref 0), some (.int (0 : Int32)), none] ⟨rfl, rfl, trivial⟩ ?_
  refine rh_Ex.loop _ _ _ (lb_Mo_findAble_2 d   g _ _) rh_N _ r13 hr13 ?_
  obtain rfl := Option.some.inj hf
  exact rh_Ex.ret rfl trivial
def b_Mo_times_29 (u1 : Int32) (h : Nat → Nat → Int32) (rd : Option Nat) : (Int32 × Int32) → Option ((Int32 × Int32) ⊕ (Int32)) := fun s29 =>
  if (9 : Int32) ≤ s29.2 then
    some (.inr s29.1)
  else
    rh_g (0 ≤ s29.2.toInt ∧ s29.2.toInt < ((9 : Nat) : Int)) (
      if (f_Mo_has (h 15 s29.2.toNatClampNeg) u1) = 0 then
        some (.inl (s29.1 ||| (0 : Int32), s29.2 + (1 : Int32)))
      else
        some (.inl (s29.1 ||| ((1 : Int32) <<< (s29.2 &&& 31)), s29.2 + (1 : Int32)))
    )
def f_Mo_times (h : Nat → Nat → Int32) (rd : Option Nat) (p0 : Int32) : Option (Int32 × (Nat → Nat → Int32) × (Option Nat)) :=
  if (f_Mo_in p0 (0 : Int32) ((h 0 29) - (1 : Int32))) = 0 then
    some (((-1 : Int32), rh_up h 0 9 (0 : Int32), rd))
  else
    (f_Mo_findAble (rh_up h 0 9 (0 : Int32)) rd).bind (fun x2 =>
      (rh_loop (b_Mo_times_29 p0 x2.1 x2.2) rh_N ((0 : Int32), (0 : Int32))).bind (fun r7 =>
        some ((r7, x2.1, x2.2))
      )
    )
set_option maxRecDepth 20000 in
set_option maxHeartbeats 4000000 in
theorem lb_Mo_times_29 (d : Nat) (u1 : Int32) (h : Nat → Nat → Int32) (rd : Option Nat) (g : Nat → Nat → Int64) (v9 : Option Value) (h9 : rh_H) : ∀ s29 x9, b_Mo_times_29 u1 h rd s29 = some x9 → Sum.elim (fun s29 => rh_Ex (rh_M rh_PT mw_L (d + 269)) mw_L pg_X12_times ((29, [some (.ref 0), some (.int u1), some (.int s29.1), some (.int s29.2)], []), (h, g, mw_R rd)) v9 h9) (fun e9 => rh_Ex (rh_M rh_PT mw_L (d + 269)) mw_L pg_X12_times ((64, [none, none, some (.int e9), none], []), (h, g, mw_R rd)) v9 h9) x9 → rh_Ex (rh_M rh_PT mw_L (d + 269)) mw_L pg_X12_times ((29, [some (.ref 0), some (.int u1), some (.int s29.1), some (.int s29.2)], []), (h, g, mw_R rd)) v9 h9 := by
  intro s29 x9 hf hk
  unfold b_Mo_times_29 at hf
  refine rh_Ex.blk 2 (s' := ((32, [some (.ref 0), some (.int u1), some (.int s29.1), some (.int s29.2)], [.int (9 : Int32), .int s29.2]), (h, g, mw_R rd))) rfl ?_
  by_cases q4 : (9 : Int32) ≤ s29.2
  · rw [if_pos q4] at hf
    refine rh_Ex.stp (s' := ((64, [some (.ref 0), some (.int u1), some (.int s29.1), some (.int s29.2)], []), (h, g, mw_R rd))) rfl (st_icge_p q4) ?_
    obtain rfl := Option.some.inj hf
    refine rh_Ex.fgt [none, none, some (.int s29.1), none] ⟨rfl, trivial⟩ ?_
    exact hk
  · rw [if_neg q4] at hf
    refine rh_Ex.stp (s' := ((35, [some (.ref 0), some (.int u1), some (.int s29.1), some (.int s29.2)], []), (h, g, mw_R rd))) rfl (st_icge_n q4) ?_
    refine rh_Ex.blk 4 (s' := ((41, [some (.ref 0), some (.int u1), some (.int s29.1), some (.int s29.2)], [.int s29.2, .ref 15, .int s29.1]), (h, g, mw_R rd))) rfl ?_
    obtain ⟨q5, hf⟩ := rh_gq hf
    refine rh_Ex.stp (s' := ((42, [some (.ref 0), some (.int u1), some (.int s29.1), some (.int s29.2)], [.int (h 15 s29.2.toNatClampNeg), .int s29.1]), (h, g, mw_R rd))) rfl (st_iald (n := 9) rfl q5) ?_
    refine rh_Ex.blk 1 (s' := ((43, [some (.ref 0), some (.int u1), some (.int s29.1), some (.int s29.2)], [.int u1, .int (h 15 s29.2.toNatClampNeg), .int s29.1]), (h, g, mw_R rd))) rfl ?_
    refine rh_Ex.call (j := 180) (rc := none) [.int (h 15 s29.2.toNatClampNeg), .int u1] [.int s29.1] (some (.int (f_Mo_has (h 15 s29.2.toNatClampNeg) u1))) rfl rfl trivial (Nat.le_of_ble_eq_true rfl) (R_Mo_has (d + 268) mw_L (mw_R rd) h g (h 15 s29.2.toNatClampNeg) u1 rfl) ?_
    show rh_Ex _ _ _ ((46, [some (.ref 0), some (.int u1), some (.int s29.1), some (.int s29.2)], [.int (f_Mo_has (h 15 s29.2.toNatClampNeg) u1), .int s29.1]), (h, g, mw_R rd)) _ _
    by_cases q6 : (f_Mo_has (h 15 s29.2.toNatClampNeg) u1) = 0
    · rw [if_pos q6] at hf
      refine rh_Ex.stp (s' := ((55, [some (.ref 0), some (.int u1), some (.int s29.1), some (.int s29.2)], [.int s29.1]), (h, g, mw_R rd))) rfl (st_ifeq_p q6) ?_
      refine rh_Ex.blk 5 (s' := ((29, [some (.ref 0), some (.int u1), some (.int (s29.1 ||| (0 : Int32))), some (.int (s29.2 + (1 : Int32)))], []), (h, g, mw_R rd))) rfl ?_
      obtain rfl := Option.some.inj hf
      refine rh_Ex.fgt [some (.ref 0), some (.int u1), some (.int (s29.1 ||| (0 : Int32))), some (.int (s29.2 + (1 : Int32)))] ⟨rfl, rfl, rfl, rfl, trivial⟩ ?_
      exact hk
    · rw [if_neg q6] at hf
      refine rh_Ex.stp (s' := ((49, [some (.ref 0), some (.int u1), some (.int s29.1), some (.int s29.2)], [.int s29.1]), (h, g, mw_R rd))) rfl (st_ifeq_n q6) ?_
      refine rh_Ex.blk 8 (s' := ((29, [some (.ref 0), some (.int u1), some (.int (s29.1 ||| ((1 : Int32) <<< (s29.2 &&& 31)))), some (.int (s29.2 + (1 : Int32)))], []), (h, g, mw_R rd))) rfl ?_
      obtain rfl := Option.some.inj hf
      refine rh_Ex.fgt [some (.ref 0), some (.int u1), some (.int (s29.1 ||| ((1 : Int32) <<< (s29.2 &&& 31)))), some (.int (s29.2 + (1 : Int32)))] ⟨rfl, rfl, rfl, rfl, trivial⟩ ?_
      exact hk
set_option maxRecDepth 20000 in
set_option maxHeartbeats 4000000 in
theorem R_Mo_times (d : Nat) (rd : Option Nat) (h : Nat → Nat → Int32) (g : Nat → Nat → Int64) (p0 : Int32) {z9 : Int32 × (Nat → Nat → Int32) × (Option Nat)} (hf : f_Mo_times h rd p0 = some z9) : rh_M rh_PT mw_L (d + 270) 247 [.ref 0, .int p0] (h, g, mw_R rd) (some (.int z9.1)) (z9.2.1, g, mw_R z9.2.2) := by
  unfold f_Mo_times at hf
  refine rh_go pt_247 (Nat.le_of_ble_eq_true rfl) (lv := [some (.ref 0), some (.int p0), none, none]) rfl ?_
  refine rh_Ex.blk 9 (s' := ((13, [some (.ref 0), some (.int p0), none, none], [.int ((h 0 29) - (1 : Int32)), .int (0 : Int32), .int p0]), (rh_up h 0 9 (0 : Int32), g, mw_R rd))) rfl ?_
  refine rh_Ex.call (j := 179) (rc := none) [.int p0, .int (0 : Int32), .int ((h 0 29) - (1 : Int32))] [] (some (.int (f_Mo_in p0 (0 : Int32) ((h 0 29) - (1 : Int32))))) rfl rfl trivial (Nat.le_of_ble_eq_true rfl) (R_Mo_in (d + 268) mw_L (mw_R rd) (rh_up h 0 9 (0 : Int32)) g p0 (0 : Int32) ((h 0 29) - (1 : Int32)) rfl) ?_
  show rh_Ex _ _ _ ((16, [some (.ref 0), some (.int p0), none, none], [.int (f_Mo_in p0 (0 : Int32) ((h 0 29) - (1 : Int32)))]), (rh_up h 0 9 (0 : Int32), g, mw_R rd)) _ _
  by_cases q1 : (f_Mo_in p0 (0 : Int32) ((h 0 29) - (1 : Int32))) = 0
  · rw [if_pos q1] at hf
    refine rh_Ex.stp (s' := ((19, [some (.ref 0), some (.int p0), none, none], []), (rh_up h 0 9 (0 : Int32), g, mw_R rd))) rfl (st_ifne_p q1) ?_
    refine rh_Ex.blk 1 (s' := ((20, [some (.ref 0), some (.int p0), none, none], [.int (-1 : Int32)]), (rh_up h 0 9 (0 : Int32), g, mw_R rd))) rfl ?_
    obtain rfl := Option.some.inj hf
    exact rh_Ex.ret rfl rfl
  · rw [if_neg q1] at hf
    refine rh_Ex.stp (s' := ((21, [some (.ref 0), some (.int p0), none, none], []), (rh_up h 0 9 (0 : Int32), g, mw_R rd))) rfl (st_ifne_n q1) ?_
    refine rh_Ex.blk 1 (s' := ((22, [some (.ref 0), some (.int p0), none, none], [.ref 0]), (rh_up h 0 9 (0 : Int32), g, mw_R rd))) rfl ?_
    obtain ⟨x2, hx2, hf⟩ := rh_bq hf
    refine rh_Ex.call (j := 246) (rc := some 11) [.ref 0] [] none rfl rfl rfl (Nat.le_of_ble_eq_true rfl) (R_Mo_findAble d rd (rh_up h 0 9 (0 : Int32)) g  hx2) ?_
    show rh_Ex _ _ _ ((25, [some (.ref 0), some (.int p0), none, none], []), (x2.1, g, mw_R x2.2)) _ _
    refine rh_Ex.blk 4 (s' := ((29, [some (.ref 0), some (.int p0), some (.int (0 : Int32)), some (.int (0 : Int32))], []), (x2.1, g, mw_R x2.2))) rfl ?_
    obtain ⟨r7, hr7, hf⟩ := rh_bq hf
    refine rh_Ex.fgt [some (.ref 0), some (.int p0), some (.int (0 : Int32)), some (.int (0 : Int32))] ⟨rfl, rfl, rfl, rfl, trivial⟩ ?_
    refine rh_Ex.loop _ _ _ (lb_Mo_times_29 d p0 x2.1 x2.2  g _ _) rh_N _ r7 hr7 ?_
    refine rh_Ex.blk 1 (s' := ((65, [none, none, some (.int r7), none], [.int r7]), (x2.1, g, mw_R x2.2))) rfl ?_
    obtain rfl := Option.some.inj hf
    exact rh_Ex.ret rfl rfl
def j_Mo_planFrom_58 (T : (Nat → Nat → Int32) → Int32 → Int32 → Int32 → Option (Int32 × (Nat → Nat → Int32))) (h : Nat → Nat → Int32) (u1 : Int32) (u2 : Int32) (u3 : Int32) (j4 : Int32) : Option ((Int32 × (Nat → Nat → Int32)) ⊕ (((Nat → Nat → Int32)) ⊕ (Int32 × (Nat → Nat → Int32)))) :=
  rh_g (0 ≤ u1.toInt ∧ u1.toInt < ((9 : Nat) : Int)) (
    if j4 = (-1 : Int32) then
      (T (rh_up h 16 u1.toNatClampNeg j4) (u1 + (1 : Int32)) u2 u3).bind (fun x8 =>
        if x8.1 = 0 then
          some (.inl (j4 + (1 : Int32), x8.2))
        else
          some (.inr (.inr ((1 : Int32), x8.2)))
      )
    else
      (T (rh_up h 16 u1.toNatClampNeg j4) (u1 + (1 : Int32)) u2 (u3 &&& (((1 : Int32) <<< (j4 &&& 31)) ^^^ (-1 : Int32)))).bind (fun x10 =>
        if x10.1 = 0 then
          some (.inl (j4 + (1 : Int32), x10.2))
        else
          some (.inr (.inr ((1 : Int32), x10.2)))
      )
  )
def b_Mo_planFrom_24 (T : (Nat → Nat → Int32) → Int32 → Int32 → Int32 → Option (Int32 × (Nat → Nat → Int32))) (u1 : Int32) (u2 : Int32) (u3 : Int32) : (Int32 × (Nat → Nat → Int32)) → Option ((Int32 × (Nat → Nat → Int32)) ⊕ (((Nat → Nat → Int32)) ⊕ (Int32 × (Nat → Nat → Int32)))) := fun s24 =>
  if (s24.2 0 29) ≤ s24.1 then
    some (.inr (.inl s24.2))
  else
    if s24.1 = (-1 : Int32) then
      j_Mo_planFrom_58 T s24.2 u1 u2 u3 s24.1
    else
      rh_g (0 ≤ u1.toInt ∧ u1.toInt < ((9 : Nat) : Int)) (
        if (f_Mo_has (u3 &&& (s24.2 15 u1.toNatClampNeg)) s24.1) = 0 then
          some (.inl (s24.1 + (1 : Int32), s24.2))
        else
          j_Mo_planFrom_58 T s24.2 u1 u2 u3 s24.1
      )
def f_Mo_planFrom (T : (Nat → Nat → Int32) → Int32 → Int32 → Int32 → Option (Int32 × (Nat → Nat → Int32))) (h : Nat → Nat → Int32) (p0 : Int32) (p1 : Int32) (p2 : Int32) : Option (Int32 × (Nat → Nat → Int32)) :=
  if (f_In_bitCount p2) ≤ ((p1 - p0) + (1 : Int32)) then
    if p0 ≤ p1 then
      (rh_loop (b_Mo_planFrom_24 T p0 p1 p2) rh_N ((-1 : Int32), h)).bind (fun r14 => match r14 with
        | .inl e15 =>
          some (((0 : Int32), e15))
        | .inr t16 => some t16)
    else
      some (((1 : Int32), h))
  else
    some (((0 : Int32), h))
set_option maxRecDepth 20000 in
set_option maxHeartbeats 4000000 in
theorem lj_Mo_planFrom_58 (d : Nat) (rd : Option Nat) (T : (Nat → Nat → Int32) → Int32 → Int32 → Int32 → Option (Int32 × (Nat → Nat → Int32))) (hT : ∀ (h : Nat → Nat → Int32) (g : Nat → Nat → Int64) (a0 a1 a2 : Int32) z, T h a0 a1 a2 = some z → rh_M rh_PT mw_L (d + 6) 248 [.ref 0, .int a0, .int a1, .int a2] (h, g, mw_R rd) (some (.int z.1)) (z.2, g, mw_R rd)) (h : Nat → Nat → Int32) (u1 : Int32) (u2 : Int32) (u3 : Int32) (j4 : Int32) (g : Nat → Nat → Int64) (v9 : Option Value) (h9 : rh_H) (x9 : (Int32 × (Nat → Nat → Int32)) ⊕ (((Nat → Nat → Int32)) ⊕ (Int32 × (Nat → Nat → Int32)))) (hf : j_Mo_planFrom_58 T h u1 u2 u3 j4 = some x9) (hk : Sum.elim (fun s24 => rh_Ex (rh_M rh_PT mw_L (d + 6)) mw_L pg_X12_planFrom ((24, [some (.ref 0), some (.int u1), some (.int u2), some (.int u3), some (.int s24.1)], []), (s24.2, g, mw_R rd)) v9 h9) (Sum.elim (fun e9 => rh_Ex (rh_M rh_PT mw_L (d + 6)) mw_L pg_X12_planFrom ((103, [none, none, none, none, none], []), (e9, g, mw_R rd)) v9 h9) (fun t9 => v9 = (some (.int t9.1)) ∧ h9 = (t9.2, g, mw_R rd))) x9) : rh_Ex (rh_M rh_PT mw_L (d + 6)) mw_L pg_X12_planFrom ((58, [some (.ref 0), some (.int u1), some (.int u2), some (.int u3), some (.int j4)], []), (h, g, mw_R rd)) v9 h9 := by
  unfold j_Mo_planFrom_58 at hf
  refine rh_Ex.blk 4 (s' := ((65, [some (.ref 0), some (.int u1), some (.int u2), some (.int u3), some (.int j4)], [.int j4, .int u1, .ref 16]), (h, g, mw_R rd))) rfl ?_
  obtain ⟨q6, hf⟩ := rh_gq hf
  refine rh_Ex.stp (s' := ((66, [some (.ref 0), some (.int u1), some (.int u2), some (.int u3), some (.int j4)], []), (rh_up h 16 u1.toNatClampNeg j4, g, mw_R rd))) rfl (st_iast (n := 9) rfl q6) ?_
  refine rh_Ex.blk 7 (s' := ((74, [some (.ref 0), some (.int u1), some (.int u2), some (.int u3), some (.int j4)], [.int (-1 : Int32), .int j4, .int u2, .int (u1 + (1 : Int32)), .ref 0]), (rh_up h 16 u1.toNatClampNeg j4, g, mw_R rd))) rfl ?_
  by_cases q7 : j4 = (-1 : Int32)
  · rw [if_pos q7] at hf
    refine rh_Ex.stp (s' := ((77, [some (.ref 0), some (.int u1), some (.int u2), some (.int u3), some (.int j4)], [.int u2, .int (u1 + (1 : Int32)), .ref 0]), (rh_up h 16 u1.toNatClampNeg j4, g, mw_R rd))) rfl (st_icne_p q7) ?_
    refine rh_Ex.blk 2 (s' := ((89, [some (.ref 0), some (.int u1), some (.int u2), some (.int u3), some (.int j4)], [.int u3, .int u2, .int (u1 + (1 : Int32)), .ref 0]), (rh_up h 16 u1.toNatClampNeg j4, g, mw_R rd))) rfl ?_
    obtain ⟨x8, hx8, hf⟩ := rh_bq hf
    refine rh_Ex.call (j := 248) (rc := some 11) [.ref 0, .int (u1 + (1 : Int32)), .int u2, .int u3] [] (some (.int x8.1)) rfl rfl rfl (Nat.le_of_ble_eq_true rfl) (rh_M_le (Nat.add_le_add_left (Nat.le_of_ble_eq_true rfl) d) (hT (rh_up h 16 u1.toNatClampNeg j4) g (u1 + (1 : Int32)) u2 u3 _ hx8)) ?_
    show rh_Ex _ _ _ ((92, [some (.ref 0), some (.int u1), some (.int u2), some (.int u3), some (.int j4)], [.int x8.1]), (x8.2, g, mw_R rd)) _ _
    by_cases q9 : x8.1 = 0
    · rw [if_pos q9] at hf
      refine rh_Ex.stp (s' := ((97, [some (.ref 0), some (.int u1), some (.int u2), some (.int u3), some (.int j4)], []), (x8.2, g, mw_R rd))) rfl (st_ifeq_p q9) ?_
      refine rh_Ex.blk 2 (s' := ((24, [some (.ref 0), some (.int u1), some (.int u2), some (.int u3), some (.int (j4 + (1 : Int32)))], []), (x8.2, g, mw_R rd))) rfl ?_
      obtain rfl := Option.some.inj hf
      refine rh_Ex.fgt [some (.ref 0), some (.int u1), some (.int u2), some (.int u3), some (.int (j4 + (1 : Int32)))] ⟨rfl, rfl, rfl, rfl, rfl, trivial⟩ ?_
      exact hk
    · rw [if_neg q9] at hf
      refine rh_Ex.stp (s' := ((95, [some (.ref 0), some (.int u1), some (.int u2), some (.int u3), some (.int j4)], []), (x8.2, g, mw_R rd))) rfl (st_ifeq_n q9) ?_
      refine rh_Ex.blk 1 (s' := ((96, [some (.ref 0), some (.int u1), some (.int u2), some (.int u3), some (.int j4)], [.int (1 : Int32)]), (x8.2, g, mw_R rd))) rfl ?_
      obtain rfl := Option.some.inj hf
      obtain ⟨rfl, rfl⟩ := hk
      exact rh_Ex.ret rfl ⟨rfl, Or.inr rfl⟩
  · rw [if_neg q7] at hf
    refine rh_Ex.stp (s' := ((81, [some (.ref 0), some (.int u1), some (.int u2), some (.int u3), some (.int j4)], [.int u2, .int (u1 + (1 : Int32)), .ref 0]), (rh_up h 16 u1.toNatClampNeg j4, g, mw_R rd))) rfl (st_icne_n q7) ?_
    refine rh_Ex.blk 7 (s' := ((89, [some (.ref 0), some (.int u1), some (.int u2), some (.int u3), some (.int j4)], [.int (u3 &&& (((1 : Int32) <<< (j4 &&& 31)) ^^^ (-1 : Int32))), .int u2, .int (u1 + (1 : Int32)), .ref 0]), (rh_up h 16 u1.toNatClampNeg j4, g, mw_R rd))) rfl ?_
    obtain ⟨x10, hx10, hf⟩ := rh_bq hf
    refine rh_Ex.call (j := 248) (rc := some 11) [.ref 0, .int (u1 + (1 : Int32)), .int u2, .int (u3 &&& (((1 : Int32) <<< (j4 &&& 31)) ^^^ (-1 : Int32)))] [] (some (.int x10.1)) rfl rfl rfl (Nat.le_of_ble_eq_true rfl) (rh_M_le (Nat.add_le_add_left (Nat.le_of_ble_eq_true rfl) d) (hT (rh_up h 16 u1.toNatClampNeg j4) g (u1 + (1 : Int32)) u2 (u3 &&& (((1 : Int32) <<< (j4 &&& 31)) ^^^ (-1 : Int32))) _ hx10)) ?_
    show rh_Ex _ _ _ ((92, [some (.ref 0), some (.int u1), some (.int u2), some (.int u3), some (.int j4)], [.int x10.1]), (x10.2, g, mw_R rd)) _ _
    by_cases q11 : x10.1 = 0
    · rw [if_pos q11] at hf
      refine rh_Ex.stp (s' := ((97, [some (.ref 0), some (.int u1), some (.int u2), some (.int u3), some (.int j4)], []), (x10.2, g, mw_R rd))) rfl (st_ifeq_p q11) ?_
      refine rh_Ex.blk 2 (s' := ((24, [some (.ref 0), some (.int u1), some (.int u2), some (.int u3), some (.int (j4 + (1 : Int32)))], []), (x10.2, g, mw_R rd))) rfl ?_
      obtain rfl := Option.some.inj hf
      refine rh_Ex.fgt [some (.ref 0), some (.int u1), some (.int u2), some (.int u3), some (.int (j4 + (1 : Int32)))] ⟨rfl, rfl, rfl, rfl, rfl, trivial⟩ ?_
      exact hk
    · rw [if_neg q11] at hf
      refine rh_Ex.stp (s' := ((95, [some (.ref 0), some (.int u1), some (.int u2), some (.int u3), some (.int j4)], []), (x10.2, g, mw_R rd))) rfl (st_ifeq_n q11) ?_
      refine rh_Ex.blk 1 (s' := ((96, [some (.ref 0), some (.int u1), some (.int u2), some (.int u3), some (.int j4)], [.int (1 : Int32)]), (x10.2, g, mw_R rd))) rfl ?_
      obtain rfl := Option.some.inj hf
      obtain ⟨rfl, rfl⟩ := hk
      exact rh_Ex.ret rfl ⟨rfl, Or.inr rfl⟩
set_option maxRecDepth 20000 in
set_option maxHeartbeats 4000000 in
theorem lb_Mo_planFrom_24 (d : Nat) (rd : Option Nat) (T : (Nat → Nat → Int32) → Int32 → Int32 → Int32 → Option (Int32 × (Nat → Nat → Int32))) (hT : ∀ (h : Nat → Nat → Int32) (g : Nat → Nat → Int64) (a0 a1 a2 : Int32) z, T h a0 a1 a2 = some z → rh_M rh_PT mw_L (d + 6) 248 [.ref 0, .int a0, .int a1, .int a2] (h, g, mw_R rd) (some (.int z.1)) (z.2, g, mw_R rd)) (u1 : Int32) (u2 : Int32) (u3 : Int32) (g : Nat → Nat → Int64) (v9 : Option Value) (h9 : rh_H) : ∀ s24 x9, b_Mo_planFrom_24 T u1 u2 u3 s24 = some x9 → Sum.elim (fun s24 => rh_Ex (rh_M rh_PT mw_L (d + 6)) mw_L pg_X12_planFrom ((24, [some (.ref 0), some (.int u1), some (.int u2), some (.int u3), some (.int s24.1)], []), (s24.2, g, mw_R rd)) v9 h9) (Sum.elim (fun e9 => rh_Ex (rh_M rh_PT mw_L (d + 6)) mw_L pg_X12_planFrom ((103, [none, none, none, none, none], []), (e9, g, mw_R rd)) v9 h9) (fun t9 => v9 = (some (.int t9.1)) ∧ h9 = (t9.2, g, mw_R rd))) x9 → rh_Ex (rh_M rh_PT mw_L (d + 6)) mw_L pg_X12_planFrom ((24, [some (.ref 0), some (.int u1), some (.int u2), some (.int u3), some (.int s24.1)], []), (s24.2, g, mw_R rd)) v9 h9 := by
  intro s24 x9 hf hk
  unfold b_Mo_planFrom_24 at hf
  refine rh_Ex.blk 3 (s' := ((30, [some (.ref 0), some (.int u1), some (.int u2), some (.int u3), some (.int s24.1)], [.int (s24.2 0 29), .int s24.1]), (s24.2, g, mw_R rd))) rfl ?_
  by_cases q4 : (s24.2 0 29) ≤ s24.1
  · rw [if_pos q4] at hf
    refine rh_Ex.stp (s' := ((103, [some (.ref 0), some (.int u1), some (.int u2), some (.int u3), some (.int s24.1)], []), (s24.2, g, mw_R rd))) rfl (st_icge_p q4) ?_
    obtain rfl := Option.some.inj hf
    refine rh_Ex.fgt [none, none, none, none, none] trivial ?_
    exact hk
  · rw [if_neg q4] at hf
    refine rh_Ex.stp (s' := ((33, [some (.ref 0), some (.int u1), some (.int u2), some (.int u3), some (.int s24.1)], []), (s24.2, g, mw_R rd))) rfl (st_icge_n q4) ?_
    refine rh_Ex.blk 2 (s' := ((36, [some (.ref 0), some (.int u1), some (.int u2), some (.int u3), some (.int s24.1)], [.int (-1 : Int32), .int s24.1]), (s24.2, g, mw_R rd))) rfl ?_
    by_cases q5 : s24.1 = (-1 : Int32)
    · rw [if_pos q5] at hf
      refine rh_Ex.stp (s' := ((58, [some (.ref 0), some (.int u1), some (.int u2), some (.int u3), some (.int s24.1)], []), (s24.2, g, mw_R rd))) rfl (st_iceq_p q5) ?_
      refine rh_Ex.fgt [some (.ref 0), some (.int u1), some (.int u2), some (.int u3), some (.int s24.1)] ⟨rfl, rfl, rfl, rfl, rfl, trivial⟩ ?_
      exact lj_Mo_planFrom_58 d rd T hT s24.2 u1 u2 u3 s24.1 g _ _ _ hf hk
    · rw [if_neg q5] at hf
      refine rh_Ex.stp (s' := ((39, [some (.ref 0), some (.int u1), some (.int u2), some (.int u3), some (.int s24.1)], []), (s24.2, g, mw_R rd))) rfl (st_iceq_n q5) ?_
      refine rh_Ex.blk 4 (s' := ((45, [some (.ref 0), some (.int u1), some (.int u2), some (.int u3), some (.int s24.1)], [.int u1, .ref 15, .int u3]), (s24.2, g, mw_R rd))) rfl ?_
      obtain ⟨q12, hf⟩ := rh_gq hf
      refine rh_Ex.stp (s' := ((46, [some (.ref 0), some (.int u1), some (.int u2), some (.int u3), some (.int s24.1)], [.int (s24.2 15 u1.toNatClampNeg), .int u3]), (s24.2, g, mw_R rd))) rfl (st_iald (n := 9) rfl q12) ?_
      refine rh_Ex.blk 2 (s' := ((49, [some (.ref 0), some (.int u1), some (.int u2), some (.int u3), some (.int s24.1)], [.int s24.1, .int (u3 &&& (s24.2 15 u1.toNatClampNeg))]), (s24.2, g, mw_R rd))) rfl ?_
      refine rh_Ex.call (j := 180) (rc := none) [.int (u3 &&& (s24.2 15 u1.toNatClampNeg)), .int s24.1] [] (some (.int (f_Mo_has (u3 &&& (s24.2 15 u1.toNatClampNeg)) s24.1))) rfl rfl trivial (Nat.le_of_ble_eq_true rfl) (R_Mo_has (d + 5) mw_L (mw_R rd) s24.2 g (u3 &&& (s24.2 15 u1.toNatClampNeg)) s24.1 rfl) ?_
      show rh_Ex _ _ _ ((52, [some (.ref 0), some (.int u1), some (.int u2), some (.int u3), some (.int s24.1)], [.int (f_Mo_has (u3 &&& (s24.2 15 u1.toNatClampNeg)) s24.1)]), (s24.2, g, mw_R rd)) _ _
      by_cases q13 : (f_Mo_has (u3 &&& (s24.2 15 u1.toNatClampNeg)) s24.1) = 0
      · rw [if_pos q13] at hf
        refine rh_Ex.stp (s' := ((55, [some (.ref 0), some (.int u1), some (.int u2), some (.int u3), some (.int s24.1)], []), (s24.2, g, mw_R rd))) rfl (st_ifne_p q13) ?_
        refine rh_Ex.blk 3 (s' := ((24, [some (.ref 0), some (.int u1), some (.int u2), some (.int u3), some (.int (s24.1 + (1 : Int32)))], []), (s24.2, g, mw_R rd))) rfl ?_
        obtain rfl := Option.some.inj hf
        refine rh_Ex.fgt [some (.ref 0), some (.int u1), some (.int u2), some (.int u3), some (.int (s24.1 + (1 : Int32)))] ⟨rfl, rfl, rfl, rfl, rfl, trivial⟩ ?_
        exact hk
      · rw [if_neg q13] at hf
        refine rh_Ex.stp (s' := ((58, [some (.ref 0), some (.int u1), some (.int u2), some (.int u3), some (.int s24.1)], []), (s24.2, g, mw_R rd))) rfl (st_ifne_n q13) ?_
        refine rh_Ex.fgt [some (.ref 0), some (.int u1), some (.int u2), some (.int u3), some (.int s24.1)] ⟨rfl, rfl, rfl, rfl, rfl, trivial⟩ ?_
        exact lj_Mo_planFrom_58 d rd T hT s24.2 u1 u2 u3 s24.1 g _ _ _ hf hk
set_option maxRecDepth 20000 in
set_option maxHeartbeats 4000000 in
theorem R_Mo_planFrom (d : Nat) (rd : Option Nat) (T : (Nat → Nat → Int32) → Int32 → Int32 → Int32 → Option (Int32 × (Nat → Nat → Int32))) (hT : ∀ (h : Nat → Nat → Int32) (g : Nat → Nat → Int64) (a0 a1 a2 : Int32) z, T h a0 a1 a2 = some z → rh_M rh_PT mw_L (d + 6) 248 [.ref 0, .int a0, .int a1, .int a2] (h, g, mw_R rd) (some (.int z.1)) (z.2, g, mw_R rd)) (h : Nat → Nat → Int32) (g : Nat → Nat → Int64) (p0 : Int32) (p1 : Int32) (p2 : Int32) {z9 : Int32 × (Nat → Nat → Int32)} (hf : f_Mo_planFrom T h p0 p1 p2 = some z9) : rh_M rh_PT mw_L (d + 7) 248 [.ref 0, .int p0, .int p1, .int p2] (h, g, mw_R rd) (some (.int z9.1)) (z9.2, g, mw_R rd) := by
  unfold f_Mo_planFrom at hf
  refine rh_go pt_248 (Nat.le_of_ble_eq_true rfl) (lv := [some (.ref 0), some (.int p0), some (.int p1), some (.int p2), none]) rfl ?_
  refine rh_Ex.blk 1 (s' := ((1, [some (.ref 0), some (.int p0), some (.int p1), some (.int p2), none], [.int p2]), (h, g, mw_R rd))) rfl ?_
  refine rh_Ex.call (j := 298) (rc := none) [.int p2] [] (some (.int (f_In_bitCount p2))) rfl rfl trivial (Nat.le_of_ble_eq_true rfl) (R_In_bitCount (d + 5) mw_L (mw_R rd) h g p2 rfl) ?_
  show rh_Ex _ _ _ ((4, [some (.ref 0), some (.int p0), some (.int p1), some (.int p2), none], [.int (f_In_bitCount p2)]), (h, g, mw_R rd)) _ _
  refine rh_Ex.blk 5 (s' := ((9, [some (.ref 0), some (.int p0), some (.int p1), some (.int p2), none], [.int ((p1 - p0) + (1 : Int32)), .int (f_In_bitCount p2)]), (h, g, mw_R rd))) rfl ?_
  by_cases q1 : (f_In_bitCount p2) ≤ ((p1 - p0) + (1 : Int32))
  · rw [if_pos q1] at hf
    refine rh_Ex.stp (s' := ((14, [some (.ref 0), some (.int p0), some (.int p1), some (.int p2), none], []), (h, g, mw_R rd))) rfl (st_icle_p q1) ?_
    refine rh_Ex.blk 2 (s' := ((16, [some (.ref 0), some (.int p0), some (.int p1), some (.int p2), none], [.int p1, .int p0]), (h, g, mw_R rd))) rfl ?_
    by_cases q2 : p0 ≤ p1
    · rw [if_pos q2] at hf
      refine rh_Ex.stp (s' := ((21, [some (.ref 0), some (.int p0), some (.int p1), some (.int p2), none], []), (h, g, mw_R rd))) rfl (st_icle_p q2) ?_
      refine rh_Ex.blk 2 (s' := ((24, [some (.ref 0), some (.int p0), some (.int p1), some (.int p2), some (.int (-1 : Int32))], []), (h, g, mw_R rd))) rfl ?_
      obtain ⟨r14, hr14, hf⟩ := rh_bq hf
      refine rh_Ex.fgt [some (.ref 0), some (.int p0), some (.int p1), some (.int p2), some (.int (-1 : Int32))] ⟨rfl, rfl, rfl, rfl, rfl, trivial⟩ ?_
      refine rh_Ex.loop _ _ _ (lb_Mo_planFrom_24 d rd T hT p0 p1 p2  g _ _) rh_N _ r14 hr14 ?_
      rcases r14 with e15 | t16
      · dsimp only at hf
        refine rh_Ex.blk 1 (s' := ((104, [none, none, none, none, none], [.int (0 : Int32)]), (e15, g, mw_R rd))) rfl ?_
        obtain rfl := Option.some.inj hf
        exact rh_Ex.ret rfl ⟨rfl, Or.inl rfl⟩
      · dsimp only at hf
        obtain rfl := Option.some.inj hf
        exact ⟨rfl, rfl⟩
    · rw [if_neg q2] at hf
      refine rh_Ex.stp (s' := ((19, [some (.ref 0), some (.int p0), some (.int p1), some (.int p2), none], []), (h, g, mw_R rd))) rfl (st_icle_n q2) ?_
      refine rh_Ex.blk 1 (s' := ((20, [some (.ref 0), some (.int p0), some (.int p1), some (.int p2), none], [.int (1 : Int32)]), (h, g, mw_R rd))) rfl ?_
      obtain rfl := Option.some.inj hf
      exact rh_Ex.ret rfl ⟨rfl, Or.inr rfl⟩
  · rw [if_neg q1] at hf
    refine rh_Ex.stp (s' := ((12, [some (.ref 0), some (.int p0), some (.int p1), some (.int p2), none], []), (h, g, mw_R rd))) rfl (st_icle_n q1) ?_
    refine rh_Ex.blk 1 (s' := ((13, [some (.ref 0), some (.int p0), some (.int p1), some (.int p2), none], [.int (0 : Int32)]), (h, g, mw_R rd))) rfl ?_
    obtain rfl := Option.some.inj hf
    exact rh_Ex.ret rfl ⟨rfl, Or.inl rfl⟩
def g_Mo_planFrom : Nat → (Nat → Nat → Int32) → Int32 → Int32 → Int32 → Option (Int32 × (Nat → Nat → Int32))
  | 0 => fun _ _ _ _ => none
  | n + 1 => f_Mo_planFrom (g_Mo_planFrom n)
set_option maxRecDepth 20000 in
set_option maxHeartbeats 4000000 in
theorem Rg_Mo_planFrom (rd : Option Nat) : ∀ (n : Nat) (h : Nat → Nat → Int32) (g : Nat → Nat → Int64) (a0 a1 a2 : Int32) z, g_Mo_planFrom n h a0 a1 a2 = some z → rh_M rh_PT mw_L (1 * n + 6) 248 [.ref 0, .int a0, .int a1, .int a2] (h, g, mw_R rd) (some (.int z.1)) (z.2, g, mw_R rd) := by
  intro n
  induction n with
  | zero => intro h g a0 a1 a2 z hz; cases hz
  | succ n ih =>
    intro h g a0 a1 a2 z hz
    exact R_Mo_planFrom (1 * n) rd (g_Mo_planFrom n) ih h g a0 a1 a2 hz
def f_Mo_planFromw (h : Nat → Nat → Int32) (p0 : Int32) (p1 : Int32) (p2 : Int32) : Option (Int32 × (Nat → Nat → Int32)) := f_Mo_planFrom (g_Mo_planFrom 16) h p0 p1 p2
set_option maxRecDepth 20000 in
set_option maxHeartbeats 4000000 in
theorem R_Mo_planFromw (d : Nat) (rd : Option Nat) (h : Nat → Nat → Int32) (g : Nat → Nat → Int64) (p0 : Int32) (p1 : Int32) (p2 : Int32) {z9 : Int32 × (Nat → Nat → Int32)} (hf : f_Mo_planFromw h p0 p1 p2 = some z9) : rh_M rh_PT mw_L (d + 23) 248 [.ref 0, .int p0, .int p1, .int p2] (h, g, mw_R rd) (some (.int z9.1)) (z9.2, g, mw_R rd) := R_Mo_planFrom (d + 16) rd (g_Mo_planFrom 16) (fun h g a0 a1 a2 z hz => rh_M_le (by omega) (Rg_Mo_planFrom rd 16 h g a0 a1 a2 z hz)) h g p0 p1 p2 hf
def b_Mo_earliest_53 (u1 : Int32) (rd : Option Nat) : (Int32 × (Nat → Nat → Int32)) → Option ((Int32 × (Nat → Nat → Int32)) ⊕ ((Nat → Nat → Int32))) := fun s53 =>
  if u1 < s53.1 then
    some (.inr s53.2)
  else
    rh_g (0 ≤ s53.1.toInt ∧ s53.1.toInt < ((9 : Nat) : Int)) (
      (f_Mo_tell s53.2 (s53.2 16 s53.1.toNatClampNeg)).bind (fun x10 =>
        some (.inl (s53.1 + (1 : Int32), x10))
      )
    )
def b_Mo_earliest_20 (rd : Option Nat) : (Int32 × (Nat → Nat → Int32)) → Option ((Int32 × (Nat → Nat → Int32)) ⊕ (((Nat → Nat → Int32)) ⊕ (Int32 × (Nat → Nat → Int32) × (Option Nat)))) := fun s20 =>
  if (9 : Int32) ≤ s20.1 then
    some (.inr (.inl s20.2))
  else
    (f_Mo_planFromw s20.2 (0 : Int32) s20.1 (((1 : Int32) <<< ((s20.2 0 29) &&& 31)) - (1 : Int32))).bind (fun x5 =>
      if x5.1 = 0 then
        some (.inl (s20.1 + (1 : Int32), x5.2))
      else
        (rh_loop (b_Mo_earliest_53 s20.1 rd) rh_N ((0 : Int32), rh_up x5.2 0 8 (0 : Int32))).bind (fun r11 =>
          some (.inr (.inr (s20.1, r11, rd)))
        )
    )
def f_Mo_earliest (h : Nat → Nat → Int32) (rd : Option Nat) : Option (Int32 × (Nat → Nat → Int32) × (Option Nat)) :=
  if (h 0 29) = 0 then
    some (((-1 : Int32), rh_up h 0 9 (0 : Int32), rd))
  else
    (f_Mo_findAble (rh_up h 0 9 (0 : Int32)) rd).bind (fun x2 =>
      (rh_loop (b_Mo_earliest_20 x2.2) rh_N ((0 : Int32), x2.1)).bind (fun r12 => match r12 with
        | .inl e13 =>
          some (((-2 : Int32), e13, x2.2))
        | .inr t14 => some t14)
    )
set_option maxRecDepth 20000 in
set_option maxHeartbeats 4000000 in
theorem lb_Mo_earliest_53 (d : Nat) (u1 : Int32) (rd : Option Nat) (g : Nat → Nat → Int64) (v9 : Option Value) (h9 : rh_H) : ∀ s53 x9, b_Mo_earliest_53 u1 rd s53 = some x9 → Sum.elim (fun s53 => rh_Ex (rh_M rh_PT mw_L (d + 269)) mw_L pg_X12_earliest ((53, [some (.ref 0), some (.int u1), some (.int s53.1)], []), (s53.2, g, mw_R rd)) v9 h9) (fun e9 => rh_Ex (rh_M rh_PT mw_L (d + 269)) mw_L pg_X12_earliest ((74, [none, some (.int u1), none], []), (e9, g, mw_R rd)) v9 h9) x9 → rh_Ex (rh_M rh_PT mw_L (d + 269)) mw_L pg_X12_earliest ((53, [some (.ref 0), some (.int u1), some (.int s53.1)], []), (s53.2, g, mw_R rd)) v9 h9 := by
  intro s53 x9 hf hk
  unfold b_Mo_earliest_53 at hf
  refine rh_Ex.blk 2 (s' := ((55, [some (.ref 0), some (.int u1), some (.int s53.1)], [.int u1, .int s53.1]), (s53.2, g, mw_R rd))) rfl ?_
  by_cases q8 : u1 < s53.1
  · rw [if_pos q8] at hf
    refine rh_Ex.stp (s' := ((74, [some (.ref 0), some (.int u1), some (.int s53.1)], []), (s53.2, g, mw_R rd))) rfl (st_icgt_p q8) ?_
    obtain rfl := Option.some.inj hf
    refine rh_Ex.fgt [none, some (.int u1), none] ⟨rfl, trivial⟩ ?_
    exact hk
  · rw [if_neg q8] at hf
    refine rh_Ex.stp (s' := ((58, [some (.ref 0), some (.int u1), some (.int s53.1)], []), (s53.2, g, mw_R rd))) rfl (st_icgt_n q8) ?_
    refine rh_Ex.blk 4 (s' := ((64, [some (.ref 0), some (.int u1), some (.int s53.1)], [.int s53.1, .ref 16, .ref 0]), (s53.2, g, mw_R rd))) rfl ?_
    obtain ⟨q9, hf⟩ := rh_gq hf
    refine rh_Ex.stp (s' := ((65, [some (.ref 0), some (.int u1), some (.int s53.1)], [.int (s53.2 16 s53.1.toNatClampNeg), .ref 0]), (s53.2, g, mw_R rd))) rfl (st_iald (n := 9) rfl q9) ?_
    obtain ⟨x10, hx10, hf⟩ := rh_bq hf
    refine rh_Ex.call (j := 182) (rc := some 11) [.ref 0, .int (s53.2 16 s53.1.toNatClampNeg)] [] none rfl rfl rfl (Nat.le_of_ble_eq_true rfl) (R_Mo_tell (d + 268) rd s53.2 g (s53.2 16 s53.1.toNatClampNeg) hx10) ?_
    show rh_Ex _ _ _ ((68, [some (.ref 0), some (.int u1), some (.int s53.1)], []), (x10, g, mw_R rd)) _ _
    refine rh_Ex.blk 2 (s' := ((53, [some (.ref 0), some (.int u1), some (.int (s53.1 + (1 : Int32)))], []), (x10, g, mw_R rd))) rfl ?_
    obtain rfl := Option.some.inj hf
    refine rh_Ex.fgt [some (.ref 0), some (.int u1), some (.int (s53.1 + (1 : Int32)))] ⟨rfl, rfl, rfl, trivial⟩ ?_
    exact hk
set_option maxRecDepth 20000 in
set_option maxHeartbeats 4000000 in
theorem lb_Mo_earliest_20 (d : Nat) (rd : Option Nat) (g : Nat → Nat → Int64) (v9 : Option Value) (h9 : rh_H) : ∀ s20 x9, b_Mo_earliest_20 rd s20 = some x9 → Sum.elim (fun s20 => rh_Ex (rh_M rh_PT mw_L (d + 269)) mw_L pg_X12_earliest ((20, [some (.ref 0), some (.int s20.1), none], []), (s20.2, g, mw_R rd)) v9 h9) (Sum.elim (fun e9 => rh_Ex (rh_M rh_PT mw_L (d + 269)) mw_L pg_X12_earliest ((82, [none, none, none], []), (e9, g, mw_R rd)) v9 h9) (fun t9 => v9 = (some (.int t9.1)) ∧ h9 = (t9.2.1, g, mw_R t9.2.2))) x9 → rh_Ex (rh_M rh_PT mw_L (d + 269)) mw_L pg_X12_earliest ((20, [some (.ref 0), some (.int s20.1), none], []), (s20.2, g, mw_R rd)) v9 h9 := by
  intro s20 x9 hf hk
  unfold b_Mo_earliest_20 at hf
  refine rh_Ex.blk 2 (s' := ((23, [some (.ref 0), some (.int s20.1), none], [.int (9 : Int32), .int s20.1]), (s20.2, g, mw_R rd))) rfl ?_
  by_cases q4 : (9 : Int32) ≤ s20.1
  · rw [if_pos q4] at hf
    refine rh_Ex.stp (s' := ((82, [some (.ref 0), some (.int s20.1), none], []), (s20.2, g, mw_R rd))) rfl (st_icge_p q4) ?_
    obtain rfl := Option.some.inj hf
    refine rh_Ex.fgt [none, none, none] trivial ?_
    exact hk
  · rw [if_neg q4] at hf
    refine rh_Ex.stp (s' := ((26, [some (.ref 0), some (.int s20.1), none], []), (s20.2, g, mw_R rd))) rfl (st_icge_n q4) ?_
    refine rh_Ex.blk 9 (s' := ((37, [some (.ref 0), some (.int s20.1), none], [.int (((1 : Int32) <<< ((s20.2 0 29) &&& 31)) - (1 : Int32)), .int s20.1, .int (0 : Int32), .ref 0]), (s20.2, g, mw_R rd))) rfl ?_
    obtain ⟨x5, hx5, hf⟩ := rh_bq hf
    refine rh_Ex.call (j := 248) (rc := some 11) [.ref 0, .int (0 : Int32), .int s20.1, .int (((1 : Int32) <<< ((s20.2 0 29) &&& 31)) - (1 : Int32))] [] (some (.int x5.1)) rfl rfl rfl (Nat.le_of_ble_eq_true rfl) (R_Mo_planFromw (d + 246) rd s20.2 g (0 : Int32) s20.1 (((1 : Int32) <<< ((s20.2 0 29) &&& 31)) - (1 : Int32)) hx5) ?_
    show rh_Ex _ _ _ ((40, [some (.ref 0), some (.int s20.1), none], [.int x5.1]), (x5.2, g, mw_R rd)) _ _
    by_cases q6 : x5.1 = 0
    · rw [if_pos q6] at hf
      refine rh_Ex.stp (s' := ((43, [some (.ref 0), some (.int s20.1), none], []), (x5.2, g, mw_R rd))) rfl (st_ifne_p q6) ?_
      refine rh_Ex.blk 3 (s' := ((20, [some (.ref 0), some (.int (s20.1 + (1 : Int32))), none], []), (x5.2, g, mw_R rd))) rfl ?_
      obtain rfl := Option.some.inj hf
      refine rh_Ex.fgt [some (.ref 0), some (.int (s20.1 + (1 : Int32))), none] ⟨rfl, rfl, trivial⟩ ?_
      exact hk
    · rw [if_neg q6] at hf
      refine rh_Ex.stp (s' := ((46, [some (.ref 0), some (.int s20.1), none], []), (x5.2, g, mw_R rd))) rfl (st_ifne_n q6) ?_
      refine rh_Ex.blk 5 (s' := ((53, [some (.ref 0), some (.int s20.1), some (.int (0 : Int32))], []), (rh_up x5.2 0 8 (0 : Int32), g, mw_R rd))) rfl ?_
      obtain ⟨r11, hr11, hf⟩ := rh_bq hf
      refine rh_Ex.fgt [some (.ref 0), some (.int s20.1), some (.int (0 : Int32))] ⟨rfl, rfl, rfl, trivial⟩ ?_
      refine rh_Ex.loop _ _ _ (lb_Mo_earliest_53 d s20.1 rd  g _ _) rh_N _ r11 hr11 ?_
      refine rh_Ex.blk 1 (s' := ((75, [none, some (.int s20.1), none], [.int s20.1]), (r11, g, mw_R rd))) rfl ?_
      obtain rfl := Option.some.inj hf
      obtain ⟨rfl, rfl⟩ := hk
      exact rh_Ex.ret rfl rfl
set_option maxRecDepth 20000 in
set_option maxHeartbeats 4000000 in
theorem R_Mo_earliest (d : Nat) (rd : Option Nat) (h : Nat → Nat → Int32) (g : Nat → Nat → Int64)  {z9 : Int32 × (Nat → Nat → Int32) × (Option Nat)} (hf : f_Mo_earliest h rd = some z9) : rh_M rh_PT mw_L (d + 270) 249 [.ref 0] (h, g, mw_R rd) (some (.int z9.1)) (z9.2.1, g, mw_R z9.2.2) := by
  unfold f_Mo_earliest at hf
  refine rh_go pt_249 (Nat.le_of_ble_eq_true rfl) (lv := [some (.ref 0), none, none]) rfl ?_
  refine rh_Ex.blk 5 (s' := ((9, [some (.ref 0), none, none], [.int (h 0 29)]), (rh_up h 0 9 (0 : Int32), g, mw_R rd))) rfl ?_
  by_cases q1 : (h 0 29) = 0
  · rw [if_pos q1] at hf
    refine rh_Ex.stp (s' := ((12, [some (.ref 0), none, none], []), (rh_up h 0 9 (0 : Int32), g, mw_R rd))) rfl (st_ifne_p q1) ?_
    refine rh_Ex.blk 1 (s' := ((13, [some (.ref 0), none, none], [.int (-1 : Int32)]), (rh_up h 0 9 (0 : Int32), g, mw_R rd))) rfl ?_
    obtain rfl := Option.some.inj hf
    exact rh_Ex.ret rfl rfl
  · rw [if_neg q1] at hf
    refine rh_Ex.stp (s' := ((14, [some (.ref 0), none, none], []), (rh_up h 0 9 (0 : Int32), g, mw_R rd))) rfl (st_ifne_n q1) ?_
    refine rh_Ex.blk 1 (s' := ((15, [some (.ref 0), none, none], [.ref 0]), (rh_up h 0 9 (0 : Int32), g, mw_R rd))) rfl ?_
    obtain ⟨x2, hx2, hf⟩ := rh_bq hf
    refine rh_Ex.call (j := 246) (rc := some 11) [.ref 0] [] none rfl rfl rfl (Nat.le_of_ble_eq_true rfl) (R_Mo_findAble d rd (rh_up h 0 9 (0 : Int32)) g  hx2) ?_
    show rh_Ex _ _ _ ((18, [some (.ref 0), none, none], []), (x2.1, g, mw_R x2.2)) _ _
    refine rh_Ex.blk 2 (s' := ((20, [some (.ref 0), some (.int (0 : Int32)), none], []), (x2.1, g, mw_R x2.2))) rfl ?_
    obtain ⟨r12, hr12, hf⟩ := rh_bq hf
    refine rh_Ex.fgt [some (.ref 0), some (.int (0 : Int32)), none] ⟨rfl, rfl, trivial⟩ ?_
    refine rh_Ex.loop _ _ _ (lb_Mo_earliest_20 d x2.2  g _ _) rh_N _ r12 hr12 ?_
    rcases r12 with e13 | t14
    · dsimp only at hf
      refine rh_Ex.blk 1 (s' := ((84, [none, none, none], [.int (-2 : Int32)]), (e13, g, mw_R x2.2))) rfl ?_
      obtain rfl := Option.some.inj hf
      exact rh_Ex.ret rfl rfl
    · dsimp only at hf
      obtain rfl := Option.some.inj hf
      exact ⟨rfl, rfl⟩
def b_Mo_most_30 (u2 : Int32) (rd : Option Nat) : (Int32 × (Nat → Nat → Int32)) → Option ((Int32 × (Nat → Nat → Int32)) ⊕ ((Nat → Nat → Int32))) := fun s30 =>
  if (32768 : Int32) ≤ s30.1 then
    some (.inr s30.2)
  else
    if s30.1 = 0 then
      rh_g (0 ≤ s30.1.toInt ∧ s30.1.toInt < ((32768 : Nat) : Int)) (
        some (.inl (s30.1 + (1 : Int32), rh_up s30.2 17 s30.1.toNatClampNeg ((1 : Int32) &&& 1)))
      )
    else
      rh_g (0 ≤ s30.1.toInt ∧ s30.1.toInt < ((32768 : Nat) : Int)) (
        some (.inl (s30.1 + (1 : Int32), rh_up s30.2 17 s30.1.toNatClampNeg ((0 : Int32) &&& 1)))
      )
def b_Mo_most_124 (u2 : Int32) (u3 : Int32) (u4 : Int32) (u5 : Int32) (u6 : Int32) (u8 : Int32) (rd : Option Nat) : (Int32 × Int32 × (Nat → Nat → Int32)) → Option ((Int32 × Int32 × (Nat → Nat → Int32)) ⊕ (Int32 × (Nat → Nat → Int32))) := fun s124 =>
  if (f_Mo_everybody s124.2.2) < s124.2.1 then
    some (.inr (s124.1, s124.2.2))
  else
    if (s124.2.1 &&& u8) = 0 then
      rh_g (0 ≤ ((u2 * u6) + s124.2.1).toInt ∧ ((u2 * u6) + s124.2.1).toInt < ((32768 : Nat) : Int)) (
        if (s124.2.2 17 ((u2 * u6) + s124.2.1).toNatClampNeg) = 0 then
          some (.inl (s124.1, s124.2.1 + (1 : Int32), s124.2.2))
        else
          rh_g (0 ≤ ((u2 * u4) + (s124.2.1 ||| u8)).toInt ∧ ((u2 * u4) + (s124.2.1 ||| u8)).toInt < ((32768 : Nat) : Int)) (
            some (.inl ((1 : Int32), s124.2.1 + (1 : Int32), rh_up s124.2.2 17 ((u2 * u4) + (s124.2.1 ||| u8)).toNatClampNeg ((1 : Int32) &&& 1)))
          )
      )
    else
      some (.inl (s124.1, s124.2.1 + (1 : Int32), s124.2.2))
def b_Mo_most_98 (u2 : Int32) (u3 : Int32) (u4 : Int32) (u5 : Int32) (u6 : Int32) (rd : Option Nat) : (Int32 × Int32 × (Nat → Nat → Int32)) → Option ((Int32 × Int32 × (Nat → Nat → Int32)) ⊕ (Int32 × (Nat → Nat → Int32))) := fun s98 =>
  if (f_Mo_everybody s98.2.2) < s98.2.1 then
    some (.inr (s98.1, s98.2.2))
  else
    (f_Mo_does s98.2.2 u5 s98.2.1).bind (fun x14 =>
      if x14 = 0 then
        some (.inl (s98.1, s98.2.1 + (1 : Int32), s98.2.2))
      else
        (rh_loop (b_Mo_most_124 u2 u3 u4 u5 u6 s98.2.1 rd) rh_N (s98.1, (0 : Int32), s98.2.2)).bind (fun r22 =>
          some (.inl (r22.1, s98.2.1 + (1 : Int32), r22.2))
        )
    )
def b_Mo_most_65 (u2 : Int32) (rd : Option Nat) : (Int32 × Int32 × (Nat → Nat → Int32)) → Option ((Int32 × Int32 × (Nat → Nat → Int32)) ⊕ (Int32 × (Nat → Nat → Int32))) := fun s65 =>
  if ((1 : Int32) <<< ((s65.2.2 0 29) &&& 31)) ≤ s65.2.1 then
    some (.inr (s65.1, s65.2.2))
  else
    (rh_loop (b_Mo_most_98 u2 s65.1 s65.2.1 (f_In_numberOfTrailingZeros s65.2.1) (s65.2.1 &&& (s65.2.1 - (1 : Int32))) rd) rh_N ((0 : Int32), (1 : Int32), s65.2.2)).bind (fun r23 =>
      if r23.1 = 0 then
        some (.inl (s65.1, s65.2.1 + (1 : Int32), r23.2))
      else
        if (f_In_bitCount s65.2.1) ≤ (f_In_bitCount s65.1) then
          some (.inl (s65.1, s65.2.1 + (1 : Int32), r23.2))
        else
          some (.inl (s65.2.1, s65.2.1 + (1 : Int32), r23.2))
    )
def f_Mo_most (h : Nat → Nat → Int32) (rd : Option Nat) (p0 : Int32) : Option (Int32 × (Nat → Nat → Int32) × (Option Nat)) :=
  (f_Mo_isBell p0).bind (fun x1 =>
    if x1 = 0 then
      some (((-1 : Int32), rh_up h 0 9 (0 : Int32), rd))
    else
      (f_Mo_findSets (rh_up h 0 9 (0 : Int32)) rd ((f_Mo_dawn (rh_up h 0 9 (0 : Int32))) + p0)).bind (fun x3 =>
        (rh_loop (b_Mo_most_30 (512 : Int32) x3.2) rh_N ((0 : Int32), x3.1)).bind (fun r9 =>
          (rh_loop (b_Mo_most_65 (512 : Int32) x3.2) rh_N ((0 : Int32), (1 : Int32), r9)).bind (fun r26 =>
            (f_Mo_tell (rh_up r26.2 0 8 (0 : Int32)) r26.1).bind (fun x27 =>
              some (((f_In_bitCount r26.1), x27, x3.2))
            )
          )
        )
      )
  )
set_option maxRecDepth 20000 in
set_option maxHeartbeats 4000000 in
theorem lb_Mo_most_30 (d : Nat) (u2 : Int32) (rd : Option Nat) (g : Nat → Nat → Int64) (v9 : Option Value) (h9 : rh_H) : ∀ s30 x9, b_Mo_most_30 u2 rd s30 = some x9 → Sum.elim (fun s30 => rh_Ex (rh_M rh_PT mw_L (d + 268)) mw_L pg_X12_most ((30, [some (.ref 0), none, some (.int u2), some (.int s30.1), none, none, none, none, none, none], []), (s30.2, g, mw_R rd)) v9 h9) (fun e9 => rh_Ex (rh_M rh_PT mw_L (d + 268)) mw_L pg_X12_most ((60, [some (.ref 0), none, some (.int u2), none, none, none, none, none, none, none], []), (e9, g, mw_R rd)) v9 h9) x9 → rh_Ex (rh_M rh_PT mw_L (d + 268)) mw_L pg_X12_most ((30, [some (.ref 0), none, some (.int u2), some (.int s30.1), none, none, none, none, none, none], []), (s30.2, g, mw_R rd)) v9 h9 := by
  intro s30 x9 hf hk
  unfold b_Mo_most_30 at hf
  refine rh_Ex.blk 4 (s' := ((36, [some (.ref 0), none, some (.int u2), some (.int s30.1), none, none, none, none, none, none], [.int (32768 : Int32), .int s30.1]), (s30.2, g, mw_R rd))) rfl ?_
  by_cases q5 : (32768 : Int32) ≤ s30.1
  · rw [if_pos q5] at hf
    refine rh_Ex.stp (s' := ((60, [some (.ref 0), none, some (.int u2), some (.int s30.1), none, none, none, none, none, none], []), (s30.2, g, mw_R rd))) rfl (st_icge_p q5) ?_
    obtain rfl := Option.some.inj hf
    refine rh_Ex.fgt [some (.ref 0), none, some (.int u2), none, none, none, none, none, none, none] ⟨rfl, rfl, trivial⟩ ?_
    exact hk
  · rw [if_neg q5] at hf
    refine rh_Ex.stp (s' := ((39, [some (.ref 0), none, some (.int u2), some (.int s30.1), none, none, none, none, none, none], []), (s30.2, g, mw_R rd))) rfl (st_icge_n q5) ?_
    refine rh_Ex.blk 4 (s' := ((45, [some (.ref 0), none, some (.int u2), some (.int s30.1), none, none, none, none, none, none], [.int s30.1, .int s30.1, .ref 17]), (s30.2, g, mw_R rd))) rfl ?_
    by_cases q6 : s30.1 = 0
    · rw [if_pos q6] at hf
      refine rh_Ex.stp (s' := ((48, [some (.ref 0), none, some (.int u2), some (.int s30.1), none, none, none, none, none, none], [.int s30.1, .ref 17]), (s30.2, g, mw_R rd))) rfl (st_ifne_p q6) ?_
      refine rh_Ex.blk 2 (s' := ((53, [some (.ref 0), none, some (.int u2), some (.int s30.1), none, none, none, none, none, none], [.int (1 : Int32), .int s30.1, .ref 17]), (s30.2, g, mw_R rd))) rfl ?_
      obtain ⟨q7, hf⟩ := rh_gq hf
      refine rh_Ex.stp (s' := ((54, [some (.ref 0), none, some (.int u2), some (.int s30.1), none, none, none, none, none, none], []), (rh_up s30.2 17 s30.1.toNatClampNeg ((1 : Int32) &&& 1), g, mw_R rd))) rfl (st_zast (n := 32768) rfl q7) ?_
      refine rh_Ex.blk 2 (s' := ((30, [some (.ref 0), none, some (.int u2), some (.int (s30.1 + (1 : Int32))), none, none, none, none, none, none], []), (rh_up s30.2 17 s30.1.toNatClampNeg ((1 : Int32) &&& 1), g, mw_R rd))) rfl ?_
      obtain rfl := Option.some.inj hf
      refine rh_Ex.fgt [some (.ref 0), none, some (.int u2), some (.int (s30.1 + (1 : Int32))), none, none, none, none, none, none] ⟨rfl, rfl, rfl, trivial⟩ ?_
      exact hk
    · rw [if_neg q6] at hf
      refine rh_Ex.stp (s' := ((52, [some (.ref 0), none, some (.int u2), some (.int s30.1), none, none, none, none, none, none], [.int s30.1, .ref 17]), (s30.2, g, mw_R rd))) rfl (st_ifne_n q6) ?_
      refine rh_Ex.blk 1 (s' := ((53, [some (.ref 0), none, some (.int u2), some (.int s30.1), none, none, none, none, none, none], [.int (0 : Int32), .int s30.1, .ref 17]), (s30.2, g, mw_R rd))) rfl ?_
      obtain ⟨q8, hf⟩ := rh_gq hf
      refine rh_Ex.stp (s' := ((54, [some (.ref 0), none, some (.int u2), some (.int s30.1), none, none, none, none, none, none], []), (rh_up s30.2 17 s30.1.toNatClampNeg ((0 : Int32) &&& 1), g, mw_R rd))) rfl (st_zast (n := 32768) rfl q8) ?_
      refine rh_Ex.blk 2 (s' := ((30, [some (.ref 0), none, some (.int u2), some (.int (s30.1 + (1 : Int32))), none, none, none, none, none, none], []), (rh_up s30.2 17 s30.1.toNatClampNeg ((0 : Int32) &&& 1), g, mw_R rd))) rfl ?_
      obtain rfl := Option.some.inj hf
      refine rh_Ex.fgt [some (.ref 0), none, some (.int u2), some (.int (s30.1 + (1 : Int32))), none, none, none, none, none, none] ⟨rfl, rfl, rfl, trivial⟩ ?_
      exact hk
set_option maxRecDepth 20000 in
set_option maxHeartbeats 4000000 in
theorem lb_Mo_most_124 (d : Nat) (u2 : Int32) (u3 : Int32) (u4 : Int32) (u5 : Int32) (u6 : Int32) (u8 : Int32) (rd : Option Nat) (g : Nat → Nat → Int64) (v9 : Option Value) (h9 : rh_H) : ∀ s124 x9, b_Mo_most_124 u2 u3 u4 u5 u6 u8 rd s124 = some x9 → Sum.elim (fun s124 => rh_Ex (rh_M rh_PT mw_L (d + 268)) mw_L pg_X12_most ((124, [some (.ref 0), none, some (.int u2), some (.int u3), some (.int u4), some (.int u5), some (.int u6), some (.int s124.1), some (.int u8), some (.int s124.2.1)], []), (s124.2.2, g, mw_R rd)) v9 h9) (fun e9 => rh_Ex (rh_M rh_PT mw_L (d + 268)) mw_L pg_X12_most ((184, [some (.ref 0), none, some (.int u2), some (.int u3), some (.int u4), some (.int u5), some (.int u6), some (.int e9.1), some (.int u8), none], []), (e9.2, g, mw_R rd)) v9 h9) x9 → rh_Ex (rh_M rh_PT mw_L (d + 268)) mw_L pg_X12_most ((124, [some (.ref 0), none, some (.int u2), some (.int u3), some (.int u4), some (.int u5), some (.int u6), some (.int s124.1), some (.int u8), some (.int s124.2.1)], []), (s124.2.2, g, mw_R rd)) v9 h9 := by
  intro s124 x9 hf hk
  unfold b_Mo_most_124 at hf
  refine rh_Ex.blk 2 (s' := ((127, [some (.ref 0), none, some (.int u2), some (.int u3), some (.int u4), some (.int u5), some (.int u6), some (.int s124.1), some (.int u8), some (.int s124.2.1)], [.ref 0, .int s124.2.1]), (s124.2.2, g, mw_R rd))) rfl ?_
  refine rh_Ex.call (j := 184) (rc := some 11) [.ref 0] [.int s124.2.1] (some (.int (f_Mo_everybody s124.2.2))) rfl rfl rfl (Nat.le_of_ble_eq_true rfl) (R_Mo_everybody (d + 267) rd s124.2.2 g  rfl) ?_
  show rh_Ex _ _ _ ((130, [some (.ref 0), none, some (.int u2), some (.int u3), some (.int u4), some (.int u5), some (.int u6), some (.int s124.1), some (.int u8), some (.int s124.2.1)], [.int (f_Mo_everybody s124.2.2), .int s124.2.1]), (s124.2.2, g, mw_R rd)) _ _
  by_cases q17 : (f_Mo_everybody s124.2.2) < s124.2.1
  · rw [if_pos q17] at hf
    refine rh_Ex.stp (s' := ((184, [some (.ref 0), none, some (.int u2), some (.int u3), some (.int u4), some (.int u5), some (.int u6), some (.int s124.1), some (.int u8), some (.int s124.2.1)], []), (s124.2.2, g, mw_R rd))) rfl (st_icgt_p q17) ?_
    obtain rfl := Option.some.inj hf
    refine rh_Ex.fgt [some (.ref 0), none, some (.int u2), some (.int u3), some (.int u4), some (.int u5), some (.int u6), some (.int s124.1), some (.int u8), none] ⟨rfl, rfl, rfl, rfl, rfl, rfl, rfl, rfl, trivial⟩ ?_
    exact hk
  · rw [if_neg q17] at hf
    refine rh_Ex.stp (s' := ((133, [some (.ref 0), none, some (.int u2), some (.int u3), some (.int u4), some (.int u5), some (.int u6), some (.int s124.1), some (.int u8), some (.int s124.2.1)], []), (s124.2.2, g, mw_R rd))) rfl (st_icgt_n q17) ?_
    refine rh_Ex.blk 3 (s' := ((138, [some (.ref 0), none, some (.int u2), some (.int u3), some (.int u4), some (.int u5), some (.int u6), some (.int s124.1), some (.int u8), some (.int s124.2.1)], [.int (s124.2.1 &&& u8)]), (s124.2.2, g, mw_R rd))) rfl ?_
    by_cases q18 : (s124.2.1 &&& u8) = 0
    · rw [if_pos q18] at hf
      refine rh_Ex.stp (s' := ((141, [some (.ref 0), none, some (.int u2), some (.int u3), some (.int u4), some (.int u5), some (.int u6), some (.int s124.1), some (.int u8), some (.int s124.2.1)], []), (s124.2.2, g, mw_R rd))) rfl (st_ifne_p q18) ?_
      refine rh_Ex.blk 7 (s' := ((152, [some (.ref 0), none, some (.int u2), some (.int u3), some (.int u4), some (.int u5), some (.int u6), some (.int s124.1), some (.int u8), some (.int s124.2.1)], [.int ((u2 * u6) + s124.2.1), .ref 17]), (s124.2.2, g, mw_R rd))) rfl ?_
      obtain ⟨q19, hf⟩ := rh_gq hf
      refine rh_Ex.stp (s' := ((153, [some (.ref 0), none, some (.int u2), some (.int u3), some (.int u4), some (.int u5), some (.int u6), some (.int s124.1), some (.int u8), some (.int s124.2.1)], [.int (s124.2.2 17 ((u2 * u6) + s124.2.1).toNatClampNeg)]), (s124.2.2, g, mw_R rd))) rfl (st_zald (n := 32768) rfl q19) ?_
      by_cases q20 : (s124.2.2 17 ((u2 * u6) + s124.2.1).toNatClampNeg) = 0
      · rw [if_pos q20] at hf
        refine rh_Ex.stp (s' := ((156, [some (.ref 0), none, some (.int u2), some (.int u3), some (.int u4), some (.int u5), some (.int u6), some (.int s124.1), some (.int u8), some (.int s124.2.1)], []), (s124.2.2, g, mw_R rd))) rfl (st_ifne_p q20) ?_
        refine rh_Ex.blk 3 (s' := ((124, [some (.ref 0), none, some (.int u2), some (.int u3), some (.int u4), some (.int u5), some (.int u6), some (.int s124.1), some (.int u8), some (.int (s124.2.1 + (1 : Int32)))], []), (s124.2.2, g, mw_R rd))) rfl ?_
        obtain rfl := Option.some.inj hf
        refine rh_Ex.fgt [some (.ref 0), none, some (.int u2), some (.int u3), some (.int u4), some (.int u5), some (.int u6), some (.int s124.1), some (.int u8), some (.int (s124.2.1 + (1 : Int32)))] ⟨rfl, rfl, rfl, rfl, rfl, rfl, rfl, rfl, rfl, trivial⟩ ?_
        exact hk
      · rw [if_neg q20] at hf
        refine rh_Ex.stp (s' := ((159, [some (.ref 0), none, some (.int u2), some (.int u3), some (.int u4), some (.int u5), some (.int u6), some (.int s124.1), some (.int u8), some (.int s124.2.1)], []), (s124.2.2, g, mw_R rd))) rfl (st_ifne_n q20) ?_
        refine rh_Ex.blk 10 (s' := ((174, [some (.ref 0), none, some (.int u2), some (.int u3), some (.int u4), some (.int u5), some (.int u6), some (.int s124.1), some (.int u8), some (.int s124.2.1)], [.int (1 : Int32), .int ((u2 * u4) + (s124.2.1 ||| u8)), .ref 17]), (s124.2.2, g, mw_R rd))) rfl ?_
        obtain ⟨q21, hf⟩ := rh_gq hf
        refine rh_Ex.stp (s' := ((175, [some (.ref 0), none, some (.int u2), some (.int u3), some (.int u4), some (.int u5), some (.int u6), some (.int s124.1), some (.int u8), some (.int s124.2.1)], []), (rh_up s124.2.2 17 ((u2 * u4) + (s124.2.1 ||| u8)).toNatClampNeg ((1 : Int32) &&& 1), g, mw_R rd))) rfl (st_zast (n := 32768) rfl q21) ?_
        refine rh_Ex.blk 4 (s' := ((124, [some (.ref 0), none, some (.int u2), some (.int u3), some (.int u4), some (.int u5), some (.int u6), some (.int (1 : Int32)), some (.int u8), some (.int (s124.2.1 + (1 : Int32)))], []), (rh_up s124.2.2 17 ((u2 * u4) + (s124.2.1 ||| u8)).toNatClampNeg ((1 : Int32) &&& 1), g, mw_R rd))) rfl ?_
        obtain rfl := Option.some.inj hf
        refine rh_Ex.fgt [some (.ref 0), none, some (.int u2), some (.int u3), some (.int u4), some (.int u5), some (.int u6), some (.int (1 : Int32)), some (.int u8), some (.int (s124.2.1 + (1 : Int32)))] ⟨rfl, rfl, rfl, rfl, rfl, rfl, rfl, rfl, rfl, trivial⟩ ?_
        exact hk
    · rw [if_neg q18] at hf
      refine rh_Ex.stp (s' := ((178, [some (.ref 0), none, some (.int u2), some (.int u3), some (.int u4), some (.int u5), some (.int u6), some (.int s124.1), some (.int u8), some (.int s124.2.1)], []), (s124.2.2, g, mw_R rd))) rfl (st_ifne_n q18) ?_
      refine rh_Ex.blk 2 (s' := ((124, [some (.ref 0), none, some (.int u2), some (.int u3), some (.int u4), some (.int u5), some (.int u6), some (.int s124.1), some (.int u8), some (.int (s124.2.1 + (1 : Int32)))], []), (s124.2.2, g, mw_R rd))) rfl ?_
      obtain rfl := Option.some.inj hf
      refine rh_Ex.fgt [some (.ref 0), none, some (.int u2), some (.int u3), some (.int u4), some (.int u5), some (.int u6), some (.int s124.1), some (.int u8), some (.int (s124.2.1 + (1 : Int32)))] ⟨rfl, rfl, rfl, rfl, rfl, rfl, rfl, rfl, rfl, trivial⟩ ?_
      exact hk
set_option maxRecDepth 20000 in
set_option maxHeartbeats 4000000 in
theorem lb_Mo_most_98 (d : Nat) (u2 : Int32) (u3 : Int32) (u4 : Int32) (u5 : Int32) (u6 : Int32) (rd : Option Nat) (g : Nat → Nat → Int64) (v9 : Option Value) (h9 : rh_H) : ∀ s98 x9, b_Mo_most_98 u2 u3 u4 u5 u6 rd s98 = some x9 → Sum.elim (fun s98 => rh_Ex (rh_M rh_PT mw_L (d + 268)) mw_L pg_X12_most ((98, [some (.ref 0), none, some (.int u2), some (.int u3), some (.int u4), some (.int u5), some (.int u6), some (.int s98.1), some (.int s98.2.1), none], []), (s98.2.2, g, mw_R rd)) v9 h9) (fun e9 => rh_Ex (rh_M rh_PT mw_L (d + 268)) mw_L pg_X12_most ((190, [some (.ref 0), none, some (.int u2), some (.int u3), some (.int u4), none, none, some (.int e9.1), none, none], []), (e9.2, g, mw_R rd)) v9 h9) x9 → rh_Ex (rh_M rh_PT mw_L (d + 268)) mw_L pg_X12_most ((98, [some (.ref 0), none, some (.int u2), some (.int u3), some (.int u4), some (.int u5), some (.int u6), some (.int s98.1), some (.int s98.2.1), none], []), (s98.2.2, g, mw_R rd)) v9 h9 := by
  intro s98 x9 hf hk
  unfold b_Mo_most_98 at hf
  refine rh_Ex.blk 2 (s' := ((101, [some (.ref 0), none, some (.int u2), some (.int u3), some (.int u4), some (.int u5), some (.int u6), some (.int s98.1), some (.int s98.2.1), none], [.ref 0, .int s98.2.1]), (s98.2.2, g, mw_R rd))) rfl ?_
  refine rh_Ex.call (j := 184) (rc := some 11) [.ref 0] [.int s98.2.1] (some (.int (f_Mo_everybody s98.2.2))) rfl rfl rfl (Nat.le_of_ble_eq_true rfl) (R_Mo_everybody (d + 267) rd s98.2.2 g  rfl) ?_
  show rh_Ex _ _ _ ((104, [some (.ref 0), none, some (.int u2), some (.int u3), some (.int u4), some (.int u5), some (.int u6), some (.int s98.1), some (.int s98.2.1), none], [.int (f_Mo_everybody s98.2.2), .int s98.2.1]), (s98.2.2, g, mw_R rd)) _ _
  by_cases q13 : (f_Mo_everybody s98.2.2) < s98.2.1
  · rw [if_pos q13] at hf
    refine rh_Ex.stp (s' := ((190, [some (.ref 0), none, some (.int u2), some (.int u3), some (.int u4), some (.int u5), some (.int u6), some (.int s98.1), some (.int s98.2.1), none], []), (s98.2.2, g, mw_R rd))) rfl (st_icgt_p q13) ?_
    obtain rfl := Option.some.inj hf
    refine rh_Ex.fgt [some (.ref 0), none, some (.int u2), some (.int u3), some (.int u4), none, none, some (.int s98.1), none, none] ⟨rfl, rfl, rfl, rfl, rfl, trivial⟩ ?_
    exact hk
  · rw [if_neg q13] at hf
    refine rh_Ex.stp (s' := ((107, [some (.ref 0), none, some (.int u2), some (.int u3), some (.int u4), some (.int u5), some (.int u6), some (.int s98.1), some (.int s98.2.1), none], []), (s98.2.2, g, mw_R rd))) rfl (st_icgt_n q13) ?_
    refine rh_Ex.blk 3 (s' := ((112, [some (.ref 0), none, some (.int u2), some (.int u3), some (.int u4), some (.int u5), some (.int u6), some (.int s98.1), some (.int s98.2.1), none], [.int s98.2.1, .int u5, .ref 0]), (s98.2.2, g, mw_R rd))) rfl ?_
    obtain ⟨x14, hx14, hf⟩ := rh_bq hf
    refine rh_Ex.call (j := 243) (rc := some 11) [.ref 0, .int u5, .int s98.2.1] [] (some (.int x14)) rfl rfl rfl (Nat.le_of_ble_eq_true rfl) (R_Mo_does (d + 266) rd s98.2.2 g u5 s98.2.1 hx14) ?_
    show rh_Ex _ _ _ ((115, [some (.ref 0), none, some (.int u2), some (.int u3), some (.int u4), some (.int u5), some (.int u6), some (.int s98.1), some (.int s98.2.1), none], [.int x14]), (s98.2.2, g, mw_R rd)) _ _
    by_cases q15 : x14 = 0
    · rw [if_pos q15] at hf
      refine rh_Ex.stp (s' := ((118, [some (.ref 0), none, some (.int u2), some (.int u3), some (.int u4), some (.int u5), some (.int u6), some (.int s98.1), some (.int s98.2.1), none], []), (s98.2.2, g, mw_R rd))) rfl (st_ifne_p q15) ?_
      refine rh_Ex.blk 3 (s' := ((98, [some (.ref 0), none, some (.int u2), some (.int u3), some (.int u4), some (.int u5), some (.int u6), some (.int s98.1), some (.int (s98.2.1 + (1 : Int32))), none], []), (s98.2.2, g, mw_R rd))) rfl ?_
      obtain rfl := Option.some.inj hf
      refine rh_Ex.fgt [some (.ref 0), none, some (.int u2), some (.int u3), some (.int u4), some (.int u5), some (.int u6), some (.int s98.1), some (.int (s98.2.1 + (1 : Int32))), none] ⟨rfl, rfl, rfl, rfl, rfl, rfl, rfl, rfl, trivial⟩ ?_
      exact hk
    · rw [if_neg q15] at hf
      refine rh_Ex.stp (s' := ((121, [some (.ref 0), none, some (.int u2), some (.int u3), some (.int u4), some (.int u5), some (.int u6), some (.int s98.1), some (.int s98.2.1), none], []), (s98.2.2, g, mw_R rd))) rfl (st_ifne_n q15) ?_
      refine rh_Ex.blk 2 (s' := ((124, [some (.ref 0), none, some (.int u2), some (.int u3), some (.int u4), some (.int u5), some (.int u6), some (.int s98.1), some (.int s98.2.1), some (.int (0 : Int32))], []), (s98.2.2, g, mw_R rd))) rfl ?_
      obtain ⟨r22, hr22, hf⟩ := rh_bq hf
      refine rh_Ex.fgt [some (.ref 0), none, some (.int u2), some (.int u3), some (.int u4), some (.int u5), some (.int u6), some (.int s98.1), some (.int s98.2.1), some (.int (0 : Int32))] ⟨rfl, rfl, rfl, rfl, rfl, rfl, rfl, rfl, rfl, trivial⟩ ?_
      refine rh_Ex.loop _ _ _ (lb_Mo_most_124 d u2 u3 u4 u5 u6 s98.2.1 rd  g _ _) rh_N _ r22 hr22 ?_
      refine rh_Ex.blk 2 (s' := ((98, [some (.ref 0), none, some (.int u2), some (.int u3), some (.int u4), some (.int u5), some (.int u6), some (.int r22.1), some (.int (s98.2.1 + (1 : Int32))), none], []), (r22.2, g, mw_R rd))) rfl ?_
      obtain rfl := Option.some.inj hf
      refine rh_Ex.fgt [some (.ref 0), none, some (.int u2), some (.int u3), some (.int u4), some (.int u5), some (.int u6), some (.int r22.1), some (.int (s98.2.1 + (1 : Int32))), none] ⟨rfl, rfl, rfl, rfl, rfl, rfl, rfl, rfl, trivial⟩ ?_
      exact hk
set_option maxRecDepth 20000 in
set_option maxHeartbeats 4000000 in
theorem lb_Mo_most_65 (d : Nat) (u2 : Int32) (rd : Option Nat) (g : Nat → Nat → Int64) (v9 : Option Value) (h9 : rh_H) : ∀ s65 x9, b_Mo_most_65 u2 rd s65 = some x9 → Sum.elim (fun s65 => rh_Ex (rh_M rh_PT mw_L (d + 268)) mw_L pg_X12_most ((65, [some (.ref 0), none, some (.int u2), some (.int s65.1), some (.int s65.2.1), none, none, none, none, none], []), (s65.2.2, g, mw_R rd)) v9 h9) (fun e9 => rh_Ex (rh_M rh_PT mw_L (d + 268)) mw_L pg_X12_most ((216, [some (.ref 0), none, none, some (.int e9.1), none, none, none, none, none, none], []), (e9.2, g, mw_R rd)) v9 h9) x9 → rh_Ex (rh_M rh_PT mw_L (d + 268)) mw_L pg_X12_most ((65, [some (.ref 0), none, some (.int u2), some (.int s65.1), some (.int s65.2.1), none, none, none, none, none], []), (s65.2.2, g, mw_R rd)) v9 h9 := by
  intro s65 x9 hf hk
  unfold b_Mo_most_65 at hf
  refine rh_Ex.blk 5 (s' := ((73, [some (.ref 0), none, some (.int u2), some (.int s65.1), some (.int s65.2.1), none, none, none, none, none], [.int ((1 : Int32) <<< ((s65.2.2 0 29) &&& 31)), .int s65.2.1]), (s65.2.2, g, mw_R rd))) rfl ?_
  by_cases q11 : ((1 : Int32) <<< ((s65.2.2 0 29) &&& 31)) ≤ s65.2.1
  · rw [if_pos q11] at hf
    refine rh_Ex.stp (s' := ((216, [some (.ref 0), none, some (.int u2), some (.int s65.1), some (.int s65.2.1), none, none, none, none, none], []), (s65.2.2, g, mw_R rd))) rfl (st_icge_p q11) ?_
    obtain rfl := Option.some.inj hf
    refine rh_Ex.fgt [some (.ref 0), none, none, some (.int s65.1), none, none, none, none, none, none] ⟨rfl, rfl, trivial⟩ ?_
    exact hk
  · rw [if_neg q11] at hf
    refine rh_Ex.stp (s' := ((76, [some (.ref 0), none, some (.int u2), some (.int s65.1), some (.int s65.2.1), none, none, none, none, none], []), (s65.2.2, g, mw_R rd))) rfl (st_icge_n q11) ?_
    refine rh_Ex.blk 1 (s' := ((78, [some (.ref 0), none, some (.int u2), some (.int s65.1), some (.int s65.2.1), none, none, none, none, none], [.int s65.2.1]), (s65.2.2, g, mw_R rd))) rfl ?_
    refine rh_Ex.call (j := 297) (rc := none) [.int s65.2.1] [] (some (.int (f_In_numberOfTrailingZeros s65.2.1))) rfl rfl trivial (Nat.le_of_ble_eq_true rfl) (R_In_numberOfTrailingZeros (d + 267) mw_L (mw_R rd) s65.2.2 g s65.2.1 rfl) ?_
    show rh_Ex _ _ _ ((81, [some (.ref 0), none, some (.int u2), some (.int s65.1), some (.int s65.2.1), none, none, none, none, none], [.int (f_In_numberOfTrailingZeros s65.2.1)]), (s65.2.2, g, mw_R rd)) _ _
    refine rh_Ex.blk 11 (s' := ((98, [some (.ref 0), none, some (.int u2), some (.int s65.1), some (.int s65.2.1), some (.int (f_In_numberOfTrailingZeros s65.2.1)), some (.int (s65.2.1 &&& (s65.2.1 - (1 : Int32)))), some (.int (0 : Int32)), some (.int (1 : Int32)), none], []), (s65.2.2, g, mw_R rd))) rfl ?_
    obtain ⟨r23, hr23, hf⟩ := rh_bq hf
    refine rh_Ex.fgt [some (.ref 0), none, some (.int u2), some (.int s65.1), some (.int s65.2.1), some (.int (f_In_numberOfTrailingZeros s65.2.1)), some (.int (s65.2.1 &&& (s65.2.1 - (1 : Int32)))), some (.int (0 : Int32)), some (.int (1 : Int32)), none] ⟨rfl, rfl, rfl, rfl, rfl, rfl, rfl, rfl, trivial⟩ ?_
    refine rh_Ex.loop _ _ _ (lb_Mo_most_98 d u2 s65.1 s65.2.1 (f_In_numberOfTrailingZeros s65.2.1) (s65.2.1 &&& (s65.2.1 - (1 : Int32))) rd  g _ _) rh_N _ r23 hr23 ?_
    refine rh_Ex.blk 1 (s' := ((192, [some (.ref 0), none, some (.int u2), some (.int s65.1), some (.int s65.2.1), none, none, some (.int r23.1), none, none], [.int r23.1]), (r23.2, g, mw_R rd))) rfl ?_
    by_cases q24 : r23.1 = 0
    · rw [if_pos q24] at hf
      refine rh_Ex.stp (s' := ((210, [some (.ref 0), none, some (.int u2), some (.int s65.1), some (.int s65.2.1), none, none, some (.int r23.1), none, none], []), (r23.2, g, mw_R rd))) rfl (st_ifeq_p q24) ?_
      refine rh_Ex.blk 2 (s' := ((65, [some (.ref 0), none, some (.int u2), some (.int s65.1), some (.int (s65.2.1 + (1 : Int32))), none, none, some (.int r23.1), none, none], []), (r23.2, g, mw_R rd))) rfl ?_
      obtain rfl := Option.some.inj hf
      refine rh_Ex.fgt [some (.ref 0), none, some (.int u2), some (.int s65.1), some (.int (s65.2.1 + (1 : Int32))), none, none, none, none, none] ⟨rfl, rfl, rfl, rfl, trivial⟩ ?_
      exact hk
    · rw [if_neg q24] at hf
      refine rh_Ex.stp (s' := ((195, [some (.ref 0), none, some (.int u2), some (.int s65.1), some (.int s65.2.1), none, none, some (.int r23.1), none, none], []), (r23.2, g, mw_R rd))) rfl (st_ifeq_n q24) ?_
      refine rh_Ex.blk 1 (s' := ((197, [some (.ref 0), none, some (.int u2), some (.int s65.1), some (.int s65.2.1), none, none, some (.int r23.1), none, none], [.int s65.2.1]), (r23.2, g, mw_R rd))) rfl ?_
      refine rh_Ex.call (j := 298) (rc := none) [.int s65.2.1] [] (some (.int (f_In_bitCount s65.2.1))) rfl rfl trivial (Nat.le_of_ble_eq_true rfl) (R_In_bitCount (d + 267) mw_L (mw_R rd) r23.2 g s65.2.1 rfl) ?_
      show rh_Ex _ _ _ ((200, [some (.ref 0), none, some (.int u2), some (.int s65.1), some (.int s65.2.1), none, none, some (.int r23.1), none, none], [.int (f_In_bitCount s65.2.1)]), (r23.2, g, mw_R rd)) _ _
      refine rh_Ex.blk 1 (s' := ((201, [some (.ref 0), none, some (.int u2), some (.int s65.1), some (.int s65.2.1), none, none, some (.int r23.1), none, none], [.int s65.1, .int (f_In_bitCount s65.2.1)]), (r23.2, g, mw_R rd))) rfl ?_
      refine rh_Ex.call (j := 298) (rc := none) [.int s65.1] [.int (f_In_bitCount s65.2.1)] (some (.int (f_In_bitCount s65.1))) rfl rfl trivial (Nat.le_of_ble_eq_true rfl) (R_In_bitCount (d + 267) mw_L (mw_R rd) r23.2 g s65.1 rfl) ?_
      show rh_Ex _ _ _ ((204, [some (.ref 0), none, some (.int u2), some (.int s65.1), some (.int s65.2.1), none, none, some (.int r23.1), none, none], [.int (f_In_bitCount s65.1), .int (f_In_bitCount s65.2.1)]), (r23.2, g, mw_R rd)) _ _
      by_cases q25 : (f_In_bitCount s65.2.1) ≤ (f_In_bitCount s65.1)
      · rw [if_pos q25] at hf
        refine rh_Ex.stp (s' := ((210, [some (.ref 0), none, some (.int u2), some (.int s65.1), some (.int s65.2.1), none, none, some (.int r23.1), none, none], []), (r23.2, g, mw_R rd))) rfl (st_icle_p q25) ?_
        refine rh_Ex.blk 2 (s' := ((65, [some (.ref 0), none, some (.int u2), some (.int s65.1), some (.int (s65.2.1 + (1 : Int32))), none, none, some (.int r23.1), none, none], []), (r23.2, g, mw_R rd))) rfl ?_
        obtain rfl := Option.some.inj hf
        refine rh_Ex.fgt [some (.ref 0), none, some (.int u2), some (.int s65.1), some (.int (s65.2.1 + (1 : Int32))), none, none, none, none, none] ⟨rfl, rfl, rfl, rfl, trivial⟩ ?_
        exact hk
      · rw [if_neg q25] at hf
        refine rh_Ex.stp (s' := ((207, [some (.ref 0), none, some (.int u2), some (.int s65.1), some (.int s65.2.1), none, none, some (.int r23.1), none, none], []), (r23.2, g, mw_R rd))) rfl (st_icle_n q25) ?_
        refine rh_Ex.blk 4 (s' := ((65, [some (.ref 0), none, some (.int u2), some (.int s65.2.1), some (.int (s65.2.1 + (1 : Int32))), none, none, some (.int r23.1), none, none], []), (r23.2, g, mw_R rd))) rfl ?_
        obtain rfl := Option.some.inj hf
        refine rh_Ex.fgt [some (.ref 0), none, some (.int u2), some (.int s65.2.1), some (.int (s65.2.1 + (1 : Int32))), none, none, none, none, none] ⟨rfl, rfl, rfl, rfl, trivial⟩ ?_
        exact hk
set_option maxRecDepth 20000 in
set_option maxHeartbeats 4000000 in
theorem R_Mo_most (d : Nat) (rd : Option Nat) (h : Nat → Nat → Int32) (g : Nat → Nat → Int64) (p0 : Int32) {z9 : Int32 × (Nat → Nat → Int32) × (Option Nat)} (hf : f_Mo_most h rd p0 = some z9) : rh_M rh_PT mw_L (d + 269) 250 [.ref 0, .int p0] (h, g, mw_R rd) (some (.int z9.1)) (z9.2.1, g, mw_R z9.2.2) := by
  unfold f_Mo_most at hf
  refine rh_go pt_250 (Nat.le_of_ble_eq_true rfl) (lv := [some (.ref 0), some (.int p0), none, none, none, none, none, none, none, none]) rfl ?_
  refine rh_Ex.blk 4 (s' := ((6, [some (.ref 0), some (.int p0), none, none, none, none, none, none, none, none], [.int p0]), (rh_up h 0 9 (0 : Int32), g, mw_R rd))) rfl ?_
  obtain ⟨x1, hx1, hf⟩ := rh_bq hf
  refine rh_Ex.call (j := 186) (rc := none) [.int p0] [] (some (.int x1)) rfl rfl trivial (Nat.le_of_ble_eq_true rfl) (R_Mo_isBell (d + 266) mw_L (mw_R rd) (rh_up h 0 9 (0 : Int32)) g p0 hx1) ?_
  show rh_Ex _ _ _ ((9, [some (.ref 0), some (.int p0), none, none, none, none, none, none, none, none], [.int x1]), (rh_up h 0 9 (0 : Int32), g, mw_R rd)) _ _
  by_cases q2 : x1 = 0
  · rw [if_pos q2] at hf
    refine rh_Ex.stp (s' := ((12, [some (.ref 0), some (.int p0), none, none, none, none, none, none, none, none], []), (rh_up h 0 9 (0 : Int32), g, mw_R rd))) rfl (st_ifne_p q2) ?_
    refine rh_Ex.blk 1 (s' := ((13, [some (.ref 0), some (.int p0), none, none, none, none, none, none, none, none], [.int (-1 : Int32)]), (rh_up h 0 9 (0 : Int32), g, mw_R rd))) rfl ?_
    obtain rfl := Option.some.inj hf
    exact rh_Ex.ret rfl rfl
  · rw [if_neg q2] at hf
    refine rh_Ex.stp (s' := ((14, [some (.ref 0), some (.int p0), none, none, none, none, none, none, none, none], []), (rh_up h 0 9 (0 : Int32), g, mw_R rd))) rfl (st_ifne_n q2) ?_
    refine rh_Ex.blk 2 (s' := ((16, [some (.ref 0), some (.int p0), none, none, none, none, none, none, none, none], [.ref 0, .ref 0]), (rh_up h 0 9 (0 : Int32), g, mw_R rd))) rfl ?_
    refine rh_Ex.call (j := 209) (rc := some 11) [.ref 0] [.ref 0] (some (.int (f_Mo_dawn (rh_up h 0 9 (0 : Int32))))) rfl rfl rfl (Nat.le_of_ble_eq_true rfl) (R_Mo_dawn (d + 267) rd (rh_up h 0 9 (0 : Int32)) g  rfl) ?_
    show rh_Ex _ _ _ ((19, [some (.ref 0), some (.int p0), none, none, none, none, none, none, none, none], [.int (f_Mo_dawn (rh_up h 0 9 (0 : Int32))), .ref 0]), (rh_up h 0 9 (0 : Int32), g, mw_R rd)) _ _
    refine rh_Ex.blk 2 (s' := ((21, [some (.ref 0), some (.int p0), none, none, none, none, none, none, none, none], [.int ((f_Mo_dawn (rh_up h 0 9 (0 : Int32))) + p0), .ref 0]), (rh_up h 0 9 (0 : Int32), g, mw_R rd))) rfl ?_
    obtain ⟨x3, hx3, hf⟩ := rh_bq hf
    refine rh_Ex.call (j := 208) (rc := some 11) [.ref 0, .int ((f_Mo_dawn (rh_up h 0 9 (0 : Int32))) + p0)] [] none rfl rfl rfl (Nat.le_of_ble_eq_true rfl) (R_Mo_findSets d rd (rh_up h 0 9 (0 : Int32)) g ((f_Mo_dawn (rh_up h 0 9 (0 : Int32))) + p0) hx3) ?_
    show rh_Ex _ _ _ ((24, [some (.ref 0), some (.int p0), none, none, none, none, none, none, none, none], []), (x3.1, g, mw_R x3.2)) _ _
    refine rh_Ex.blk 4 (s' := ((30, [some (.ref 0), some (.int p0), some (.int (512 : Int32)), some (.int (0 : Int32)), none, none, none, none, none, none], []), (x3.1, g, mw_R x3.2))) rfl ?_
    obtain ⟨r9, hr9, hf⟩ := rh_bq hf
    refine rh_Ex.fgt [some (.ref 0), none, some (.int (512 : Int32)), some (.int (0 : Int32)), none, none, none, none, none, none] ⟨rfl, rfl, rfl, trivial⟩ ?_
    refine rh_Ex.loop _ _ _ (lb_Mo_most_30 d (512 : Int32) x3.2  g _ _) rh_N _ r9 hr9 ?_
    refine rh_Ex.blk 4 (s' := ((65, [some (.ref 0), none, some (.int (512 : Int32)), some (.int (0 : Int32)), some (.int (1 : Int32)), none, none, none, none, none], []), (r9, g, mw_R x3.2))) rfl ?_
    obtain ⟨r26, hr26, hf⟩ := rh_bq hf
    refine rh_Ex.fgt [some (.ref 0), none, some (.int (512 : Int32)), some (.int (0 : Int32)), some (.int (1 : Int32)), none, none, none, none, none] ⟨rfl, rfl, rfl, rfl, trivial⟩ ?_
    refine rh_Ex.loop _ _ _ (lb_Mo_most_65 d (512 : Int32) x3.2  g _ _) rh_N _ r26 hr26 ?_
    refine rh_Ex.blk 5 (s' := ((223, [some (.ref 0), none, none, some (.int r26.1), none, none, none, none, none, none], [.int r26.1, .ref 0]), (rh_up r26.2 0 8 (0 : Int32), g, mw_R x3.2))) rfl ?_
    obtain ⟨x27, hx27, hf⟩ := rh_bq hf
    refine rh_Ex.call (j := 182) (rc := some 11) [.ref 0, .int r26.1] [] none rfl rfl rfl (Nat.le_of_ble_eq_true rfl) (R_Mo_tell (d + 267) x3.2 (rh_up r26.2 0 8 (0 : Int32)) g r26.1 hx27) ?_
    show rh_Ex _ _ _ ((226, [some (.ref 0), none, none, some (.int r26.1), none, none, none, none, none, none], []), (x27, g, mw_R x3.2)) _ _
    refine rh_Ex.blk 1 (s' := ((227, [some (.ref 0), none, none, some (.int r26.1), none, none, none, none, none, none], [.int r26.1]), (x27, g, mw_R x3.2))) rfl ?_
    refine rh_Ex.call (j := 298) (rc := none) [.int r26.1] [] (some (.int (f_In_bitCount r26.1))) rfl rfl trivial (Nat.le_of_ble_eq_true rfl) (R_In_bitCount (d + 267) mw_L (mw_R x3.2) x27 g r26.1 rfl) ?_
    show rh_Ex _ _ _ ((230, [some (.ref 0), none, none, some (.int r26.1), none, none, none, none, none, none], [.int (f_In_bitCount r26.1)]), (x27, g, mw_R x3.2)) _ _
    obtain rfl := Option.some.inj hf
    exact rh_Ex.ret rfl rfl
