def f_La_forget (h : Nat → Nat → Int32) : Int32 × (Nat → Nat → Int32) :=
  (h 25 0, rh_up h 25 0 (0 : Int32))
set_option maxRecDepth 20000 in
set_option maxHeartbeats 4000000 in
theorem R_La_forget (d : Nat) (xx : rh_L) (sv : Option Nat) (h : Nat → Nat → Int32) (g : Nat → Nat → Int64)  {z9 : Int32 × (Nat → Nat → Int32)} (hf : f_La_forget h = z9) : rh_M rh_PT (cw_L ++ xx) (d + 1) 126 [.ref 0] (h, g, cw_R sv) (some (.int z9.1)) (z9.2, g, cw_R sv) := by
  unfold f_La_forget at hf
  refine rh_go pt_126 (Nat.le_of_ble_eq_true rfl) (lv := [some (.ref 0), none]) rfl ?_
  refine rh_Ex.blk 9 (s' := ((17, [some (.ref 0), some (.int (h 25 0))], [.int (h 25 0)]), (rh_up h 25 0 (0 : Int32), g, cw_R sv))) rfl ?_
  subst hf
  exact rh_Ex.ret rfl rfl
def b_La_crew_42 (u1 : Int32) (h : Nat → Nat → Int32) : (Int32 × Int32 × Int32) → Option ((Int32 × Int32 × Int32) ⊕ (Int32 × Int32)) := fun s42 =>
  if (f_Cr_sets h) ≤ s42.2.2 then
    some (.inr (s42.1, s42.2.1))
  else
    rh_g (0 ≤ s42.2.2.toInt ∧ s42.2.2.toInt < ((512 : Nat) : Int)) (
      (f_Ta_suits h u1 (h 12 s42.2.2.toNatClampNeg)).bind (fun x8 =>
        if x8 = 0 then
          some (.inl (s42.1, s42.2.1, s42.2.2 + (1 : Int32)))
        else
          if s42.2.1 ≤ (f_In_bitCount s42.2.2) then
            some (.inl (s42.1, s42.2.1, s42.2.2 + (1 : Int32)))
          else
            some (.inl (s42.2.2, (f_In_bitCount s42.2.2), s42.2.2 + (1 : Int32)))
      )
    )
def f_La_crew (h : Nat → Nat → Int32) (p0 : Int32) (p1 : Int32) : Option (Int32 × (Nat → Nat → Int32)) :=
  if (f_Ta_has h p0) = 0 then
    some (((-1 : Int32), h))
  else
    (f_La_isBell p1).bind (fun x2 =>
      if x2 = 0 then
        some (((-1 : Int32), h))
      else
        (f_Cr_sumAll h ((f_La_dawn h) + p1)).bind (fun x4 =>
          (rh_loop (b_La_crew_42 p0 x4) rh_N ((0 : Int32), (1000000000 : Int32), (1 : Int32))).bind (fun r11 =>
            if r11.1 = 0 then
              some (((-2 : Int32), x4))
            else
              (f_Ro_tell x4 r11.1).bind (fun x13 =>
                some ((r11.2, x13))
              )
          )
        )
    )
set_option maxRecDepth 20000 in
set_option maxHeartbeats 4000000 in
theorem lb_La_crew_42 (d : Nat) (xx : rh_L) (sv : Option Nat) (u1 : Int32) (h : Nat → Nat → Int32) (g : Nat → Nat → Int64) (v9 : Option Value) (h9 : rh_H) : ∀ s42 x9, b_La_crew_42 u1 h s42 = some x9 → Sum.elim (fun s42 => rh_Ex (rh_M rh_PT (cw_L ++ xx) (d + 4)) (cw_L ++ xx) pg_X11_crew ((42, [some (.ref 0), some (.int u1), none, some (.int s42.1), some (.int s42.2.1), some (.int s42.2.2)], []), (h, g, cw_R sv)) v9 h9) (fun e9 => rh_Ex (rh_M rh_PT (cw_L ++ xx) (d + 4)) (cw_L ++ xx) pg_X11_crew ((101, [some (.ref 0), none, none, some (.int e9.1), some (.int e9.2), none], []), (h, g, cw_R sv)) v9 h9) x9 → rh_Ex (rh_M rh_PT (cw_L ++ xx) (d + 4)) (cw_L ++ xx) pg_X11_crew ((42, [some (.ref 0), some (.int u1), none, some (.int s42.1), some (.int s42.2.1), some (.int s42.2.2)], []), (h, g, cw_R sv)) v9 h9 := by
  intro s42 x9 hf hk
  unfold b_La_crew_42 at hf
  refine rh_Ex.blk 3 (s' := ((48, [some (.ref 0), some (.int u1), none, some (.int s42.1), some (.int s42.2.1), some (.int s42.2.2)], [.ref 4, .int s42.2.2]), (h, g, cw_R sv))) rfl ?_
  refine rh_Ex.call (j := 2) (rc := some 0) [.ref 4] [.int s42.2.2] (some (.int (f_Cr_sets h))) rfl rfl rfl (Nat.le_of_ble_eq_true rfl) (R_Cr_sets (d + 3) xx sv h g  rfl) ?_
  show rh_Ex _ _ _ ((51, [some (.ref 0), some (.int u1), none, some (.int s42.1), some (.int s42.2.1), some (.int s42.2.2)], [.int (f_Cr_sets h), .int s42.2.2]), (h, g, cw_R sv)) _ _
  by_cases q6 : (f_Cr_sets h) ≤ s42.2.2
  · rw [if_pos q6] at hf
    refine rh_Ex.stp (s' := ((101, [some (.ref 0), some (.int u1), none, some (.int s42.1), some (.int s42.2.1), some (.int s42.2.2)], []), (h, g, cw_R sv))) rfl (st_icge_p q6) ?_
    obtain rfl := Option.some.inj hf
    refine rh_Ex.fgt [some (.ref 0), none, none, some (.int s42.1), some (.int s42.2.1), none] ⟨rfl, rfl, rfl, trivial⟩ ?_
    exact hk
  · rw [if_neg q6] at hf
    refine rh_Ex.stp (s' := ((54, [some (.ref 0), some (.int u1), none, some (.int s42.1), some (.int s42.2.1), some (.int s42.2.2)], []), (h, g, cw_R sv))) rfl (st_icge_n q6) ?_
    refine rh_Ex.blk 7 (s' := ((68, [some (.ref 0), some (.int u1), none, some (.int s42.1), some (.int s42.2.1), some (.int s42.2.2)], [.int s42.2.2, .ref 12, .int u1, .ref 25]), (h, g, cw_R sv))) rfl ?_
    obtain ⟨q7, hf⟩ := rh_gq hf
    refine rh_Ex.stp (s' := ((69, [some (.ref 0), some (.int u1), none, some (.int s42.1), some (.int s42.2.1), some (.int s42.2.2)], [.int (h 12 s42.2.2.toNatClampNeg), .int u1, .ref 25]), (h, g, cw_R sv))) rfl (st_iald (n := 512) rfl q7) ?_
    obtain ⟨x8, hx8, hf⟩ := rh_bq hf
    refine rh_Ex.call (j := 91) (rc := some 9) [.ref 25, .int u1, .int (h 12 s42.2.2.toNatClampNeg)] [] (some (.int x8)) rfl rfl rfl (Nat.le_of_ble_eq_true rfl) (R_Ta_suits (d + 3) xx sv h g u1 (h 12 s42.2.2.toNatClampNeg) hx8) ?_
    show rh_Ex _ _ _ ((72, [some (.ref 0), some (.int u1), none, some (.int s42.1), some (.int s42.2.1), some (.int s42.2.2)], [.int x8]), (h, g, cw_R sv)) _ _
    by_cases q9 : x8 = 0
    · rw [if_pos q9] at hf
      refine rh_Ex.stp (s' := ((95, [some (.ref 0), some (.int u1), none, some (.int s42.1), some (.int s42.2.1), some (.int s42.2.2)], []), (h, g, cw_R sv))) rfl (st_ifeq_p q9) ?_
      refine rh_Ex.blk 2 (s' := ((42, [some (.ref 0), some (.int u1), none, some (.int s42.1), some (.int s42.2.1), some (.int (s42.2.2 + (1 : Int32)))], []), (h, g, cw_R sv))) rfl ?_
      obtain rfl := Option.some.inj hf
      refine rh_Ex.fgt [some (.ref 0), some (.int u1), none, some (.int s42.1), some (.int s42.2.1), some (.int (s42.2.2 + (1 : Int32)))] ⟨rfl, rfl, rfl, rfl, rfl, trivial⟩ ?_
      exact hk
    · rw [if_neg q9] at hf
      refine rh_Ex.stp (s' := ((75, [some (.ref 0), some (.int u1), none, some (.int s42.1), some (.int s42.2.1), some (.int s42.2.2)], []), (h, g, cw_R sv))) rfl (st_ifeq_n q9) ?_
      refine rh_Ex.blk 1 (s' := ((77, [some (.ref 0), some (.int u1), none, some (.int s42.1), some (.int s42.2.1), some (.int s42.2.2)], [.int s42.2.2]), (h, g, cw_R sv))) rfl ?_
      refine rh_Ex.call (j := 298) (rc := none) [.int s42.2.2] [] (some (.int (f_In_bitCount s42.2.2))) rfl rfl trivial (Nat.le_of_ble_eq_true rfl) (R_In_bitCount (d + 3) (cw_L ++ xx) (cw_R sv) h g s42.2.2 rfl) ?_
      show rh_Ex _ _ _ ((80, [some (.ref 0), some (.int u1), none, some (.int s42.1), some (.int s42.2.1), some (.int s42.2.2)], [.int (f_In_bitCount s42.2.2)]), (h, g, cw_R sv)) _ _
      refine rh_Ex.blk 1 (s' := ((82, [some (.ref 0), some (.int u1), none, some (.int s42.1), some (.int s42.2.1), some (.int s42.2.2)], [.int s42.2.1, .int (f_In_bitCount s42.2.2)]), (h, g, cw_R sv))) rfl ?_
      by_cases q10 : s42.2.1 ≤ (f_In_bitCount s42.2.2)
      · rw [if_pos q10] at hf
        refine rh_Ex.stp (s' := ((95, [some (.ref 0), some (.int u1), none, some (.int s42.1), some (.int s42.2.1), some (.int s42.2.2)], []), (h, g, cw_R sv))) rfl (st_icge_p q10) ?_
        refine rh_Ex.blk 2 (s' := ((42, [some (.ref 0), some (.int u1), none, some (.int s42.1), some (.int s42.2.1), some (.int (s42.2.2 + (1 : Int32)))], []), (h, g, cw_R sv))) rfl ?_
        obtain rfl := Option.some.inj hf
        refine rh_Ex.fgt [some (.ref 0), some (.int u1), none, some (.int s42.1), some (.int s42.2.1), some (.int (s42.2.2 + (1 : Int32)))] ⟨rfl, rfl, rfl, rfl, rfl, trivial⟩ ?_
        exact hk
      · rw [if_neg q10] at hf
        refine rh_Ex.stp (s' := ((85, [some (.ref 0), some (.int u1), none, some (.int s42.1), some (.int s42.2.1), some (.int s42.2.2)], []), (h, g, cw_R sv))) rfl (st_icge_n q10) ?_
        refine rh_Ex.blk 3 (s' := ((90, [some (.ref 0), some (.int u1), none, some (.int s42.2.2), some (.int s42.2.1), some (.int s42.2.2)], [.int s42.2.2]), (h, g, cw_R sv))) rfl ?_
        refine rh_Ex.call (j := 298) (rc := none) [.int s42.2.2] [] (some (.int (f_In_bitCount s42.2.2))) rfl rfl trivial (Nat.le_of_ble_eq_true rfl) (R_In_bitCount (d + 3) (cw_L ++ xx) (cw_R sv) h g s42.2.2 rfl) ?_
        show rh_Ex _ _ _ ((93, [some (.ref 0), some (.int u1), none, some (.int s42.2.2), some (.int s42.2.1), some (.int s42.2.2)], [.int (f_In_bitCount s42.2.2)]), (h, g, cw_R sv)) _ _
        refine rh_Ex.blk 3 (s' := ((42, [some (.ref 0), some (.int u1), none, some (.int s42.2.2), some (.int (f_In_bitCount s42.2.2)), some (.int (s42.2.2 + (1 : Int32)))], []), (h, g, cw_R sv))) rfl ?_
        obtain rfl := Option.some.inj hf
        refine rh_Ex.fgt [some (.ref 0), some (.int u1), none, some (.int s42.2.2), some (.int (f_In_bitCount s42.2.2)), some (.int (s42.2.2 + (1 : Int32)))] ⟨rfl, rfl, rfl, rfl, rfl, trivial⟩ ?_
        exact hk
set_option maxRecDepth 20000 in
set_option maxHeartbeats 4000000 in
theorem R_La_crew (d : Nat) (xx : rh_L) (sv : Option Nat) (h : Nat → Nat → Int32) (g : Nat → Nat → Int64) (p0 : Int32) (p1 : Int32) {z9 : Int32 × (Nat → Nat → Int32)} (hf : f_La_crew h p0 p1 = some z9) : rh_M rh_PT (cw_L ++ xx) (d + 5) 127 [.ref 0, .int p0, .int p1] (h, g, cw_R sv) (some (.int z9.1)) (z9.2, g, cw_R sv) := by
  unfold f_La_crew at hf
  refine rh_go pt_127 (Nat.le_of_ble_eq_true rfl) (lv := [some (.ref 0), some (.int p0), some (.int p1), none, none, none]) rfl ?_
  refine rh_Ex.blk 3 (s' := ((5, [some (.ref 0), some (.int p0), some (.int p1), none, none, none], [.int p0, .ref 25]), (h, g, cw_R sv))) rfl ?_
  refine rh_Ex.call (j := 90) (rc := some 9) [.ref 25, .int p0] [] (some (.int (f_Ta_has h p0))) rfl rfl rfl (Nat.le_of_ble_eq_true rfl) (R_Ta_has (d + 3) xx sv h g p0 rfl) ?_
  show rh_Ex _ _ _ ((8, [some (.ref 0), some (.int p0), some (.int p1), none, none, none], [.int (f_Ta_has h p0)]), (h, g, cw_R sv)) _ _
  by_cases q1 : (f_Ta_has h p0) = 0
  · rw [if_pos q1] at hf
    refine rh_Ex.stp (s' := ((18, [some (.ref 0), some (.int p0), some (.int p1), none, none, none], []), (h, g, cw_R sv))) rfl (st_ifeq_p q1) ?_
    refine rh_Ex.blk 1 (s' := ((19, [some (.ref 0), some (.int p0), some (.int p1), none, none, none], [.int (-1 : Int32)]), (h, g, cw_R sv))) rfl ?_
    obtain rfl := Option.some.inj hf
    exact rh_Ex.ret rfl rfl
  · rw [if_neg q1] at hf
    refine rh_Ex.stp (s' := ((11, [some (.ref 0), some (.int p0), some (.int p1), none, none, none], []), (h, g, cw_R sv))) rfl (st_ifeq_n q1) ?_
    refine rh_Ex.blk 1 (s' := ((12, [some (.ref 0), some (.int p0), some (.int p1), none, none, none], [.int p1]), (h, g, cw_R sv))) rfl ?_
    obtain ⟨x2, hx2, hf⟩ := rh_bq hf
    refine rh_Ex.call (j := 156) (rc := none) [.int p1] [] (some (.int x2)) rfl rfl trivial (Nat.le_of_ble_eq_true rfl) (R_La_isBell (d + 2) (cw_L ++ xx) (cw_R sv) h g p1 hx2) ?_
    show rh_Ex _ _ _ ((15, [some (.ref 0), some (.int p0), some (.int p1), none, none, none], [.int x2]), (h, g, cw_R sv)) _ _
    by_cases q3 : x2 = 0
    · rw [if_pos q3] at hf
      refine rh_Ex.stp (s' := ((18, [some (.ref 0), some (.int p0), some (.int p1), none, none, none], []), (h, g, cw_R sv))) rfl (st_ifne_p q3) ?_
      refine rh_Ex.blk 1 (s' := ((19, [some (.ref 0), some (.int p0), some (.int p1), none, none, none], [.int (-1 : Int32)]), (h, g, cw_R sv))) rfl ?_
      obtain rfl := Option.some.inj hf
      exact rh_Ex.ret rfl rfl
    · rw [if_neg q3] at hf
      refine rh_Ex.stp (s' := ((20, [some (.ref 0), some (.int p0), some (.int p1), none, none, none], []), (h, g, cw_R sv))) rfl (st_ifne_n q3) ?_
      refine rh_Ex.blk 3 (s' := ((25, [some (.ref 0), some (.int p0), some (.int p1), none, none, none], [.ref 0, .ref 4]), (h, g, cw_R sv))) rfl ?_
      refine rh_Ex.call (j := 159) (rc := some 10) [.ref 0] [.ref 4] (some (.int (f_La_dawn h))) rfl rfl rfl (Nat.le_of_ble_eq_true rfl) (R_La_dawn (d + 3) xx sv h g  rfl) ?_
      show rh_Ex _ _ _ ((28, [some (.ref 0), some (.int p0), some (.int p1), none, none, none], [.int (f_La_dawn h), .ref 4]), (h, g, cw_R sv)) _ _
      refine rh_Ex.blk 2 (s' := ((30, [some (.ref 0), some (.int p0), some (.int p1), none, none, none], [.int ((f_La_dawn h) + p1), .ref 4]), (h, g, cw_R sv))) rfl ?_
      obtain ⟨x4, hx4, hf⟩ := rh_bq hf
      refine rh_Ex.call (j := 8) (rc := some 0) [.ref 4, .int ((f_La_dawn h) + p1)] [] none rfl rfl rfl (Nat.le_of_ble_eq_true rfl) (R_Cr_sumAll d xx sv h g ((f_La_dawn h) + p1) hx4) ?_
      show rh_Ex _ _ _ ((33, [some (.ref 0), some (.int p0), some (.int p1), none, none, none], []), (x4, g, cw_R sv)) _ _
      refine rh_Ex.blk 6 (s' := ((42, [some (.ref 0), some (.int p0), some (.int p1), some (.int (0 : Int32)), some (.int (1000000000 : Int32)), some (.int (1 : Int32))], []), (x4, g, cw_R sv))) rfl ?_
      obtain ⟨r11, hr11, hf⟩ := rh_bq hf
      refine rh_Ex.fgt [some (.ref 0), some (.int p0), none, some (.int (0 : Int32)), some (.int (1000000000 : Int32)), some (.int (1 : Int32))] ⟨rfl, rfl, rfl, rfl, rfl, trivial⟩ ?_
      refine rh_Ex.loop _ _ _ (lb_La_crew_42 d xx sv p0 x4  g _ _) rh_N _ r11 hr11 ?_
      refine rh_Ex.blk 1 (s' := ((102, [some (.ref 0), none, none, some (.int r11.1), some (.int r11.2), none], [.int r11.1]), (x4, g, cw_R sv))) rfl ?_
      by_cases q12 : r11.1 = 0
      · rw [if_pos q12] at hf
        refine rh_Ex.stp (s' := ((105, [some (.ref 0), none, none, some (.int r11.1), some (.int r11.2), none], []), (x4, g, cw_R sv))) rfl (st_ifne_p q12) ?_
        refine rh_Ex.blk 1 (s' := ((107, [some (.ref 0), none, none, some (.int r11.1), some (.int r11.2), none], [.int (-2 : Int32)]), (x4, g, cw_R sv))) rfl ?_
        obtain rfl := Option.some.inj hf
        exact rh_Ex.ret rfl rfl
      · rw [if_neg q12] at hf
        refine rh_Ex.stp (s' := ((108, [some (.ref 0), none, none, some (.int r11.1), some (.int r11.2), none], []), (x4, g, cw_R sv))) rfl (st_ifne_n q12) ?_
        refine rh_Ex.blk 3 (s' := ((113, [some (.ref 0), none, none, some (.int r11.1), some (.int r11.2), none], [.int r11.1, .ref 2]), (x4, g, cw_R sv))) rfl ?_
        obtain ⟨x13, hx13, hf⟩ := rh_bq hf
        refine rh_Ex.call (j := 70) (rc := some 6) [.ref 2, .int r11.1] [] none rfl rfl rfl (Nat.le_of_ble_eq_true rfl) (R_Ro_tell (d + 2) xx sv x4 g r11.1 hx13) ?_
        show rh_Ex _ _ _ ((116, [some (.ref 0), none, none, some (.int r11.1), some (.int r11.2), none], []), (x13, g, cw_R sv)) _ _
        refine rh_Ex.blk 1 (s' := ((118, [some (.ref 0), none, none, some (.int r11.1), some (.int r11.2), none], [.int r11.2]), (x13, g, cw_R sv))) rfl ?_
        obtain rfl := Option.some.inj hf
        exact rh_Ex.ret rfl rfl
def b_La_times_17 (u1 : Int32) : (Int32 × Int32 × (Nat → Nat → Int32)) → Option ((Int32 × Int32 × (Nat → Nat → Int32)) ⊕ (Int32 × (Nat → Nat → Int32))) := fun s17 =>
  if (9 : Int32) ≤ s17.2.1 then
    some (.inr (s17.1, s17.2.2))
  else
    (f_Cr_sumAll s17.2.2 ((f_La_dawn s17.2.2) + s17.2.1)).bind (fun x4 =>
      (f_Ta_doable x4).bind (fun x5 =>
        if ((x5 >>> (u1 &&& 31)) &&& (1 : Int32)) = 0 then
          some (.inl (s17.1, s17.2.1 + (1 : Int32), x4))
        else
          some (.inl (s17.1 ||| ((1 : Int32) <<< (s17.2.1 &&& 31)), s17.2.1 + (1 : Int32), x4))
      )
    )
def f_La_times (h : Nat → Nat → Int32) (p0 : Int32) : Option (Int32 × (Nat → Nat → Int32)) :=
  if (f_Ta_has h p0) = 0 then
    some (((-1 : Int32), h))
  else
    (rh_loop (b_La_times_17 p0) rh_N ((0 : Int32), (0 : Int32), h)).bind (fun r7 =>
      some ((r7.1, r7.2))
    )
set_option maxRecDepth 20000 in
set_option maxHeartbeats 4000000 in
theorem lb_La_times_17 (d : Nat) (xx : rh_L) (sv : Option Nat) (u1 : Int32) (g : Nat → Nat → Int64) (v9 : Option Value) (h9 : rh_H) : ∀ s17 x9, b_La_times_17 u1 s17 = some x9 → Sum.elim (fun s17 => rh_Ex (rh_M rh_PT (cw_L ++ xx) (d + 4)) (cw_L ++ xx) pg_X11_times ((17, [some (.ref 0), some (.int u1), some (.int s17.1), some (.int s17.2.1)], []), (s17.2.2, g, cw_R sv)) v9 h9) (fun e9 => rh_Ex (rh_M rh_PT (cw_L ++ xx) (d + 4)) (cw_L ++ xx) pg_X11_times ((66, [none, none, some (.int e9.1), none], []), (e9.2, g, cw_R sv)) v9 h9) x9 → rh_Ex (rh_M rh_PT (cw_L ++ xx) (d + 4)) (cw_L ++ xx) pg_X11_times ((17, [some (.ref 0), some (.int u1), some (.int s17.1), some (.int s17.2.1)], []), (s17.2.2, g, cw_R sv)) v9 h9 := by
  intro s17 x9 hf hk
  unfold b_La_times_17 at hf
  refine rh_Ex.blk 2 (s' := ((20, [some (.ref 0), some (.int u1), some (.int s17.1), some (.int s17.2.1)], [.int (9 : Int32), .int s17.2.1]), (s17.2.2, g, cw_R sv))) rfl ?_
  by_cases q3 : (9 : Int32) ≤ s17.2.1
  · rw [if_pos q3] at hf
    refine rh_Ex.stp (s' := ((66, [some (.ref 0), some (.int u1), some (.int s17.1), some (.int s17.2.1)], []), (s17.2.2, g, cw_R sv))) rfl (st_icge_p q3) ?_
    obtain rfl := Option.some.inj hf
    refine rh_Ex.fgt [none, none, some (.int s17.1), none] ⟨rfl, trivial⟩ ?_
    exact hk
  · rw [if_neg q3] at hf
    refine rh_Ex.stp (s' := ((23, [some (.ref 0), some (.int u1), some (.int s17.1), some (.int s17.2.1)], []), (s17.2.2, g, cw_R sv))) rfl (st_icge_n q3) ?_
    refine rh_Ex.blk 3 (s' := ((28, [some (.ref 0), some (.int u1), some (.int s17.1), some (.int s17.2.1)], [.ref 0, .ref 4]), (s17.2.2, g, cw_R sv))) rfl ?_
    refine rh_Ex.call (j := 159) (rc := some 10) [.ref 0] [.ref 4] (some (.int (f_La_dawn s17.2.2))) rfl rfl rfl (Nat.le_of_ble_eq_true rfl) (R_La_dawn (d + 3) xx sv s17.2.2 g  rfl) ?_
    show rh_Ex _ _ _ ((31, [some (.ref 0), some (.int u1), some (.int s17.1), some (.int s17.2.1)], [.int (f_La_dawn s17.2.2), .ref 4]), (s17.2.2, g, cw_R sv)) _ _
    refine rh_Ex.blk 2 (s' := ((33, [some (.ref 0), some (.int u1), some (.int s17.1), some (.int s17.2.1)], [.int ((f_La_dawn s17.2.2) + s17.2.1), .ref 4]), (s17.2.2, g, cw_R sv))) rfl ?_
    obtain ⟨x4, hx4, hf⟩ := rh_bq hf
    refine rh_Ex.call (j := 8) (rc := some 0) [.ref 4, .int ((f_La_dawn s17.2.2) + s17.2.1)] [] none rfl rfl rfl (Nat.le_of_ble_eq_true rfl) (R_Cr_sumAll d xx sv s17.2.2 g ((f_La_dawn s17.2.2) + s17.2.1) hx4) ?_
    show rh_Ex _ _ _ ((36, [some (.ref 0), some (.int u1), some (.int s17.1), some (.int s17.2.1)], []), (x4, g, cw_R sv)) _ _
    refine rh_Ex.blk 4 (s' := ((44, [some (.ref 0), some (.int u1), some (.int s17.1), some (.int s17.2.1)], [.ref 4, .ref 25]), (x4, g, cw_R sv))) rfl ?_
    obtain ⟨x5, hx5, hf⟩ := rh_bq hf
    refine rh_Ex.call (j := 93) (rc := some 9) [.ref 25, .ref 4] [] (some (.int x5)) rfl rfl rfl (Nat.le_of_ble_eq_true rfl) (R_Ta_doable (d + 1) xx sv x4 g  hx5) ?_
    show rh_Ex _ _ _ ((47, [some (.ref 0), some (.int u1), some (.int s17.1), some (.int s17.2.1)], [.int x5]), (x4, g, cw_R sv)) _ _
    refine rh_Ex.blk 4 (s' := ((51, [some (.ref 0), some (.int u1), some (.int s17.1), some (.int s17.2.1)], [.int ((x5 >>> (u1 &&& 31)) &&& (1 : Int32))]), (x4, g, cw_R sv))) rfl ?_
    by_cases q6 : ((x5 >>> (u1 &&& 31)) &&& (1 : Int32)) = 0
    · rw [if_pos q6] at hf
      refine rh_Ex.stp (s' := ((60, [some (.ref 0), some (.int u1), some (.int s17.1), some (.int s17.2.1)], []), (x4, g, cw_R sv))) rfl (st_ifeq_p q6) ?_
      refine rh_Ex.blk 2 (s' := ((17, [some (.ref 0), some (.int u1), some (.int s17.1), some (.int (s17.2.1 + (1 : Int32)))], []), (x4, g, cw_R sv))) rfl ?_
      obtain rfl := Option.some.inj hf
      refine rh_Ex.fgt [some (.ref 0), some (.int u1), some (.int s17.1), some (.int (s17.2.1 + (1 : Int32)))] ⟨rfl, rfl, rfl, rfl, trivial⟩ ?_
      exact hk
    · rw [if_neg q6] at hf
      refine rh_Ex.stp (s' := ((54, [some (.ref 0), some (.int u1), some (.int s17.1), some (.int s17.2.1)], []), (x4, g, cw_R sv))) rfl (st_ifeq_n q6) ?_
      refine rh_Ex.blk 8 (s' := ((17, [some (.ref 0), some (.int u1), some (.int (s17.1 ||| ((1 : Int32) <<< (s17.2.1 &&& 31)))), some (.int (s17.2.1 + (1 : Int32)))], []), (x4, g, cw_R sv))) rfl ?_
      obtain rfl := Option.some.inj hf
      refine rh_Ex.fgt [some (.ref 0), some (.int u1), some (.int (s17.1 ||| ((1 : Int32) <<< (s17.2.1 &&& 31)))), some (.int (s17.2.1 + (1 : Int32)))] ⟨rfl, rfl, rfl, rfl, trivial⟩ ?_
      exact hk
set_option maxRecDepth 20000 in
set_option maxHeartbeats 4000000 in
theorem R_La_times (d : Nat) (xx : rh_L) (sv : Option Nat) (h : Nat → Nat → Int32) (g : Nat → Nat → Int64) (p0 : Int32) {z9 : Int32 × (Nat → Nat → Int32)} (hf : f_La_times h p0 = some z9) : rh_M rh_PT (cw_L ++ xx) (d + 5) 128 [.ref 0, .int p0] (h, g, cw_R sv) (some (.int z9.1)) (z9.2, g, cw_R sv) := by
  unfold f_La_times at hf
  refine rh_go pt_128 (Nat.le_of_ble_eq_true rfl) (lv := [some (.ref 0), some (.int p0), none, none]) rfl ?_
  refine rh_Ex.blk 3 (s' := ((5, [some (.ref 0), some (.int p0), none, none], [.int p0, .ref 25]), (h, g, cw_R sv))) rfl ?_
  refine rh_Ex.call (j := 90) (rc := some 9) [.ref 25, .int p0] [] (some (.int (f_Ta_has h p0))) rfl rfl rfl (Nat.le_of_ble_eq_true rfl) (R_Ta_has (d + 3) xx sv h g p0 rfl) ?_
  show rh_Ex _ _ _ ((8, [some (.ref 0), some (.int p0), none, none], [.int (f_Ta_has h p0)]), (h, g, cw_R sv)) _ _
  by_cases q1 : (f_Ta_has h p0) = 0
  · rw [if_pos q1] at hf
    refine rh_Ex.stp (s' := ((11, [some (.ref 0), some (.int p0), none, none], []), (h, g, cw_R sv))) rfl (st_ifne_p q1) ?_
    refine rh_Ex.blk 1 (s' := ((12, [some (.ref 0), some (.int p0), none, none], [.int (-1 : Int32)]), (h, g, cw_R sv))) rfl ?_
    obtain rfl := Option.some.inj hf
    exact rh_Ex.ret rfl rfl
  · rw [if_neg q1] at hf
    refine rh_Ex.stp (s' := ((13, [some (.ref 0), some (.int p0), none, none], []), (h, g, cw_R sv))) rfl (st_ifne_n q1) ?_
    refine rh_Ex.blk 4 (s' := ((17, [some (.ref 0), some (.int p0), some (.int (0 : Int32)), some (.int (0 : Int32))], []), (h, g, cw_R sv))) rfl ?_
    obtain ⟨r7, hr7, hf⟩ := rh_bq hf
    refine rh_Ex.fgt [some (.ref 0), some (.int p0), some (.int (0 : Int32)), some (.int (0 : Int32))] ⟨rfl, rfl, rfl, rfl, trivial⟩ ?_
    refine rh_Ex.loop _ _ _ (lb_La_times_17 d xx sv p0  g _ _) rh_N _ r7 hr7 ?_
    refine rh_Ex.blk 1 (s' := ((67, [none, none, some (.int r7.1), none], [.int r7.1]), (r7.2, g, cw_R sv))) rfl ?_
    obtain rfl := Option.some.inj hf
    exact rh_Ex.ret rfl rfl
def b_La_earliest_14 (g : Nat → Nat → Int64) : (Int32 × (Nat → Nat → Int32)) → Option ((Int32 × (Nat → Nat → Int32)) ⊕ ((Nat → Nat → Int32))) := fun s14 =>
  if (9 : Int32) ≤ s14.1 then
    some (.inr s14.2)
  else
    (f_Cr_sumAll s14.2 ((f_La_dawn s14.2) + s14.1)).bind (fun x4 =>
      (f_Ta_doable x4).bind (fun x5 =>
        rh_g (0 ≤ s14.1.toInt ∧ s14.1.toInt < ((9 : Nat) : Int)) (
          some (.inl (s14.1 + (1 : Int32), rh_up x4 28 s14.1.toNatClampNeg x5))
        )
      )
    )
def b_La_earliest_69 (h : Nat → Nat → Int32) : (Int32 × (Nat → Nat → Int64)) → Option ((Int32 × (Nat → Nat → Int64)) ⊕ (((Nat → Nat → Int64)) ⊕ (Int32 × (Nat → Nat → Int32) × (Nat → Nat → Int64)))) := fun s69 =>
  if (9 : Int32) ≤ s69.1 then
    some (.inr (.inl s69.2))
  else
    (f_Ta_plan h s69.2 s69.1).bind (fun x10 =>
      if x10.1 = 0 then
        some (.inl (s69.1 + (1 : Int32), x10.2))
      else
        (f_Ta_tellPlan h x10.2 s69.1).bind (fun x12 =>
          some (.inr (.inr (s69.1, x12, x10.2)))
        )
    )
def f_La_earliest (h : Nat → Nat → Int32) (g : Nat → Nat → Int64) : Option (Int32 × (Nat → Nat → Int32) × (Nat → Nat → Int64)) :=
  if (h 25 0) = 0 then
    some (((-1 : Int32), h, g))
  else
    (rh_loop (b_La_earliest_14 g) rh_N ((0 : Int32), h)).bind (fun r7 =>
      (rh_loop (b_La_earliest_69 r7) rh_N ((r7 25 0) - (1 : Int32), g)).bind (fun r13 => match r13 with
        | .inl e14 =>
          some (((-2 : Int32), r7, e14))
        | .inr t15 => some t15)
    )
set_option maxRecDepth 20000 in
set_option maxHeartbeats 4000000 in
theorem lb_La_earliest_14 (d : Nat) (xx : rh_L) (sv : Option Nat) (g : Nat → Nat → Int64) (v9 : Option Value) (h9 : rh_H) : ∀ s14 x9, b_La_earliest_14 g s14 = some x9 → Sum.elim (fun s14 => rh_Ex (rh_M rh_PT (cw_L ++ xx) (d + 4)) (cw_L ++ xx) pg_X11_earliest ((14, [some (.ref 0), some (.int s14.1)], []), (s14.2, g, cw_R sv)) v9 h9) (fun e9 => rh_Ex (rh_M rh_PT (cw_L ++ xx) (d + 4)) (cw_L ++ xx) pg_X11_earliest ((59, [some (.ref 0), none], []), (e9, g, cw_R sv)) v9 h9) x9 → rh_Ex (rh_M rh_PT (cw_L ++ xx) (d + 4)) (cw_L ++ xx) pg_X11_earliest ((14, [some (.ref 0), some (.int s14.1)], []), (s14.2, g, cw_R sv)) v9 h9 := by
  intro s14 x9 hf hk
  unfold b_La_earliest_14 at hf
  refine rh_Ex.blk 2 (s' := ((17, [some (.ref 0), some (.int s14.1)], [.int (9 : Int32), .int s14.1]), (s14.2, g, cw_R sv))) rfl ?_
  by_cases q3 : (9 : Int32) ≤ s14.1
  · rw [if_pos q3] at hf
    refine rh_Ex.stp (s' := ((59, [some (.ref 0), some (.int s14.1)], []), (s14.2, g, cw_R sv))) rfl (st_icge_p q3) ?_
    obtain rfl := Option.some.inj hf
    refine rh_Ex.fgt [some (.ref 0), none] ⟨rfl, trivial⟩ ?_
    exact hk
  · rw [if_neg q3] at hf
    refine rh_Ex.stp (s' := ((20, [some (.ref 0), some (.int s14.1)], []), (s14.2, g, cw_R sv))) rfl (st_icge_n q3) ?_
    refine rh_Ex.blk 3 (s' := ((25, [some (.ref 0), some (.int s14.1)], [.ref 0, .ref 4]), (s14.2, g, cw_R sv))) rfl ?_
    refine rh_Ex.call (j := 159) (rc := some 10) [.ref 0] [.ref 4] (some (.int (f_La_dawn s14.2))) rfl rfl rfl (Nat.le_of_ble_eq_true rfl) (R_La_dawn (d + 3) xx sv s14.2 g  rfl) ?_
    show rh_Ex _ _ _ ((28, [some (.ref 0), some (.int s14.1)], [.int (f_La_dawn s14.2), .ref 4]), (s14.2, g, cw_R sv)) _ _
    refine rh_Ex.blk 2 (s' := ((30, [some (.ref 0), some (.int s14.1)], [.int ((f_La_dawn s14.2) + s14.1), .ref 4]), (s14.2, g, cw_R sv))) rfl ?_
    obtain ⟨x4, hx4, hf⟩ := rh_bq hf
    refine rh_Ex.call (j := 8) (rc := some 0) [.ref 4, .int ((f_La_dawn s14.2) + s14.1)] [] none rfl rfl rfl (Nat.le_of_ble_eq_true rfl) (R_Cr_sumAll d xx sv s14.2 g ((f_La_dawn s14.2) + s14.1) hx4) ?_
    show rh_Ex _ _ _ ((33, [some (.ref 0), some (.int s14.1)], []), (x4, g, cw_R sv)) _ _
    refine rh_Ex.blk 8 (s' := ((49, [some (.ref 0), some (.int s14.1)], [.ref 4, .ref 25, .int s14.1, .ref 28]), (x4, g, cw_R sv))) rfl ?_
    obtain ⟨x5, hx5, hf⟩ := rh_bq hf
    refine rh_Ex.call (j := 93) (rc := some 9) [.ref 25, .ref 4] [.int s14.1, .ref 28] (some (.int x5)) rfl rfl rfl (Nat.le_of_ble_eq_true rfl) (R_Ta_doable (d + 1) xx sv x4 g  hx5) ?_
    show rh_Ex _ _ _ ((52, [some (.ref 0), some (.int s14.1)], [.int x5, .int s14.1, .ref 28]), (x4, g, cw_R sv)) _ _
    obtain ⟨q6, hf⟩ := rh_gq hf
    refine rh_Ex.stp (s' := ((53, [some (.ref 0), some (.int s14.1)], []), (rh_up x4 28 s14.1.toNatClampNeg x5, g, cw_R sv))) rfl (st_iast (n := 9) rfl q6) ?_
    refine rh_Ex.blk 2 (s' := ((14, [some (.ref 0), some (.int (s14.1 + (1 : Int32)))], []), (rh_up x4 28 s14.1.toNatClampNeg x5, g, cw_R sv))) rfl ?_
    obtain rfl := Option.some.inj hf
    refine rh_Ex.fgt [some (.ref 0), some (.int (s14.1 + (1 : Int32)))] ⟨rfl, rfl, trivial⟩ ?_
    exact hk
set_option maxRecDepth 20000 in
set_option maxHeartbeats 4000000 in
theorem lb_La_earliest_69 (d : Nat) (xx : rh_L) (sv : Option Nat) (h : Nat → Nat → Int32) (v9 : Option Value) (h9 : rh_H) : ∀ s69 x9, b_La_earliest_69 h s69 = some x9 → Sum.elim (fun s69 => rh_Ex (rh_M rh_PT (cw_L ++ xx) (d + 4)) (cw_L ++ xx) pg_X11_earliest ((69, [some (.ref 0), some (.int s69.1)], []), (h, s69.2, cw_R sv)) v9 h9) (Sum.elim (fun e9 => rh_Ex (rh_M rh_PT (cw_L ++ xx) (d + 4)) (cw_L ++ xx) pg_X11_earliest ((106, [none, none], []), (h, e9, cw_R sv)) v9 h9) (fun t9 => v9 = (some (.int t9.1)) ∧ h9 = (t9.2.1, t9.2.2, cw_R sv))) x9 → rh_Ex (rh_M rh_PT (cw_L ++ xx) (d + 4)) (cw_L ++ xx) pg_X11_earliest ((69, [some (.ref 0), some (.int s69.1)], []), (h, s69.2, cw_R sv)) v9 h9 := by
  intro s69 x9 hf hk
  unfold b_La_earliest_69 at hf
  refine rh_Ex.blk 2 (s' := ((72, [some (.ref 0), some (.int s69.1)], [.int (9 : Int32), .int s69.1]), (h, s69.2, cw_R sv))) rfl ?_
  by_cases q9 : (9 : Int32) ≤ s69.1
  · rw [if_pos q9] at hf
    refine rh_Ex.stp (s' := ((106, [some (.ref 0), some (.int s69.1)], []), (h, s69.2, cw_R sv))) rfl (st_icge_p q9) ?_
    obtain rfl := Option.some.inj hf
    refine rh_Ex.fgt [none, none] trivial ?_
    exact hk
  · rw [if_neg q9] at hf
    refine rh_Ex.stp (s' := ((75, [some (.ref 0), some (.int s69.1)], []), (h, s69.2, cw_R sv))) rfl (st_icge_n q9) ?_
    refine rh_Ex.blk 3 (s' := ((80, [some (.ref 0), some (.int s69.1)], [.int s69.1, .ref 25]), (h, s69.2, cw_R sv))) rfl ?_
    obtain ⟨x10, hx10, hf⟩ := rh_bq hf
    refine rh_Ex.call (j := 95) (rc := some 9) [.ref 25, .int s69.1] [] (some (.int x10.1)) rfl rfl rfl (Nat.le_of_ble_eq_true rfl) (R_Ta_plan (d + 2) xx sv h s69.2 s69.1 hx10) ?_
    show rh_Ex _ _ _ ((83, [some (.ref 0), some (.int s69.1)], [.int x10.1]), (h, x10.2, cw_R sv)) _ _
    by_cases q11 : x10.1 = 0
    · rw [if_pos q11] at hf
      refine rh_Ex.stp (s' := ((100, [some (.ref 0), some (.int s69.1)], []), (h, x10.2, cw_R sv))) rfl (st_ifeq_p q11) ?_
      refine rh_Ex.blk 2 (s' := ((69, [some (.ref 0), some (.int (s69.1 + (1 : Int32)))], []), (h, x10.2, cw_R sv))) rfl ?_
      obtain rfl := Option.some.inj hf
      refine rh_Ex.fgt [some (.ref 0), some (.int (s69.1 + (1 : Int32)))] ⟨rfl, rfl, trivial⟩ ?_
      exact hk
    · rw [if_neg q11] at hf
      refine rh_Ex.stp (s' := ((86, [some (.ref 0), some (.int s69.1)], []), (h, x10.2, cw_R sv))) rfl (st_ifeq_n q11) ?_
      refine rh_Ex.blk 5 (s' := ((95, [some (.ref 0), some (.int s69.1)], [.ref 2, .int s69.1, .ref 25]), (h, x10.2, cw_R sv))) rfl ?_
      obtain ⟨x12, hx12, hf⟩ := rh_bq hf
      refine rh_Ex.call (j := 97) (rc := some 9) [.ref 25, .int s69.1, .ref 2] [] none rfl rfl rfl (Nat.le_of_ble_eq_true rfl) (R_Ta_tellPlan (d + 1) xx sv h x10.2 s69.1 hx12) ?_
      show rh_Ex _ _ _ ((98, [some (.ref 0), some (.int s69.1)], []), (x12, x10.2, cw_R sv)) _ _
      refine rh_Ex.blk 1 (s' := ((99, [some (.ref 0), some (.int s69.1)], [.int s69.1]), (x12, x10.2, cw_R sv))) rfl ?_
      obtain rfl := Option.some.inj hf
      obtain ⟨rfl, rfl⟩ := hk
      exact rh_Ex.ret rfl rfl
set_option maxRecDepth 20000 in
set_option maxHeartbeats 4000000 in
theorem R_La_earliest (d : Nat) (xx : rh_L) (sv : Option Nat) (h : Nat → Nat → Int32) (g : Nat → Nat → Int64)  {z9 : Int32 × (Nat → Nat → Int32) × (Nat → Nat → Int64)} (hf : f_La_earliest h g = some z9) : rh_M rh_PT (cw_L ++ xx) (d + 5) 129 [.ref 0] (h, g, cw_R sv) (some (.int z9.1)) (z9.2.1, z9.2.2, cw_R sv) := by
  unfold f_La_earliest at hf
  refine rh_go pt_129 (Nat.le_of_ble_eq_true rfl) (lv := [some (.ref 0), none]) rfl ?_
  refine rh_Ex.blk 3 (s' := ((7, [some (.ref 0), none], [.int (h 25 0)]), (h, g, cw_R sv))) rfl ?_
  by_cases q1 : (h 25 0) = 0
  · rw [if_pos q1] at hf
    refine rh_Ex.stp (s' := ((10, [some (.ref 0), none], []), (h, g, cw_R sv))) rfl (st_ifne_p q1) ?_
    refine rh_Ex.blk 1 (s' := ((11, [some (.ref 0), none], [.int (-1 : Int32)]), (h, g, cw_R sv))) rfl ?_
    obtain rfl := Option.some.inj hf
    exact rh_Ex.ret rfl rfl
  · rw [if_neg q1] at hf
    refine rh_Ex.stp (s' := ((12, [some (.ref 0), none], []), (h, g, cw_R sv))) rfl (st_ifne_n q1) ?_
    refine rh_Ex.blk 2 (s' := ((14, [some (.ref 0), some (.int (0 : Int32))], []), (h, g, cw_R sv))) rfl ?_
    obtain ⟨r7, hr7, hf⟩ := rh_bq hf
    refine rh_Ex.fgt [some (.ref 0), some (.int (0 : Int32))] ⟨rfl, rfl, trivial⟩ ?_
    refine rh_Ex.loop _ _ _ (lb_La_earliest_14 d xx sv g   _ _) rh_N _ r7 hr7 ?_
    refine rh_Ex.blk 6 (s' := ((69, [some (.ref 0), some (.int ((r7 25 0) - (1 : Int32)))], []), (r7, g, cw_R sv))) rfl ?_
    obtain ⟨r13, hr13, hf⟩ := rh_bq hf
    refine rh_Ex.fgt [some (.ref 0), some (.int ((r7 25 0) - (1 : Int32)))] ⟨rfl, rfl, trivial⟩ ?_
    refine rh_Ex.loop _ _ _ (lb_La_earliest_69 d xx sv r7   _ _) rh_N _ r13 hr13 ?_
    rcases r13 with e14 | t15
    · dsimp only at hf
      refine rh_Ex.blk 1 (s' := ((108, [none, none], [.int (-2 : Int32)]), (r7, e14, cw_R sv))) rfl ?_
      obtain rfl := Option.some.inj hf
      exact rh_Ex.ret rfl rfl
    · dsimp only at hf
      obtain rfl := Option.some.inj hf
      exact ⟨rfl, rfl⟩
def f_La_most (h : Nat → Nat → Int32) (g : Nat → Nat → Int64) (p0 : Int32) : Option (Int32 × (Nat → Nat → Int32) × (Nat → Nat → Int64)) :=
  (f_La_isBell p0).bind (fun x1 =>
    if x1 = 0 then
      some (((-1 : Int32), h, g))
    else
      (f_Cr_sumAll h ((f_La_dawn h) + p0)).bind (fun x3 =>
        (f_Ta_mostAtOnce x3 g).bind (fun x4 =>
          (f_Ro_tell x4.2.1 x4.1).bind (fun x5 =>
            some (((f_In_bitCount x4.1), x5, x4.2.2))
          )
        )
      )
  )
set_option maxRecDepth 20000 in
set_option maxHeartbeats 4000000 in
theorem R_La_most (d : Nat) (xx : rh_L) (sv : Option Nat) (h : Nat → Nat → Int32) (g : Nat → Nat → Int64) (p0 : Int32) {z9 : Int32 × (Nat → Nat → Int32) × (Nat → Nat → Int64)} (hf : f_La_most h g p0 = some z9) : rh_M rh_PT (cw_L ++ xx) (d + 5) 130 [.ref 0, .int p0] (h, g, cw_R sv) (some (.int z9.1)) (z9.2.1, z9.2.2, cw_R sv) := by
  unfold f_La_most at hf
  refine rh_go pt_130 (Nat.le_of_ble_eq_true rfl) (lv := [some (.ref 0), some (.int p0), none]) rfl ?_
  refine rh_Ex.blk 1 (s' := ((1, [some (.ref 0), some (.int p0), none], [.int p0]), (h, g, cw_R sv))) rfl ?_
  obtain ⟨x1, hx1, hf⟩ := rh_bq hf
  refine rh_Ex.call (j := 156) (rc := none) [.int p0] [] (some (.int x1)) rfl rfl trivial (Nat.le_of_ble_eq_true rfl) (R_La_isBell (d + 2) (cw_L ++ xx) (cw_R sv) h g p0 hx1) ?_
  show rh_Ex _ _ _ ((4, [some (.ref 0), some (.int p0), none], [.int x1]), (h, g, cw_R sv)) _ _
  by_cases q2 : x1 = 0
  · rw [if_pos q2] at hf
    refine rh_Ex.stp (s' := ((7, [some (.ref 0), some (.int p0), none], []), (h, g, cw_R sv))) rfl (st_ifne_p q2) ?_
    refine rh_Ex.blk 1 (s' := ((8, [some (.ref 0), some (.int p0), none], [.int (-1 : Int32)]), (h, g, cw_R sv))) rfl ?_
    obtain rfl := Option.some.inj hf
    exact rh_Ex.ret rfl rfl
  · rw [if_neg q2] at hf
    refine rh_Ex.stp (s' := ((9, [some (.ref 0), some (.int p0), none], []), (h, g, cw_R sv))) rfl (st_ifne_n q2) ?_
    refine rh_Ex.blk 3 (s' := ((14, [some (.ref 0), some (.int p0), none], [.ref 0, .ref 4]), (h, g, cw_R sv))) rfl ?_
    refine rh_Ex.call (j := 159) (rc := some 10) [.ref 0] [.ref 4] (some (.int (f_La_dawn h))) rfl rfl rfl (Nat.le_of_ble_eq_true rfl) (R_La_dawn (d + 3) xx sv h g  rfl) ?_
    show rh_Ex _ _ _ ((17, [some (.ref 0), some (.int p0), none], [.int (f_La_dawn h), .ref 4]), (h, g, cw_R sv)) _ _
    refine rh_Ex.blk 2 (s' := ((19, [some (.ref 0), some (.int p0), none], [.int ((f_La_dawn h) + p0), .ref 4]), (h, g, cw_R sv))) rfl ?_
    obtain ⟨x3, hx3, hf⟩ := rh_bq hf
    refine rh_Ex.call (j := 8) (rc := some 0) [.ref 4, .int ((f_La_dawn h) + p0)] [] none rfl rfl rfl (Nat.le_of_ble_eq_true rfl) (R_Cr_sumAll d xx sv h g ((f_La_dawn h) + p0) hx3) ?_
    show rh_Ex _ _ _ ((22, [some (.ref 0), some (.int p0), none], []), (x3, g, cw_R sv)) _ _
    refine rh_Ex.blk 4 (s' := ((30, [some (.ref 0), some (.int p0), none], [.ref 4, .ref 25]), (x3, g, cw_R sv))) rfl ?_
    obtain ⟨x4, hx4, hf⟩ := rh_bq hf
    refine rh_Ex.call (j := 99) (rc := some 9) [.ref 25, .ref 4] [] (some (.int x4.1)) rfl rfl rfl (Nat.le_of_ble_eq_true rfl) (R_Ta_mostAtOnce (d + 1) xx sv x3 g  hx4) ?_
    show rh_Ex _ _ _ ((33, [some (.ref 0), some (.int p0), none], [.int x4.1]), (x4.2.1, x4.2.2, cw_R sv)) _ _
    refine rh_Ex.blk 4 (s' := ((39, [some (.ref 0), some (.int p0), some (.int x4.1)], [.int x4.1, .ref 2]), (x4.2.1, x4.2.2, cw_R sv))) rfl ?_
    obtain ⟨x5, hx5, hf⟩ := rh_bq hf
    refine rh_Ex.call (j := 70) (rc := some 6) [.ref 2, .int x4.1] [] none rfl rfl rfl (Nat.le_of_ble_eq_true rfl) (R_Ro_tell (d + 2) xx sv x4.2.1 x4.2.2 x4.1 hx5) ?_
    show rh_Ex _ _ _ ((42, [some (.ref 0), some (.int p0), some (.int x4.1)], []), (x5, x4.2.2, cw_R sv)) _ _
    refine rh_Ex.blk 1 (s' := ((43, [some (.ref 0), some (.int p0), some (.int x4.1)], [.int x4.1]), (x5, x4.2.2, cw_R sv))) rfl ?_
    refine rh_Ex.call (j := 298) (rc := none) [.int x4.1] [] (some (.int (f_In_bitCount x4.1))) rfl rfl trivial (Nat.le_of_ble_eq_true rfl) (R_In_bitCount (d + 3) (cw_L ++ xx) (cw_R sv) x5 x4.2.2 x4.1 rfl) ?_
    show rh_Ex _ _ _ ((46, [some (.ref 0), some (.int p0), some (.int x4.1)], [.int (f_In_bitCount x4.1)]), (x5, x4.2.2, cw_R sv)) _ _
    obtain rfl := Option.some.inj hf
    exact rh_Ex.ret rfl rfl
def f_La_canRow (h : Nat → Nat → Int32) (p0 : Int32) : Int32 :=
  if (f_Cr_holds h p0) = 0 then
    (0 : Int32)
  else
    if (p0 &&& (h 4 1)) = 0 then
      (0 : Int32)
    else
      (1 : Int32)
set_option maxRecDepth 20000 in
set_option maxHeartbeats 4000000 in
theorem R_La_canRow (d : Nat) (xx : rh_L) (sv : Option Nat) (h : Nat → Nat → Int32) (g : Nat → Nat → Int64) (p0 : Int32) {z9 : Int32} (hf : f_La_canRow h p0 = z9) : rh_M rh_PT (cw_L ++ xx) (d + 3) 162 [.ref 0, .int p0] (h, g, cw_R sv) (some (.int z9)) (h, g, cw_R sv) := by
  unfold f_La_canRow at hf
  refine rh_go pt_162 (Nat.le_of_ble_eq_true rfl) (lv := [some (.ref 0), some (.int p0)]) rfl ?_
  refine rh_Ex.blk 3 (s' := ((5, [some (.ref 0), some (.int p0)], [.int p0, .ref 4]), (h, g, cw_R sv))) rfl ?_
  refine rh_Ex.call (j := 1) (rc := some 0) [.ref 4, .int p0] [] (some (.int (f_Cr_holds h p0))) rfl rfl rfl (Nat.le_of_ble_eq_true rfl) (R_Cr_holds d xx sv h g p0 rfl) ?_
  show rh_Ex _ _ _ ((8, [some (.ref 0), some (.int p0)], [.int (f_Cr_holds h p0)]), (h, g, cw_R sv)) _ _
  by_cases q1 : (f_Cr_holds h p0) = 0
  · rw [if_pos q1] at hf
    refine rh_Ex.stp (s' := ((27, [some (.ref 0), some (.int p0)], []), (h, g, cw_R sv))) rfl (st_ifeq_p q1) ?_
    refine rh_Ex.blk 1 (s' := ((28, [some (.ref 0), some (.int p0)], [.int (0 : Int32)]), (h, g, cw_R sv))) rfl ?_
    subst hf
    exact rh_Ex.ret rfl ⟨rfl, Or.inl rfl⟩
  · rw [if_neg q1] at hf
    refine rh_Ex.stp (s' := ((11, [some (.ref 0), some (.int p0)], []), (h, g, cw_R sv))) rfl (st_ifeq_n q1) ?_
    refine rh_Ex.blk 5 (s' := ((20, [some (.ref 0), some (.int p0)], [.int (p0 &&& (h 4 1))]), (h, g, cw_R sv))) rfl ?_
    by_cases q2 : (p0 &&& (h 4 1)) = 0
    · rw [if_pos q2] at hf
      refine rh_Ex.stp (s' := ((27, [some (.ref 0), some (.int p0)], []), (h, g, cw_R sv))) rfl (st_ifeq_p q2) ?_
      refine rh_Ex.blk 1 (s' := ((28, [some (.ref 0), some (.int p0)], [.int (0 : Int32)]), (h, g, cw_R sv))) rfl ?_
      subst hf
      exact rh_Ex.ret rfl ⟨rfl, Or.inl rfl⟩
    · rw [if_neg q2] at hf
      refine rh_Ex.stp (s' := ((23, [some (.ref 0), some (.int p0)], []), (h, g, cw_R sv))) rfl (st_ifeq_n q2) ?_
      refine rh_Ex.blk 2 (s' := ((28, [some (.ref 0), some (.int p0)], [.int (1 : Int32)]), (h, g, cw_R sv))) rfl ?_
      subst hf
      exact rh_Ex.ret rfl ⟨rfl, Or.inr rfl⟩
def b_La_goes_12 (u1 : Int32) : (Int32 × (Nat → Nat → Int32)) → Option ((Int32 × (Nat → Nat → Int32)) ⊕ (((Nat → Nat → Int32)) ⊕ (Int32 × (Nat → Nat → Int32)))) := fun s12 =>
  if (99 : Int32) < s12.1 then
    some (.inr (.inl s12.2))
  else
    (f_Cr_together s12.2 u1 ((s12.2 13 1) + s12.1)).bind (fun x4 =>
      if (x4.2 40 (0 : Int32).toNatClampNeg) < x4.1 then
        some (.inl (s12.1 + (1 : Int32), x4.2))
      else
        (f_La_bellsWithin x4.2 u1 (0 : Int32) (x4.2 40 (0 : Int32).toNatClampNeg)).bind (fun x6 =>
          (f_Ro_tell x6.2 (f_In_bitCount x6.1)).bind (fun x7 =>
            some (.inr (.inr (s12.1, x7)))
          )
        )
    )
def f_La_goes (h : Nat → Nat → Int32) (p0 : Int32) : Option (Int32 × (Nat → Nat → Int32)) :=
  if (f_La_canRow h p0) = 0 then
    some (((-1 : Int32), h))
  else
    (rh_loop (b_La_goes_12 p0) rh_N ((0 : Int32), h)).bind (fun r8 => match r8 with
      | .inl e9 =>
        some (((-2 : Int32), e9))
      | .inr t10 => some t10)
set_option maxRecDepth 20000 in
set_option maxHeartbeats 4000000 in
theorem lb_La_goes_12 (d : Nat) (xx : rh_L) (sv : Option Nat) (u1 : Int32) (g : Nat → Nat → Int64) (v9 : Option Value) (h9 : rh_H) : ∀ s12 x9, b_La_goes_12 u1 s12 = some x9 → Sum.elim (fun s12 => rh_Ex (rh_M rh_PT (cw_L ++ xx) (d + 5)) (cw_L ++ xx) pg_X11_goes ((12, [some (.ref 0), some (.int u1), some (.int s12.1)], []), (s12.2, g, cw_R sv)) v9 h9) (Sum.elim (fun e9 => rh_Ex (rh_M rh_PT (cw_L ++ xx) (d + 5)) (cw_L ++ xx) pg_X11_goes ((74, [none, none, none], []), (e9, g, cw_R sv)) v9 h9) (fun t9 => v9 = (some (.int t9.1)) ∧ h9 = (t9.2, g, cw_R sv))) x9 → rh_Ex (rh_M rh_PT (cw_L ++ xx) (d + 5)) (cw_L ++ xx) pg_X11_goes ((12, [some (.ref 0), some (.int u1), some (.int s12.1)], []), (s12.2, g, cw_R sv)) v9 h9 := by
  intro s12 x9 hf hk
  unfold b_La_goes_12 at hf
  refine rh_Ex.blk 2 (s' := ((15, [some (.ref 0), some (.int u1), some (.int s12.1)], [.int (99 : Int32), .int s12.1]), (s12.2, g, cw_R sv))) rfl ?_
  by_cases q3 : (99 : Int32) < s12.1
  · rw [if_pos q3] at hf
    refine rh_Ex.stp (s' := ((74, [some (.ref 0), some (.int u1), some (.int s12.1)], []), (s12.2, g, cw_R sv))) rfl (st_icgt_p q3) ?_
    obtain rfl := Option.some.inj hf
    refine rh_Ex.fgt [none, none, none] trivial ?_
    exact hk
  · rw [if_neg q3] at hf
    refine rh_Ex.stp (s' := ((18, [some (.ref 0), some (.int u1), some (.int s12.1)], []), (s12.2, g, cw_R sv))) rfl (st_icgt_n q3) ?_
    refine rh_Ex.blk 8 (s' := ((32, [some (.ref 0), some (.int u1), some (.int s12.1)], [.int ((s12.2 13 1) + s12.1), .int u1, .ref 4]), (s12.2, g, cw_R sv))) rfl ?_
    obtain ⟨x4, hx4, hf⟩ := rh_bq hf
    refine rh_Ex.call (j := 7) (rc := some 0) [.ref 4, .int u1, .int ((s12.2 13 1) + s12.1)] [] (some (.int x4.1)) rfl rfl rfl (Nat.le_of_ble_eq_true rfl) (R_Cr_together (d + 1) xx sv s12.2 g u1 ((s12.2 13 1) + s12.1) hx4) ?_
    show rh_Ex _ _ _ ((35, [some (.ref 0), some (.int u1), some (.int s12.1)], [.int x4.1]), (x4.2, g, cw_R sv)) _ _
    refine rh_Ex.blk 3 (s' := ((40, [some (.ref 0), some (.int u1), some (.int s12.1)], [.int (0 : Int32), .ref 40, .int x4.1]), (x4.2, g, cw_R sv))) rfl ?_
    refine rh_Ex.stp (s' := ((41, [some (.ref 0), some (.int u1), some (.int s12.1)], [.int (x4.2 40 (0 : Int32).toNatClampNeg), .int x4.1]), (x4.2, g, cw_R sv))) rfl (st_iald (n := 3) rfl (by decide)) ?_
    by_cases q5 : (x4.2 40 (0 : Int32).toNatClampNeg) < x4.1
    · rw [if_pos q5] at hf
      refine rh_Ex.stp (s' := ((68, [some (.ref 0), some (.int u1), some (.int s12.1)], []), (x4.2, g, cw_R sv))) rfl (st_icgt_p q5) ?_
      refine rh_Ex.blk 2 (s' := ((12, [some (.ref 0), some (.int u1), some (.int (s12.1 + (1 : Int32)))], []), (x4.2, g, cw_R sv))) rfl ?_
      obtain rfl := Option.some.inj hf
      refine rh_Ex.fgt [some (.ref 0), some (.int u1), some (.int (s12.1 + (1 : Int32)))] ⟨rfl, rfl, rfl, trivial⟩ ?_
      exact hk
    · rw [if_neg q5] at hf
      refine rh_Ex.stp (s' := ((44, [some (.ref 0), some (.int u1), some (.int s12.1)], []), (x4.2, g, cw_R sv))) rfl (st_icgt_n q5) ?_
      refine rh_Ex.blk 8 (s' := ((56, [some (.ref 0), some (.int u1), some (.int s12.1)], [.int (0 : Int32), .ref 40, .int (0 : Int32), .int u1, .ref 0, .ref 2]), (x4.2, g, cw_R sv))) rfl ?_
      refine rh_Ex.stp (s' := ((57, [some (.ref 0), some (.int u1), some (.int s12.1)], [.int (x4.2 40 (0 : Int32).toNatClampNeg), .int (0 : Int32), .int u1, .ref 0, .ref 2]), (x4.2, g, cw_R sv))) rfl (st_iald (n := 3) rfl (by decide)) ?_
      obtain ⟨x6, hx6, hf⟩ := rh_bq hf
      refine rh_Ex.call (j := 165) (rc := some 10) [.ref 0, .int u1, .int (0 : Int32), .int (x4.2 40 (0 : Int32).toNatClampNeg)] [.ref 2] (some (.int x6.1)) rfl rfl rfl (Nat.le_of_ble_eq_true rfl) (R_La_bellsWithin d xx sv x4.2 g u1 (0 : Int32) (x4.2 40 (0 : Int32).toNatClampNeg) hx6) ?_
      show rh_Ex _ _ _ ((60, [some (.ref 0), some (.int u1), some (.int s12.1)], [.int x6.1, .ref 2]), (x6.2, g, cw_R sv)) _ _
      refine rh_Ex.call (j := 298) (rc := none) [.int x6.1] [.ref 2] (some (.int (f_In_bitCount x6.1))) rfl rfl trivial (Nat.le_of_ble_eq_true rfl) (R_In_bitCount (d + 4) (cw_L ++ xx) (cw_R sv) x6.2 g x6.1 rfl) ?_
      show rh_Ex _ _ _ ((63, [some (.ref 0), some (.int u1), some (.int s12.1)], [.int (f_In_bitCount x6.1), .ref 2]), (x6.2, g, cw_R sv)) _ _
      obtain ⟨x7, hx7, hf⟩ := rh_bq hf
      refine rh_Ex.call (j := 70) (rc := some 6) [.ref 2, .int (f_In_bitCount x6.1)] [] none rfl rfl rfl (Nat.le_of_ble_eq_true rfl) (R_Ro_tell (d + 3) xx sv x6.2 g (f_In_bitCount x6.1) hx7) ?_
      show rh_Ex _ _ _ ((66, [some (.ref 0), some (.int u1), some (.int s12.1)], []), (x7, g, cw_R sv)) _ _
      refine rh_Ex.blk 1 (s' := ((67, [some (.ref 0), some (.int u1), some (.int s12.1)], [.int s12.1]), (x7, g, cw_R sv))) rfl ?_
      obtain rfl := Option.some.inj hf
      obtain ⟨rfl, rfl⟩ := hk
      exact rh_Ex.ret rfl rfl
set_option maxRecDepth 20000 in
set_option maxHeartbeats 4000000 in
theorem R_La_goes (d : Nat) (xx : rh_L) (sv : Option Nat) (h : Nat → Nat → Int32) (g : Nat → Nat → Int64) (p0 : Int32) {z9 : Int32 × (Nat → Nat → Int32)} (hf : f_La_goes h p0 = some z9) : rh_M rh_PT (cw_L ++ xx) (d + 6) 131 [.ref 0, .int p0] (h, g, cw_R sv) (some (.int z9.1)) (z9.2, g, cw_R sv) := by
  unfold f_La_goes at hf
  refine rh_go pt_131 (Nat.le_of_ble_eq_true rfl) (lv := [some (.ref 0), some (.int p0), none]) rfl ?_
  refine rh_Ex.blk 2 (s' := ((2, [some (.ref 0), some (.int p0), none], [.int p0, .ref 0]), (h, g, cw_R sv))) rfl ?_
  refine rh_Ex.call (j := 162) (rc := some 10) [.ref 0, .int p0] [] (some (.int (f_La_canRow h p0))) rfl rfl rfl (Nat.le_of_ble_eq_true rfl) (R_La_canRow (d + 2) xx sv h g p0 rfl) ?_
  show rh_Ex _ _ _ ((5, [some (.ref 0), some (.int p0), none], [.int (f_La_canRow h p0)]), (h, g, cw_R sv)) _ _
  by_cases q1 : (f_La_canRow h p0) = 0
  · rw [if_pos q1] at hf
    refine rh_Ex.stp (s' := ((8, [some (.ref 0), some (.int p0), none], []), (h, g, cw_R sv))) rfl (st_ifne_p q1) ?_
    refine rh_Ex.blk 1 (s' := ((9, [some (.ref 0), some (.int p0), none], [.int (-1 : Int32)]), (h, g, cw_R sv))) rfl ?_
    obtain rfl := Option.some.inj hf
    exact rh_Ex.ret rfl rfl
  · rw [if_neg q1] at hf
    refine rh_Ex.stp (s' := ((10, [some (.ref 0), some (.int p0), none], []), (h, g, cw_R sv))) rfl (st_ifne_n q1) ?_
    refine rh_Ex.blk 2 (s' := ((12, [some (.ref 0), some (.int p0), some (.int (0 : Int32))], []), (h, g, cw_R sv))) rfl ?_
    obtain ⟨r8, hr8, hf⟩ := rh_bq hf
    refine rh_Ex.fgt [some (.ref 0), some (.int p0), some (.int (0 : Int32))] ⟨rfl, rfl, rfl, trivial⟩ ?_
    refine rh_Ex.loop _ _ _ (lb_La_goes_12 d xx sv p0  g _ _) rh_N _ r8 hr8 ?_
    rcases r8 with e9 | t10
    · dsimp only at hf
      refine rh_Ex.blk 1 (s' := ((76, [none, none, none], [.int (-2 : Int32)]), (e9, g, cw_R sv))) rfl ?_
      obtain rfl := Option.some.inj hf
      exact rh_Ex.ret rfl rfl
    · dsimp only at hf
      obtain rfl := Option.some.inj hf
      exact ⟨rfl, rfl⟩
def f_La_cross (h : Nat → Nat → Int32) (g : Nat → Nat → Int64) (p0 : Int32) (p1 : Int32) : Option (Int32 × (Nat → Nat → Int32) × (Nat → Nat → Int64)) :=
  if (f_La_canRow h p0) = 0 then
    some (((-1 : Int32), h, g))
  else
    if (f_La_within p1 (0 : Int32) (99 : Int32)) = 0 then
      some (((-1 : Int32), h, g))
    else
      (f_Ri_fewest (f_Ri_begin h p0 (h 40 (0 : Int32).toNatClampNeg) ((h 13 1) + p1)) g (19 : Int32)).bind (fun x3 =>
        if x3.1 ≤ 0 then
          some ((x3.1, x3.2.1, x3.2.2))
        else
          (f_Ri_tellLoads x3.2.1 x3.2.2 x3.1).bind (fun x5 =>
            some ((x3.1, x5.1, x5.2))
          )
      )
set_option maxRecDepth 20000 in
set_option maxHeartbeats 4000000 in
theorem R_La_cross (d : Nat) (xx : rh_L) (sv : Option Nat) (h : Nat → Nat → Int32) (g : Nat → Nat → Int64) (p0 : Int32) (p1 : Int32) {z9 : Int32 × (Nat → Nat → Int32) × (Nat → Nat → Int64)} (hf : f_La_cross h g p0 p1 = some z9) : rh_M rh_PT (cw_L ++ xx) (d + 7) 132 [.ref 0, .int p0, .int p1] (h, g, cw_R sv) (some (.int z9.1)) (z9.2.1, z9.2.2, cw_R sv) := by
  unfold f_La_cross at hf
  refine rh_go pt_132 (Nat.le_of_ble_eq_true rfl) (lv := [some (.ref 0), some (.int p0), some (.int p1), none]) rfl ?_
  refine rh_Ex.blk 2 (s' := ((2, [some (.ref 0), some (.int p0), some (.int p1), none], [.int p0, .ref 0]), (h, g, cw_R sv))) rfl ?_
  refine rh_Ex.call (j := 162) (rc := some 10) [.ref 0, .int p0] [] (some (.int (f_La_canRow h p0))) rfl rfl rfl (Nat.le_of_ble_eq_true rfl) (R_La_canRow (d + 3) xx sv h g p0 rfl) ?_
  show rh_Ex _ _ _ ((5, [some (.ref 0), some (.int p0), some (.int p1), none], [.int (f_La_canRow h p0)]), (h, g, cw_R sv)) _ _
  by_cases q1 : (f_La_canRow h p0) = 0
  · rw [if_pos q1] at hf
    refine rh_Ex.stp (s' := ((18, [some (.ref 0), some (.int p0), some (.int p1), none], []), (h, g, cw_R sv))) rfl (st_ifeq_p q1) ?_
    refine rh_Ex.blk 1 (s' := ((19, [some (.ref 0), some (.int p0), some (.int p1), none], [.int (-1 : Int32)]), (h, g, cw_R sv))) rfl ?_
    obtain rfl := Option.some.inj hf
    exact rh_Ex.ret rfl rfl
  · rw [if_neg q1] at hf
    refine rh_Ex.stp (s' := ((8, [some (.ref 0), some (.int p0), some (.int p1), none], []), (h, g, cw_R sv))) rfl (st_ifeq_n q1) ?_
    refine rh_Ex.blk 3 (s' := ((12, [some (.ref 0), some (.int p0), some (.int p1), none], [.int (99 : Int32), .int (0 : Int32), .int p1]), (h, g, cw_R sv))) rfl ?_
    refine rh_Ex.call (j := 155) (rc := none) [.int p1, .int (0 : Int32), .int (99 : Int32)] [] (some (.int (f_La_within p1 (0 : Int32) (99 : Int32)))) rfl rfl trivial (Nat.le_of_ble_eq_true rfl) (R_La_within (d + 5) (cw_L ++ xx) (cw_R sv) h g p1 (0 : Int32) (99 : Int32) rfl) ?_
    show rh_Ex _ _ _ ((15, [some (.ref 0), some (.int p0), some (.int p1), none], [.int (f_La_within p1 (0 : Int32) (99 : Int32))]), (h, g, cw_R sv)) _ _
    by_cases q2 : (f_La_within p1 (0 : Int32) (99 : Int32)) = 0
    · rw [if_pos q2] at hf
      refine rh_Ex.stp (s' := ((18, [some (.ref 0), some (.int p0), some (.int p1), none], []), (h, g, cw_R sv))) rfl (st_ifne_p q2) ?_
      refine rh_Ex.blk 1 (s' := ((19, [some (.ref 0), some (.int p0), some (.int p1), none], [.int (-1 : Int32)]), (h, g, cw_R sv))) rfl ?_
      obtain rfl := Option.some.inj hf
      exact rh_Ex.ret rfl rfl
    · rw [if_neg q2] at hf
      refine rh_Ex.stp (s' := ((20, [some (.ref 0), some (.int p0), some (.int p1), none], []), (h, g, cw_R sv))) rfl (st_ifne_n q2) ?_
      refine rh_Ex.blk 6 (s' := ((30, [some (.ref 0), some (.int p0), some (.int p1), none], [.int (0 : Int32), .ref 40, .int p0, .ref 32]), (h, g, cw_R sv))) rfl ?_
      refine rh_Ex.stp (s' := ((31, [some (.ref 0), some (.int p0), some (.int p1), none], [.int (h 40 (0 : Int32).toNatClampNeg), .int p0, .ref 32]), (h, g, cw_R sv))) rfl (st_iald (n := 3) rfl (by decide)) ?_
      refine rh_Ex.blk 5 (s' := ((40, [some (.ref 0), some (.int p0), some (.int p1), none], [.int ((h 13 1) + p1), .int (h 40 (0 : Int32).toNatClampNeg), .int p0, .ref 32]), (h, g, cw_R sv))) rfl ?_
      refine rh_Ex.call (j := 56) (rc := some 5) [.ref 32, .int p0, .int (h 40 (0 : Int32).toNatClampNeg), .int ((h 13 1) + p1)] [] none rfl rfl rfl (Nat.le_of_ble_eq_true rfl) (R_Ri_begin (d + 5) xx sv h g p0 (h 40 (0 : Int32).toNatClampNeg) ((h 13 1) + p1) rfl) ?_
      show rh_Ex _ _ _ ((43, [some (.ref 0), some (.int p0), some (.int p1), none], []), ((f_Ri_begin h p0 (h 40 (0 : Int32).toNatClampNeg) ((h 13 1) + p1)), g, cw_R sv)) _ _
      refine rh_Ex.blk 3 (s' := ((49, [some (.ref 0), some (.int p0), some (.int p1), none], [.int (19 : Int32), .ref 32]), ((f_Ri_begin h p0 (h 40 (0 : Int32).toNatClampNeg) ((h 13 1) + p1)), g, cw_R sv))) rfl ?_
      obtain ⟨x3, hx3, hf⟩ := rh_bq hf
      refine rh_Ex.call (j := 62) (rc := some 5) [.ref 32, .int (19 : Int32)] [] (some (.int x3.1)) rfl rfl rfl (Nat.le_of_ble_eq_true rfl) (R_Ri_fewest (d + 1) xx sv (f_Ri_begin h p0 (h 40 (0 : Int32).toNatClampNeg) ((h 13 1) + p1)) g (19 : Int32) hx3) ?_
      show rh_Ex _ _ _ ((52, [some (.ref 0), some (.int p0), some (.int p1), none], [.int x3.1]), (x3.2.1, x3.2.2, cw_R sv)) _ _
      refine rh_Ex.blk 2 (s' := ((54, [some (.ref 0), some (.int p0), some (.int p1), some (.int x3.1)], [.int x3.1]), (x3.2.1, x3.2.2, cw_R sv))) rfl ?_
      by_cases q4 : x3.1 ≤ 0
      · rw [if_pos q4] at hf
        refine rh_Ex.stp (s' := ((69, [some (.ref 0), some (.int p0), some (.int p1), some (.int x3.1)], []), (x3.2.1, x3.2.2, cw_R sv))) rfl (st_ifle_p q4) ?_
        refine rh_Ex.blk 1 (s' := ((70, [some (.ref 0), some (.int p0), some (.int p1), some (.int x3.1)], [.int x3.1]), (x3.2.1, x3.2.2, cw_R sv))) rfl ?_
        obtain rfl := Option.some.inj hf
        exact rh_Ex.ret rfl rfl
      · rw [if_neg q4] at hf
        refine rh_Ex.stp (s' := ((57, [some (.ref 0), some (.int p0), some (.int p1), some (.int x3.1)], []), (x3.2.1, x3.2.2, cw_R sv))) rfl (st_ifle_n q4) ?_
        refine rh_Ex.blk 5 (s' := ((66, [some (.ref 0), some (.int p0), some (.int p1), some (.int x3.1)], [.ref 2, .int x3.1, .ref 32]), (x3.2.1, x3.2.2, cw_R sv))) rfl ?_
        obtain ⟨x5, hx5, hf⟩ := rh_bq hf
        refine rh_Ex.call (j := 67) (rc := some 5) [.ref 32, .int x3.1, .ref 2] [] none rfl rfl rfl (Nat.le_of_ble_eq_true rfl) (R_Ri_tellLoads d xx sv x3.2.1 x3.2.2 x3.1 hx5) ?_
        show rh_Ex _ _ _ ((69, [some (.ref 0), some (.int p0), some (.int p1), some (.int x3.1)], []), (x5.1, x5.2, cw_R sv)) _ _
        refine rh_Ex.blk 1 (s' := ((70, [some (.ref 0), some (.int p0), some (.int p1), some (.int x3.1)], [.int x3.1]), (x5.1, x5.2, cw_R sv))) rfl ?_
        obtain rfl := Option.some.inj hf
        exact rh_Ex.ret rfl rfl
def b_La_start_19 (u1 : Int32) : (Int32 × Int32 × Int32 × (Nat → Nat → Int32) × (Nat → Nat → Int64)) → Option ((Int32 × Int32 × Int32 × (Nat → Nat → Int32) × (Nat → Nat → Int64)) ⊕ (Int32 × Int32 × (Nat → Nat → Int32) × (Nat → Nat → Int64))) := fun s19 =>
  if (9 : Int32) ≤ s19.2.2.1 then
    some (.inr (s19.1, s19.2.1, s19.2.2.2.1, s19.2.2.2.2))
  else
    (f_Ri_fewest (f_Ri_begin s19.2.2.2.1 u1 (s19.2.2.2.1 40 (0 : Int32).toNatClampNeg) ((s19.2.2.2.1 13 1) + s19.2.2.1)) s19.2.2.2.2 (s19.2.1 - (1 : Int32))).bind (fun x4 =>
      if x4.1 ≤ 0 then
        some (.inl (s19.1, s19.2.1, s19.2.2.1 + (1 : Int32), x4.2.1, x4.2.2))
      else
        some (.inl (s19.2.2.1, x4.1, s19.2.2.1 + (1 : Int32), x4.2.1, x4.2.2))
    )
def f_La_start (h : Nat → Nat → Int32) (g : Nat → Nat → Int64) (p0 : Int32) : Option (Int32 × (Nat → Nat → Int32) × (Nat → Nat → Int64)) :=
  if (f_La_canRow h p0) = 0 then
    some (((-1 : Int32), h, g))
  else
    (rh_loop (b_La_start_19 p0) rh_N ((-2 : Int32), (20 : Int32), (0 : Int32), h, g)).bind (fun r6 =>
      if r6.1 < 0 then
        some ((r6.1, r6.2.2.1, r6.2.2.2))
      else
        (f_Ro_tell r6.2.2.1 r6.2.1).bind (fun x8 =>
          some ((r6.1, x8, r6.2.2.2))
        )
    )
set_option maxRecDepth 20000 in
set_option maxHeartbeats 4000000 in
theorem lb_La_start_19 (d : Nat) (xx : rh_L) (sv : Option Nat) (u1 : Int32) (v9 : Option Value) (h9 : rh_H) : ∀ s19 x9, b_La_start_19 u1 s19 = some x9 → Sum.elim (fun s19 => rh_Ex (rh_M rh_PT (cw_L ++ xx) (d + 5)) (cw_L ++ xx) pg_X11_start ((19, [some (.ref 0), some (.int u1), some (.int s19.1), some (.int s19.2.1), some (.int s19.2.2.1), none], []), (s19.2.2.2.1, s19.2.2.2.2, cw_R sv)) v9 h9) (fun e9 => rh_Ex (rh_M rh_PT (cw_L ++ xx) (d + 5)) (cw_L ++ xx) pg_X11_start ((79, [some (.ref 0), none, some (.int e9.1), some (.int e9.2.1), none, none], []), (e9.2.2.1, e9.2.2.2, cw_R sv)) v9 h9) x9 → rh_Ex (rh_M rh_PT (cw_L ++ xx) (d + 5)) (cw_L ++ xx) pg_X11_start ((19, [some (.ref 0), some (.int u1), some (.int s19.1), some (.int s19.2.1), some (.int s19.2.2.1), none], []), (s19.2.2.2.1, s19.2.2.2.2, cw_R sv)) v9 h9 := by
  intro s19 x9 hf hk
  unfold b_La_start_19 at hf
  refine rh_Ex.blk 2 (s' := ((23, [some (.ref 0), some (.int u1), some (.int s19.1), some (.int s19.2.1), some (.int s19.2.2.1), none], [.int (9 : Int32), .int s19.2.2.1]), (s19.2.2.2.1, s19.2.2.2.2, cw_R sv))) rfl ?_
  by_cases q3 : (9 : Int32) ≤ s19.2.2.1
  · rw [if_pos q3] at hf
    refine rh_Ex.stp (s' := ((79, [some (.ref 0), some (.int u1), some (.int s19.1), some (.int s19.2.1), some (.int s19.2.2.1), none], []), (s19.2.2.2.1, s19.2.2.2.2, cw_R sv))) rfl (st_icge_p q3) ?_
    obtain rfl := Option.some.inj hf
    refine rh_Ex.fgt [some (.ref 0), none, some (.int s19.1), some (.int s19.2.1), none, none] ⟨rfl, rfl, rfl, trivial⟩ ?_
    exact hk
  · rw [if_neg q3] at hf
    refine rh_Ex.stp (s' := ((26, [some (.ref 0), some (.int u1), some (.int s19.1), some (.int s19.2.1), some (.int s19.2.2.1), none], []), (s19.2.2.2.1, s19.2.2.2.2, cw_R sv))) rfl (st_icge_n q3) ?_
    refine rh_Ex.blk 6 (s' := ((36, [some (.ref 0), some (.int u1), some (.int s19.1), some (.int s19.2.1), some (.int s19.2.2.1), none], [.int (0 : Int32), .ref 40, .int u1, .ref 32]), (s19.2.2.2.1, s19.2.2.2.2, cw_R sv))) rfl ?_
    refine rh_Ex.stp (s' := ((37, [some (.ref 0), some (.int u1), some (.int s19.1), some (.int s19.2.1), some (.int s19.2.2.1), none], [.int (s19.2.2.2.1 40 (0 : Int32).toNatClampNeg), .int u1, .ref 32]), (s19.2.2.2.1, s19.2.2.2.2, cw_R sv))) rfl (st_iald (n := 3) rfl (by decide)) ?_
    refine rh_Ex.blk 5 (s' := ((47, [some (.ref 0), some (.int u1), some (.int s19.1), some (.int s19.2.1), some (.int s19.2.2.1), none], [.int ((s19.2.2.2.1 13 1) + s19.2.2.1), .int (s19.2.2.2.1 40 (0 : Int32).toNatClampNeg), .int u1, .ref 32]), (s19.2.2.2.1, s19.2.2.2.2, cw_R sv))) rfl ?_
    refine rh_Ex.call (j := 56) (rc := some 5) [.ref 32, .int u1, .int (s19.2.2.2.1 40 (0 : Int32).toNatClampNeg), .int ((s19.2.2.2.1 13 1) + s19.2.2.1)] [] none rfl rfl rfl (Nat.le_of_ble_eq_true rfl) (R_Ri_begin (d + 4) xx sv s19.2.2.2.1 s19.2.2.2.2 u1 (s19.2.2.2.1 40 (0 : Int32).toNatClampNeg) ((s19.2.2.2.1 13 1) + s19.2.2.1) rfl) ?_
    show rh_Ex _ _ _ ((50, [some (.ref 0), some (.int u1), some (.int s19.1), some (.int s19.2.1), some (.int s19.2.2.1), none], []), ((f_Ri_begin s19.2.2.2.1 u1 (s19.2.2.2.1 40 (0 : Int32).toNatClampNeg) ((s19.2.2.2.1 13 1) + s19.2.2.1)), s19.2.2.2.2, cw_R sv)) _ _
    refine rh_Ex.blk 5 (s' := ((57, [some (.ref 0), some (.int u1), some (.int s19.1), some (.int s19.2.1), some (.int s19.2.2.1), none], [.int (s19.2.1 - (1 : Int32)), .ref 32]), ((f_Ri_begin s19.2.2.2.1 u1 (s19.2.2.2.1 40 (0 : Int32).toNatClampNeg) ((s19.2.2.2.1 13 1) + s19.2.2.1)), s19.2.2.2.2, cw_R sv))) rfl ?_
    obtain ⟨x4, hx4, hf⟩ := rh_bq hf
    refine rh_Ex.call (j := 62) (rc := some 5) [.ref 32, .int (s19.2.1 - (1 : Int32))] [] (some (.int x4.1)) rfl rfl rfl (Nat.le_of_ble_eq_true rfl) (R_Ri_fewest d xx sv (f_Ri_begin s19.2.2.2.1 u1 (s19.2.2.2.1 40 (0 : Int32).toNatClampNeg) ((s19.2.2.2.1 13 1) + s19.2.2.1)) s19.2.2.2.2 (s19.2.1 - (1 : Int32)) hx4) ?_
    show rh_Ex _ _ _ ((60, [some (.ref 0), some (.int u1), some (.int s19.1), some (.int s19.2.1), some (.int s19.2.2.1), none], [.int x4.1]), (x4.2.1, x4.2.2, cw_R sv)) _ _
    refine rh_Ex.blk 2 (s' := ((64, [some (.ref 0), some (.int u1), some (.int s19.1), some (.int s19.2.1), some (.int s19.2.2.1), some (.int x4.1)], [.int x4.1]), (x4.2.1, x4.2.2, cw_R sv))) rfl ?_
    by_cases q5 : x4.1 ≤ 0
    · rw [if_pos q5] at hf
      refine rh_Ex.stp (s' := ((73, [some (.ref 0), some (.int u1), some (.int s19.1), some (.int s19.2.1), some (.int s19.2.2.1), some (.int x4.1)], []), (x4.2.1, x4.2.2, cw_R sv))) rfl (st_ifle_p q5) ?_
      refine rh_Ex.blk 2 (s' := ((19, [some (.ref 0), some (.int u1), some (.int s19.1), some (.int s19.2.1), some (.int (s19.2.2.1 + (1 : Int32))), some (.int x4.1)], []), (x4.2.1, x4.2.2, cw_R sv))) rfl ?_
      obtain rfl := Option.some.inj hf
      refine rh_Ex.fgt [some (.ref 0), some (.int u1), some (.int s19.1), some (.int s19.2.1), some (.int (s19.2.2.1 + (1 : Int32))), none] ⟨rfl, rfl, rfl, rfl, rfl, trivial⟩ ?_
      exact hk
    · rw [if_neg q5] at hf
      refine rh_Ex.stp (s' := ((67, [some (.ref 0), some (.int u1), some (.int s19.1), some (.int s19.2.1), some (.int s19.2.2.1), some (.int x4.1)], []), (x4.2.1, x4.2.2, cw_R sv))) rfl (st_ifle_n q5) ?_
      refine rh_Ex.blk 6 (s' := ((19, [some (.ref 0), some (.int u1), some (.int s19.2.2.1), some (.int x4.1), some (.int (s19.2.2.1 + (1 : Int32))), some (.int x4.1)], []), (x4.2.1, x4.2.2, cw_R sv))) rfl ?_
      obtain rfl := Option.some.inj hf
      refine rh_Ex.fgt [some (.ref 0), some (.int u1), some (.int s19.2.2.1), some (.int x4.1), some (.int (s19.2.2.1 + (1 : Int32))), none] ⟨rfl, rfl, rfl, rfl, rfl, trivial⟩ ?_
      exact hk
set_option maxRecDepth 20000 in
set_option maxHeartbeats 4000000 in
theorem R_La_start (d : Nat) (xx : rh_L) (sv : Option Nat) (h : Nat → Nat → Int32) (g : Nat → Nat → Int64) (p0 : Int32) {z9 : Int32 × (Nat → Nat → Int32) × (Nat → Nat → Int64)} (hf : f_La_start h g p0 = some z9) : rh_M rh_PT (cw_L ++ xx) (d + 6) 133 [.ref 0, .int p0] (h, g, cw_R sv) (some (.int z9.1)) (z9.2.1, z9.2.2, cw_R sv) := by
  unfold f_La_start at hf
  refine rh_go pt_133 (Nat.le_of_ble_eq_true rfl) (lv := [some (.ref 0), some (.int p0), none, none, none, none]) rfl ?_
  refine rh_Ex.blk 2 (s' := ((2, [some (.ref 0), some (.int p0), none, none, none, none], [.int p0, .ref 0]), (h, g, cw_R sv))) rfl ?_
  refine rh_Ex.call (j := 162) (rc := some 10) [.ref 0, .int p0] [] (some (.int (f_La_canRow h p0))) rfl rfl rfl (Nat.le_of_ble_eq_true rfl) (R_La_canRow (d + 2) xx sv h g p0 rfl) ?_
  show rh_Ex _ _ _ ((5, [some (.ref 0), some (.int p0), none, none, none, none], [.int (f_La_canRow h p0)]), (h, g, cw_R sv)) _ _
  by_cases q1 : (f_La_canRow h p0) = 0
  · rw [if_pos q1] at hf
    refine rh_Ex.stp (s' := ((8, [some (.ref 0), some (.int p0), none, none, none, none], []), (h, g, cw_R sv))) rfl (st_ifne_p q1) ?_
    refine rh_Ex.blk 1 (s' := ((9, [some (.ref 0), some (.int p0), none, none, none, none], [.int (-1 : Int32)]), (h, g, cw_R sv))) rfl ?_
    obtain rfl := Option.some.inj hf
    exact rh_Ex.ret rfl rfl
  · rw [if_neg q1] at hf
    refine rh_Ex.stp (s' := ((10, [some (.ref 0), some (.int p0), none, none, none, none], []), (h, g, cw_R sv))) rfl (st_ifne_n q1) ?_
    refine rh_Ex.blk 6 (s' := ((19, [some (.ref 0), some (.int p0), some (.int (-2 : Int32)), some (.int (20 : Int32)), some (.int (0 : Int32)), none], []), (h, g, cw_R sv))) rfl ?_
    obtain ⟨r6, hr6, hf⟩ := rh_bq hf
    refine rh_Ex.fgt [some (.ref 0), some (.int p0), some (.int (-2 : Int32)), some (.int (20 : Int32)), some (.int (0 : Int32)), none] ⟨rfl, rfl, rfl, rfl, rfl, trivial⟩ ?_
    refine rh_Ex.loop _ _ _ (lb_La_start_19 d xx sv p0   _ _) rh_N _ r6 hr6 ?_
    refine rh_Ex.blk 1 (s' := ((80, [some (.ref 0), none, some (.int r6.1), some (.int r6.2.1), none, none], [.int r6.1]), (r6.2.2.1, r6.2.2.2, cw_R sv))) rfl ?_
    by_cases q7 : r6.1 < 0
    · rw [if_pos q7] at hf
      refine rh_Ex.stp (s' := ((91, [some (.ref 0), none, some (.int r6.1), some (.int r6.2.1), none, none], []), (r6.2.2.1, r6.2.2.2, cw_R sv))) rfl (st_iflt_p q7) ?_
      refine rh_Ex.blk 1 (s' := ((92, [some (.ref 0), none, some (.int r6.1), some (.int r6.2.1), none, none], [.int r6.1]), (r6.2.2.1, r6.2.2.2, cw_R sv))) rfl ?_
      obtain rfl := Option.some.inj hf
      exact rh_Ex.ret rfl rfl
    · rw [if_neg q7] at hf
      refine rh_Ex.stp (s' := ((83, [some (.ref 0), none, some (.int r6.1), some (.int r6.2.1), none, none], []), (r6.2.2.1, r6.2.2.2, cw_R sv))) rfl (st_iflt_n q7) ?_
      refine rh_Ex.blk 3 (s' := ((88, [some (.ref 0), none, some (.int r6.1), some (.int r6.2.1), none, none], [.int r6.2.1, .ref 2]), (r6.2.2.1, r6.2.2.2, cw_R sv))) rfl ?_
      obtain ⟨x8, hx8, hf⟩ := rh_bq hf
      refine rh_Ex.call (j := 70) (rc := some 6) [.ref 2, .int r6.2.1] [] none rfl rfl rfl (Nat.le_of_ble_eq_true rfl) (R_Ro_tell (d + 3) xx sv r6.2.2.1 r6.2.2.2 r6.2.1 hx8) ?_
      show rh_Ex _ _ _ ((91, [some (.ref 0), none, some (.int r6.1), some (.int r6.2.1), none, none], []), (x8, r6.2.2.2, cw_R sv)) _ _
      refine rh_Ex.blk 1 (s' := ((92, [some (.ref 0), none, some (.int r6.1), some (.int r6.2.1), none, none], [.int r6.1]), (x8, r6.2.2.2, cw_R sv))) rfl ?_
      obtain rfl := Option.some.inj hf
      exact rh_Ex.ret rfl rfl
def f_La_steady (h : Nat → Nat → Int32) (p0 : Int32) : Option (Int32 × (Nat → Nat → Int32)) :=
  if (f_La_within p0 (0 : Int32) (20 : Int32)) = 0 then
    some (((-1 : Int32), h))
  else
    (f_De_leanAt h (h 13 1)).bind (fun x2 =>
      if (f_La_tipsBy x2.2 x2.1) = 0 then
        none
      else
        some (((0 : Int32), x2.2))
    )
set_option maxRecDepth 20000 in
set_option maxHeartbeats 4000000 in
theorem R_La_steady (d : Nat) (xx : rh_L) (sv : Option Nat) (h : Nat → Nat → Int32) (g : Nat → Nat → Int64) (p0 : Int32) {z9 : Int32 × (Nat → Nat → Int32)} (hf : f_La_steady h p0 = some z9) : rh_M rh_PT (cw_L ++ xx) (d + 5) 134 [.ref 0, .int p0] (h, g, cw_R sv) (some (.int z9.1)) (z9.2, g, cw_R sv) := by
  unfold f_La_steady at hf
  refine rh_go pt_134 (Nat.le_of_ble_eq_true rfl) (lv := [some (.ref 0), some (.int p0), none]) rfl ?_
  refine rh_Ex.blk 3 (s' := ((4, [some (.ref 0), some (.int p0), none], [.int (20 : Int32), .int (0 : Int32), .int p0]), (h, g, cw_R sv))) rfl ?_
  refine rh_Ex.call (j := 155) (rc := none) [.int p0, .int (0 : Int32), .int (20 : Int32)] [] (some (.int (f_La_within p0 (0 : Int32) (20 : Int32)))) rfl rfl trivial (Nat.le_of_ble_eq_true rfl) (R_La_within (d + 3) (cw_L ++ xx) (cw_R sv) h g p0 (0 : Int32) (20 : Int32) rfl) ?_
  show rh_Ex _ _ _ ((7, [some (.ref 0), some (.int p0), none], [.int (f_La_within p0 (0 : Int32) (20 : Int32))]), (h, g, cw_R sv)) _ _
  by_cases q1 : (f_La_within p0 (0 : Int32) (20 : Int32)) = 0
  · rw [if_pos q1] at hf
    refine rh_Ex.stp (s' := ((10, [some (.ref 0), some (.int p0), none], []), (h, g, cw_R sv))) rfl (st_ifne_p q1) ?_
    refine rh_Ex.blk 1 (s' := ((11, [some (.ref 0), some (.int p0), none], [.int (-1 : Int32)]), (h, g, cw_R sv))) rfl ?_
    obtain rfl := Option.some.inj hf
    exact rh_Ex.ret rfl rfl
  · rw [if_neg q1] at hf
    refine rh_Ex.stp (s' := ((12, [some (.ref 0), some (.int p0), none], []), (h, g, cw_R sv))) rfl (st_ifne_n q1) ?_
    refine rh_Ex.blk 6 (s' := ((24, [some (.ref 0), some (.int p0), none], [.int (h 13 1), .ref 13, .ref 0]), (h, g, cw_R sv))) rfl ?_
    obtain ⟨x2, hx2, hf⟩ := rh_bq hf
    refine rh_Ex.call (j := 20) (rc := some 2) [.ref 13, .int (h 13 1)] [.ref 0] (some (.int x2.1)) rfl rfl rfl (Nat.le_of_ble_eq_true rfl) (R_De_leanAt d xx sv h g (h 13 1) hx2) ?_
    show rh_Ex _ _ _ ((27, [some (.ref 0), some (.int p0), none], [.int x2.1, .ref 0]), (x2.2, g, cw_R sv)) _ _
    refine rh_Ex.call (j := 161) (rc := some 10) [.ref 0, .int x2.1] [] (some (.int (f_La_tipsBy x2.2 x2.1))) rfl rfl rfl (Nat.le_of_ble_eq_true rfl) (R_La_tipsBy (d + 3) xx sv x2.2 g x2.1 rfl) ?_
    show rh_Ex _ _ _ ((30, [some (.ref 0), some (.int p0), none], [.int (f_La_tipsBy x2.2 x2.1)]), (x2.2, g, cw_R sv)) _ _
    by_cases q3 : (f_La_tipsBy x2.2 x2.1) = 0
    · rw [if_pos q3] at hf
      refine rh_Ex.stp (s' := ((35, [some (.ref 0), some (.int p0), none], []), (x2.2, g, cw_R sv))) rfl (st_ifeq_p q3) ?_
      cases hf
    · rw [if_neg q3] at hf
      refine rh_Ex.stp (s' := ((33, [some (.ref 0), some (.int p0), none], []), (x2.2, g, cw_R sv))) rfl (st_ifeq_n q3) ?_
      refine rh_Ex.blk 1 (s' := ((34, [some (.ref 0), some (.int p0), none], [.int (0 : Int32)]), (x2.2, g, cw_R sv))) rfl ?_
      obtain rfl := Option.some.inj hf
      exact rh_Ex.ret rfl rfl
def b_La_trim_64 (u2 : Int32) (u3 : Int32) (h : Nat → Nat → Int32) : (Int32 × Int32) → Option ((Int32 × Int32) ⊕ (Int32)) := fun s64 =>
  if (4 : Int32) < s64.2 then
    some (.inr s64.1)
  else
    if (if 0 ≤ (u2 + (u3 * s64.1)) then (u2 + (u3 * s64.1)) else 0 - (u2 + (u3 * s64.1))) ≤ (if 0 ≤ (u2 + (u3 * s64.2)) then (u2 + (u3 * s64.2)) else 0 - (u2 + (u3 * s64.2))) then
      some (.inl (s64.1, s64.2 + (1 : Int32)))
    else
      some (.inl (s64.2, s64.2 + (1 : Int32)))
def f_La_trim (h : Nat → Nat → Int32) (p0 : Int32) : Option (Int32 × (Nat → Nat → Int32)) :=
  if (f_Cr_has h p0) = 0 then
    some (((-10 : Int32), h))
  else
    if (f_De_isAboard h p0) = 0 then
      (f_De_leanAt h (h 13 1)).bind (fun x3 =>
        (f_Cr_weightAt x3.2 p0 (x3.2 13 1)).bind (fun x4 =>
          (rh_loop (b_La_trim_64 x3.1 x4.1 x4.2) rh_N ((-4 : Int32), (-4 : Int32))).bind (fun r8 =>
            (f_Ro_tell x4.2 (x3.1 + (x4.1 * r8))).bind (fun x9 =>
              some ((r8, x9))
            )
          )
        )
      )
    else
      some (((-10 : Int32), h))
set_option maxRecDepth 20000 in
set_option maxHeartbeats 4000000 in
theorem lb_La_trim_64 (d : Nat) (xx : rh_L) (sv : Option Nat) (u2 : Int32) (u3 : Int32) (h : Nat → Nat → Int32) (g : Nat → Nat → Int64) (v9 : Option Value) (h9 : rh_H) : ∀ s64 x9, b_La_trim_64 u2 u3 h s64 = some x9 → Sum.elim (fun s64 => rh_Ex (rh_M rh_PT (cw_L ++ xx) (d + 4)) (cw_L ++ xx) pg_X11_trim ((64, [some (.ref 0), none, some (.int u2), some (.int u3), some (.int s64.1), some (.int s64.2)], []), (h, g, cw_R sv)) v9 h9) (fun e9 => rh_Ex (rh_M rh_PT (cw_L ++ xx) (d + 4)) (cw_L ++ xx) pg_X11_trim ((101, [some (.ref 0), none, some (.int u2), some (.int u3), some (.int e9), none], []), (h, g, cw_R sv)) v9 h9) x9 → rh_Ex (rh_M rh_PT (cw_L ++ xx) (d + 4)) (cw_L ++ xx) pg_X11_trim ((64, [some (.ref 0), none, some (.int u2), some (.int u3), some (.int s64.1), some (.int s64.2)], []), (h, g, cw_R sv)) v9 h9 := by
  intro s64 x9 hf hk
  unfold b_La_trim_64 at hf
  refine rh_Ex.blk 2 (s' := ((67, [some (.ref 0), none, some (.int u2), some (.int u3), some (.int s64.1), some (.int s64.2)], [.int (4 : Int32), .int s64.2]), (h, g, cw_R sv))) rfl ?_
  by_cases q6 : (4 : Int32) < s64.2
  · rw [if_pos q6] at hf
    refine rh_Ex.stp (s' := ((101, [some (.ref 0), none, some (.int u2), some (.int u3), some (.int s64.1), some (.int s64.2)], []), (h, g, cw_R sv))) rfl (st_icgt_p q6) ?_
    obtain rfl := Option.some.inj hf
    refine rh_Ex.fgt [some (.ref 0), none, some (.int u2), some (.int u3), some (.int s64.1), none] ⟨rfl, rfl, rfl, rfl, trivial⟩ ?_
    exact hk
  · rw [if_neg q6] at hf
    refine rh_Ex.stp (s' := ((70, [some (.ref 0), none, some (.int u2), some (.int u3), some (.int s64.1), some (.int s64.2)], []), (h, g, cw_R sv))) rfl (st_icgt_n q6) ?_
    refine rh_Ex.blk 5 (s' := ((76, [some (.ref 0), none, some (.int u2), some (.int u3), some (.int s64.1), some (.int s64.2)], [.int (u2 + (u3 * s64.2))]), (h, g, cw_R sv))) rfl ?_
    refine rh_Ex.stp (s' := ((79, [some (.ref 0), none, some (.int u2), some (.int u3), some (.int s64.1), some (.int s64.2)], [.int (if 0 ≤ (u2 + (u3 * s64.2)) then (u2 + (u3 * s64.2)) else 0 - (u2 + (u3 * s64.2)))]), (h, g, cw_R sv))) rfl (st_mabs (Nat.le_of_ble_eq_true rfl)) ?_
    refine rh_Ex.blk 5 (s' := ((85, [some (.ref 0), none, some (.int u2), some (.int u3), some (.int s64.1), some (.int s64.2)], [.int (u2 + (u3 * s64.1)), .int (if 0 ≤ (u2 + (u3 * s64.2)) then (u2 + (u3 * s64.2)) else 0 - (u2 + (u3 * s64.2)))]), (h, g, cw_R sv))) rfl ?_
    refine rh_Ex.stp (s' := ((88, [some (.ref 0), none, some (.int u2), some (.int u3), some (.int s64.1), some (.int s64.2)], [.int (if 0 ≤ (u2 + (u3 * s64.1)) then (u2 + (u3 * s64.1)) else 0 - (u2 + (u3 * s64.1))), .int (if 0 ≤ (u2 + (u3 * s64.2)) then (u2 + (u3 * s64.2)) else 0 - (u2 + (u3 * s64.2)))]), (h, g, cw_R sv))) rfl (st_mabs (Nat.le_of_ble_eq_true rfl)) ?_
    by_cases q7 : (if 0 ≤ (u2 + (u3 * s64.1)) then (u2 + (u3 * s64.1)) else 0 - (u2 + (u3 * s64.1))) ≤ (if 0 ≤ (u2 + (u3 * s64.2)) then (u2 + (u3 * s64.2)) else 0 - (u2 + (u3 * s64.2)))
    · rw [if_pos q7] at hf
      refine rh_Ex.stp (s' := ((95, [some (.ref 0), none, some (.int u2), some (.int u3), some (.int s64.1), some (.int s64.2)], []), (h, g, cw_R sv))) rfl (st_icge_p q7) ?_
      refine rh_Ex.blk 2 (s' := ((64, [some (.ref 0), none, some (.int u2), some (.int u3), some (.int s64.1), some (.int (s64.2 + (1 : Int32)))], []), (h, g, cw_R sv))) rfl ?_
      obtain rfl := Option.some.inj hf
      refine rh_Ex.fgt [some (.ref 0), none, some (.int u2), some (.int u3), some (.int s64.1), some (.int (s64.2 + (1 : Int32)))] ⟨rfl, rfl, rfl, rfl, rfl, trivial⟩ ?_
      exact hk
    · rw [if_neg q7] at hf
      refine rh_Ex.stp (s' := ((91, [some (.ref 0), none, some (.int u2), some (.int u3), some (.int s64.1), some (.int s64.2)], []), (h, g, cw_R sv))) rfl (st_icge_n q7) ?_
      refine rh_Ex.blk 4 (s' := ((64, [some (.ref 0), none, some (.int u2), some (.int u3), some (.int s64.2), some (.int (s64.2 + (1 : Int32)))], []), (h, g, cw_R sv))) rfl ?_
      obtain rfl := Option.some.inj hf
      refine rh_Ex.fgt [some (.ref 0), none, some (.int u2), some (.int u3), some (.int s64.2), some (.int (s64.2 + (1 : Int32)))] ⟨rfl, rfl, rfl, rfl, rfl, trivial⟩ ?_
      exact hk
set_option maxRecDepth 20000 in
set_option maxHeartbeats 4000000 in
theorem R_La_trim (d : Nat) (xx : rh_L) (sv : Option Nat) (h : Nat → Nat → Int32) (g : Nat → Nat → Int64) (p0 : Int32) {z9 : Int32 × (Nat → Nat → Int32)} (hf : f_La_trim h p0 = some z9) : rh_M rh_PT (cw_L ++ xx) (d + 5) 135 [.ref 0, .int p0] (h, g, cw_R sv) (some (.int z9.1)) (z9.2, g, cw_R sv) := by
  unfold f_La_trim at hf
  refine rh_go pt_135 (Nat.le_of_ble_eq_true rfl) (lv := [some (.ref 0), some (.int p0), none, none, none, none]) rfl ?_
  refine rh_Ex.blk 3 (s' := ((5, [some (.ref 0), some (.int p0), none, none, none, none], [.int p0, .ref 4]), (h, g, cw_R sv))) rfl ?_
  refine rh_Ex.call (j := 0) (rc := some 0) [.ref 4, .int p0] [] (some (.int (f_Cr_has h p0))) rfl rfl rfl (Nat.le_of_ble_eq_true rfl) (R_Cr_has (d + 3) xx sv h g p0 rfl) ?_
  show rh_Ex _ _ _ ((8, [some (.ref 0), some (.int p0), none, none, none, none], [.int (f_Cr_has h p0)]), (h, g, cw_R sv)) _ _
  by_cases q1 : (f_Cr_has h p0) = 0
  · rw [if_pos q1] at hf
    refine rh_Ex.stp (s' := ((22, [some (.ref 0), some (.int p0), none, none, none, none], []), (h, g, cw_R sv))) rfl (st_ifeq_p q1) ?_
    refine rh_Ex.blk 1 (s' := ((24, [some (.ref 0), some (.int p0), none, none, none, none], [.int (-10 : Int32)]), (h, g, cw_R sv))) rfl ?_
    obtain rfl := Option.some.inj hf
    exact rh_Ex.ret rfl rfl
  · rw [if_neg q1] at hf
    refine rh_Ex.stp (s' := ((11, [some (.ref 0), some (.int p0), none, none, none, none], []), (h, g, cw_R sv))) rfl (st_ifeq_n q1) ?_
    refine rh_Ex.blk 3 (s' := ((16, [some (.ref 0), some (.int p0), none, none, none, none], [.int p0, .ref 13]), (h, g, cw_R sv))) rfl ?_
    refine rh_Ex.call (j := 19) (rc := some 2) [.ref 13, .int p0] [] (some (.int (f_De_isAboard h p0))) rfl rfl rfl (Nat.le_of_ble_eq_true rfl) (R_De_isAboard (d + 3) xx sv h g p0 rfl) ?_
    show rh_Ex _ _ _ ((19, [some (.ref 0), some (.int p0), none, none, none, none], [.int (f_De_isAboard h p0)]), (h, g, cw_R sv)) _ _
    by_cases q2 : (f_De_isAboard h p0) = 0
    · rw [if_pos q2] at hf
      refine rh_Ex.stp (s' := ((25, [some (.ref 0), some (.int p0), none, none, none, none], []), (h, g, cw_R sv))) rfl (st_ifeq_p q2) ?_
      refine rh_Ex.blk 5 (s' := ((36, [some (.ref 0), some (.int p0), none, none, none, none], [.int (h 13 1), .ref 13]), (h, g, cw_R sv))) rfl ?_
      obtain ⟨x3, hx3, hf⟩ := rh_bq hf
      refine rh_Ex.call (j := 20) (rc := some 2) [.ref 13, .int (h 13 1)] [] (some (.int x3.1)) rfl rfl rfl (Nat.le_of_ble_eq_true rfl) (R_De_leanAt d xx sv h g (h 13 1) hx3) ?_
      show rh_Ex _ _ _ ((39, [some (.ref 0), some (.int p0), none, none, none, none], [.int x3.1]), (x3.2, g, cw_R sv)) _ _
      refine rh_Ex.blk 7 (s' := ((52, [some (.ref 0), some (.int p0), some (.int x3.1), none, none, none], [.int (x3.2 13 1), .int p0, .ref 4]), (x3.2, g, cw_R sv))) rfl ?_
      obtain ⟨x4, hx4, hf⟩ := rh_bq hf
      refine rh_Ex.call (j := 5) (rc := some 0) [.ref 4, .int p0, .int (x3.2 13 1)] [] (some (.int x4.1)) rfl rfl rfl (Nat.le_of_ble_eq_true rfl) (R_Cr_weightAt (d + 1) xx sv x3.2 g p0 (x3.2 13 1) hx4) ?_
      show rh_Ex _ _ _ ((55, [some (.ref 0), some (.int p0), some (.int x3.1), none, none, none], [.int x4.1]), (x4.2, g, cw_R sv)) _ _
      refine rh_Ex.blk 5 (s' := ((64, [some (.ref 0), some (.int p0), some (.int x3.1), some (.int x4.1), some (.int (-4 : Int32)), some (.int (-4 : Int32))], []), (x4.2, g, cw_R sv))) rfl ?_
      obtain ⟨r8, hr8, hf⟩ := rh_bq hf
      refine rh_Ex.fgt [some (.ref 0), none, some (.int x3.1), some (.int x4.1), some (.int (-4 : Int32)), some (.int (-4 : Int32))] ⟨rfl, rfl, rfl, rfl, rfl, trivial⟩ ?_
      refine rh_Ex.loop _ _ _ (lb_La_trim_64 d xx sv x3.1 x4.1 x4.2  g _ _) rh_N _ r8 hr8 ?_
      refine rh_Ex.blk 7 (s' := ((111, [some (.ref 0), none, some (.int x3.1), some (.int x4.1), some (.int r8), none], [.int (x3.1 + (x4.1 * r8)), .ref 2]), (x4.2, g, cw_R sv))) rfl ?_
      obtain ⟨x9, hx9, hf⟩ := rh_bq hf
      refine rh_Ex.call (j := 70) (rc := some 6) [.ref 2, .int (x3.1 + (x4.1 * r8))] [] none rfl rfl rfl (Nat.le_of_ble_eq_true rfl) (R_Ro_tell (d + 2) xx sv x4.2 g (x3.1 + (x4.1 * r8)) hx9) ?_
      show rh_Ex _ _ _ ((114, [some (.ref 0), none, some (.int x3.1), some (.int x4.1), some (.int r8), none], []), (x9, g, cw_R sv)) _ _
      refine rh_Ex.blk 1 (s' := ((116, [some (.ref 0), none, some (.int x3.1), some (.int x4.1), some (.int r8), none], [.int r8]), (x9, g, cw_R sv))) rfl ?_
      obtain rfl := Option.some.inj hf
      exact rh_Ex.ret rfl rfl
    · rw [if_neg q2] at hf
      refine rh_Ex.stp (s' := ((22, [some (.ref 0), some (.int p0), none, none, none, none], []), (h, g, cw_R sv))) rfl (st_ifeq_n q2) ?_
      refine rh_Ex.blk 1 (s' := ((24, [some (.ref 0), some (.int p0), none, none, none, none], [.int (-10 : Int32)]), (h, g, cw_R sv))) rfl ?_
      obtain rfl := Option.some.inj hf
      exact rh_Ex.ret rfl rfl
def f_La_areApart (h : Nat → Nat → Int32) (p0 : Int32) (p1 : Int32) : Int32 :=
  if (f_Cr_holds h p0) = 0 then
    (0 : Int32)
  else
    if (f_Cr_holds h p1) = 0 then
      (0 : Int32)
    else
      if (p0 &&& p1) = 0 then
        (1 : Int32)
      else
        (0 : Int32)
set_option maxRecDepth 20000 in
set_option maxHeartbeats 4000000 in
theorem R_La_areApart (d : Nat) (xx : rh_L) (sv : Option Nat) (h : Nat → Nat → Int32) (g : Nat → Nat → Int64) (p0 : Int32) (p1 : Int32) {z9 : Int32} (hf : f_La_areApart h p0 p1 = z9) : rh_M rh_PT (cw_L ++ xx) (d + 3) 163 [.ref 0, .int p0, .int p1] (h, g, cw_R sv) (some (.int z9)) (h, g, cw_R sv) := by
  unfold f_La_areApart at hf
  refine rh_go pt_163 (Nat.le_of_ble_eq_true rfl) (lv := [some (.ref 0), some (.int p0), some (.int p1)]) rfl ?_
  refine rh_Ex.blk 3 (s' := ((5, [some (.ref 0), some (.int p0), some (.int p1)], [.int p0, .ref 4]), (h, g, cw_R sv))) rfl ?_
  refine rh_Ex.call (j := 1) (rc := some 0) [.ref 4, .int p0] [] (some (.int (f_Cr_holds h p0))) rfl rfl rfl (Nat.le_of_ble_eq_true rfl) (R_Cr_holds d xx sv h g p0 rfl) ?_
  show rh_Ex _ _ _ ((8, [some (.ref 0), some (.int p0), some (.int p1)], [.int (f_Cr_holds h p0)]), (h, g, cw_R sv)) _ _
  by_cases q1 : (f_Cr_holds h p0) = 0
  · rw [if_pos q1] at hf
    refine rh_Ex.stp (s' := ((32, [some (.ref 0), some (.int p0), some (.int p1)], []), (h, g, cw_R sv))) rfl (st_ifeq_p q1) ?_
    refine rh_Ex.blk 1 (s' := ((33, [some (.ref 0), some (.int p0), some (.int p1)], [.int (0 : Int32)]), (h, g, cw_R sv))) rfl ?_
    subst hf
    exact rh_Ex.ret rfl ⟨rfl, Or.inl rfl⟩
  · rw [if_neg q1] at hf
    refine rh_Ex.stp (s' := ((11, [some (.ref 0), some (.int p0), some (.int p1)], []), (h, g, cw_R sv))) rfl (st_ifeq_n q1) ?_
    refine rh_Ex.blk 3 (s' := ((16, [some (.ref 0), some (.int p0), some (.int p1)], [.int p1, .ref 4]), (h, g, cw_R sv))) rfl ?_
    refine rh_Ex.call (j := 1) (rc := some 0) [.ref 4, .int p1] [] (some (.int (f_Cr_holds h p1))) rfl rfl rfl (Nat.le_of_ble_eq_true rfl) (R_Cr_holds d xx sv h g p1 rfl) ?_
    show rh_Ex _ _ _ ((19, [some (.ref 0), some (.int p0), some (.int p1)], [.int (f_Cr_holds h p1)]), (h, g, cw_R sv)) _ _
    by_cases q2 : (f_Cr_holds h p1) = 0
    · rw [if_pos q2] at hf
      refine rh_Ex.stp (s' := ((32, [some (.ref 0), some (.int p0), some (.int p1)], []), (h, g, cw_R sv))) rfl (st_ifeq_p q2) ?_
      refine rh_Ex.blk 1 (s' := ((33, [some (.ref 0), some (.int p0), some (.int p1)], [.int (0 : Int32)]), (h, g, cw_R sv))) rfl ?_
      subst hf
      exact rh_Ex.ret rfl ⟨rfl, Or.inl rfl⟩
    · rw [if_neg q2] at hf
      refine rh_Ex.stp (s' := ((22, [some (.ref 0), some (.int p0), some (.int p1)], []), (h, g, cw_R sv))) rfl (st_ifeq_n q2) ?_
      refine rh_Ex.blk 3 (s' := ((25, [some (.ref 0), some (.int p0), some (.int p1)], [.int (p0 &&& p1)]), (h, g, cw_R sv))) rfl ?_
      by_cases q3 : (p0 &&& p1) = 0
      · rw [if_pos q3] at hf
        refine rh_Ex.stp (s' := ((28, [some (.ref 0), some (.int p0), some (.int p1)], []), (h, g, cw_R sv))) rfl (st_ifne_p q3) ?_
        refine rh_Ex.blk 2 (s' := ((33, [some (.ref 0), some (.int p0), some (.int p1)], [.int (1 : Int32)]), (h, g, cw_R sv))) rfl ?_
        subst hf
        exact rh_Ex.ret rfl ⟨rfl, Or.inr rfl⟩
      · rw [if_neg q3] at hf
        refine rh_Ex.stp (s' := ((32, [some (.ref 0), some (.int p0), some (.int p1)], []), (h, g, cw_R sv))) rfl (st_ifne_n q3) ?_
        refine rh_Ex.blk 1 (s' := ((33, [some (.ref 0), some (.int p0), some (.int p1)], [.int (0 : Int32)]), (h, g, cw_R sv))) rfl ?_
        subst hf
        exact rh_Ex.ret rfl ⟨rfl, Or.inl rfl⟩
def f_La_overweight (h : Nat → Nat → Int32) (p0 : Int32) (p1 : Int32) (p2 : Int32) : Option (Int32 × (Nat → Nat → Int32)) :=
  (f_Cr_together h p0 p2).bind (fun x1 =>
    (f_Cr_together x1.2 p1 p2).bind (fun x2 =>
      some ((x1.1 - x2.1, x2.2))
    )
  )
set_option maxRecDepth 20000 in
set_option maxHeartbeats 4000000 in
theorem R_La_overweight (d : Nat) (xx : rh_L) (sv : Option Nat) (h : Nat → Nat → Int32) (g : Nat → Nat → Int64) (p0 : Int32) (p1 : Int32) (p2 : Int32) {z9 : Int32 × (Nat → Nat → Int32)} (hf : f_La_overweight h p0 p1 p2 = some z9) : rh_M rh_PT (cw_L ++ xx) (d + 5) 164 [.ref 0, .int p0, .int p1, .int p2] (h, g, cw_R sv) (some (.int z9.1)) (z9.2, g, cw_R sv) := by
  unfold f_La_overweight at hf
  refine rh_go pt_164 (Nat.le_of_ble_eq_true rfl) (lv := [some (.ref 0), some (.int p0), some (.int p1), some (.int p2)]) rfl ?_
  refine rh_Ex.blk 4 (s' := ((6, [some (.ref 0), some (.int p0), some (.int p1), some (.int p2)], [.int p2, .int p0, .ref 4]), (h, g, cw_R sv))) rfl ?_
  obtain ⟨x1, hx1, hf⟩ := rh_bq hf
  refine rh_Ex.call (j := 7) (rc := some 0) [.ref 4, .int p0, .int p2] [] (some (.int x1.1)) rfl rfl rfl (Nat.le_of_ble_eq_true rfl) (R_Cr_together d xx sv h g p0 p2 hx1) ?_
  show rh_Ex _ _ _ ((9, [some (.ref 0), some (.int p0), some (.int p1), some (.int p2)], [.int x1.1]), (x1.2, g, cw_R sv)) _ _
  refine rh_Ex.blk 4 (s' := ((15, [some (.ref 0), some (.int p0), some (.int p1), some (.int p2)], [.int p2, .int p1, .ref 4, .int x1.1]), (x1.2, g, cw_R sv))) rfl ?_
  obtain ⟨x2, hx2, hf⟩ := rh_bq hf
  refine rh_Ex.call (j := 7) (rc := some 0) [.ref 4, .int p1, .int p2] [.int x1.1] (some (.int x2.1)) rfl rfl rfl (Nat.le_of_ble_eq_true rfl) (R_Cr_together d xx sv x1.2 g p1 p2 hx2) ?_
  show rh_Ex _ _ _ ((18, [some (.ref 0), some (.int p0), some (.int p1), some (.int p2)], [.int x2.1, .int x1.1]), (x2.2, g, cw_R sv)) _ _
  refine rh_Ex.blk 1 (s' := ((19, [some (.ref 0), some (.int p0), some (.int p1), some (.int p2)], [.int (x1.1 - x2.1)]), (x2.2, g, cw_R sv))) rfl ?_
  obtain rfl := Option.some.inj hf
  exact rh_Ex.ret rfl rfl
def f_In_signum (p0 : Int32) : Int32 :=
  ((p0 >>> ((31 : Int32) &&& 31)) ||| (((-p0).toUInt32 >>> ((31 : Int32).toUInt32 &&& Int32.toUInt32 31)).toInt32))
set_option maxRecDepth 20000 in
set_option maxHeartbeats 4000000 in
theorem R_In_signum (d : Nat) (LL : rh_L) (rr : Nat → Nat → Option Nat) (h : Nat → Nat → Int32) (g : Nat → Nat → Int64) (p0 : Int32) {z9 : Int32} (hf : f_In_signum p0 = z9) : rh_M rh_PT LL (d + 1) 299 [.int p0] (h, g, rr) (some (.int z9)) (h, g, rr) := by
  unfold f_In_signum at hf
  refine rh_go pt_299 (Nat.le_of_ble_eq_true rfl) (lv := [some (.int p0)]) rfl ?_
  refine rh_Ex.blk 8 (s' := ((10, [some (.int p0)], [.int ((p0 >>> ((31 : Int32) &&& 31)) ||| (((-p0).toUInt32 >>> ((31 : Int32).toUInt32 &&& Int32.toUInt32 31)).toInt32))]), (h, g, rr))) rfl ?_
  subst hf
  exact rh_Ex.ret rfl rfl
def f_La_balance (h : Nat → Nat → Int32) (p0 : Int32) (p1 : Int32) (p2 : Int32) : Option (Int32 × (Nat → Nat → Int32)) :=
  if (f_La_areApart h p0 p1) = 0 then
    none
  else
    if (f_La_within p2 (0 : Int32) (99 : Int32)) = 0 then
      none
    else
      (f_La_overweight h p0 p1 ((h 13 1) + p2)).bind (fun x3 =>
        some (((f_In_signum x3.1), x3.2))
      )
set_option maxRecDepth 20000 in
set_option maxHeartbeats 4000000 in
theorem R_La_balance (d : Nat) (xx : rh_L) (sv : Option Nat) (h : Nat → Nat → Int32) (g : Nat → Nat → Int64) (p0 : Int32) (p1 : Int32) (p2 : Int32) {z9 : Int32 × (Nat → Nat → Int32)} (hf : f_La_balance h p0 p1 p2 = some z9) : rh_M rh_PT (cw_L ++ xx) (d + 6) 136 [.ref 0, .int p0, .int p1, .int p2] (h, g, cw_R sv) (some (.int z9.1)) (z9.2, g, cw_R sv) := by
  unfold f_La_balance at hf
  refine rh_go pt_136 (Nat.le_of_ble_eq_true rfl) (lv := [some (.ref 0), some (.int p0), some (.int p1), some (.int p2)]) rfl ?_
  refine rh_Ex.blk 3 (s' := ((3, [some (.ref 0), some (.int p0), some (.int p1), some (.int p2)], [.int p1, .int p0, .ref 0]), (h, g, cw_R sv))) rfl ?_
  refine rh_Ex.call (j := 163) (rc := some 10) [.ref 0, .int p0, .int p1] [] (some (.int (f_La_areApart h p0 p1))) rfl rfl rfl (Nat.le_of_ble_eq_true rfl) (R_La_areApart (d + 2) xx sv h g p0 p1 rfl) ?_
  show rh_Ex _ _ _ ((6, [some (.ref 0), some (.int p0), some (.int p1), some (.int p2)], [.int (f_La_areApart h p0 p1)]), (h, g, cw_R sv)) _ _
  by_cases q1 : (f_La_areApart h p0 p1) = 0
  · rw [if_pos q1] at hf
    refine rh_Ex.stp (s' := ((19, [some (.ref 0), some (.int p0), some (.int p1), some (.int p2)], []), (h, g, cw_R sv))) rfl (st_ifeq_p q1) ?_
    cases hf
  · rw [if_neg q1] at hf
    refine rh_Ex.stp (s' := ((9, [some (.ref 0), some (.int p0), some (.int p1), some (.int p2)], []), (h, g, cw_R sv))) rfl (st_ifeq_n q1) ?_
    refine rh_Ex.blk 3 (s' := ((13, [some (.ref 0), some (.int p0), some (.int p1), some (.int p2)], [.int (99 : Int32), .int (0 : Int32), .int p2]), (h, g, cw_R sv))) rfl ?_
    refine rh_Ex.call (j := 155) (rc := none) [.int p2, .int (0 : Int32), .int (99 : Int32)] [] (some (.int (f_La_within p2 (0 : Int32) (99 : Int32)))) rfl rfl trivial (Nat.le_of_ble_eq_true rfl) (R_La_within (d + 4) (cw_L ++ xx) (cw_R sv) h g p2 (0 : Int32) (99 : Int32) rfl) ?_
    show rh_Ex _ _ _ ((16, [some (.ref 0), some (.int p0), some (.int p1), some (.int p2)], [.int (f_La_within p2 (0 : Int32) (99 : Int32))]), (h, g, cw_R sv)) _ _
    by_cases q2 : (f_La_within p2 (0 : Int32) (99 : Int32)) = 0
    · rw [if_pos q2] at hf
      refine rh_Ex.stp (s' := ((19, [some (.ref 0), some (.int p0), some (.int p1), some (.int p2)], []), (h, g, cw_R sv))) rfl (st_ifne_p q2) ?_
      cases hf
    · rw [if_neg q2] at hf
      refine rh_Ex.stp (s' := ((27, [some (.ref 0), some (.int p0), some (.int p1), some (.int p2)], []), (h, g, cw_R sv))) rfl (st_ifne_n q2) ?_
      refine rh_Ex.blk 8 (s' := ((39, [some (.ref 0), some (.int p0), some (.int p1), some (.int p2)], [.int ((h 13 1) + p2), .int p1, .int p0, .ref 0]), (h, g, cw_R sv))) rfl ?_
      obtain ⟨x3, hx3, hf⟩ := rh_bq hf
      refine rh_Ex.call (j := 164) (rc := some 10) [.ref 0, .int p0, .int p1, .int ((h 13 1) + p2)] [] (some (.int x3.1)) rfl rfl rfl (Nat.le_of_ble_eq_true rfl) (R_La_overweight d xx sv h g p0 p1 ((h 13 1) + p2) hx3) ?_
      show rh_Ex _ _ _ ((42, [some (.ref 0), some (.int p0), some (.int p1), some (.int p2)], [.int x3.1]), (x3.2, g, cw_R sv)) _ _
      refine rh_Ex.call (j := 299) (rc := none) [.int x3.1] [] (some (.int (f_In_signum x3.1))) rfl rfl trivial (Nat.le_of_ble_eq_true rfl) (R_In_signum (d + 4) (cw_L ++ xx) (cw_R sv) x3.2 g x3.1 rfl) ?_
      show rh_Ex _ _ _ ((45, [some (.ref 0), some (.int p0), some (.int p1), some (.int p2)], [.int (f_In_signum x3.1)]), (x3.2, g, cw_R sv)) _ _
      obtain rfl := Option.some.inj hf
      exact rh_Ex.ret rfl rfl
def b_La_even_19 (u1 : Int32) (u2 : Int32) : (Int32 × Int32 × Int32 × (Nat → Nat → Int32)) → Option ((Int32 × Int32 × Int32 × (Nat → Nat → Int32)) ⊕ (Int32 × Int32 × (Nat → Nat → Int32))) := fun s19 =>
  if (9 : Int32) ≤ s19.2.2.1 then
    some (.inr (s19.1, s19.2.1, s19.2.2.2))
  else
    (f_La_overweight s19.2.2.2 u1 u2 ((f_La_dawn s19.2.2.2) + s19.2.2.1)).bind (fun x4 =>
      if x4.1 = 0 then
        if x4.1 ≤ 0 then
          some (.inl (s19.1 ||| ((1 : Int32) <<< (s19.2.2.1 &&& 31)), s19.2.1 ||| (0 : Int32), s19.2.2.1 + (1 : Int32), x4.2))
        else
          some (.inl (s19.1 ||| ((1 : Int32) <<< (s19.2.2.1 &&& 31)), s19.2.1 ||| ((1 : Int32) <<< (s19.2.2.1 &&& 31)), s19.2.2.1 + (1 : Int32), x4.2))
      else
        if x4.1 ≤ 0 then
          some (.inl (s19.1 ||| (0 : Int32), s19.2.1 ||| (0 : Int32), s19.2.2.1 + (1 : Int32), x4.2))
        else
          some (.inl (s19.1 ||| (0 : Int32), s19.2.1 ||| ((1 : Int32) <<< (s19.2.2.1 &&& 31)), s19.2.2.1 + (1 : Int32), x4.2))
    )
def f_La_even (h : Nat → Nat → Int32) (p0 : Int32) (p1 : Int32) : Option (Int32 × (Nat → Nat → Int32)) :=
  if (f_La_areApart h p0 p1) = 0 then
    some (((-1 : Int32), h))
  else
    (rh_loop (b_La_even_19 p0 p1) rh_N ((0 : Int32), (0 : Int32), (0 : Int32), h)).bind (fun r8 =>
      (f_Ro_tell r8.2.2 r8.2.1).bind (fun x9 =>
        some ((r8.1, x9))
      )
    )
set_option maxRecDepth 20000 in
set_option maxHeartbeats 4000000 in
theorem lb_La_even_19 (d : Nat) (xx : rh_L) (sv : Option Nat) (u1 : Int32) (u2 : Int32) (g : Nat → Nat → Int64) (v9 : Option Value) (h9 : rh_H) : ∀ s19 x9, b_La_even_19 u1 u2 s19 = some x9 → Sum.elim (fun s19 => rh_Ex (rh_M rh_PT (cw_L ++ xx) (d + 5)) (cw_L ++ xx) pg_X11_even ((19, [some (.ref 0), some (.int u1), some (.int u2), some (.int s19.1), some (.int s19.2.1), some (.int s19.2.2.1), none], []), (s19.2.2.2, g, cw_R sv)) v9 h9) (fun e9 => rh_Ex (rh_M rh_PT (cw_L ++ xx) (d + 5)) (cw_L ++ xx) pg_X11_even ((81, [some (.ref 0), none, none, some (.int e9.1), some (.int e9.2.1), none, none], []), (e9.2.2, g, cw_R sv)) v9 h9) x9 → rh_Ex (rh_M rh_PT (cw_L ++ xx) (d + 5)) (cw_L ++ xx) pg_X11_even ((19, [some (.ref 0), some (.int u1), some (.int u2), some (.int s19.1), some (.int s19.2.1), some (.int s19.2.2.1), none], []), (s19.2.2.2, g, cw_R sv)) v9 h9 := by
  intro s19 x9 hf hk
  unfold b_La_even_19 at hf
  refine rh_Ex.blk 2 (s' := ((23, [some (.ref 0), some (.int u1), some (.int u2), some (.int s19.1), some (.int s19.2.1), some (.int s19.2.2.1), none], [.int (9 : Int32), .int s19.2.2.1]), (s19.2.2.2, g, cw_R sv))) rfl ?_
  by_cases q3 : (9 : Int32) ≤ s19.2.2.1
  · rw [if_pos q3] at hf
    refine rh_Ex.stp (s' := ((81, [some (.ref 0), some (.int u1), some (.int u2), some (.int s19.1), some (.int s19.2.1), some (.int s19.2.2.1), none], []), (s19.2.2.2, g, cw_R sv))) rfl (st_icge_p q3) ?_
    obtain rfl := Option.some.inj hf
    refine rh_Ex.fgt [some (.ref 0), none, none, some (.int s19.1), some (.int s19.2.1), none, none] ⟨rfl, rfl, rfl, trivial⟩ ?_
    exact hk
  · rw [if_neg q3] at hf
    refine rh_Ex.stp (s' := ((26, [some (.ref 0), some (.int u1), some (.int u2), some (.int s19.1), some (.int s19.2.1), some (.int s19.2.2.1), none], []), (s19.2.2.2, g, cw_R sv))) rfl (st_icge_n q3) ?_
    refine rh_Ex.blk 4 (s' := ((30, [some (.ref 0), some (.int u1), some (.int u2), some (.int s19.1), some (.int s19.2.1), some (.int s19.2.2.1), none], [.ref 0, .int u2, .int u1, .ref 0]), (s19.2.2.2, g, cw_R sv))) rfl ?_
    refine rh_Ex.call (j := 159) (rc := some 10) [.ref 0] [.int u2, .int u1, .ref 0] (some (.int (f_La_dawn s19.2.2.2))) rfl rfl rfl (Nat.le_of_ble_eq_true rfl) (R_La_dawn (d + 4) xx sv s19.2.2.2 g  rfl) ?_
    show rh_Ex _ _ _ ((33, [some (.ref 0), some (.int u1), some (.int u2), some (.int s19.1), some (.int s19.2.1), some (.int s19.2.2.1), none], [.int (f_La_dawn s19.2.2.2), .int u2, .int u1, .ref 0]), (s19.2.2.2, g, cw_R sv)) _ _
    refine rh_Ex.blk 2 (s' := ((36, [some (.ref 0), some (.int u1), some (.int u2), some (.int s19.1), some (.int s19.2.1), some (.int s19.2.2.1), none], [.int ((f_La_dawn s19.2.2.2) + s19.2.2.1), .int u2, .int u1, .ref 0]), (s19.2.2.2, g, cw_R sv))) rfl ?_
    obtain ⟨x4, hx4, hf⟩ := rh_bq hf
    refine rh_Ex.call (j := 164) (rc := some 10) [.ref 0, .int u1, .int u2, .int ((f_La_dawn s19.2.2.2) + s19.2.2.1)] [] (some (.int x4.1)) rfl rfl rfl (Nat.le_of_ble_eq_true rfl) (R_La_overweight d xx sv s19.2.2.2 g u1 u2 ((f_La_dawn s19.2.2.2) + s19.2.2.1) hx4) ?_
    show rh_Ex _ _ _ ((39, [some (.ref 0), some (.int u1), some (.int u2), some (.int s19.1), some (.int s19.2.1), some (.int s19.2.2.1), none], [.int x4.1]), (x4.2, g, cw_R sv)) _ _
    refine rh_Ex.blk 3 (s' := ((44, [some (.ref 0), some (.int u1), some (.int u2), some (.int s19.1), some (.int s19.2.1), some (.int s19.2.2.1), some (.int x4.1)], [.int x4.1, .int s19.1]), (x4.2, g, cw_R sv))) rfl ?_
    by_cases q5 : x4.1 = 0
    · rw [if_pos q5] at hf
      refine rh_Ex.stp (s' := ((47, [some (.ref 0), some (.int u1), some (.int u2), some (.int s19.1), some (.int s19.2.1), some (.int s19.2.2.1), some (.int x4.1)], [.int s19.1]), (x4.2, g, cw_R sv))) rfl (st_ifne_p q5) ?_
      refine rh_Ex.blk 8 (s' := ((61, [some (.ref 0), some (.int u1), some (.int u2), some (.int (s19.1 ||| ((1 : Int32) <<< (s19.2.2.1 &&& 31)))), some (.int s19.2.1), some (.int s19.2.2.1), some (.int x4.1)], [.int x4.1, .int s19.2.1]), (x4.2, g, cw_R sv))) rfl ?_
      by_cases q6 : x4.1 ≤ 0
      · rw [if_pos q6] at hf
        refine rh_Ex.stp (s' := ((71, [some (.ref 0), some (.int u1), some (.int u2), some (.int (s19.1 ||| ((1 : Int32) <<< (s19.2.2.1 &&& 31)))), some (.int s19.2.1), some (.int s19.2.2.1), some (.int x4.1)], [.int s19.2.1]), (x4.2, g, cw_R sv))) rfl (st_ifle_p q6) ?_
        refine rh_Ex.blk 5 (s' := ((19, [some (.ref 0), some (.int u1), some (.int u2), some (.int (s19.1 ||| ((1 : Int32) <<< (s19.2.2.1 &&& 31)))), some (.int (s19.2.1 ||| (0 : Int32))), some (.int (s19.2.2.1 + (1 : Int32))), some (.int x4.1)], []), (x4.2, g, cw_R sv))) rfl ?_
        obtain rfl := Option.some.inj hf
        refine rh_Ex.fgt [some (.ref 0), some (.int u1), some (.int u2), some (.int (s19.1 ||| ((1 : Int32) <<< (s19.2.2.1 &&& 31)))), some (.int (s19.2.1 ||| (0 : Int32))), some (.int (s19.2.2.1 + (1 : Int32))), none] ⟨rfl, rfl, rfl, rfl, rfl, rfl, trivial⟩ ?_
        exact hk
      · rw [if_neg q6] at hf
        refine rh_Ex.stp (s' := ((64, [some (.ref 0), some (.int u1), some (.int u2), some (.int (s19.1 ||| ((1 : Int32) <<< (s19.2.2.1 &&& 31)))), some (.int s19.2.1), some (.int s19.2.2.1), some (.int x4.1)], [.int s19.2.1]), (x4.2, g, cw_R sv))) rfl (st_ifle_n q6) ?_
        refine rh_Ex.blk 8 (s' := ((19, [some (.ref 0), some (.int u1), some (.int u2), some (.int (s19.1 ||| ((1 : Int32) <<< (s19.2.2.1 &&& 31)))), some (.int (s19.2.1 ||| ((1 : Int32) <<< (s19.2.2.1 &&& 31)))), some (.int (s19.2.2.1 + (1 : Int32))), some (.int x4.1)], []), (x4.2, g, cw_R sv))) rfl ?_
        obtain rfl := Option.some.inj hf
        refine rh_Ex.fgt [some (.ref 0), some (.int u1), some (.int u2), some (.int (s19.1 ||| ((1 : Int32) <<< (s19.2.2.1 &&& 31)))), some (.int (s19.2.1 ||| ((1 : Int32) <<< (s19.2.2.1 &&& 31)))), some (.int (s19.2.2.1 + (1 : Int32))), none] ⟨rfl, rfl, rfl, rfl, rfl, rfl, trivial⟩ ?_
        exact hk
    · rw [if_neg q5] at hf
      refine rh_Ex.stp (s' := ((54, [some (.ref 0), some (.int u1), some (.int u2), some (.int s19.1), some (.int s19.2.1), some (.int s19.2.2.1), some (.int x4.1)], [.int s19.1]), (x4.2, g, cw_R sv))) rfl (st_ifne_n q5) ?_
      refine rh_Ex.blk 5 (s' := ((61, [some (.ref 0), some (.int u1), some (.int u2), some (.int (s19.1 ||| (0 : Int32))), some (.int s19.2.1), some (.int s19.2.2.1), some (.int x4.1)], [.int x4.1, .int s19.2.1]), (x4.2, g, cw_R sv))) rfl ?_
      by_cases q7 : x4.1 ≤ 0
      · rw [if_pos q7] at hf
        refine rh_Ex.stp (s' := ((71, [some (.ref 0), some (.int u1), some (.int u2), some (.int (s19.1 ||| (0 : Int32))), some (.int s19.2.1), some (.int s19.2.2.1), some (.int x4.1)], [.int s19.2.1]), (x4.2, g, cw_R sv))) rfl (st_ifle_p q7) ?_
        refine rh_Ex.blk 5 (s' := ((19, [some (.ref 0), some (.int u1), some (.int u2), some (.int (s19.1 ||| (0 : Int32))), some (.int (s19.2.1 ||| (0 : Int32))), some (.int (s19.2.2.1 + (1 : Int32))), some (.int x4.1)], []), (x4.2, g, cw_R sv))) rfl ?_
        obtain rfl := Option.some.inj hf
        refine rh_Ex.fgt [some (.ref 0), some (.int u1), some (.int u2), some (.int (s19.1 ||| (0 : Int32))), some (.int (s19.2.1 ||| (0 : Int32))), some (.int (s19.2.2.1 + (1 : Int32))), none] ⟨rfl, rfl, rfl, rfl, rfl, rfl, trivial⟩ ?_
        exact hk
      · rw [if_neg q7] at hf
        refine rh_Ex.stp (s' := ((64, [some (.ref 0), some (.int u1), some (.int u2), some (.int (s19.1 ||| (0 : Int32))), some (.int s19.2.1), some (.int s19.2.2.1), some (.int x4.1)], [.int s19.2.1]), (x4.2, g, cw_R sv))) rfl (st_ifle_n q7) ?_
        refine rh_Ex.blk 8 (s' := ((19, [some (.ref 0), some (.int u1), some (.int u2), some (.int (s19.1 ||| (0 : Int32))), some (.int (s19.2.1 ||| ((1 : Int32) <<< (s19.2.2.1 &&& 31)))), some (.int (s19.2.2.1 + (1 : Int32))), some (.int x4.1)], []), (x4.2, g, cw_R sv))) rfl ?_
        obtain rfl := Option.some.inj hf
        refine rh_Ex.fgt [some (.ref 0), some (.int u1), some (.int u2), some (.int (s19.1 ||| (0 : Int32))), some (.int (s19.2.1 ||| ((1 : Int32) <<< (s19.2.2.1 &&& 31)))), some (.int (s19.2.2.1 + (1 : Int32))), none] ⟨rfl, rfl, rfl, rfl, rfl, rfl, trivial⟩ ?_
        exact hk
set_option maxRecDepth 20000 in
set_option maxHeartbeats 4000000 in
theorem R_La_even (d : Nat) (xx : rh_L) (sv : Option Nat) (h : Nat → Nat → Int32) (g : Nat → Nat → Int64) (p0 : Int32) (p1 : Int32) {z9 : Int32 × (Nat → Nat → Int32)} (hf : f_La_even h p0 p1 = some z9) : rh_M rh_PT (cw_L ++ xx) (d + 6) 137 [.ref 0, .int p0, .int p1] (h, g, cw_R sv) (some (.int z9.1)) (z9.2, g, cw_R sv) := by
  unfold f_La_even at hf
  refine rh_go pt_137 (Nat.le_of_ble_eq_true rfl) (lv := [some (.ref 0), some (.int p0), some (.int p1), none, none, none, none]) rfl ?_
  refine rh_Ex.blk 3 (s' := ((3, [some (.ref 0), some (.int p0), some (.int p1), none, none, none, none], [.int p1, .int p0, .ref 0]), (h, g, cw_R sv))) rfl ?_
  refine rh_Ex.call (j := 163) (rc := some 10) [.ref 0, .int p0, .int p1] [] (some (.int (f_La_areApart h p0 p1))) rfl rfl rfl (Nat.le_of_ble_eq_true rfl) (R_La_areApart (d + 2) xx sv h g p0 p1 rfl) ?_
  show rh_Ex _ _ _ ((6, [some (.ref 0), some (.int p0), some (.int p1), none, none, none, none], [.int (f_La_areApart h p0 p1)]), (h, g, cw_R sv)) _ _
  by_cases q1 : (f_La_areApart h p0 p1) = 0
  · rw [if_pos q1] at hf
    refine rh_Ex.stp (s' := ((9, [some (.ref 0), some (.int p0), some (.int p1), none, none, none, none], []), (h, g, cw_R sv))) rfl (st_ifne_p q1) ?_
    refine rh_Ex.blk 1 (s' := ((10, [some (.ref 0), some (.int p0), some (.int p1), none, none, none, none], [.int (-1 : Int32)]), (h, g, cw_R sv))) rfl ?_
    obtain rfl := Option.some.inj hf
    exact rh_Ex.ret rfl rfl
  · rw [if_neg q1] at hf
    refine rh_Ex.stp (s' := ((11, [some (.ref 0), some (.int p0), some (.int p1), none, none, none, none], []), (h, g, cw_R sv))) rfl (st_ifne_n q1) ?_
    refine rh_Ex.blk 6 (s' := ((19, [some (.ref 0), some (.int p0), some (.int p1), some (.int (0 : Int32)), some (.int (0 : Int32)), some (.int (0 : Int32)), none], []), (h, g, cw_R sv))) rfl ?_
    obtain ⟨r8, hr8, hf⟩ := rh_bq hf
    refine rh_Ex.fgt [some (.ref 0), some (.int p0), some (.int p1), some (.int (0 : Int32)), some (.int (0 : Int32)), some (.int (0 : Int32)), none] ⟨rfl, rfl, rfl, rfl, rfl, rfl, trivial⟩ ?_
    refine rh_Ex.loop _ _ _ (lb_La_even_19 d xx sv p0 p1  g _ _) rh_N _ r8 hr8 ?_
    refine rh_Ex.blk 3 (s' := ((87, [some (.ref 0), none, none, some (.int r8.1), some (.int r8.2.1), none, none], [.int r8.2.1, .ref 2]), (r8.2.2, g, cw_R sv))) rfl ?_
    obtain ⟨x9, hx9, hf⟩ := rh_bq hf
    refine rh_Ex.call (j := 70) (rc := some 6) [.ref 2, .int r8.2.1] [] none rfl rfl rfl (Nat.le_of_ble_eq_true rfl) (R_Ro_tell (d + 3) xx sv r8.2.2 g r8.2.1 hx9) ?_
    show rh_Ex _ _ _ ((90, [some (.ref 0), none, none, some (.int r8.1), some (.int r8.2.1), none, none], []), (x9, g, cw_R sv)) _ _
    refine rh_Ex.blk 1 (s' := ((91, [some (.ref 0), none, none, some (.int r8.1), some (.int r8.2.1), none, none], [.int r8.1]), (x9, g, cw_R sv))) rfl ?_
    obtain rfl := Option.some.inj hf
    exact rh_Ex.ret rfl rfl
def j_La_makeup_96 (h : Nat → Nat → Int32) (u1 : Int32) (u2 : Int32) (u4 : Int32) (j5 : Int32) (j6 : Int32) (j7 : Int32) (k0 : Int32) : Option ((Int32 × Int32 × Int32) ⊕ (Int32 × Int32)) :=
  if k0 = 0 then
    some (.inl (j5, j6, j7 + (1 : Int32)))
  else
    if j6 ≤ (f_In_bitCount j7) then
      some (.inl (j5, j6, j7 + (1 : Int32)))
    else
      some (.inl (j7, (f_In_bitCount j7), j7 + (1 : Int32)))
def j_La_makeup_95 (h : Nat → Nat → Int32) (u1 : Int32) (u2 : Int32) (u4 : Int32) (j5 : Int32) (j6 : Int32) (j7 : Int32) : Option ((Int32 × Int32 × Int32) ⊕ (Int32 × Int32)) :=
  j_La_makeup_96 h u1 u2 u4 j5 j6 j7 (0 : Int32)
def b_La_makeup_55 (u1 : Int32) (u2 : Int32) (u4 : Int32) (h : Nat → Nat → Int32) : (Int32 × Int32 × Int32) → Option ((Int32 × Int32 × Int32) ⊕ (Int32 × Int32)) := fun s55 =>
  if (f_Cr_sets h) ≤ s55.2.2 then
    some (.inr (s55.1, s55.2.1))
  else
    if (s55.2.2 &&& (u1 ||| u2)) = 0 then
      rh_g (0 ≤ s55.2.2.toInt ∧ s55.2.2.toInt < ((512 : Nat) : Int)) (
        if (h 12 s55.2.2.toNatClampNeg) = u4 then
          j_La_makeup_96 h u1 u2 u4 s55.1 s55.2.1 s55.2.2 (1 : Int32)
        else
          j_La_makeup_95 h u1 u2 u4 s55.1 s55.2.1 s55.2.2
      )
    else
      j_La_makeup_95 h u1 u2 u4 s55.1 s55.2.1 s55.2.2
def f_La_makeup (h : Nat → Nat → Int32) (p0 : Int32) (p1 : Int32) (p2 : Int32) : Option (Int32 × (Nat → Nat → Int32)) :=
  if (f_La_areApart h p0 p1) = 0 then
    some (((-1 : Int32), h))
  else
    (f_La_isBell p2).bind (fun x2 =>
      if x2 = 0 then
        some (((-1 : Int32), h))
      else
        (f_La_overweight h p0 p1 ((f_La_dawn h) + p2)).bind (fun x4 =>
          (f_Cr_sumAll x4.2 ((f_La_dawn x4.2) + p2)).bind (fun x5 =>
            (rh_loop (b_La_makeup_55 p0 p1 x4.1 x5) rh_N ((-1 : Int32), (1000000000 : Int32), (0 : Int32))).bind (fun r13 =>
              if r13.1 = (-1 : Int32) then
                some (((-2 : Int32), x5))
              else
                (f_Ro_tell x5 r13.1).bind (fun x15 =>
                  some ((r13.2, x15))
                )
            )
          )
        )
    )
set_option maxRecDepth 20000 in
set_option maxHeartbeats 4000000 in
theorem lj_La_makeup_96 (d : Nat) (xx : rh_L) (sv : Option Nat) (h : Nat → Nat → Int32) (u1 : Int32) (u2 : Int32) (u4 : Int32) (j5 : Int32) (j6 : Int32) (j7 : Int32) (k0 : Int32) (g : Nat → Nat → Int64) (v9 : Option Value) (h9 : rh_H) (x9 : (Int32 × Int32 × Int32) ⊕ (Int32 × Int32)) (hf : j_La_makeup_96 h u1 u2 u4 j5 j6 j7 k0 = some x9) (hk : Sum.elim (fun s55 => rh_Ex (rh_M rh_PT (cw_L ++ xx) (d + 5)) (cw_L ++ xx) pg_X11_makeup ((55, [some (.ref 0), some (.int u1), some (.int u2), none, some (.int u4), some (.int s55.1), some (.int s55.2.1), some (.int s55.2.2), none], []), (h, g, cw_R sv)) v9 h9) (fun e9 => rh_Ex (rh_M rh_PT (cw_L ++ xx) (d + 5)) (cw_L ++ xx) pg_X11_makeup ((130, [some (.ref 0), none, none, none, none, some (.int e9.1), some (.int e9.2), none, none], []), (h, g, cw_R sv)) v9 h9) x9) : rh_Ex (rh_M rh_PT (cw_L ++ xx) (d + 5)) (cw_L ++ xx) pg_X11_makeup ((96, [some (.ref 0), some (.int u1), some (.int u2), none, some (.int u4), some (.int j5), some (.int j6), some (.int j7), none], [.int k0]), (h, g, cw_R sv)) v9 h9 := by
  unfold j_La_makeup_96 at hf
  refine rh_Ex.blk 2 (s' := ((100, [some (.ref 0), some (.int u1), some (.int u2), none, some (.int u4), some (.int j5), some (.int j6), some (.int j7), some (.int k0)], [.int k0]), (h, g, cw_R sv))) rfl ?_
  by_cases q11 : k0 = 0
  · rw [if_pos q11] at hf
    refine rh_Ex.stp (s' := ((124, [some (.ref 0), some (.int u1), some (.int u2), none, some (.int u4), some (.int j5), some (.int j6), some (.int j7), some (.int k0)], []), (h, g, cw_R sv))) rfl (st_ifeq_p q11) ?_
    refine rh_Ex.blk 2 (s' := ((55, [some (.ref 0), some (.int u1), some (.int u2), none, some (.int u4), some (.int j5), some (.int j6), some (.int (j7 + (1 : Int32))), some (.int k0)], []), (h, g, cw_R sv))) rfl ?_
    obtain rfl := Option.some.inj hf
    refine rh_Ex.fgt [some (.ref 0), some (.int u1), some (.int u2), none, some (.int u4), some (.int j5), some (.int j6), some (.int (j7 + (1 : Int32))), none] ⟨rfl, rfl, rfl, rfl, rfl, rfl, rfl, trivial⟩ ?_
    exact hk
  · rw [if_neg q11] at hf
    refine rh_Ex.stp (s' := ((103, [some (.ref 0), some (.int u1), some (.int u2), none, some (.int u4), some (.int j5), some (.int j6), some (.int j7), some (.int k0)], []), (h, g, cw_R sv))) rfl (st_ifeq_n q11) ?_
    refine rh_Ex.blk 1 (s' := ((105, [some (.ref 0), some (.int u1), some (.int u2), none, some (.int u4), some (.int j5), some (.int j6), some (.int j7), some (.int k0)], [.int j7]), (h, g, cw_R sv))) rfl ?_
    refine rh_Ex.call (j := 298) (rc := none) [.int j7] [] (some (.int (f_In_bitCount j7))) rfl rfl trivial (Nat.le_of_ble_eq_true rfl) (R_In_bitCount (d + 4) (cw_L ++ xx) (cw_R sv) h g j7 rfl) ?_
    show rh_Ex _ _ _ ((108, [some (.ref 0), some (.int u1), some (.int u2), none, some (.int u4), some (.int j5), some (.int j6), some (.int j7), some (.int k0)], [.int (f_In_bitCount j7)]), (h, g, cw_R sv)) _ _
    refine rh_Ex.blk 1 (s' := ((110, [some (.ref 0), some (.int u1), some (.int u2), none, some (.int u4), some (.int j5), some (.int j6), some (.int j7), some (.int k0)], [.int j6, .int (f_In_bitCount j7)]), (h, g, cw_R sv))) rfl ?_
    by_cases q12 : j6 ≤ (f_In_bitCount j7)
    · rw [if_pos q12] at hf
      refine rh_Ex.stp (s' := ((124, [some (.ref 0), some (.int u1), some (.int u2), none, some (.int u4), some (.int j5), some (.int j6), some (.int j7), some (.int k0)], []), (h, g, cw_R sv))) rfl (st_icge_p q12) ?_
      refine rh_Ex.blk 2 (s' := ((55, [some (.ref 0), some (.int u1), some (.int u2), none, some (.int u4), some (.int j5), some (.int j6), some (.int (j7 + (1 : Int32))), some (.int k0)], []), (h, g, cw_R sv))) rfl ?_
      obtain rfl := Option.some.inj hf
      refine rh_Ex.fgt [some (.ref 0), some (.int u1), some (.int u2), none, some (.int u4), some (.int j5), some (.int j6), some (.int (j7 + (1 : Int32))), none] ⟨rfl, rfl, rfl, rfl, rfl, rfl, rfl, trivial⟩ ?_
      exact hk
    · rw [if_neg q12] at hf
      refine rh_Ex.stp (s' := ((113, [some (.ref 0), some (.int u1), some (.int u2), none, some (.int u4), some (.int j5), some (.int j6), some (.int j7), some (.int k0)], []), (h, g, cw_R sv))) rfl (st_icge_n q12) ?_
      refine rh_Ex.blk 3 (s' := ((119, [some (.ref 0), some (.int u1), some (.int u2), none, some (.int u4), some (.int j7), some (.int j6), some (.int j7), some (.int k0)], [.int j7]), (h, g, cw_R sv))) rfl ?_
      refine rh_Ex.call (j := 298) (rc := none) [.int j7] [] (some (.int (f_In_bitCount j7))) rfl rfl trivial (Nat.le_of_ble_eq_true rfl) (R_In_bitCount (d + 4) (cw_L ++ xx) (cw_R sv) h g j7 rfl) ?_
      show rh_Ex _ _ _ ((122, [some (.ref 0), some (.int u1), some (.int u2), none, some (.int u4), some (.int j7), some (.int j6), some (.int j7), some (.int k0)], [.int (f_In_bitCount j7)]), (h, g, cw_R sv)) _ _
      refine rh_Ex.blk 3 (s' := ((55, [some (.ref 0), some (.int u1), some (.int u2), none, some (.int u4), some (.int j7), some (.int (f_In_bitCount j7)), some (.int (j7 + (1 : Int32))), some (.int k0)], []), (h, g, cw_R sv))) rfl ?_
      obtain rfl := Option.some.inj hf
      refine rh_Ex.fgt [some (.ref 0), some (.int u1), some (.int u2), none, some (.int u4), some (.int j7), some (.int (f_In_bitCount j7)), some (.int (j7 + (1 : Int32))), none] ⟨rfl, rfl, rfl, rfl, rfl, rfl, rfl, trivial⟩ ?_
      exact hk
set_option maxRecDepth 20000 in
set_option maxHeartbeats 4000000 in
theorem lj_La_makeup_95 (d : Nat) (xx : rh_L) (sv : Option Nat) (h : Nat → Nat → Int32) (u1 : Int32) (u2 : Int32) (u4 : Int32) (j5 : Int32) (j6 : Int32) (j7 : Int32) (g : Nat → Nat → Int64) (v9 : Option Value) (h9 : rh_H) (x9 : (Int32 × Int32 × Int32) ⊕ (Int32 × Int32)) (hf : j_La_makeup_95 h u1 u2 u4 j5 j6 j7 = some x9) (hk : Sum.elim (fun s55 => rh_Ex (rh_M rh_PT (cw_L ++ xx) (d + 5)) (cw_L ++ xx) pg_X11_makeup ((55, [some (.ref 0), some (.int u1), some (.int u2), none, some (.int u4), some (.int s55.1), some (.int s55.2.1), some (.int s55.2.2), none], []), (h, g, cw_R sv)) v9 h9) (fun e9 => rh_Ex (rh_M rh_PT (cw_L ++ xx) (d + 5)) (cw_L ++ xx) pg_X11_makeup ((130, [some (.ref 0), none, none, none, none, some (.int e9.1), some (.int e9.2), none, none], []), (h, g, cw_R sv)) v9 h9) x9) : rh_Ex (rh_M rh_PT (cw_L ++ xx) (d + 5)) (cw_L ++ xx) pg_X11_makeup ((95, [some (.ref 0), some (.int u1), some (.int u2), none, some (.int u4), some (.int j5), some (.int j6), some (.int j7), none], []), (h, g, cw_R sv)) v9 h9 := by
  unfold j_La_makeup_95 at hf
  refine rh_Ex.blk 1 (s' := ((96, [some (.ref 0), some (.int u1), some (.int u2), none, some (.int u4), some (.int j5), some (.int j6), some (.int j7), none], [.int (0 : Int32)]), (h, g, cw_R sv))) rfl ?_
  refine rh_Ex.fgt [some (.ref 0), some (.int u1), some (.int u2), none, some (.int u4), some (.int j5), some (.int j6), some (.int j7), none] ⟨rfl, rfl, rfl, rfl, rfl, rfl, rfl, trivial⟩ ?_
  exact lj_La_makeup_96 d xx sv h u1 u2 u4 j5 j6 j7 (0 : Int32) g _ _ _ hf hk
set_option maxRecDepth 20000 in
set_option maxHeartbeats 4000000 in
theorem lb_La_makeup_55 (d : Nat) (xx : rh_L) (sv : Option Nat) (u1 : Int32) (u2 : Int32) (u4 : Int32) (h : Nat → Nat → Int32) (g : Nat → Nat → Int64) (v9 : Option Value) (h9 : rh_H) : ∀ s55 x9, b_La_makeup_55 u1 u2 u4 h s55 = some x9 → Sum.elim (fun s55 => rh_Ex (rh_M rh_PT (cw_L ++ xx) (d + 5)) (cw_L ++ xx) pg_X11_makeup ((55, [some (.ref 0), some (.int u1), some (.int u2), none, some (.int u4), some (.int s55.1), some (.int s55.2.1), some (.int s55.2.2), none], []), (h, g, cw_R sv)) v9 h9) (fun e9 => rh_Ex (rh_M rh_PT (cw_L ++ xx) (d + 5)) (cw_L ++ xx) pg_X11_makeup ((130, [some (.ref 0), none, none, none, none, some (.int e9.1), some (.int e9.2), none, none], []), (h, g, cw_R sv)) v9 h9) x9 → rh_Ex (rh_M rh_PT (cw_L ++ xx) (d + 5)) (cw_L ++ xx) pg_X11_makeup ((55, [some (.ref 0), some (.int u1), some (.int u2), none, some (.int u4), some (.int s55.1), some (.int s55.2.1), some (.int s55.2.2), none], []), (h, g, cw_R sv)) v9 h9 := by
  intro s55 x9 hf hk
  unfold b_La_makeup_55 at hf
  refine rh_Ex.blk 3 (s' := ((61, [some (.ref 0), some (.int u1), some (.int u2), none, some (.int u4), some (.int s55.1), some (.int s55.2.1), some (.int s55.2.2), none], [.ref 4, .int s55.2.2]), (h, g, cw_R sv))) rfl ?_
  refine rh_Ex.call (j := 2) (rc := some 0) [.ref 4] [.int s55.2.2] (some (.int (f_Cr_sets h))) rfl rfl rfl (Nat.le_of_ble_eq_true rfl) (R_Cr_sets (d + 4) xx sv h g  rfl) ?_
  show rh_Ex _ _ _ ((64, [some (.ref 0), some (.int u1), some (.int u2), none, some (.int u4), some (.int s55.1), some (.int s55.2.1), some (.int s55.2.2), none], [.int (f_Cr_sets h), .int s55.2.2]), (h, g, cw_R sv)) _ _
  by_cases q7 : (f_Cr_sets h) ≤ s55.2.2
  · rw [if_pos q7] at hf
    refine rh_Ex.stp (s' := ((130, [some (.ref 0), some (.int u1), some (.int u2), none, some (.int u4), some (.int s55.1), some (.int s55.2.1), some (.int s55.2.2), none], []), (h, g, cw_R sv))) rfl (st_icge_p q7) ?_
    obtain rfl := Option.some.inj hf
    refine rh_Ex.fgt [some (.ref 0), none, none, none, none, some (.int s55.1), some (.int s55.2.1), none, none] ⟨rfl, rfl, rfl, trivial⟩ ?_
    exact hk
  · rw [if_neg q7] at hf
    refine rh_Ex.stp (s' := ((67, [some (.ref 0), some (.int u1), some (.int u2), none, some (.int u4), some (.int s55.1), some (.int s55.2.1), some (.int s55.2.2), none], []), (h, g, cw_R sv))) rfl (st_icge_n q7) ?_
    refine rh_Ex.blk 5 (s' := ((73, [some (.ref 0), some (.int u1), some (.int u2), none, some (.int u4), some (.int s55.1), some (.int s55.2.1), some (.int s55.2.2), none], [.int (s55.2.2 &&& (u1 ||| u2))]), (h, g, cw_R sv))) rfl ?_
    by_cases q8 : (s55.2.2 &&& (u1 ||| u2)) = 0
    · rw [if_pos q8] at hf
      refine rh_Ex.stp (s' := ((76, [some (.ref 0), some (.int u1), some (.int u2), none, some (.int u4), some (.int s55.1), some (.int s55.2.1), some (.int s55.2.2), none], []), (h, g, cw_R sv))) rfl (st_ifne_p q8) ?_
      refine rh_Ex.blk 4 (s' := ((85, [some (.ref 0), some (.int u1), some (.int u2), none, some (.int u4), some (.int s55.1), some (.int s55.2.1), some (.int s55.2.2), none], [.int s55.2.2, .ref 12]), (h, g, cw_R sv))) rfl ?_
      obtain ⟨q9, hf⟩ := rh_gq hf
      refine rh_Ex.stp (s' := ((86, [some (.ref 0), some (.int u1), some (.int u2), none, some (.int u4), some (.int s55.1), some (.int s55.2.1), some (.int s55.2.2), none], [.int (h 12 s55.2.2.toNatClampNeg)]), (h, g, cw_R sv))) rfl (st_iald (n := 512) rfl q9) ?_
      refine rh_Ex.blk 1 (s' := ((88, [some (.ref 0), some (.int u1), some (.int u2), none, some (.int u4), some (.int s55.1), some (.int s55.2.1), some (.int s55.2.2), none], [.int u4, .int (h 12 s55.2.2.toNatClampNeg)]), (h, g, cw_R sv))) rfl ?_
      by_cases q10 : (h 12 s55.2.2.toNatClampNeg) = u4
      · rw [if_pos q10] at hf
        refine rh_Ex.stp (s' := ((91, [some (.ref 0), some (.int u1), some (.int u2), none, some (.int u4), some (.int s55.1), some (.int s55.2.1), some (.int s55.2.2), none], []), (h, g, cw_R sv))) rfl (st_icne_p q10) ?_
        refine rh_Ex.blk 2 (s' := ((96, [some (.ref 0), some (.int u1), some (.int u2), none, some (.int u4), some (.int s55.1), some (.int s55.2.1), some (.int s55.2.2), none], [.int (1 : Int32)]), (h, g, cw_R sv))) rfl ?_
        refine rh_Ex.fgt [some (.ref 0), some (.int u1), some (.int u2), none, some (.int u4), some (.int s55.1), some (.int s55.2.1), some (.int s55.2.2), none] ⟨rfl, rfl, rfl, rfl, rfl, rfl, rfl, trivial⟩ ?_
        exact lj_La_makeup_96 d xx sv h u1 u2 u4 s55.1 s55.2.1 s55.2.2 (1 : Int32) g _ _ _ hf hk
      · rw [if_neg q10] at hf
        refine rh_Ex.stp (s' := ((95, [some (.ref 0), some (.int u1), some (.int u2), none, some (.int u4), some (.int s55.1), some (.int s55.2.1), some (.int s55.2.2), none], []), (h, g, cw_R sv))) rfl (st_icne_n q10) ?_
        refine rh_Ex.fgt [some (.ref 0), some (.int u1), some (.int u2), none, some (.int u4), some (.int s55.1), some (.int s55.2.1), some (.int s55.2.2), none] ⟨rfl, rfl, rfl, rfl, rfl, rfl, rfl, trivial⟩ ?_
        exact lj_La_makeup_95 d xx sv h u1 u2 u4 s55.1 s55.2.1 s55.2.2 g _ _ _ hf hk
    · rw [if_neg q8] at hf
      refine rh_Ex.stp (s' := ((95, [some (.ref 0), some (.int u1), some (.int u2), none, some (.int u4), some (.int s55.1), some (.int s55.2.1), some (.int s55.2.2), none], []), (h, g, cw_R sv))) rfl (st_ifne_n q8) ?_
      refine rh_Ex.fgt [some (.ref 0), some (.int u1), some (.int u2), none, some (.int u4), some (.int s55.1), some (.int s55.2.1), some (.int s55.2.2), none] ⟨rfl, rfl, rfl, rfl, rfl, rfl, rfl, trivial⟩ ?_
      exact lj_La_makeup_95 d xx sv h u1 u2 u4 s55.1 s55.2.1 s55.2.2 g _ _ _ hf hk
set_option maxRecDepth 20000 in
set_option maxHeartbeats 4000000 in
theorem R_La_makeup (d : Nat) (xx : rh_L) (sv : Option Nat) (h : Nat → Nat → Int32) (g : Nat → Nat → Int64) (p0 : Int32) (p1 : Int32) (p2 : Int32) {z9 : Int32 × (Nat → Nat → Int32)} (hf : f_La_makeup h p0 p1 p2 = some z9) : rh_M rh_PT (cw_L ++ xx) (d + 6) 138 [.ref 0, .int p0, .int p1, .int p2] (h, g, cw_R sv) (some (.int z9.1)) (z9.2, g, cw_R sv) := by
  unfold f_La_makeup at hf
  refine rh_go pt_138 (Nat.le_of_ble_eq_true rfl) (lv := [some (.ref 0), some (.int p0), some (.int p1), some (.int p2), none, none, none, none, none]) rfl ?_
  refine rh_Ex.blk 3 (s' := ((3, [some (.ref 0), some (.int p0), some (.int p1), some (.int p2), none, none, none, none, none], [.int p1, .int p0, .ref 0]), (h, g, cw_R sv))) rfl ?_
  refine rh_Ex.call (j := 163) (rc := some 10) [.ref 0, .int p0, .int p1] [] (some (.int (f_La_areApart h p0 p1))) rfl rfl rfl (Nat.le_of_ble_eq_true rfl) (R_La_areApart (d + 2) xx sv h g p0 p1 rfl) ?_
  show rh_Ex _ _ _ ((6, [some (.ref 0), some (.int p0), some (.int p1), some (.int p2), none, none, none, none, none], [.int (f_La_areApart h p0 p1)]), (h, g, cw_R sv)) _ _
  by_cases q1 : (f_La_areApart h p0 p1) = 0
  · rw [if_pos q1] at hf
    refine rh_Ex.stp (s' := ((16, [some (.ref 0), some (.int p0), some (.int p1), some (.int p2), none, none, none, none, none], []), (h, g, cw_R sv))) rfl (st_ifeq_p q1) ?_
    refine rh_Ex.blk 1 (s' := ((17, [some (.ref 0), some (.int p0), some (.int p1), some (.int p2), none, none, none, none, none], [.int (-1 : Int32)]), (h, g, cw_R sv))) rfl ?_
    obtain rfl := Option.some.inj hf
    exact rh_Ex.ret rfl rfl
  · rw [if_neg q1] at hf
    refine rh_Ex.stp (s' := ((9, [some (.ref 0), some (.int p0), some (.int p1), some (.int p2), none, none, none, none, none], []), (h, g, cw_R sv))) rfl (st_ifeq_n q1) ?_
    refine rh_Ex.blk 1 (s' := ((10, [some (.ref 0), some (.int p0), some (.int p1), some (.int p2), none, none, none, none, none], [.int p2]), (h, g, cw_R sv))) rfl ?_
    obtain ⟨x2, hx2, hf⟩ := rh_bq hf
    refine rh_Ex.call (j := 156) (rc := none) [.int p2] [] (some (.int x2)) rfl rfl trivial (Nat.le_of_ble_eq_true rfl) (R_La_isBell (d + 3) (cw_L ++ xx) (cw_R sv) h g p2 hx2) ?_
    show rh_Ex _ _ _ ((13, [some (.ref 0), some (.int p0), some (.int p1), some (.int p2), none, none, none, none, none], [.int x2]), (h, g, cw_R sv)) _ _
    by_cases q3 : x2 = 0
    · rw [if_pos q3] at hf
      refine rh_Ex.stp (s' := ((16, [some (.ref 0), some (.int p0), some (.int p1), some (.int p2), none, none, none, none, none], []), (h, g, cw_R sv))) rfl (st_ifne_p q3) ?_
      refine rh_Ex.blk 1 (s' := ((17, [some (.ref 0), some (.int p0), some (.int p1), some (.int p2), none, none, none, none, none], [.int (-1 : Int32)]), (h, g, cw_R sv))) rfl ?_
      obtain rfl := Option.some.inj hf
      exact rh_Ex.ret rfl rfl
    · rw [if_neg q3] at hf
      refine rh_Ex.stp (s' := ((18, [some (.ref 0), some (.int p0), some (.int p1), some (.int p2), none, none, none, none, none], []), (h, g, cw_R sv))) rfl (st_ifne_n q3) ?_
      refine rh_Ex.blk 4 (s' := ((22, [some (.ref 0), some (.int p0), some (.int p1), some (.int p2), none, none, none, none, none], [.ref 0, .int p1, .int p0, .ref 0]), (h, g, cw_R sv))) rfl ?_
      refine rh_Ex.call (j := 159) (rc := some 10) [.ref 0] [.int p1, .int p0, .ref 0] (some (.int (f_La_dawn h))) rfl rfl rfl (Nat.le_of_ble_eq_true rfl) (R_La_dawn (d + 4) xx sv h g  rfl) ?_
      show rh_Ex _ _ _ ((25, [some (.ref 0), some (.int p0), some (.int p1), some (.int p2), none, none, none, none, none], [.int (f_La_dawn h), .int p1, .int p0, .ref 0]), (h, g, cw_R sv)) _ _
      refine rh_Ex.blk 2 (s' := ((27, [some (.ref 0), some (.int p0), some (.int p1), some (.int p2), none, none, none, none, none], [.int ((f_La_dawn h) + p2), .int p1, .int p0, .ref 0]), (h, g, cw_R sv))) rfl ?_
      obtain ⟨x4, hx4, hf⟩ := rh_bq hf
      refine rh_Ex.call (j := 164) (rc := some 10) [.ref 0, .int p0, .int p1, .int ((f_La_dawn h) + p2)] [] (some (.int x4.1)) rfl rfl rfl (Nat.le_of_ble_eq_true rfl) (R_La_overweight d xx sv h g p0 p1 ((f_La_dawn h) + p2) hx4) ?_
      show rh_Ex _ _ _ ((30, [some (.ref 0), some (.int p0), some (.int p1), some (.int p2), none, none, none, none, none], [.int x4.1]), (x4.2, g, cw_R sv)) _ _
      refine rh_Ex.blk 4 (s' := ((37, [some (.ref 0), some (.int p0), some (.int p1), some (.int p2), some (.int x4.1), none, none, none, none], [.ref 0, .ref 4]), (x4.2, g, cw_R sv))) rfl ?_
      refine rh_Ex.call (j := 159) (rc := some 10) [.ref 0] [.ref 4] (some (.int (f_La_dawn x4.2))) rfl rfl rfl (Nat.le_of_ble_eq_true rfl) (R_La_dawn (d + 4) xx sv x4.2 g  rfl) ?_
      show rh_Ex _ _ _ ((40, [some (.ref 0), some (.int p0), some (.int p1), some (.int p2), some (.int x4.1), none, none, none, none], [.int (f_La_dawn x4.2), .ref 4]), (x4.2, g, cw_R sv)) _ _
      refine rh_Ex.blk 2 (s' := ((42, [some (.ref 0), some (.int p0), some (.int p1), some (.int p2), some (.int x4.1), none, none, none, none], [.int ((f_La_dawn x4.2) + p2), .ref 4]), (x4.2, g, cw_R sv))) rfl ?_
      obtain ⟨x5, hx5, hf⟩ := rh_bq hf
      refine rh_Ex.call (j := 8) (rc := some 0) [.ref 4, .int ((f_La_dawn x4.2) + p2)] [] none rfl rfl rfl (Nat.le_of_ble_eq_true rfl) (R_Cr_sumAll (d + 1) xx sv x4.2 g ((f_La_dawn x4.2) + p2) hx5) ?_
      show rh_Ex _ _ _ ((45, [some (.ref 0), some (.int p0), some (.int p1), some (.int p2), some (.int x4.1), none, none, none, none], []), (x5, g, cw_R sv)) _ _
      refine rh_Ex.blk 6 (s' := ((55, [some (.ref 0), some (.int p0), some (.int p1), some (.int p2), some (.int x4.1), some (.int (-1 : Int32)), some (.int (1000000000 : Int32)), some (.int (0 : Int32)), none], []), (x5, g, cw_R sv))) rfl ?_
      obtain ⟨r13, hr13, hf⟩ := rh_bq hf
      refine rh_Ex.fgt [some (.ref 0), some (.int p0), some (.int p1), none, some (.int x4.1), some (.int (-1 : Int32)), some (.int (1000000000 : Int32)), some (.int (0 : Int32)), none] ⟨rfl, rfl, rfl, rfl, rfl, rfl, rfl, trivial⟩ ?_
      refine rh_Ex.loop _ _ _ (lb_La_makeup_55 d xx sv p0 p1 x4.1 x5  g _ _) rh_N _ r13 hr13 ?_
      refine rh_Ex.blk 2 (s' := ((133, [some (.ref 0), none, none, none, none, some (.int r13.1), some (.int r13.2), none, none], [.int (-1 : Int32), .int r13.1]), (x5, g, cw_R sv))) rfl ?_
      by_cases q14 : r13.1 = (-1 : Int32)
      · rw [if_pos q14] at hf
        refine rh_Ex.stp (s' := ((136, [some (.ref 0), none, none, none, none, some (.int r13.1), some (.int r13.2), none, none], []), (x5, g, cw_R sv))) rfl (st_icne_p q14) ?_
        refine rh_Ex.blk 1 (s' := ((138, [some (.ref 0), none, none, none, none, some (.int r13.1), some (.int r13.2), none, none], [.int (-2 : Int32)]), (x5, g, cw_R sv))) rfl ?_
        obtain rfl := Option.some.inj hf
        exact rh_Ex.ret rfl rfl
      · rw [if_neg q14] at hf
        refine rh_Ex.stp (s' := ((139, [some (.ref 0), none, none, none, none, some (.int r13.1), some (.int r13.2), none, none], []), (x5, g, cw_R sv))) rfl (st_icne_n q14) ?_
        refine rh_Ex.blk 3 (s' := ((145, [some (.ref 0), none, none, none, none, some (.int r13.1), some (.int r13.2), none, none], [.int r13.1, .ref 2]), (x5, g, cw_R sv))) rfl ?_
        obtain ⟨x15, hx15, hf⟩ := rh_bq hf
        refine rh_Ex.call (j := 70) (rc := some 6) [.ref 2, .int r13.1] [] none rfl rfl rfl (Nat.le_of_ble_eq_true rfl) (R_Ro_tell (d + 3) xx sv x5 g r13.1 hx15) ?_
        show rh_Ex _ _ _ ((148, [some (.ref 0), none, none, none, none, some (.int r13.1), some (.int r13.2), none, none], []), (x15, g, cw_R sv)) _ _
        refine rh_Ex.blk 1 (s' := ((150, [some (.ref 0), none, none, none, none, some (.int r13.1), some (.int r13.2), none, none], [.int r13.2]), (x15, g, cw_R sv))) rfl ?_
        obtain rfl := Option.some.inj hf
        exact rh_Ex.ret rfl rfl
def b_La_split_42 (u1 : Int32) (h : Nat → Nat → Int32) : (Int32 × Int32 × Int32) → Option ((Int32 × Int32 × Int32) ⊕ (Int32 × Int32)) := fun s42 =>
  if u1 < s42.2.2 then
    some (.inr (s42.1, s42.2.1))
  else
    rh_g (0 ≤ u1.toInt ∧ u1.toInt < ((512 : Nat) : Int)) (
      rh_g (0 ≤ (s42.2.2 &&& u1).toInt ∧ (s42.2.2 &&& u1).toInt < ((512 : Nat) : Int)) (
        if (s42.2.2 &&& (u1 ^^^ (-1 : Int32))) = 0 then
          if s42.2.1 ≤ (if 0 ≤ ((h 12 u1.toNatClampNeg) - ((2 : Int32) * (h 12 (s42.2.2 &&& u1).toNatClampNeg))) then ((h 12 u1.toNatClampNeg) - ((2 : Int32) * (h 12 (s42.2.2 &&& u1).toNatClampNeg))) else 0 - ((h 12 u1.toNatClampNeg) - ((2 : Int32) * (h 12 (s42.2.2 &&& u1).toNatClampNeg)))) then
            some (.inl (s42.1, s42.2.1, s42.2.2 + (1 : Int32)))
          else
            some (.inl (s42.2.2, (if 0 ≤ ((h 12 u1.toNatClampNeg) - ((2 : Int32) * (h 12 (s42.2.2 &&& u1).toNatClampNeg))) then ((h 12 u1.toNatClampNeg) - ((2 : Int32) * (h 12 (s42.2.2 &&& u1).toNatClampNeg))) else 0 - ((h 12 u1.toNatClampNeg) - ((2 : Int32) * (h 12 (s42.2.2 &&& u1).toNatClampNeg)))), s42.2.2 + (1 : Int32)))
        else
          some (.inl (s42.1, s42.2.1, s42.2.2 + (1 : Int32)))
      )
    )
def f_La_split (h : Nat → Nat → Int32) (p0 : Int32) (p1 : Int32) : Option (Int32 × (Nat → Nat → Int32)) :=
  if (f_Cr_holds h p0) = 0 then
    some (((-1 : Int32), h))
  else
    (f_La_isBell p1).bind (fun x2 =>
      if x2 = 0 then
        some (((-1 : Int32), h))
      else
        (f_Cr_sumAll h ((f_La_dawn h) + p1)).bind (fun x4 =>
          (rh_loop (b_La_split_42 p0 x4) rh_N ((0 : Int32), (1000000000 : Int32), (0 : Int32))).bind (fun r11 =>
            (f_Ro_tell x4 r11.1).bind (fun x12 =>
              some ((r11.2, x12))
            )
          )
        )
    )
set_option maxRecDepth 20000 in
set_option maxHeartbeats 4000000 in
theorem lb_La_split_42 (d : Nat) (xx : rh_L) (sv : Option Nat) (u1 : Int32) (h : Nat → Nat → Int32) (g : Nat → Nat → Int64) (v9 : Option Value) (h9 : rh_H) : ∀ s42 x9, b_La_split_42 u1 h s42 = some x9 → Sum.elim (fun s42 => rh_Ex (rh_M rh_PT (cw_L ++ xx) (d + 4)) (cw_L ++ xx) pg_X11_split ((42, [some (.ref 0), some (.int u1), none, some (.int s42.1), some (.int s42.2.1), some (.int s42.2.2), none], []), (h, g, cw_R sv)) v9 h9) (fun e9 => rh_Ex (rh_M rh_PT (cw_L ++ xx) (d + 4)) (cw_L ++ xx) pg_X11_split ((106, [some (.ref 0), none, none, some (.int e9.1), some (.int e9.2), none, none], []), (h, g, cw_R sv)) v9 h9) x9 → rh_Ex (rh_M rh_PT (cw_L ++ xx) (d + 4)) (cw_L ++ xx) pg_X11_split ((42, [some (.ref 0), some (.int u1), none, some (.int s42.1), some (.int s42.2.1), some (.int s42.2.2), none], []), (h, g, cw_R sv)) v9 h9 := by
  intro s42 x9 hf hk
  unfold b_La_split_42 at hf
  refine rh_Ex.blk 2 (s' := ((45, [some (.ref 0), some (.int u1), none, some (.int s42.1), some (.int s42.2.1), some (.int s42.2.2), none], [.int u1, .int s42.2.2]), (h, g, cw_R sv))) rfl ?_
  by_cases q6 : u1 < s42.2.2
  · rw [if_pos q6] at hf
    refine rh_Ex.stp (s' := ((106, [some (.ref 0), some (.int u1), none, some (.int s42.1), some (.int s42.2.1), some (.int s42.2.2), none], []), (h, g, cw_R sv))) rfl (st_icgt_p q6) ?_
    obtain rfl := Option.some.inj hf
    refine rh_Ex.fgt [some (.ref 0), none, none, some (.int s42.1), some (.int s42.2.1), none, none] ⟨rfl, rfl, rfl, trivial⟩ ?_
    exact hk
  · rw [if_neg q6] at hf
    refine rh_Ex.stp (s' := ((48, [some (.ref 0), some (.int u1), none, some (.int s42.1), some (.int s42.2.1), some (.int s42.2.2), none], []), (h, g, cw_R sv))) rfl (st_icgt_n q6) ?_
    refine rh_Ex.blk 4 (s' := ((56, [some (.ref 0), some (.int u1), none, some (.int s42.1), some (.int s42.2.1), some (.int s42.2.2), none], [.int u1, .ref 12]), (h, g, cw_R sv))) rfl ?_
    obtain ⟨q7, hf⟩ := rh_gq hf
    refine rh_Ex.stp (s' := ((57, [some (.ref 0), some (.int u1), none, some (.int s42.1), some (.int s42.2.1), some (.int s42.2.2), none], [.int (h 12 u1.toNatClampNeg)]), (h, g, cw_R sv))) rfl (st_iald (n := 512) rfl q7) ?_
    refine rh_Ex.blk 7 (s' := ((69, [some (.ref 0), some (.int u1), none, some (.int s42.1), some (.int s42.2.1), some (.int s42.2.2), none], [.int (s42.2.2 &&& u1), .ref 12, .int (2 : Int32), .int (h 12 u1.toNatClampNeg)]), (h, g, cw_R sv))) rfl ?_
    obtain ⟨q8, hf⟩ := rh_gq hf
    refine rh_Ex.stp (s' := ((70, [some (.ref 0), some (.int u1), none, some (.int s42.1), some (.int s42.2.1), some (.int s42.2.2), none], [.int (h 12 (s42.2.2 &&& u1).toNatClampNeg), .int (2 : Int32), .int (h 12 u1.toNatClampNeg)]), (h, g, cw_R sv))) rfl (st_iald (n := 512) rfl q8) ?_
    refine rh_Ex.blk 2 (s' := ((72, [some (.ref 0), some (.int u1), none, some (.int s42.1), some (.int s42.2.1), some (.int s42.2.2), none], [.int ((h 12 u1.toNatClampNeg) - ((2 : Int32) * (h 12 (s42.2.2 &&& u1).toNatClampNeg)))]), (h, g, cw_R sv))) rfl ?_
    refine rh_Ex.stp (s' := ((75, [some (.ref 0), some (.int u1), none, some (.int s42.1), some (.int s42.2.1), some (.int s42.2.2), none], [.int (if 0 ≤ ((h 12 u1.toNatClampNeg) - ((2 : Int32) * (h 12 (s42.2.2 &&& u1).toNatClampNeg))) then ((h 12 u1.toNatClampNeg) - ((2 : Int32) * (h 12 (s42.2.2 &&& u1).toNatClampNeg))) else 0 - ((h 12 u1.toNatClampNeg) - ((2 : Int32) * (h 12 (s42.2.2 &&& u1).toNatClampNeg))))]), (h, g, cw_R sv))) rfl (st_mabs (Nat.le_of_ble_eq_true rfl)) ?_
    refine rh_Ex.blk 6 (s' := ((83, [some (.ref 0), some (.int u1), none, some (.int s42.1), some (.int s42.2.1), some (.int s42.2.2), some (.int (if 0 ≤ ((h 12 u1.toNatClampNeg) - ((2 : Int32) * (h 12 (s42.2.2 &&& u1).toNatClampNeg))) then ((h 12 u1.toNatClampNeg) - ((2 : Int32) * (h 12 (s42.2.2 &&& u1).toNatClampNeg))) else 0 - ((h 12 u1.toNatClampNeg) - ((2 : Int32) * (h 12 (s42.2.2 &&& u1).toNatClampNeg)))))], [.int (s42.2.2 &&& (u1 ^^^ (-1 : Int32)))]), (h, g, cw_R sv))) rfl ?_
    by_cases q9 : (s42.2.2 &&& (u1 ^^^ (-1 : Int32))) = 0
    · rw [if_pos q9] at hf
      refine rh_Ex.stp (s' := ((86, [some (.ref 0), some (.int u1), none, some (.int s42.1), some (.int s42.2.1), some (.int s42.2.2), some (.int (if 0 ≤ ((h 12 u1.toNatClampNeg) - ((2 : Int32) * (h 12 (s42.2.2 &&& u1).toNatClampNeg))) then ((h 12 u1.toNatClampNeg) - ((2 : Int32) * (h 12 (s42.2.2 &&& u1).toNatClampNeg))) else 0 - ((h 12 u1.toNatClampNeg) - ((2 : Int32) * (h 12 (s42.2.2 &&& u1).toNatClampNeg)))))], []), (h, g, cw_R sv))) rfl (st_ifne_p q9) ?_
      refine rh_Ex.blk 2 (s' := ((90, [some (.ref 0), some (.int u1), none, some (.int s42.1), some (.int s42.2.1), some (.int s42.2.2), some (.int (if 0 ≤ ((h 12 u1.toNatClampNeg) - ((2 : Int32) * (h 12 (s42.2.2 &&& u1).toNatClampNeg))) then ((h 12 u1.toNatClampNeg) - ((2 : Int32) * (h 12 (s42.2.2 &&& u1).toNatClampNeg))) else 0 - ((h 12 u1.toNatClampNeg) - ((2 : Int32) * (h 12 (s42.2.2 &&& u1).toNatClampNeg)))))], [.int s42.2.1, .int (if 0 ≤ ((h 12 u1.toNatClampNeg) - ((2 : Int32) * (h 12 (s42.2.2 &&& u1).toNatClampNeg))) then ((h 12 u1.toNatClampNeg) - ((2 : Int32) * (h 12 (s42.2.2 &&& u1).toNatClampNeg))) else 0 - ((h 12 u1.toNatClampNeg) - ((2 : Int32) * (h 12 (s42.2.2 &&& u1).toNatClampNeg))))]), (h, g, cw_R sv))) rfl ?_
      by_cases q10 : s42.2.1 ≤ (if 0 ≤ ((h 12 u1.toNatClampNeg) - ((2 : Int32) * (h 12 (s42.2.2 &&& u1).toNatClampNeg))) then ((h 12 u1.toNatClampNeg) - ((2 : Int32) * (h 12 (s42.2.2 &&& u1).toNatClampNeg))) else 0 - ((h 12 u1.toNatClampNeg) - ((2 : Int32) * (h 12 (s42.2.2 &&& u1).toNatClampNeg))))
      · rw [if_pos q10] at hf
        refine rh_Ex.stp (s' := ((100, [some (.ref 0), some (.int u1), none, some (.int s42.1), some (.int s42.2.1), some (.int s42.2.2), some (.int (if 0 ≤ ((h 12 u1.toNatClampNeg) - ((2 : Int32) * (h 12 (s42.2.2 &&& u1).toNatClampNeg))) then ((h 12 u1.toNatClampNeg) - ((2 : Int32) * (h 12 (s42.2.2 &&& u1).toNatClampNeg))) else 0 - ((h 12 u1.toNatClampNeg) - ((2 : Int32) * (h 12 (s42.2.2 &&& u1).toNatClampNeg)))))], []), (h, g, cw_R sv))) rfl (st_icge_p q10) ?_
        refine rh_Ex.blk 2 (s' := ((42, [some (.ref 0), some (.int u1), none, some (.int s42.1), some (.int s42.2.1), some (.int (s42.2.2 + (1 : Int32))), some (.int (if 0 ≤ ((h 12 u1.toNatClampNeg) - ((2 : Int32) * (h 12 (s42.2.2 &&& u1).toNatClampNeg))) then ((h 12 u1.toNatClampNeg) - ((2 : Int32) * (h 12 (s42.2.2 &&& u1).toNatClampNeg))) else 0 - ((h 12 u1.toNatClampNeg) - ((2 : Int32) * (h 12 (s42.2.2 &&& u1).toNatClampNeg)))))], []), (h, g, cw_R sv))) rfl ?_
        obtain rfl := Option.some.inj hf
        refine rh_Ex.fgt [some (.ref 0), some (.int u1), none, some (.int s42.1), some (.int s42.2.1), some (.int (s42.2.2 + (1 : Int32))), none] ⟨rfl, rfl, rfl, rfl, rfl, trivial⟩ ?_
        exact hk
      · rw [if_neg q10] at hf
        refine rh_Ex.stp (s' := ((93, [some (.ref 0), some (.int u1), none, some (.int s42.1), some (.int s42.2.1), some (.int s42.2.2), some (.int (if 0 ≤ ((h 12 u1.toNatClampNeg) - ((2 : Int32) * (h 12 (s42.2.2 &&& u1).toNatClampNeg))) then ((h 12 u1.toNatClampNeg) - ((2 : Int32) * (h 12 (s42.2.2 &&& u1).toNatClampNeg))) else 0 - ((h 12 u1.toNatClampNeg) - ((2 : Int32) * (h 12 (s42.2.2 &&& u1).toNatClampNeg)))))], []), (h, g, cw_R sv))) rfl (st_icge_n q10) ?_
        refine rh_Ex.blk 6 (s' := ((42, [some (.ref 0), some (.int u1), none, some (.int s42.2.2), some (.int (if 0 ≤ ((h 12 u1.toNatClampNeg) - ((2 : Int32) * (h 12 (s42.2.2 &&& u1).toNatClampNeg))) then ((h 12 u1.toNatClampNeg) - ((2 : Int32) * (h 12 (s42.2.2 &&& u1).toNatClampNeg))) else 0 - ((h 12 u1.toNatClampNeg) - ((2 : Int32) * (h 12 (s42.2.2 &&& u1).toNatClampNeg))))), some (.int (s42.2.2 + (1 : Int32))), some (.int (if 0 ≤ ((h 12 u1.toNatClampNeg) - ((2 : Int32) * (h 12 (s42.2.2 &&& u1).toNatClampNeg))) then ((h 12 u1.toNatClampNeg) - ((2 : Int32) * (h 12 (s42.2.2 &&& u1).toNatClampNeg))) else 0 - ((h 12 u1.toNatClampNeg) - ((2 : Int32) * (h 12 (s42.2.2 &&& u1).toNatClampNeg)))))], []), (h, g, cw_R sv))) rfl ?_
        obtain rfl := Option.some.inj hf
        refine rh_Ex.fgt [some (.ref 0), some (.int u1), none, some (.int s42.2.2), some (.int (if 0 ≤ ((h 12 u1.toNatClampNeg) - ((2 : Int32) * (h 12 (s42.2.2 &&& u1).toNatClampNeg))) then ((h 12 u1.toNatClampNeg) - ((2 : Int32) * (h 12 (s42.2.2 &&& u1).toNatClampNeg))) else 0 - ((h 12 u1.toNatClampNeg) - ((2 : Int32) * (h 12 (s42.2.2 &&& u1).toNatClampNeg))))), some (.int (s42.2.2 + (1 : Int32))), none] ⟨rfl, rfl, rfl, rfl, rfl, trivial⟩ ?_
        exact hk
    · rw [if_neg q9] at hf
      refine rh_Ex.stp (s' := ((100, [some (.ref 0), some (.int u1), none, some (.int s42.1), some (.int s42.2.1), some (.int s42.2.2), some (.int (if 0 ≤ ((h 12 u1.toNatClampNeg) - ((2 : Int32) * (h 12 (s42.2.2 &&& u1).toNatClampNeg))) then ((h 12 u1.toNatClampNeg) - ((2 : Int32) * (h 12 (s42.2.2 &&& u1).toNatClampNeg))) else 0 - ((h 12 u1.toNatClampNeg) - ((2 : Int32) * (h 12 (s42.2.2 &&& u1).toNatClampNeg)))))], []), (h, g, cw_R sv))) rfl (st_ifne_n q9) ?_
      refine rh_Ex.blk 2 (s' := ((42, [some (.ref 0), some (.int u1), none, some (.int s42.1), some (.int s42.2.1), some (.int (s42.2.2 + (1 : Int32))), some (.int (if 0 ≤ ((h 12 u1.toNatClampNeg) - ((2 : Int32) * (h 12 (s42.2.2 &&& u1).toNatClampNeg))) then ((h 12 u1.toNatClampNeg) - ((2 : Int32) * (h 12 (s42.2.2 &&& u1).toNatClampNeg))) else 0 - ((h 12 u1.toNatClampNeg) - ((2 : Int32) * (h 12 (s42.2.2 &&& u1).toNatClampNeg)))))], []), (h, g, cw_R sv))) rfl ?_
      obtain rfl := Option.some.inj hf
      refine rh_Ex.fgt [some (.ref 0), some (.int u1), none, some (.int s42.1), some (.int s42.2.1), some (.int (s42.2.2 + (1 : Int32))), none] ⟨rfl, rfl, rfl, rfl, rfl, trivial⟩ ?_
      exact hk
set_option maxRecDepth 20000 in
set_option maxHeartbeats 4000000 in
theorem R_La_split (d : Nat) (xx : rh_L) (sv : Option Nat) (h : Nat → Nat → Int32) (g : Nat → Nat → Int64) (p0 : Int32) (p1 : Int32) {z9 : Int32 × (Nat → Nat → Int32)} (hf : f_La_split h p0 p1 = some z9) : rh_M rh_PT (cw_L ++ xx) (d + 5) 139 [.ref 0, .int p0, .int p1] (h, g, cw_R sv) (some (.int z9.1)) (z9.2, g, cw_R sv) := by
  unfold f_La_split at hf
  refine rh_go pt_139 (Nat.le_of_ble_eq_true rfl) (lv := [some (.ref 0), some (.int p0), some (.int p1), none, none, none, none]) rfl ?_
  refine rh_Ex.blk 3 (s' := ((5, [some (.ref 0), some (.int p0), some (.int p1), none, none, none, none], [.int p0, .ref 4]), (h, g, cw_R sv))) rfl ?_
  refine rh_Ex.call (j := 1) (rc := some 0) [.ref 4, .int p0] [] (some (.int (f_Cr_holds h p0))) rfl rfl rfl (Nat.le_of_ble_eq_true rfl) (R_Cr_holds (d + 2) xx sv h g p0 rfl) ?_
  show rh_Ex _ _ _ ((8, [some (.ref 0), some (.int p0), some (.int p1), none, none, none, none], [.int (f_Cr_holds h p0)]), (h, g, cw_R sv)) _ _
  by_cases q1 : (f_Cr_holds h p0) = 0
  · rw [if_pos q1] at hf
    refine rh_Ex.stp (s' := ((18, [some (.ref 0), some (.int p0), some (.int p1), none, none, none, none], []), (h, g, cw_R sv))) rfl (st_ifeq_p q1) ?_
    refine rh_Ex.blk 1 (s' := ((19, [some (.ref 0), some (.int p0), some (.int p1), none, none, none, none], [.int (-1 : Int32)]), (h, g, cw_R sv))) rfl ?_
    obtain rfl := Option.some.inj hf
    exact rh_Ex.ret rfl rfl
  · rw [if_neg q1] at hf
    refine rh_Ex.stp (s' := ((11, [some (.ref 0), some (.int p0), some (.int p1), none, none, none, none], []), (h, g, cw_R sv))) rfl (st_ifeq_n q1) ?_
    refine rh_Ex.blk 1 (s' := ((12, [some (.ref 0), some (.int p0), some (.int p1), none, none, none, none], [.int p1]), (h, g, cw_R sv))) rfl ?_
    obtain ⟨x2, hx2, hf⟩ := rh_bq hf
    refine rh_Ex.call (j := 156) (rc := none) [.int p1] [] (some (.int x2)) rfl rfl trivial (Nat.le_of_ble_eq_true rfl) (R_La_isBell (d + 2) (cw_L ++ xx) (cw_R sv) h g p1 hx2) ?_
    show rh_Ex _ _ _ ((15, [some (.ref 0), some (.int p0), some (.int p1), none, none, none, none], [.int x2]), (h, g, cw_R sv)) _ _
    by_cases q3 : x2 = 0
    · rw [if_pos q3] at hf
      refine rh_Ex.stp (s' := ((18, [some (.ref 0), some (.int p0), some (.int p1), none, none, none, none], []), (h, g, cw_R sv))) rfl (st_ifne_p q3) ?_
      refine rh_Ex.blk 1 (s' := ((19, [some (.ref 0), some (.int p0), some (.int p1), none, none, none, none], [.int (-1 : Int32)]), (h, g, cw_R sv))) rfl ?_
      obtain rfl := Option.some.inj hf
      exact rh_Ex.ret rfl rfl
    · rw [if_neg q3] at hf
      refine rh_Ex.stp (s' := ((20, [some (.ref 0), some (.int p0), some (.int p1), none, none, none, none], []), (h, g, cw_R sv))) rfl (st_ifne_n q3) ?_
      refine rh_Ex.blk 3 (s' := ((25, [some (.ref 0), some (.int p0), some (.int p1), none, none, none, none], [.ref 0, .ref 4]), (h, g, cw_R sv))) rfl ?_
      refine rh_Ex.call (j := 159) (rc := some 10) [.ref 0] [.ref 4] (some (.int (f_La_dawn h))) rfl rfl rfl (Nat.le_of_ble_eq_true rfl) (R_La_dawn (d + 3) xx sv h g  rfl) ?_
      show rh_Ex _ _ _ ((28, [some (.ref 0), some (.int p0), some (.int p1), none, none, none, none], [.int (f_La_dawn h), .ref 4]), (h, g, cw_R sv)) _ _
      refine rh_Ex.blk 2 (s' := ((30, [some (.ref 0), some (.int p0), some (.int p1), none, none, none, none], [.int ((f_La_dawn h) + p1), .ref 4]), (h, g, cw_R sv))) rfl ?_
      obtain ⟨x4, hx4, hf⟩ := rh_bq hf
      refine rh_Ex.call (j := 8) (rc := some 0) [.ref 4, .int ((f_La_dawn h) + p1)] [] none rfl rfl rfl (Nat.le_of_ble_eq_true rfl) (R_Cr_sumAll d xx sv h g ((f_La_dawn h) + p1) hx4) ?_
      show rh_Ex _ _ _ ((33, [some (.ref 0), some (.int p0), some (.int p1), none, none, none, none], []), (x4, g, cw_R sv)) _ _
      refine rh_Ex.blk 6 (s' := ((42, [some (.ref 0), some (.int p0), some (.int p1), some (.int (0 : Int32)), some (.int (1000000000 : Int32)), some (.int (0 : Int32)), none], []), (x4, g, cw_R sv))) rfl ?_
      obtain ⟨r11, hr11, hf⟩ := rh_bq hf
      refine rh_Ex.fgt [some (.ref 0), some (.int p0), none, some (.int (0 : Int32)), some (.int (1000000000 : Int32)), some (.int (0 : Int32)), none] ⟨rfl, rfl, rfl, rfl, rfl, trivial⟩ ?_
      refine rh_Ex.loop _ _ _ (lb_La_split_42 d xx sv p0 x4  g _ _) rh_N _ r11 hr11 ?_
      refine rh_Ex.blk 3 (s' := ((111, [some (.ref 0), none, none, some (.int r11.1), some (.int r11.2), none, none], [.int r11.1, .ref 2]), (x4, g, cw_R sv))) rfl ?_
      obtain ⟨x12, hx12, hf⟩ := rh_bq hf
      refine rh_Ex.call (j := 70) (rc := some 6) [.ref 2, .int r11.1] [] none rfl rfl rfl (Nat.le_of_ble_eq_true rfl) (R_Ro_tell (d + 2) xx sv x4 g r11.1 hx12) ?_
      show rh_Ex _ _ _ ((114, [some (.ref 0), none, none, some (.int r11.1), some (.int r11.2), none, none], []), (x12, g, cw_R sv)) _ _
      refine rh_Ex.blk 1 (s' := ((116, [some (.ref 0), none, none, some (.int r11.1), some (.int r11.2), none, none], [.int r11.2]), (x12, g, cw_R sv))) rfl ?_
      obtain rfl := Option.some.inj hf
      exact rh_Ex.ret rfl rfl
