def f_Mo_held_r4 (T : (Nat → Nat → Int32) → Int32 → Option (Int32 × (Nat → Nat → Int32))) (h : Nat → Nat → Int32) (p0 : Int32) : Option (Int32 × (Nat → Nat → Int32)) :=
  (f_Mo_sum_r4 T h p0).bind (fun x1 =>
    (f_Mo_passes_r4 x1.2 (60 : Int32)).bind (fun x2 =>
      if x2.1 = 0 then
        (f_Mo_passes_r4 x2.2 (62 : Int32)).bind (fun x4 =>
          if x4.1 = 0 then
            (f_Mo_passes_r4 x4.2 (61 : Int32)).bind (fun x6 =>
              if x6.1 = 0 then
                some ((x1.1, x6.2))
              else
                (f_Mo_sum_r4 T x6.2 p0).bind (fun x8 =>
                  if x1.1 = x8.1 then
                    some (((1 : Int32), x8.2))
                  else
                    some (((0 : Int32), x8.2))
                )
            )
          else
            (f_Mo_sum_r4 T x4.2 p0).bind (fun x10 =>
              if x1.1 ≤ x10.1 then
                some (((0 : Int32), x10.2))
              else
                some (((1 : Int32), x10.2))
            )
        )
      else
        (f_Mo_sum_r4 T x2.2 p0).bind (fun x12 =>
          if x12.1 ≤ x1.1 then
            some (((0 : Int32), x12.2))
          else
            some (((1 : Int32), x12.2))
        )
    )
  )
set_option maxRecDepth 20000 in
set_option maxHeartbeats 4000000 in
theorem R_Mo_held_r4 (d : Nat) (T : (Nat → Nat → Int32) → Int32 → Option (Int32 × (Nat → Nat → Int32))) (hT : ∀ (h : Nat → Nat → Int32) (g : Nat → Nat → Int64) (a0 : Int32) z, T h a0 = some z → rh_M rh_PT mw_L (d + 6) 203 [.ref 0, .int a0] (h, g, mw_R (some 4)) (some (.int z.1)) (z.2, g, mw_R (some 4))) (h : Nat → Nat → Int32) (g : Nat → Nat → Int64) (p0 : Int32) {z9 : Int32 × (Nat → Nat → Int32)} (hf : f_Mo_held_r4 T h p0 = some z9) : rh_M rh_PT mw_L (d + 9) 200 [.ref 0, .int p0] (h, g, mw_R (some 4)) (some (.int z9.1)) (z9.2, g, mw_R (some 4)) := by
  unfold f_Mo_held_r4 at hf
  refine rh_go pt_200 (Nat.le_of_ble_eq_true rfl) (lv := [some (.ref 0), some (.int p0), none]) rfl ?_
  refine rh_Ex.blk 2 (s' := ((2, [some (.ref 0), some (.int p0), none], [.int p0, .ref 0]), (h, g, mw_R (some 4)))) rfl ?_
  obtain ⟨x1, hx1, hf⟩ := rh_bq hf
  refine rh_Ex.call (j := 201) (rc := some 11) [.ref 0, .int p0] [] (some (.int x1.1)) rfl rfl rfl (Nat.le_of_ble_eq_true rfl) (R_Mo_sum_r4 d T hT h g p0 hx1) ?_
  show rh_Ex _ _ _ ((5, [some (.ref 0), some (.int p0), none], [.int x1.1]), (x1.2, g, mw_R (some 4))) _ _
  refine rh_Ex.blk 3 (s' := ((9, [some (.ref 0), some (.int p0), some (.int x1.1)], [.int (60 : Int32), .ref 0]), (x1.2, g, mw_R (some 4)))) rfl ?_
  obtain ⟨x2, hx2, hf⟩ := rh_bq hf
  refine rh_Ex.call (j := 194) (rc := some 11) [.ref 0, .int (60 : Int32)] [] (some (.int x2.1)) rfl rfl rfl (Nat.le_of_ble_eq_true rfl) (R_Mo_passes_r4 (d + 6) x1.2 g (60 : Int32) hx2) ?_
  show rh_Ex _ _ _ ((12, [some (.ref 0), some (.int p0), some (.int x1.1)], [.int x2.1]), (x2.2, g, mw_R (some 4))) _ _
  by_cases q3 : x2.1 = 0
  · rw [if_pos q3] at hf
    refine rh_Ex.stp (s' := ((30, [some (.ref 0), some (.int p0), some (.int x1.1)], []), (x2.2, g, mw_R (some 4)))) rfl (st_ifeq_p q3) ?_
    refine rh_Ex.blk 2 (s' := ((33, [some (.ref 0), some (.int p0), some (.int x1.1)], [.int (62 : Int32), .ref 0]), (x2.2, g, mw_R (some 4)))) rfl ?_
    obtain ⟨x4, hx4, hf⟩ := rh_bq hf
    refine rh_Ex.call (j := 194) (rc := some 11) [.ref 0, .int (62 : Int32)] [] (some (.int x4.1)) rfl rfl rfl (Nat.le_of_ble_eq_true rfl) (R_Mo_passes_r4 (d + 6) x2.2 g (62 : Int32) hx4) ?_
    show rh_Ex _ _ _ ((36, [some (.ref 0), some (.int p0), some (.int x1.1)], [.int x4.1]), (x4.2, g, mw_R (some 4))) _ _
    by_cases q5 : x4.1 = 0
    · rw [if_pos q5] at hf
      refine rh_Ex.stp (s' := ((54, [some (.ref 0), some (.int p0), some (.int x1.1)], []), (x4.2, g, mw_R (some 4)))) rfl (st_ifeq_p q5) ?_
      refine rh_Ex.blk 2 (s' := ((57, [some (.ref 0), some (.int p0), some (.int x1.1)], [.int (61 : Int32), .ref 0]), (x4.2, g, mw_R (some 4)))) rfl ?_
      obtain ⟨x6, hx6, hf⟩ := rh_bq hf
      refine rh_Ex.call (j := 194) (rc := some 11) [.ref 0, .int (61 : Int32)] [] (some (.int x6.1)) rfl rfl rfl (Nat.le_of_ble_eq_true rfl) (R_Mo_passes_r4 (d + 6) x4.2 g (61 : Int32) hx6) ?_
      show rh_Ex _ _ _ ((60, [some (.ref 0), some (.int p0), some (.int x1.1)], [.int x6.1]), (x6.2, g, mw_R (some 4))) _ _
      by_cases q7 : x6.1 = 0
      · rw [if_pos q7] at hf
        refine rh_Ex.stp (s' := ((78, [some (.ref 0), some (.int p0), some (.int x1.1)], []), (x6.2, g, mw_R (some 4)))) rfl (st_ifeq_p q7) ?_
        refine rh_Ex.blk 1 (s' := ((79, [some (.ref 0), some (.int p0), some (.int x1.1)], [.int x1.1]), (x6.2, g, mw_R (some 4)))) rfl ?_
        obtain rfl := Option.some.inj hf
        exact rh_Ex.ret rfl rfl
      · rw [if_neg q7] at hf
        refine rh_Ex.stp (s' := ((63, [some (.ref 0), some (.int p0), some (.int x1.1)], []), (x6.2, g, mw_R (some 4)))) rfl (st_ifeq_n q7) ?_
        refine rh_Ex.blk 3 (s' := ((66, [some (.ref 0), some (.int p0), some (.int x1.1)], [.int p0, .ref 0, .int x1.1]), (x6.2, g, mw_R (some 4)))) rfl ?_
        obtain ⟨x8, hx8, hf⟩ := rh_bq hf
        refine rh_Ex.call (j := 201) (rc := some 11) [.ref 0, .int p0] [.int x1.1] (some (.int x8.1)) rfl rfl rfl (Nat.le_of_ble_eq_true rfl) (R_Mo_sum_r4 d T hT x6.2 g p0 hx8) ?_
        show rh_Ex _ _ _ ((69, [some (.ref 0), some (.int p0), some (.int x1.1)], [.int x8.1, .int x1.1]), (x8.2, g, mw_R (some 4))) _ _
        by_cases q9 : x1.1 = x8.1
        · rw [if_pos q9] at hf
          refine rh_Ex.stp (s' := ((72, [some (.ref 0), some (.int p0), some (.int x1.1)], []), (x8.2, g, mw_R (some 4)))) rfl (st_icne_p q9) ?_
          refine rh_Ex.blk 2 (s' := ((77, [some (.ref 0), some (.int p0), some (.int x1.1)], [.int (1 : Int32)]), (x8.2, g, mw_R (some 4)))) rfl ?_
          obtain rfl := Option.some.inj hf
          exact rh_Ex.ret rfl rfl
        · rw [if_neg q9] at hf
          refine rh_Ex.stp (s' := ((76, [some (.ref 0), some (.int p0), some (.int x1.1)], []), (x8.2, g, mw_R (some 4)))) rfl (st_icne_n q9) ?_
          refine rh_Ex.blk 1 (s' := ((77, [some (.ref 0), some (.int p0), some (.int x1.1)], [.int (0 : Int32)]), (x8.2, g, mw_R (some 4)))) rfl ?_
          obtain rfl := Option.some.inj hf
          exact rh_Ex.ret rfl rfl
    · rw [if_neg q5] at hf
      refine rh_Ex.stp (s' := ((39, [some (.ref 0), some (.int p0), some (.int x1.1)], []), (x4.2, g, mw_R (some 4)))) rfl (st_ifeq_n q5) ?_
      refine rh_Ex.blk 3 (s' := ((42, [some (.ref 0), some (.int p0), some (.int x1.1)], [.int p0, .ref 0, .int x1.1]), (x4.2, g, mw_R (some 4)))) rfl ?_
      obtain ⟨x10, hx10, hf⟩ := rh_bq hf
      refine rh_Ex.call (j := 201) (rc := some 11) [.ref 0, .int p0] [.int x1.1] (some (.int x10.1)) rfl rfl rfl (Nat.le_of_ble_eq_true rfl) (R_Mo_sum_r4 d T hT x4.2 g p0 hx10) ?_
      show rh_Ex _ _ _ ((45, [some (.ref 0), some (.int p0), some (.int x1.1)], [.int x10.1, .int x1.1]), (x10.2, g, mw_R (some 4))) _ _
      by_cases q11 : x1.1 ≤ x10.1
      · rw [if_pos q11] at hf
        refine rh_Ex.stp (s' := ((52, [some (.ref 0), some (.int p0), some (.int x1.1)], []), (x10.2, g, mw_R (some 4)))) rfl (st_icle_p q11) ?_
        refine rh_Ex.blk 1 (s' := ((53, [some (.ref 0), some (.int p0), some (.int x1.1)], [.int (0 : Int32)]), (x10.2, g, mw_R (some 4)))) rfl ?_
        obtain rfl := Option.some.inj hf
        exact rh_Ex.ret rfl rfl
      · rw [if_neg q11] at hf
        refine rh_Ex.stp (s' := ((48, [some (.ref 0), some (.int p0), some (.int x1.1)], []), (x10.2, g, mw_R (some 4)))) rfl (st_icle_n q11) ?_
        refine rh_Ex.blk 2 (s' := ((53, [some (.ref 0), some (.int p0), some (.int x1.1)], [.int (1 : Int32)]), (x10.2, g, mw_R (some 4)))) rfl ?_
        obtain rfl := Option.some.inj hf
        exact rh_Ex.ret rfl rfl
  · rw [if_neg q3] at hf
    refine rh_Ex.stp (s' := ((15, [some (.ref 0), some (.int p0), some (.int x1.1)], []), (x2.2, g, mw_R (some 4)))) rfl (st_ifeq_n q3) ?_
    refine rh_Ex.blk 3 (s' := ((18, [some (.ref 0), some (.int p0), some (.int x1.1)], [.int p0, .ref 0, .int x1.1]), (x2.2, g, mw_R (some 4)))) rfl ?_
    obtain ⟨x12, hx12, hf⟩ := rh_bq hf
    refine rh_Ex.call (j := 201) (rc := some 11) [.ref 0, .int p0] [.int x1.1] (some (.int x12.1)) rfl rfl rfl (Nat.le_of_ble_eq_true rfl) (R_Mo_sum_r4 d T hT x2.2 g p0 hx12) ?_
    show rh_Ex _ _ _ ((21, [some (.ref 0), some (.int p0), some (.int x1.1)], [.int x12.1, .int x1.1]), (x12.2, g, mw_R (some 4))) _ _
    by_cases q13 : x12.1 ≤ x1.1
    · rw [if_pos q13] at hf
      refine rh_Ex.stp (s' := ((28, [some (.ref 0), some (.int p0), some (.int x1.1)], []), (x12.2, g, mw_R (some 4)))) rfl (st_icge_p q13) ?_
      refine rh_Ex.blk 1 (s' := ((29, [some (.ref 0), some (.int p0), some (.int x1.1)], [.int (0 : Int32)]), (x12.2, g, mw_R (some 4)))) rfl ?_
      obtain rfl := Option.some.inj hf
      exact rh_Ex.ret rfl rfl
    · rw [if_neg q13] at hf
      refine rh_Ex.stp (s' := ((24, [some (.ref 0), some (.int p0), some (.int x1.1)], []), (x12.2, g, mw_R (some 4)))) rfl (st_icge_n q13) ?_
      refine rh_Ex.blk 2 (s' := ((29, [some (.ref 0), some (.int p0), some (.int x1.1)], [.int (1 : Int32)]), (x12.2, g, mw_R (some 4)))) rfl ?_
      obtain rfl := Option.some.inj hf
      exact rh_Ex.ret rfl rfl
def f_Mo_need_r4 (h : Nat → Nat → Int32) (p0 : Int32) : Option ((Nat → Nat → Int32)) :=
  (f_Mo_passes_r4 h p0).bind (fun x1 =>
    if x1.1 = 0 then
      some ((f_Mo_fault x1.2 (x1.2 0 13)))
    else
      some (x1.2)
  )
set_option maxRecDepth 20000 in
set_option maxHeartbeats 4000000 in
theorem R_Mo_need_r4 (d : Nat) (h : Nat → Nat → Int32) (g : Nat → Nat → Int64) (p0 : Int32) {z9 : (Nat → Nat → Int32)} (hf : f_Mo_need_r4 h p0 = some z9) : rh_M rh_PT mw_L (d + 3) 195 [.ref 0, .int p0] (h, g, mw_R (some 4)) none (z9, g, mw_R (some 4)) := by
  unfold f_Mo_need_r4 at hf
  refine rh_go pt_195 (Nat.le_of_ble_eq_true rfl) (lv := [some (.ref 0), some (.int p0)]) rfl ?_
  refine rh_Ex.blk 2 (s' := ((2, [some (.ref 0), some (.int p0)], [.int p0, .ref 0]), (h, g, mw_R (some 4)))) rfl ?_
  obtain ⟨x1, hx1, hf⟩ := rh_bq hf
  refine rh_Ex.call (j := 194) (rc := some 11) [.ref 0, .int p0] [] (some (.int x1.1)) rfl rfl rfl (Nat.le_of_ble_eq_true rfl) (R_Mo_passes_r4 d h g p0 hx1) ?_
  show rh_Ex _ _ _ ((5, [some (.ref 0), some (.int p0)], [.int x1.1]), (x1.2, g, mw_R (some 4))) _ _
  by_cases q2 : x1.1 = 0
  · rw [if_pos q2] at hf
    refine rh_Ex.stp (s' := ((8, [some (.ref 0), some (.int p0)], []), (x1.2, g, mw_R (some 4)))) rfl (st_ifne_p q2) ?_
    refine rh_Ex.blk 3 (s' := ((13, [some (.ref 0), some (.int p0)], [.int (x1.2 0 13), .ref 0]), (x1.2, g, mw_R (some 4)))) rfl ?_
    refine rh_Ex.call (j := 193) (rc := some 11) [.ref 0, .int (x1.2 0 13)] [] none rfl rfl rfl (Nat.le_of_ble_eq_true rfl) (R_Mo_fault d (some 4) x1.2 g (x1.2 0 13) rfl) ?_
    show rh_Ex _ _ _ ((16, [some (.ref 0), some (.int p0)], []), ((f_Mo_fault x1.2 (x1.2 0 13)), g, mw_R (some 4))) _ _
    obtain rfl := Option.some.inj hf
    exact rh_Ex.ret rfl trivial
  · rw [if_neg q2] at hf
    refine rh_Ex.stp (s' := ((16, [some (.ref 0), some (.int p0)], []), (x1.2, g, mw_R (some 4)))) rfl (st_ifne_n q2) ?_
    obtain rfl := Option.some.inj hf
    exact rh_Ex.ret rfl trivial
def j_Mo_thing_r4_118 (T : (Nat → Nat → Int32) → Int32 → Option (Int32 × (Nat → Nat → Int32))) (h : Nat → Nat → Int32) (j2 : Int32) : Option (Int32 × (Nat → Nat → Int32)) :=
  if (h 0 18) = (-1 : Int32) then
    some (((0 : Int32), rh_up h 0 13 ((h 0 13) + (1 : Int32))))
  else
    if j2 = (119 : Int32) then
      some ((h 0 19, rh_up h 0 13 ((h 0 13) + (1 : Int32))))
    else
      if j2 = (98 : Int32) then
        some (((h 0 20) - (h 0 20) / (9 : Int32) * (9 : Int32), rh_up h 0 13 ((h 0 13) + (1 : Int32))))
      else
        if j2 = (100 : Int32) then
          some (((h 0 20) / (9 : Int32), rh_up h 0 13 ((h 0 13) + (1 : Int32))))
        else
          some ((h 0 18, rh_up h 0 13 ((h 0 13) + (1 : Int32))))
def j_Mo_thing_r4_67 (T : (Nat → Nat → Int32) → Int32 → Option (Int32 × (Nat → Nat → Int32))) (h : Nat → Nat → Int32) (j2 : Int32) : Option (Int32 × (Nat → Nat → Int32)) :=
  if (f_Mo_in j2 (48 : Int32) (57 : Int32)) = 0 then
    if j2 = (119 : Int32) then
      j_Mo_thing_r4_118 T h j2
    else
      if j2 = (98 : Int32) then
        j_Mo_thing_r4_118 T h j2
      else
        if j2 = (100 : Int32) then
          j_Mo_thing_r4_118 T h j2
        else
          if j2 = (105 : Int32) then
            j_Mo_thing_r4_118 T h j2
          else
            some (((0 : Int32), (f_Mo_fault h (h 0 13))))
  else
    (f_Mo_number_r4 h (3 : Int32)).bind (fun x16 =>
      some ((x16.1, x16.2))
    )
def f_Mo_thing_r4 (T : (Nat → Nat → Int32) → Int32 → Option (Int32 × (Nat → Nat → Int32))) (h : Nat → Nat → Int32) (p0 : Int32) : Option (Int32 × (Nat → Nat → Int32)) :=
  (f_Mo_passes_r4 h (45 : Int32)).bind (fun x1 =>
    if x1.1 = 0 then
      if (f_Mo_fine x1.2) = 0 then
        some (((0 : Int32), x1.2))
      else
        (f_Mo_here_r4 x1.2).bind (fun x4 =>
          if x4 = (40 : Int32) then
            if (4 : Int32) ≤ p0 then
              j_Mo_thing_r4_67 T x1.2 x4
            else
              (f_Mo_held_r4 T (rh_up x1.2 0 13 ((x1.2 0 13) + (1 : Int32))) (p0 + (1 : Int32))).bind (fun x17 =>
                (f_Mo_need_r4 x17.2 (41 : Int32)).bind (fun x18 =>
                  some ((x17.1, x18))
                )
              )
          else
            j_Mo_thing_r4_67 T x1.2 x4
        )
    else
      (T x1.2 p0).bind (fun x19 =>
        some ((-x19.1, x19.2))
      )
  )
set_option maxRecDepth 20000 in
set_option maxHeartbeats 4000000 in
theorem lj_Mo_thing_r4_118 (d : Nat) (T : (Nat → Nat → Int32) → Int32 → Option (Int32 × (Nat → Nat → Int32))) (hT : ∀ (h : Nat → Nat → Int32) (g : Nat → Nat → Int64) (a0 : Int32) z, T h a0 = some z → rh_M rh_PT mw_L (d + 6) 203 [.ref 0, .int a0] (h, g, mw_R (some 4)) (some (.int z.1)) (z.2, g, mw_R (some 4))) (h : Nat → Nat → Int32) (j2 : Int32) (g : Nat → Nat → Int64) {z9 : Int32 × (Nat → Nat → Int32)} (hf : j_Mo_thing_r4_118 T h j2 = some z9) : rh_Ex (rh_M rh_PT mw_L (d + 9)) mw_L pg_X12_thing ((118, [some (.ref 0), none, some (.int j2), none], []), (h, g, mw_R (some 4))) (some (.int z9.1)) (z9.2, g, mw_R (some 4)) := by
  unfold j_Mo_thing_r4_118 at hf
  refine rh_Ex.blk 9 (s' := ((133, [some (.ref 0), none, some (.int j2), none], [.int (-1 : Int32), .int (h 0 18)]), (rh_up h 0 13 ((h 0 13) + (1 : Int32)), g, mw_R (some 4)))) rfl ?_
  by_cases q9 : (h 0 18) = (-1 : Int32)
  · rw [if_pos q9] at hf
    refine rh_Ex.stp (s' := ((136, [some (.ref 0), none, some (.int j2), none], []), (rh_up h 0 13 ((h 0 13) + (1 : Int32)), g, mw_R (some 4)))) rfl (st_icne_p q9) ?_
    refine rh_Ex.blk 1 (s' := ((137, [some (.ref 0), none, some (.int j2), none], [.int (0 : Int32)]), (rh_up h 0 13 ((h 0 13) + (1 : Int32)), g, mw_R (some 4)))) rfl ?_
    obtain rfl := Option.some.inj hf
    exact rh_Ex.ret rfl rfl
  · rw [if_neg q9] at hf
    refine rh_Ex.stp (s' := ((138, [some (.ref 0), none, some (.int j2), none], []), (rh_up h 0 13 ((h 0 13) + (1 : Int32)), g, mw_R (some 4)))) rfl (st_icne_n q9) ?_
    refine rh_Ex.blk 2 (s' := ((141, [some (.ref 0), none, some (.int j2), none], [.int (119 : Int32), .int j2]), (rh_up h 0 13 ((h 0 13) + (1 : Int32)), g, mw_R (some 4)))) rfl ?_
    by_cases q10 : j2 = (119 : Int32)
    · rw [if_pos q10] at hf
      refine rh_Ex.stp (s' := ((144, [some (.ref 0), none, some (.int j2), none], []), (rh_up h 0 13 ((h 0 13) + (1 : Int32)), g, mw_R (some 4)))) rfl (st_icne_p q10) ?_
      refine rh_Ex.blk 3 (s' := ((187, [some (.ref 0), none, some (.int j2), none], [.int (h 0 19)]), (rh_up h 0 13 ((h 0 13) + (1 : Int32)), g, mw_R (some 4)))) rfl ?_
      obtain rfl := Option.some.inj hf
      exact rh_Ex.ret rfl rfl
    · rw [if_neg q10] at hf
      refine rh_Ex.stp (s' := ((151, [some (.ref 0), none, some (.int j2), none], []), (rh_up h 0 13 ((h 0 13) + (1 : Int32)), g, mw_R (some 4)))) rfl (st_icne_n q10) ?_
      refine rh_Ex.blk 2 (s' := ((154, [some (.ref 0), none, some (.int j2), none], [.int (98 : Int32), .int j2]), (rh_up h 0 13 ((h 0 13) + (1 : Int32)), g, mw_R (some 4)))) rfl ?_
      by_cases q11 : j2 = (98 : Int32)
      · rw [if_pos q11] at hf
        refine rh_Ex.stp (s' := ((157, [some (.ref 0), none, some (.int j2), none], []), (rh_up h 0 13 ((h 0 13) + (1 : Int32)), g, mw_R (some 4)))) rfl (st_icne_p q11) ?_
        refine rh_Ex.blk 3 (s' := ((163, [some (.ref 0), none, some (.int j2), none], [.int (9 : Int32), .int (h 0 20)]), (rh_up h 0 13 ((h 0 13) + (1 : Int32)), g, mw_R (some 4)))) rfl ?_
        refine rh_Ex.stp (s' := ((164, [some (.ref 0), none, some (.int j2), none], [.int ((h 0 20) - (h 0 20) / (9 : Int32) * (9 : Int32))]), (rh_up h 0 13 ((h 0 13) + (1 : Int32)), g, mw_R (some 4)))) rfl (st_irem (by decide)) ?_
        refine rh_Ex.blk 1 (s' := ((187, [some (.ref 0), none, some (.int j2), none], [.int ((h 0 20) - (h 0 20) / (9 : Int32) * (9 : Int32))]), (rh_up h 0 13 ((h 0 13) + (1 : Int32)), g, mw_R (some 4)))) rfl ?_
        obtain rfl := Option.some.inj hf
        exact rh_Ex.ret rfl rfl
      · rw [if_neg q11] at hf
        refine rh_Ex.stp (s' := ((167, [some (.ref 0), none, some (.int j2), none], []), (rh_up h 0 13 ((h 0 13) + (1 : Int32)), g, mw_R (some 4)))) rfl (st_icne_n q11) ?_
        refine rh_Ex.blk 2 (s' := ((170, [some (.ref 0), none, some (.int j2), none], [.int (100 : Int32), .int j2]), (rh_up h 0 13 ((h 0 13) + (1 : Int32)), g, mw_R (some 4)))) rfl ?_
        by_cases q12 : j2 = (100 : Int32)
        · rw [if_pos q12] at hf
          refine rh_Ex.stp (s' := ((173, [some (.ref 0), none, some (.int j2), none], []), (rh_up h 0 13 ((h 0 13) + (1 : Int32)), g, mw_R (some 4)))) rfl (st_icne_p q12) ?_
          refine rh_Ex.blk 3 (s' := ((179, [some (.ref 0), none, some (.int j2), none], [.int (9 : Int32), .int (h 0 20)]), (rh_up h 0 13 ((h 0 13) + (1 : Int32)), g, mw_R (some 4)))) rfl ?_
          refine rh_Ex.stp (s' := ((180, [some (.ref 0), none, some (.int j2), none], [.int ((h 0 20) / (9 : Int32))]), (rh_up h 0 13 ((h 0 13) + (1 : Int32)), g, mw_R (some 4)))) rfl (st_idiv (by decide)) ?_
          refine rh_Ex.blk 1 (s' := ((187, [some (.ref 0), none, some (.int j2), none], [.int ((h 0 20) / (9 : Int32))]), (rh_up h 0 13 ((h 0 13) + (1 : Int32)), g, mw_R (some 4)))) rfl ?_
          obtain rfl := Option.some.inj hf
          exact rh_Ex.ret rfl rfl
        · rw [if_neg q12] at hf
          refine rh_Ex.stp (s' := ((183, [some (.ref 0), none, some (.int j2), none], []), (rh_up h 0 13 ((h 0 13) + (1 : Int32)), g, mw_R (some 4)))) rfl (st_icne_n q12) ?_
          refine rh_Ex.blk 2 (s' := ((187, [some (.ref 0), none, some (.int j2), none], [.int (h 0 18)]), (rh_up h 0 13 ((h 0 13) + (1 : Int32)), g, mw_R (some 4)))) rfl ?_
          obtain rfl := Option.some.inj hf
          exact rh_Ex.ret rfl rfl
set_option maxRecDepth 20000 in
set_option maxHeartbeats 4000000 in
theorem lj_Mo_thing_r4_67 (d : Nat) (T : (Nat → Nat → Int32) → Int32 → Option (Int32 × (Nat → Nat → Int32))) (hT : ∀ (h : Nat → Nat → Int32) (g : Nat → Nat → Int64) (a0 : Int32) z, T h a0 = some z → rh_M rh_PT mw_L (d + 6) 203 [.ref 0, .int a0] (h, g, mw_R (some 4)) (some (.int z.1)) (z.2, g, mw_R (some 4))) (h : Nat → Nat → Int32) (j2 : Int32) (g : Nat → Nat → Int64) {z9 : Int32 × (Nat → Nat → Int32)} (hf : j_Mo_thing_r4_67 T h j2 = some z9) : rh_Ex (rh_M rh_PT mw_L (d + 9)) mw_L pg_X12_thing ((67, [some (.ref 0), none, some (.int j2), none], []), (h, g, mw_R (some 4))) (some (.int z9.1)) (z9.2, g, mw_R (some 4)) := by
  unfold j_Mo_thing_r4_67 at hf
  refine rh_Ex.blk 3 (s' := ((72, [some (.ref 0), none, some (.int j2), none], [.int (57 : Int32), .int (48 : Int32), .int j2]), (h, g, mw_R (some 4)))) rfl ?_
  refine rh_Ex.call (j := 179) (rc := none) [.int j2, .int (48 : Int32), .int (57 : Int32)] [] (some (.int (f_Mo_in j2 (48 : Int32) (57 : Int32)))) rfl rfl trivial (Nat.le_of_ble_eq_true rfl) (R_Mo_in (d + 8) mw_L (mw_R (some 4)) h g j2 (48 : Int32) (57 : Int32) rfl) ?_
  show rh_Ex _ _ _ ((75, [some (.ref 0), none, some (.int j2), none], [.int (f_Mo_in j2 (48 : Int32) (57 : Int32))]), (h, g, mw_R (some 4))) _ _
  by_cases q7 : (f_Mo_in j2 (48 : Int32) (57 : Int32)) = 0
  · rw [if_pos q7] at hf
    refine rh_Ex.stp (s' := ((84, [some (.ref 0), none, some (.int j2), none], []), (h, g, mw_R (some 4)))) rfl (st_ifeq_p q7) ?_
    refine rh_Ex.blk 2 (s' := ((87, [some (.ref 0), none, some (.int j2), none], [.int (119 : Int32), .int j2]), (h, g, mw_R (some 4)))) rfl ?_
    by_cases q8 : j2 = (119 : Int32)
    · rw [if_pos q8] at hf
      refine rh_Ex.stp (s' := ((118, [some (.ref 0), none, some (.int j2), none], []), (h, g, mw_R (some 4)))) rfl (st_iceq_p q8) ?_
      refine rh_Ex.fgt [some (.ref 0), none, some (.int j2), none] ⟨rfl, rfl, trivial⟩ ?_
      exact lj_Mo_thing_r4_118 d T hT h j2 g hf
    · rw [if_neg q8] at hf
      refine rh_Ex.stp (s' := ((90, [some (.ref 0), none, some (.int j2), none], []), (h, g, mw_R (some 4)))) rfl (st_iceq_n q8) ?_
      refine rh_Ex.blk 2 (s' := ((93, [some (.ref 0), none, some (.int j2), none], [.int (98 : Int32), .int j2]), (h, g, mw_R (some 4)))) rfl ?_
      by_cases q13 : j2 = (98 : Int32)
      · rw [if_pos q13] at hf
        refine rh_Ex.stp (s' := ((118, [some (.ref 0), none, some (.int j2), none], []), (h, g, mw_R (some 4)))) rfl (st_iceq_p q13) ?_
        refine rh_Ex.fgt [some (.ref 0), none, some (.int j2), none] ⟨rfl, rfl, trivial⟩ ?_
        exact lj_Mo_thing_r4_118 d T hT h j2 g hf
      · rw [if_neg q13] at hf
        refine rh_Ex.stp (s' := ((96, [some (.ref 0), none, some (.int j2), none], []), (h, g, mw_R (some 4)))) rfl (st_iceq_n q13) ?_
        refine rh_Ex.blk 2 (s' := ((99, [some (.ref 0), none, some (.int j2), none], [.int (100 : Int32), .int j2]), (h, g, mw_R (some 4)))) rfl ?_
        by_cases q14 : j2 = (100 : Int32)
        · rw [if_pos q14] at hf
          refine rh_Ex.stp (s' := ((118, [some (.ref 0), none, some (.int j2), none], []), (h, g, mw_R (some 4)))) rfl (st_iceq_p q14) ?_
          refine rh_Ex.fgt [some (.ref 0), none, some (.int j2), none] ⟨rfl, rfl, trivial⟩ ?_
          exact lj_Mo_thing_r4_118 d T hT h j2 g hf
        · rw [if_neg q14] at hf
          refine rh_Ex.stp (s' := ((102, [some (.ref 0), none, some (.int j2), none], []), (h, g, mw_R (some 4)))) rfl (st_iceq_n q14) ?_
          refine rh_Ex.blk 2 (s' := ((105, [some (.ref 0), none, some (.int j2), none], [.int (105 : Int32), .int j2]), (h, g, mw_R (some 4)))) rfl ?_
          by_cases q15 : j2 = (105 : Int32)
          · rw [if_pos q15] at hf
            refine rh_Ex.stp (s' := ((118, [some (.ref 0), none, some (.int j2), none], []), (h, g, mw_R (some 4)))) rfl (st_iceq_p q15) ?_
            refine rh_Ex.fgt [some (.ref 0), none, some (.int j2), none] ⟨rfl, rfl, trivial⟩ ?_
            exact lj_Mo_thing_r4_118 d T hT h j2 g hf
          · rw [if_neg q15] at hf
            refine rh_Ex.stp (s' := ((108, [some (.ref 0), none, some (.int j2), none], []), (h, g, mw_R (some 4)))) rfl (st_iceq_n q15) ?_
            refine rh_Ex.blk 3 (s' := ((113, [some (.ref 0), none, some (.int j2), none], [.int (h 0 13), .ref 0]), (h, g, mw_R (some 4)))) rfl ?_
            refine rh_Ex.call (j := 193) (rc := some 11) [.ref 0, .int (h 0 13)] [] none rfl rfl rfl (Nat.le_of_ble_eq_true rfl) (R_Mo_fault (d + 7) (some 4) h g (h 0 13) rfl) ?_
            show rh_Ex _ _ _ ((116, [some (.ref 0), none, some (.int j2), none], []), ((f_Mo_fault h (h 0 13)), g, mw_R (some 4))) _ _
            refine rh_Ex.blk 1 (s' := ((117, [some (.ref 0), none, some (.int j2), none], [.int (0 : Int32)]), ((f_Mo_fault h (h 0 13)), g, mw_R (some 4)))) rfl ?_
            obtain rfl := Option.some.inj hf
            exact rh_Ex.ret rfl rfl
  · rw [if_neg q7] at hf
    refine rh_Ex.stp (s' := ((78, [some (.ref 0), none, some (.int j2), none], []), (h, g, mw_R (some 4)))) rfl (st_ifeq_n q7) ?_
    refine rh_Ex.blk 2 (s' := ((80, [some (.ref 0), none, some (.int j2), none], [.int (3 : Int32), .ref 0]), (h, g, mw_R (some 4)))) rfl ?_
    obtain ⟨x16, hx16, hf⟩ := rh_bq hf
    refine rh_Ex.call (j := 196) (rc := some 11) [.ref 0, .int (3 : Int32)] [] (some (.int x16.1)) rfl rfl rfl (Nat.le_of_ble_eq_true rfl) (R_Mo_number_r4 (d + 6) h g (3 : Int32) hx16) ?_
    show rh_Ex _ _ _ ((83, [some (.ref 0), none, some (.int j2), none], [.int x16.1]), (x16.2, g, mw_R (some 4))) _ _
    obtain rfl := Option.some.inj hf
    exact rh_Ex.ret rfl rfl
set_option maxRecDepth 20000 in
set_option maxHeartbeats 4000000 in
theorem R_Mo_thing_r4 (d : Nat) (T : (Nat → Nat → Int32) → Int32 → Option (Int32 × (Nat → Nat → Int32))) (hT : ∀ (h : Nat → Nat → Int32) (g : Nat → Nat → Int64) (a0 : Int32) z, T h a0 = some z → rh_M rh_PT mw_L (d + 6) 203 [.ref 0, .int a0] (h, g, mw_R (some 4)) (some (.int z.1)) (z.2, g, mw_R (some 4))) (h : Nat → Nat → Int32) (g : Nat → Nat → Int64) (p0 : Int32) {z9 : Int32 × (Nat → Nat → Int32)} (hf : f_Mo_thing_r4 T h p0 = some z9) : rh_M rh_PT mw_L (d + 10) 203 [.ref 0, .int p0] (h, g, mw_R (some 4)) (some (.int z9.1)) (z9.2, g, mw_R (some 4)) := by
  unfold f_Mo_thing_r4 at hf
  refine rh_go pt_203 (Nat.le_of_ble_eq_true rfl) (lv := [some (.ref 0), some (.int p0), none, none]) rfl ?_
  refine rh_Ex.blk 2 (s' := ((3, [some (.ref 0), some (.int p0), none, none], [.int (45 : Int32), .ref 0]), (h, g, mw_R (some 4)))) rfl ?_
  obtain ⟨x1, hx1, hf⟩ := rh_bq hf
  refine rh_Ex.call (j := 194) (rc := some 11) [.ref 0, .int (45 : Int32)] [] (some (.int x1.1)) rfl rfl rfl (Nat.le_of_ble_eq_true rfl) (R_Mo_passes_r4 (d + 7) h g (45 : Int32) hx1) ?_
  show rh_Ex _ _ _ ((6, [some (.ref 0), some (.int p0), none, none], [.int x1.1]), (x1.2, g, mw_R (some 4))) _ _
  by_cases q2 : x1.1 = 0
  · rw [if_pos q2] at hf
    refine rh_Ex.stp (s' := ((16, [some (.ref 0), some (.int p0), none, none], []), (x1.2, g, mw_R (some 4)))) rfl (st_ifeq_p q2) ?_
    refine rh_Ex.blk 1 (s' := ((17, [some (.ref 0), some (.int p0), none, none], [.ref 0]), (x1.2, g, mw_R (some 4)))) rfl ?_
    refine rh_Ex.call (j := 192) (rc := some 11) [.ref 0] [] (some (.int (f_Mo_fine x1.2))) rfl rfl rfl (Nat.le_of_ble_eq_true rfl) (R_Mo_fine (d + 8) (some 4) x1.2 g  rfl) ?_
    show rh_Ex _ _ _ ((20, [some (.ref 0), some (.int p0), none, none], [.int (f_Mo_fine x1.2)]), (x1.2, g, mw_R (some 4))) _ _
    by_cases q3 : (f_Mo_fine x1.2) = 0
    · rw [if_pos q3] at hf
      refine rh_Ex.stp (s' := ((23, [some (.ref 0), some (.int p0), none, none], []), (x1.2, g, mw_R (some 4)))) rfl (st_ifne_p q3) ?_
      refine rh_Ex.blk 1 (s' := ((24, [some (.ref 0), some (.int p0), none, none], [.int (0 : Int32)]), (x1.2, g, mw_R (some 4)))) rfl ?_
      obtain rfl := Option.some.inj hf
      exact rh_Ex.ret rfl rfl
    · rw [if_neg q3] at hf
      refine rh_Ex.stp (s' := ((25, [some (.ref 0), some (.int p0), none, none], []), (x1.2, g, mw_R (some 4)))) rfl (st_ifne_n q3) ?_
      refine rh_Ex.blk 1 (s' := ((26, [some (.ref 0), some (.int p0), none, none], [.ref 0]), (x1.2, g, mw_R (some 4)))) rfl ?_
      obtain ⟨x4, hx4, hf⟩ := rh_bq hf
      refine rh_Ex.call (j := 191) (rc := some 11) [.ref 0] [] (some (.int x4)) rfl rfl rfl (Nat.le_of_ble_eq_true rfl) (R_Mo_here_r4 (d + 8) x1.2 g  hx4) ?_
      show rh_Ex _ _ _ ((29, [some (.ref 0), some (.int p0), none, none], [.int x4]), (x1.2, g, mw_R (some 4))) _ _
      refine rh_Ex.blk 3 (s' := ((33, [some (.ref 0), some (.int p0), some (.int x4), none], [.int (40 : Int32), .int x4]), (x1.2, g, mw_R (some 4)))) rfl ?_
      by_cases q5 : x4 = (40 : Int32)
      · rw [if_pos q5] at hf
        refine rh_Ex.stp (s' := ((36, [some (.ref 0), some (.int p0), some (.int x4), none], []), (x1.2, g, mw_R (some 4)))) rfl (st_icne_p q5) ?_
        refine rh_Ex.blk 2 (s' := ((38, [some (.ref 0), some (.int p0), some (.int x4), none], [.int (4 : Int32), .int p0]), (x1.2, g, mw_R (some 4)))) rfl ?_
        by_cases q6 : (4 : Int32) ≤ p0
        · rw [if_pos q6] at hf
          refine rh_Ex.stp (s' := ((67, [some (.ref 0), some (.int p0), some (.int x4), none], []), (x1.2, g, mw_R (some 4)))) rfl (st_icge_p q6) ?_
          refine rh_Ex.fgt [some (.ref 0), none, some (.int x4), none] ⟨rfl, rfl, trivial⟩ ?_
          exact lj_Mo_thing_r4_67 d T hT x1.2 x4 g hf
        · rw [if_neg q6] at hf
          refine rh_Ex.stp (s' := ((41, [some (.ref 0), some (.int p0), some (.int x4), none], []), (x1.2, g, mw_R (some 4)))) rfl (st_icge_n q6) ?_
          refine rh_Ex.blk 10 (s' := ((55, [some (.ref 0), some (.int p0), some (.int x4), none], [.int (p0 + (1 : Int32)), .ref 0]), (rh_up x1.2 0 13 ((x1.2 0 13) + (1 : Int32)), g, mw_R (some 4)))) rfl ?_
          obtain ⟨x17, hx17, hf⟩ := rh_bq hf
          refine rh_Ex.call (j := 200) (rc := some 11) [.ref 0, .int (p0 + (1 : Int32))] [] (some (.int x17.1)) rfl rfl rfl (Nat.le_of_ble_eq_true rfl) (R_Mo_held_r4 d T hT (rh_up x1.2 0 13 ((x1.2 0 13) + (1 : Int32))) g (p0 + (1 : Int32)) hx17) ?_
          show rh_Ex _ _ _ ((58, [some (.ref 0), some (.int p0), some (.int x4), none], [.int x17.1]), (x17.2, g, mw_R (some 4))) _ _
          refine rh_Ex.blk 3 (s' := ((62, [some (.ref 0), some (.int p0), some (.int x4), some (.int x17.1)], [.int (41 : Int32), .ref 0]), (x17.2, g, mw_R (some 4)))) rfl ?_
          obtain ⟨x18, hx18, hf⟩ := rh_bq hf
          refine rh_Ex.call (j := 195) (rc := some 11) [.ref 0, .int (41 : Int32)] [] none rfl rfl rfl (Nat.le_of_ble_eq_true rfl) (R_Mo_need_r4 (d + 6) x17.2 g (41 : Int32) hx18) ?_
          show rh_Ex _ _ _ ((65, [some (.ref 0), some (.int p0), some (.int x4), some (.int x17.1)], []), (x18, g, mw_R (some 4))) _ _
          refine rh_Ex.blk 1 (s' := ((66, [some (.ref 0), some (.int p0), some (.int x4), some (.int x17.1)], [.int x17.1]), (x18, g, mw_R (some 4)))) rfl ?_
          obtain rfl := Option.some.inj hf
          exact rh_Ex.ret rfl rfl
      · rw [if_neg q5] at hf
        refine rh_Ex.stp (s' := ((67, [some (.ref 0), some (.int p0), some (.int x4), none], []), (x1.2, g, mw_R (some 4)))) rfl (st_icne_n q5) ?_
        refine rh_Ex.fgt [some (.ref 0), none, some (.int x4), none] ⟨rfl, rfl, trivial⟩ ?_
        exact lj_Mo_thing_r4_67 d T hT x1.2 x4 g hf
  · rw [if_neg q2] at hf
    refine rh_Ex.stp (s' := ((9, [some (.ref 0), some (.int p0), none, none], []), (x1.2, g, mw_R (some 4)))) rfl (st_ifeq_n q2) ?_
    refine rh_Ex.blk 2 (s' := ((11, [some (.ref 0), some (.int p0), none, none], [.int p0, .ref 0]), (x1.2, g, mw_R (some 4)))) rfl ?_
    obtain ⟨x19, hx19, hf⟩ := rh_bq hf
    refine rh_Ex.call (j := 203) (rc := some 11) [.ref 0, .int p0] [] (some (.int x19.1)) rfl rfl rfl (Nat.le_of_ble_eq_true rfl) (rh_M_le (Nat.add_le_add_left (Nat.le_of_ble_eq_true rfl) d) (hT x1.2 g p0 _ hx19)) ?_
    show rh_Ex _ _ _ ((14, [some (.ref 0), some (.int p0), none, none], [.int x19.1]), (x19.2, g, mw_R (some 4))) _ _
    refine rh_Ex.blk 1 (s' := ((15, [some (.ref 0), some (.int p0), none, none], [.int (-x19.1)]), (x19.2, g, mw_R (some 4)))) rfl ?_
    obtain rfl := Option.some.inj hf
    exact rh_Ex.ret rfl rfl
def g_Mo_thing_r4 : Nat → (Nat → Nat → Int32) → Int32 → Option (Int32 × (Nat → Nat → Int32))
  | 0 => fun _ _ => none
  | n + 1 => f_Mo_thing_r4 (g_Mo_thing_r4 n)
set_option maxRecDepth 20000 in
set_option maxHeartbeats 4000000 in
theorem Rg_Mo_thing_r4 : ∀ (n : Nat) (h : Nat → Nat → Int32) (g : Nat → Nat → Int64) (a0 : Int32) z, g_Mo_thing_r4 n h a0 = some z → rh_M rh_PT mw_L (4 * n + 6) 203 [.ref 0, .int a0] (h, g, mw_R (some 4)) (some (.int z.1)) (z.2, g, mw_R (some 4)) := by
  intro n
  induction n with
  | zero => intro h g a0 z hz; cases hz
  | succ n ih =>
    intro h g a0 z hz
    exact R_Mo_thing_r4 (4 * n) (g_Mo_thing_r4 n) ih h g a0 hz
def f_Mo_held_r4w (h : Nat → Nat → Int32) (p0 : Int32) : Option (Int32 × (Nat → Nat → Int32)) := f_Mo_held_r4 (g_Mo_thing_r4 64) h p0
set_option maxRecDepth 20000 in
set_option maxHeartbeats 4000000 in
theorem R_Mo_held_r4w (d : Nat) (h : Nat → Nat → Int32) (g : Nat → Nat → Int64) (p0 : Int32) {z9 : Int32 × (Nat → Nat → Int32)} (hf : f_Mo_held_r4w h p0 = some z9) : rh_M rh_PT mw_L (d + 265) 200 [.ref 0, .int p0] (h, g, mw_R (some 4)) (some (.int z9.1)) (z9.2, g, mw_R (some 4)) := R_Mo_held_r4 (d + 256) (g_Mo_thing_r4 64) (fun h g a0 z hz => rh_M_le (by omega) (Rg_Mo_thing_r4 64 h g a0 z hz)) h g p0 hf
def b_Mo_rule_73 (u1 : Int32) : (Int32 × (Nat → Nat → Int32)) → Option ((Int32 × (Nat → Nat → Int32)) ⊕ ((Nat → Nat → Int32))) := fun s73 =>
  if u1 ≤ s73.1 then
    some (.inr s73.2)
  else
    rh_g (0 ≤ s73.1.toInt ∧ s73.1.toInt < ((80 : Nat) : Int)) (
      rh_g (0 ≤ s73.1.toInt ∧ s73.1.toInt < ((40 : Nat) : Int)) (
        some (.inl (s73.1 + (1 : Int32), rh_up s73.2 7 s73.1.toNatClampNeg ((s73.2 4 s73.1.toNatClampNeg).toInt8.toInt32)))
      )
    )
def j_Mo_rule_71 (h : Nat → Nat → Int32) (j1 : Int32) : Option (Int32 × (Nat → Nat → Int32) × (Option Nat)) :=
  (rh_loop (b_Mo_rule_73 j1) rh_N ((0 : Int32), h)).bind (fun r6 =>
    some (((0 : Int32), rh_up r6 0 17 j1, (some 4)))
  )
def j_Mo_rule_57 (h : Nat → Nat → Int32) (j1 : Int32) : Option (Int32 × (Nat → Nat → Int32) × (Option Nat)) :=
  if (f_Mo_fine h) = 0 then
    some (((-1 : Int32) - (h 0 14), h, (some 4)))
  else
    j_Mo_rule_71 h j1
def f_Mo_rule (h : Nat → Nat → Int32) (rd : Option Nat) : Option (Int32 × (Nat → Nat → Int32) × (Option Nat)) :=
  if (h 0 6) ≤ 0 then
    j_Mo_rule_71 (rh_up (rh_up (f_Mo_begin_4 (rh_up h 0 9 (0 : Int32)) (h 0 6) (40 : Int32)) 0 6 (0 : Int32)) 0 18 (-1 : Int32)) (h 0 6)
  else
    (f_Mo_held_r4w (rh_up (rh_up (f_Mo_begin_4 (rh_up h 0 9 (0 : Int32)) (h 0 6) (40 : Int32)) 0 6 (0 : Int32)) 0 18 (-1 : Int32)) (0 : Int32)).bind (fun x7 =>
      if (h 0 6) ≤ (x7.2 0 13) then
        j_Mo_rule_57 x7.2 (h 0 6)
      else
        j_Mo_rule_57 (f_Mo_fault x7.2 (x7.2 0 13)) (h 0 6)
    )
set_option maxRecDepth 20000 in
set_option maxHeartbeats 4000000 in
theorem lb_Mo_rule_73 (d : Nat) (u1 : Int32) (g : Nat → Nat → Int64) (v9 : Option Value) (h9 : rh_H) : ∀ s73 x9, b_Mo_rule_73 u1 s73 = some x9 → Sum.elim (fun s73 => rh_Ex (rh_M rh_PT mw_L (d + 265)) mw_L pg_X12_rule ((73, [some (.ref 0), some (.int u1), some (.int s73.1)], []), (s73.2, g, mw_R (some 4))) v9 h9) (fun e9 => rh_Ex (rh_M rh_PT mw_L (d + 265)) mw_L pg_X12_rule ((96, [some (.ref 0), some (.int u1), none], []), (e9, g, mw_R (some 4))) v9 h9) x9 → rh_Ex (rh_M rh_PT mw_L (d + 265)) mw_L pg_X12_rule ((73, [some (.ref 0), some (.int u1), some (.int s73.1)], []), (s73.2, g, mw_R (some 4))) v9 h9 := by
  intro s73 x9 hf hk
  unfold b_Mo_rule_73 at hf
  refine rh_Ex.blk 2 (s' := ((75, [some (.ref 0), some (.int u1), some (.int s73.1)], [.int u1, .int s73.1]), (s73.2, g, mw_R (some 4)))) rfl ?_
  by_cases q3 : u1 ≤ s73.1
  · rw [if_pos q3] at hf
    refine rh_Ex.stp (s' := ((96, [some (.ref 0), some (.int u1), some (.int s73.1)], []), (s73.2, g, mw_R (some 4)))) rfl (st_icge_p q3) ?_
    obtain rfl := Option.some.inj hf
    refine rh_Ex.fgt [some (.ref 0), some (.int u1), none] ⟨rfl, rfl, trivial⟩ ?_
    exact hk
  · rw [if_neg q3] at hf
    refine rh_Ex.stp (s' := ((78, [some (.ref 0), some (.int u1), some (.int s73.1)], []), (s73.2, g, mw_R (some 4)))) rfl (st_icge_n q3) ?_
    refine rh_Ex.blk 6 (s' := ((88, [some (.ref 0), some (.int u1), some (.int s73.1)], [.int s73.1, .ref 4, .int s73.1, .ref 7]), (s73.2, g, mw_R (some 4)))) rfl ?_
    obtain ⟨q4, hf⟩ := rh_gq hf
    refine rh_Ex.stp (s' := ((89, [some (.ref 0), some (.int u1), some (.int s73.1)], [.int (s73.2 4 s73.1.toNatClampNeg), .int s73.1, .ref 7]), (s73.2, g, mw_R (some 4)))) rfl (st_bald (n := 80) rfl q4) ?_
    obtain ⟨q5, hf⟩ := rh_gq hf
    refine rh_Ex.stp (s' := ((90, [some (.ref 0), some (.int u1), some (.int s73.1)], []), (rh_up s73.2 7 s73.1.toNatClampNeg ((s73.2 4 s73.1.toNatClampNeg).toInt8.toInt32), g, mw_R (some 4)))) rfl (st_bast (n := 40) rfl q5) ?_
    refine rh_Ex.blk 2 (s' := ((73, [some (.ref 0), some (.int u1), some (.int (s73.1 + (1 : Int32)))], []), (rh_up s73.2 7 s73.1.toNatClampNeg ((s73.2 4 s73.1.toNatClampNeg).toInt8.toInt32), g, mw_R (some 4)))) rfl ?_
    obtain rfl := Option.some.inj hf
    refine rh_Ex.fgt [some (.ref 0), some (.int u1), some (.int (s73.1 + (1 : Int32)))] ⟨rfl, rfl, rfl, trivial⟩ ?_
    exact hk
set_option maxRecDepth 20000 in
set_option maxHeartbeats 4000000 in
theorem lj_Mo_rule_71 (d : Nat) (h : Nat → Nat → Int32) (j1 : Int32) (g : Nat → Nat → Int64) {z9 : Int32 × (Nat → Nat → Int32) × (Option Nat)} (hf : j_Mo_rule_71 h j1 = some z9) : rh_Ex (rh_M rh_PT mw_L (d + 265)) mw_L pg_X12_rule ((71, [some (.ref 0), some (.int j1), none], []), (h, g, mw_R (some 4))) (some (.int z9.1)) (z9.2.1, g, mw_R z9.2.2) := by
  unfold j_Mo_rule_71 at hf
  refine rh_Ex.blk 2 (s' := ((73, [some (.ref 0), some (.int j1), some (.int (0 : Int32))], []), (h, g, mw_R (some 4)))) rfl ?_
  obtain ⟨r6, hr6, hf⟩ := rh_bq hf
  refine rh_Ex.fgt [some (.ref 0), some (.int j1), some (.int (0 : Int32))] ⟨rfl, rfl, rfl, trivial⟩ ?_
  refine rh_Ex.loop _ _ _ (lb_Mo_rule_73 d j1  g _ _) rh_N _ r6 hr6 ?_
  refine rh_Ex.blk 4 (s' := ((102, [some (.ref 0), some (.int j1), none], [.int (0 : Int32)]), (rh_up r6 0 17 j1, g, mw_R (some 4)))) rfl ?_
  obtain rfl := Option.some.inj hf
  exact rh_Ex.ret rfl rfl
set_option maxRecDepth 20000 in
set_option maxHeartbeats 4000000 in
theorem lj_Mo_rule_57 (d : Nat) (h : Nat → Nat → Int32) (j1 : Int32) (g : Nat → Nat → Int64) {z9 : Int32 × (Nat → Nat → Int32) × (Option Nat)} (hf : j_Mo_rule_57 h j1 = some z9) : rh_Ex (rh_M rh_PT mw_L (d + 265)) mw_L pg_X12_rule ((57, [some (.ref 0), some (.int j1), none], []), (h, g, mw_R (some 4))) (some (.int z9.1)) (z9.2.1, g, mw_R z9.2.2) := by
  unfold j_Mo_rule_57 at hf
  refine rh_Ex.blk 1 (s' := ((58, [some (.ref 0), some (.int j1), none], [.ref 0]), (h, g, mw_R (some 4)))) rfl ?_
  refine rh_Ex.call (j := 192) (rc := some 11) [.ref 0] [] (some (.int (f_Mo_fine h))) rfl rfl rfl (Nat.le_of_ble_eq_true rfl) (R_Mo_fine (d + 264) (some 4) h g  rfl) ?_
  show rh_Ex _ _ _ ((61, [some (.ref 0), some (.int j1), none], [.int (f_Mo_fine h)]), (h, g, mw_R (some 4))) _ _
  by_cases q9 : (f_Mo_fine h) = 0
  · rw [if_pos q9] at hf
    refine rh_Ex.stp (s' := ((64, [some (.ref 0), some (.int j1), none], []), (h, g, mw_R (some 4)))) rfl (st_ifne_p q9) ?_
    refine rh_Ex.blk 4 (s' := ((70, [some (.ref 0), some (.int j1), none], [.int ((-1 : Int32) - (h 0 14))]), (h, g, mw_R (some 4)))) rfl ?_
    obtain rfl := Option.some.inj hf
    exact rh_Ex.ret rfl rfl
  · rw [if_neg q9] at hf
    refine rh_Ex.stp (s' := ((71, [some (.ref 0), some (.int j1), none], []), (h, g, mw_R (some 4)))) rfl (st_ifne_n q9) ?_
    refine rh_Ex.fgt [some (.ref 0), some (.int j1), none] ⟨rfl, rfl, trivial⟩ ?_
    exact lj_Mo_rule_71 d h j1 g hf
set_option maxRecDepth 20000 in
set_option maxHeartbeats 4000000 in
theorem R_Mo_rule (d : Nat) (rd : Option Nat) (h : Nat → Nat → Int32) (g : Nat → Nat → Int64)  {z9 : Int32 × (Nat → Nat → Int32) × (Option Nat)} (hf : f_Mo_rule h rd = some z9) : rh_M rh_PT mw_L (d + 266) 204 [.ref 0] (h, g, mw_R rd) (some (.int z9.1)) (z9.2.1, g, mw_R z9.2.2) := by
  unfold f_Mo_rule at hf
  refine rh_go pt_204 (Nat.le_of_ble_eq_true rfl) (lv := [some (.ref 0), none, none]) rfl ?_
  refine rh_Ex.blk 11 (s' := ((18, [some (.ref 0), some (.int (h 0 6)), none], [.int (40 : Int32), .int (h 0 6), .ref 4, .ref 0]), (rh_up h 0 9 (0 : Int32), g, mw_R rd))) rfl ?_
  refine rh_Ex.call (j := 190) (rc := some 11) [.ref 0, .ref 4, .int (h 0 6), .int (40 : Int32)] [] none rfl rfl rfl (Nat.le_of_ble_eq_true rfl) (R_Mo_begin_4 (d + 264) rd (rh_up h 0 9 (0 : Int32)) g (h 0 6) (40 : Int32) rfl) ?_
  show rh_Ex _ _ _ ((21, [some (.ref 0), some (.int (h 0 6)), none], []), ((f_Mo_begin_4 (rh_up h 0 9 (0 : Int32)) (h 0 6) (40 : Int32)), g, mw_R (some 4))) _ _
  refine rh_Ex.blk 7 (s' := ((32, [some (.ref 0), some (.int (h 0 6)), none], [.int (h 0 6)]), (rh_up (rh_up (f_Mo_begin_4 (rh_up h 0 9 (0 : Int32)) (h 0 6) (40 : Int32)) 0 6 (0 : Int32)) 0 18 (-1 : Int32), g, mw_R (some 4)))) rfl ?_
  by_cases q1 : (h 0 6) ≤ 0
  · rw [if_pos q1] at hf
    refine rh_Ex.stp (s' := ((71, [some (.ref 0), some (.int (h 0 6)), none], []), (rh_up (rh_up (f_Mo_begin_4 (rh_up h 0 9 (0 : Int32)) (h 0 6) (40 : Int32)) 0 6 (0 : Int32)) 0 18 (-1 : Int32), g, mw_R (some 4)))) rfl (st_ifle_p q1) ?_
    refine rh_Ex.fgt [some (.ref 0), some (.int (h 0 6)), none] ⟨rfl, rfl, trivial⟩ ?_
    exact lj_Mo_rule_71 d (rh_up (rh_up (f_Mo_begin_4 (rh_up h 0 9 (0 : Int32)) (h 0 6) (40 : Int32)) 0 6 (0 : Int32)) 0 18 (-1 : Int32)) (h 0 6) g hf
  · rw [if_neg q1] at hf
    refine rh_Ex.stp (s' := ((35, [some (.ref 0), some (.int (h 0 6)), none], []), (rh_up (rh_up (f_Mo_begin_4 (rh_up h 0 9 (0 : Int32)) (h 0 6) (40 : Int32)) 0 6 (0 : Int32)) 0 18 (-1 : Int32), g, mw_R (some 4)))) rfl (st_ifle_n q1) ?_
    refine rh_Ex.blk 2 (s' := ((37, [some (.ref 0), some (.int (h 0 6)), none], [.int (0 : Int32), .ref 0]), (rh_up (rh_up (f_Mo_begin_4 (rh_up h 0 9 (0 : Int32)) (h 0 6) (40 : Int32)) 0 6 (0 : Int32)) 0 18 (-1 : Int32), g, mw_R (some 4)))) rfl ?_
    obtain ⟨x7, hx7, hf⟩ := rh_bq hf
    refine rh_Ex.call (j := 200) (rc := some 11) [.ref 0, .int (0 : Int32)] [] (some (.int x7.1)) rfl rfl rfl (Nat.le_of_ble_eq_true rfl) (R_Mo_held_r4w d (rh_up (rh_up (f_Mo_begin_4 (rh_up h 0 9 (0 : Int32)) (h 0 6) (40 : Int32)) 0 6 (0 : Int32)) 0 18 (-1 : Int32)) g (0 : Int32) hx7) ?_
    show rh_Ex _ _ _ ((40, [some (.ref 0), some (.int (h 0 6)), none], [.int x7.1]), (x7.2, g, mw_R (some 4))) _ _
    refine rh_Ex.blk 4 (s' := ((46, [some (.ref 0), some (.int (h 0 6)), none], [.int (h 0 6), .int (x7.2 0 13)]), (x7.2, g, mw_R (some 4)))) rfl ?_
    by_cases q8 : (h 0 6) ≤ (x7.2 0 13)
    · rw [if_pos q8] at hf
      refine rh_Ex.stp (s' := ((57, [some (.ref 0), some (.int (h 0 6)), none], []), (x7.2, g, mw_R (some 4)))) rfl (st_icge_p q8) ?_
      refine rh_Ex.fgt [some (.ref 0), some (.int (h 0 6)), none] ⟨rfl, rfl, trivial⟩ ?_
      exact lj_Mo_rule_57 d x7.2 (h 0 6) g hf
    · rw [if_neg q8] at hf
      refine rh_Ex.stp (s' := ((49, [some (.ref 0), some (.int (h 0 6)), none], []), (x7.2, g, mw_R (some 4)))) rfl (st_icge_n q8) ?_
      refine rh_Ex.blk 3 (s' := ((54, [some (.ref 0), some (.int (h 0 6)), none], [.int (x7.2 0 13), .ref 0]), (x7.2, g, mw_R (some 4)))) rfl ?_
      refine rh_Ex.call (j := 193) (rc := some 11) [.ref 0, .int (x7.2 0 13)] [] none rfl rfl rfl (Nat.le_of_ble_eq_true rfl) (R_Mo_fault (d + 263) (some 4) x7.2 g (x7.2 0 13) rfl) ?_
      show rh_Ex _ _ _ ((57, [some (.ref 0), some (.int (h 0 6)), none], []), ((f_Mo_fault x7.2 (x7.2 0 13)), g, mw_R (some 4))) _ _
      refine rh_Ex.fgt [some (.ref 0), some (.int (h 0 6)), none] ⟨rfl, rfl, trivial⟩ ?_
      exact lj_Mo_rule_57 d (f_Mo_fault x7.2 (x7.2 0 13)) (h 0 6) g hf
def f_Mo_begin_7 (h : Nat → Nat → Int32) (p0 : Int32) (p1 : Int32) : (Nat → Nat → Int32) :=
  (rh_up (rh_up (rh_up (rh_up h 0 11 p0) 0 12 p1) 0 13 (0 : Int32)) 0 14 (-1 : Int32))
set_option maxRecDepth 20000 in
set_option maxHeartbeats 4000000 in
theorem R_Mo_begin_7 (d : Nat) (rd : Option Nat) (h : Nat → Nat → Int32) (g : Nat → Nat → Int64) (p0 : Int32) (p1 : Int32) {z9 : (Nat → Nat → Int32)} (hf : f_Mo_begin_7 h p0 p1 = z9) : rh_M rh_PT mw_L (d + 1) 190 [.ref 0, .ref 7, .int p0, .int p1] (h, g, mw_R rd) none (z9, g, mw_R (some 7)) := by
  unfold f_Mo_begin_7 at hf
  refine rh_go pt_190 (Nat.le_of_ble_eq_true rfl) (lv := [some (.ref 0), some (.ref 7), some (.int p0), some (.int p1)]) rfl ?_
  refine rh_Ex.blk 2 (s' := ((2, [some (.ref 0), some (.ref 7), some (.int p0), some (.int p1)], [.ref 7, .ref 0]), (h, g, mw_R rd))) rfl ?_
  refine rh_Ex.blk 1 (s' := ((5, [some (.ref 0), some (.ref 7), some (.int p0), some (.int p1)], []), (h, g, rh_up (mw_R rd) 0 10 (some 7)))) rfl ?_
  rw [mw_set]
  refine rh_Ex.blk 12 (s' := ((25, [some (.ref 0), some (.ref 7), some (.int p0), some (.int p1)], []), (rh_up (rh_up (rh_up (rh_up h 0 11 p0) 0 12 p1) 0 13 (0 : Int32)) 0 14 (-1 : Int32), g, mw_R (some 7)))) rfl ?_
  subst hf
  exact rh_Ex.ret rfl trivial
def f_Mo_here_r7 (h : Nat → Nat → Int32) : Option (Int32) :=
  if (h 0 11) ≤ (h 0 13) then
    some ((-1 : Int32))
  else
    if (h 0 12) ≤ (h 0 13) then
      some ((-1 : Int32))
    else
      rh_g (0 ≤ (h 0 13).toInt ∧ (h 0 13).toInt < ((40 : Nat) : Int)) (
        some (((h 7 (h 0 13).toNatClampNeg) &&& (255 : Int32)))
      )
set_option maxRecDepth 20000 in
set_option maxHeartbeats 4000000 in
theorem R_Mo_here_r7 (d : Nat) (h : Nat → Nat → Int32) (g : Nat → Nat → Int64)  {z9 : Int32} (hf : f_Mo_here_r7 h = some z9) : rh_M rh_PT mw_L (d + 1) 191 [.ref 0] (h, g, mw_R (some 7)) (some (.int z9)) (h, g, mw_R (some 7)) := by
  unfold f_Mo_here_r7 at hf
  refine rh_go pt_191 (Nat.le_of_ble_eq_true rfl) (lv := [some (.ref 0)]) rfl ?_
  refine rh_Ex.blk 4 (s' := ((8, [some (.ref 0)], [.int (h 0 11), .int (h 0 13)]), (h, g, mw_R (some 7)))) rfl ?_
  by_cases q1 : (h 0 11) ≤ (h 0 13)
  · rw [if_pos q1] at hf
    refine rh_Ex.stp (s' := ((38, [some (.ref 0)], []), (h, g, mw_R (some 7)))) rfl (st_icge_p q1) ?_
    refine rh_Ex.blk 1 (s' := ((39, [some (.ref 0)], [.int (-1 : Int32)]), (h, g, mw_R (some 7)))) rfl ?_
    obtain rfl := Option.some.inj hf
    exact rh_Ex.ret rfl rfl
  · rw [if_neg q1] at hf
    refine rh_Ex.stp (s' := ((11, [some (.ref 0)], []), (h, g, mw_R (some 7)))) rfl (st_icge_n q1) ?_
    refine rh_Ex.blk 4 (s' := ((19, [some (.ref 0)], [.int (h 0 12), .int (h 0 13)]), (h, g, mw_R (some 7)))) rfl ?_
    by_cases q2 : (h 0 12) ≤ (h 0 13)
    · rw [if_pos q2] at hf
      refine rh_Ex.stp (s' := ((38, [some (.ref 0)], []), (h, g, mw_R (some 7)))) rfl (st_icge_p q2) ?_
      refine rh_Ex.blk 1 (s' := ((39, [some (.ref 0)], [.int (-1 : Int32)]), (h, g, mw_R (some 7)))) rfl ?_
      obtain rfl := Option.some.inj hf
      exact rh_Ex.ret rfl rfl
    · rw [if_neg q2] at hf
      refine rh_Ex.stp (s' := ((22, [some (.ref 0)], []), (h, g, mw_R (some 7)))) rfl (st_icge_n q2) ?_
      refine rh_Ex.blk 4 (s' := ((30, [some (.ref 0)], [.int (h 0 13), .ref 7]), (h, g, mw_R (some 7)))) rfl ?_
      obtain ⟨q3, hf⟩ := rh_gq hf
      refine rh_Ex.stp (s' := ((31, [some (.ref 0)], [.int (h 7 (h 0 13).toNatClampNeg)]), (h, g, mw_R (some 7)))) rfl (st_bald (n := 40) rfl q3) ?_
      refine rh_Ex.blk 3 (s' := ((39, [some (.ref 0)], [.int ((h 7 (h 0 13).toNatClampNeg) &&& (255 : Int32))]), (h, g, mw_R (some 7)))) rfl ?_
      obtain rfl := Option.some.inj hf
      exact rh_Ex.ret rfl rfl
def j_Mo_product_r7_45 (T : (Nat → Nat → Int32) → Int32 → Option (Int32 × (Nat → Nat → Int32))) (h : Nat → Nat → Int32) (u1 : Int32) (j2 : Int32) (k0 : Int32) : Option ((Int32 × (Nat → Nat → Int32)) ⊕ (Int32 × (Nat → Nat → Int32))) :=
  (T (rh_up h 0 13 ((h 0 13) + (1 : Int32))) u1).bind (fun x8 =>
    if k0 = 0 then
      if x8.1 = 0 then
        some (.inl ((0 : Int32), x8.2))
      else
        rh_g (¬ x8.1 = 0) (
          some (.inl (j2 / x8.1, x8.2))
        )
    else
      some (.inl (j2 * x8.1, x8.2))
  )
def j_Mo_product_r7_31 (T : (Nat → Nat → Int32) → Int32 → Option (Int32 × (Nat → Nat → Int32))) (h : Nat → Nat → Int32) (u1 : Int32) (j2 : Int32) : Option ((Int32 × (Nat → Nat → Int32)) ⊕ (Int32 × (Nat → Nat → Int32))) :=
  (f_Mo_here_r7 h).bind (fun x6 =>
    if x6 = (42 : Int32) then
      j_Mo_product_r7_45 T h u1 j2 (1 : Int32)
    else
      j_Mo_product_r7_45 T h u1 j2 (0 : Int32)
  )
def b_Mo_product_r7_6 (T : (Nat → Nat → Int32) → Int32 → Option (Int32 × (Nat → Nat → Int32))) (u1 : Int32) : (Int32 × (Nat → Nat → Int32)) → Option ((Int32 × (Nat → Nat → Int32)) ⊕ (Int32 × (Nat → Nat → Int32))) := fun s6 =>
  if (f_Mo_fine s6.2) = 0 then
    some (.inr (s6.1, s6.2))
  else
    (f_Mo_here_r7 s6.2).bind (fun x4 =>
      if x4 = (42 : Int32) then
        j_Mo_product_r7_31 T s6.2 u1 s6.1
      else
        (f_Mo_here_r7 s6.2).bind (fun x12 =>
          if x12 = (47 : Int32) then
            j_Mo_product_r7_31 T s6.2 u1 s6.1
          else
            some (.inr (s6.1, s6.2))
        )
    )
def f_Mo_product_r7 (T : (Nat → Nat → Int32) → Int32 → Option (Int32 × (Nat → Nat → Int32))) (h : Nat → Nat → Int32) (p0 : Int32) : Option (Int32 × (Nat → Nat → Int32)) :=
  (T h p0).bind (fun x1 =>
    (rh_loop (b_Mo_product_r7_6 T p0) rh_N (x1.1, x1.2)).bind (fun r14 =>
      some ((r14.1, r14.2))
    )
  )
set_option maxRecDepth 20000 in
set_option maxHeartbeats 4000000 in
theorem lj_Mo_product_r7_45 (d : Nat) (T : (Nat → Nat → Int32) → Int32 → Option (Int32 × (Nat → Nat → Int32))) (hT : ∀ (h : Nat → Nat → Int32) (g : Nat → Nat → Int64) (a0 : Int32) z, T h a0 = some z → rh_M rh_PT mw_L (d + 6) 203 [.ref 0, .int a0] (h, g, mw_R (some 7)) (some (.int z.1)) (z.2, g, mw_R (some 7))) (h : Nat → Nat → Int32) (u1 : Int32) (j2 : Int32) (k0 : Int32) (g : Nat → Nat → Int64) (v9 : Option Value) (h9 : rh_H) (x9 : (Int32 × (Nat → Nat → Int32)) ⊕ (Int32 × (Nat → Nat → Int32))) (hf : j_Mo_product_r7_45 T h u1 j2 k0 = some x9) (hk : Sum.elim (fun s6 => rh_Ex (rh_M rh_PT mw_L (d + 6)) mw_L pg_X12_product ((6, [some (.ref 0), some (.int u1), some (.int s6.1), none, none], []), (s6.2, g, mw_R (some 7))) v9 h9) (fun e9 => rh_Ex (rh_M rh_PT mw_L (d + 6)) mw_L pg_X12_product ((91, [none, none, some (.int e9.1), none, none], []), (e9.2, g, mw_R (some 7))) v9 h9) x9) : rh_Ex (rh_M rh_PT mw_L (d + 6)) mw_L pg_X12_product ((45, [some (.ref 0), some (.int u1), some (.int j2), none, none], [.int k0]), (h, g, mw_R (some 7))) v9 h9 := by
  unfold j_Mo_product_r7_45 at hf
  refine rh_Ex.blk 9 (s' := ((58, [some (.ref 0), some (.int u1), some (.int j2), some (.int k0), none], [.int u1, .ref 0]), (rh_up h 0 13 ((h 0 13) + (1 : Int32)), g, mw_R (some 7)))) rfl ?_
  obtain ⟨x8, hx8, hf⟩ := rh_bq hf
  refine rh_Ex.call (j := 203) (rc := some 11) [.ref 0, .int u1] [] (some (.int x8.1)) rfl rfl rfl (Nat.le_of_ble_eq_true rfl) (rh_M_le (Nat.add_le_add_left (Nat.le_of_ble_eq_true rfl) d) (hT (rh_up h 0 13 ((h 0 13) + (1 : Int32))) g u1 _ hx8)) ?_
  show rh_Ex _ _ _ ((61, [some (.ref 0), some (.int u1), some (.int j2), some (.int k0), none], [.int x8.1]), (x8.2, g, mw_R (some 7))) _ _
  refine rh_Ex.blk 2 (s' := ((64, [some (.ref 0), some (.int u1), some (.int j2), some (.int k0), some (.int x8.1)], [.int k0]), (x8.2, g, mw_R (some 7)))) rfl ?_
  by_cases q9 : k0 = 0
  · rw [if_pos q9] at hf
    refine rh_Ex.stp (s' := ((74, [some (.ref 0), some (.int u1), some (.int j2), some (.int k0), some (.int x8.1)], []), (x8.2, g, mw_R (some 7)))) rfl (st_ifeq_p q9) ?_
    refine rh_Ex.blk 1 (s' := ((76, [some (.ref 0), some (.int u1), some (.int j2), some (.int k0), some (.int x8.1)], [.int x8.1]), (x8.2, g, mw_R (some 7)))) rfl ?_
    by_cases q10 : x8.1 = 0
    · rw [if_pos q10] at hf
      refine rh_Ex.stp (s' := ((79, [some (.ref 0), some (.int u1), some (.int j2), some (.int k0), some (.int x8.1)], []), (x8.2, g, mw_R (some 7)))) rfl (st_ifne_p q10) ?_
      refine rh_Ex.blk 4 (s' := ((6, [some (.ref 0), some (.int u1), some (.int (0 : Int32)), some (.int k0), some (.int x8.1)], []), (x8.2, g, mw_R (some 7)))) rfl ?_
      obtain rfl := Option.some.inj hf
      refine rh_Ex.fgt [some (.ref 0), some (.int u1), some (.int (0 : Int32)), none, none] ⟨rfl, rfl, rfl, trivial⟩ ?_
      exact hk
    · rw [if_neg q10] at hf
      refine rh_Ex.stp (s' := ((83, [some (.ref 0), some (.int u1), some (.int j2), some (.int k0), some (.int x8.1)], []), (x8.2, g, mw_R (some 7)))) rfl (st_ifne_n q10) ?_
      refine rh_Ex.blk 2 (s' := ((86, [some (.ref 0), some (.int u1), some (.int j2), some (.int k0), some (.int x8.1)], [.int x8.1, .int j2]), (x8.2, g, mw_R (some 7)))) rfl ?_
      obtain ⟨q11, hf⟩ := rh_gq hf
      refine rh_Ex.stp (s' := ((87, [some (.ref 0), some (.int u1), some (.int j2), some (.int k0), some (.int x8.1)], [.int (j2 / x8.1)]), (x8.2, g, mw_R (some 7)))) rfl (st_idiv q11) ?_
      refine rh_Ex.blk 2 (s' := ((6, [some (.ref 0), some (.int u1), some (.int (j2 / x8.1)), some (.int k0), some (.int x8.1)], []), (x8.2, g, mw_R (some 7)))) rfl ?_
      obtain rfl := Option.some.inj hf
      refine rh_Ex.fgt [some (.ref 0), some (.int u1), some (.int (j2 / x8.1)), none, none] ⟨rfl, rfl, rfl, trivial⟩ ?_
      exact hk
  · rw [if_neg q9] at hf
    refine rh_Ex.stp (s' := ((67, [some (.ref 0), some (.int u1), some (.int j2), some (.int k0), some (.int x8.1)], []), (x8.2, g, mw_R (some 7)))) rfl (st_ifeq_n q9) ?_
    refine rh_Ex.blk 6 (s' := ((6, [some (.ref 0), some (.int u1), some (.int (j2 * x8.1)), some (.int k0), some (.int x8.1)], []), (x8.2, g, mw_R (some 7)))) rfl ?_
    obtain rfl := Option.some.inj hf
    refine rh_Ex.fgt [some (.ref 0), some (.int u1), some (.int (j2 * x8.1)), none, none] ⟨rfl, rfl, rfl, trivial⟩ ?_
    exact hk
set_option maxRecDepth 20000 in
set_option maxHeartbeats 4000000 in
theorem lj_Mo_product_r7_31 (d : Nat) (T : (Nat → Nat → Int32) → Int32 → Option (Int32 × (Nat → Nat → Int32))) (hT : ∀ (h : Nat → Nat → Int32) (g : Nat → Nat → Int64) (a0 : Int32) z, T h a0 = some z → rh_M rh_PT mw_L (d + 6) 203 [.ref 0, .int a0] (h, g, mw_R (some 7)) (some (.int z.1)) (z.2, g, mw_R (some 7))) (h : Nat → Nat → Int32) (u1 : Int32) (j2 : Int32) (g : Nat → Nat → Int64) (v9 : Option Value) (h9 : rh_H) (x9 : (Int32 × (Nat → Nat → Int32)) ⊕ (Int32 × (Nat → Nat → Int32))) (hf : j_Mo_product_r7_31 T h u1 j2 = some x9) (hk : Sum.elim (fun s6 => rh_Ex (rh_M rh_PT mw_L (d + 6)) mw_L pg_X12_product ((6, [some (.ref 0), some (.int u1), some (.int s6.1), none, none], []), (s6.2, g, mw_R (some 7))) v9 h9) (fun e9 => rh_Ex (rh_M rh_PT mw_L (d + 6)) mw_L pg_X12_product ((91, [none, none, some (.int e9.1), none, none], []), (e9.2, g, mw_R (some 7))) v9 h9) x9) : rh_Ex (rh_M rh_PT mw_L (d + 6)) mw_L pg_X12_product ((31, [some (.ref 0), some (.int u1), some (.int j2), none, none], []), (h, g, mw_R (some 7))) v9 h9 := by
  unfold j_Mo_product_r7_31 at hf
  refine rh_Ex.blk 1 (s' := ((32, [some (.ref 0), some (.int u1), some (.int j2), none, none], [.ref 0]), (h, g, mw_R (some 7)))) rfl ?_
  obtain ⟨x6, hx6, hf⟩ := rh_bq hf
  refine rh_Ex.call (j := 191) (rc := some 11) [.ref 0] [] (some (.int x6)) rfl rfl rfl (Nat.le_of_ble_eq_true rfl) (R_Mo_here_r7 (d + 5) h g  hx6) ?_
  show rh_Ex _ _ _ ((35, [some (.ref 0), some (.int u1), some (.int j2), none, none], [.int x6]), (h, g, mw_R (some 7))) _ _
  refine rh_Ex.blk 1 (s' := ((37, [some (.ref 0), some (.int u1), some (.int j2), none, none], [.int (42 : Int32), .int x6]), (h, g, mw_R (some 7)))) rfl ?_
  by_cases q7 : x6 = (42 : Int32)
  · rw [if_pos q7] at hf
    refine rh_Ex.stp (s' := ((40, [some (.ref 0), some (.int u1), some (.int j2), none, none], []), (h, g, mw_R (some 7)))) rfl (st_icne_p q7) ?_
    refine rh_Ex.blk 2 (s' := ((45, [some (.ref 0), some (.int u1), some (.int j2), none, none], [.int (1 : Int32)]), (h, g, mw_R (some 7)))) rfl ?_
    refine rh_Ex.fgt [some (.ref 0), some (.int u1), some (.int j2), none, none] ⟨rfl, rfl, rfl, trivial⟩ ?_
    exact lj_Mo_product_r7_45 d T hT h u1 j2 (1 : Int32) g _ _ _ hf hk
  · rw [if_neg q7] at hf
    refine rh_Ex.stp (s' := ((44, [some (.ref 0), some (.int u1), some (.int j2), none, none], []), (h, g, mw_R (some 7)))) rfl (st_icne_n q7) ?_
    refine rh_Ex.blk 1 (s' := ((45, [some (.ref 0), some (.int u1), some (.int j2), none, none], [.int (0 : Int32)]), (h, g, mw_R (some 7)))) rfl ?_
    refine rh_Ex.fgt [some (.ref 0), some (.int u1), some (.int j2), none, none] ⟨rfl, rfl, rfl, trivial⟩ ?_
    exact lj_Mo_product_r7_45 d T hT h u1 j2 (0 : Int32) g _ _ _ hf hk
set_option maxRecDepth 20000 in
set_option maxHeartbeats 4000000 in
theorem lb_Mo_product_r7_6 (d : Nat) (T : (Nat → Nat → Int32) → Int32 → Option (Int32 × (Nat → Nat → Int32))) (hT : ∀ (h : Nat → Nat → Int32) (g : Nat → Nat → Int64) (a0 : Int32) z, T h a0 = some z → rh_M rh_PT mw_L (d + 6) 203 [.ref 0, .int a0] (h, g, mw_R (some 7)) (some (.int z.1)) (z.2, g, mw_R (some 7))) (u1 : Int32) (g : Nat → Nat → Int64) (v9 : Option Value) (h9 : rh_H) : ∀ s6 x9, b_Mo_product_r7_6 T u1 s6 = some x9 → Sum.elim (fun s6 => rh_Ex (rh_M rh_PT mw_L (d + 6)) mw_L pg_X12_product ((6, [some (.ref 0), some (.int u1), some (.int s6.1), none, none], []), (s6.2, g, mw_R (some 7))) v9 h9) (fun e9 => rh_Ex (rh_M rh_PT mw_L (d + 6)) mw_L pg_X12_product ((91, [none, none, some (.int e9.1), none, none], []), (e9.2, g, mw_R (some 7))) v9 h9) x9 → rh_Ex (rh_M rh_PT mw_L (d + 6)) mw_L pg_X12_product ((6, [some (.ref 0), some (.int u1), some (.int s6.1), none, none], []), (s6.2, g, mw_R (some 7))) v9 h9 := by
  intro s6 x9 hf hk
  unfold b_Mo_product_r7_6 at hf
  refine rh_Ex.blk 1 (s' := ((7, [some (.ref 0), some (.int u1), some (.int s6.1), none, none], [.ref 0]), (s6.2, g, mw_R (some 7)))) rfl ?_
  refine rh_Ex.call (j := 192) (rc := some 11) [.ref 0] [] (some (.int (f_Mo_fine s6.2))) rfl rfl rfl (Nat.le_of_ble_eq_true rfl) (R_Mo_fine (d + 5) (some 7) s6.2 g  rfl) ?_
  show rh_Ex _ _ _ ((10, [some (.ref 0), some (.int u1), some (.int s6.1), none, none], [.int (f_Mo_fine s6.2)]), (s6.2, g, mw_R (some 7))) _ _
  by_cases q3 : (f_Mo_fine s6.2) = 0
  · rw [if_pos q3] at hf
    refine rh_Ex.stp (s' := ((91, [some (.ref 0), some (.int u1), some (.int s6.1), none, none], []), (s6.2, g, mw_R (some 7)))) rfl (st_ifeq_p q3) ?_
    obtain rfl := Option.some.inj hf
    refine rh_Ex.fgt [none, none, some (.int s6.1), none, none] ⟨rfl, trivial⟩ ?_
    exact hk
  · rw [if_neg q3] at hf
    refine rh_Ex.stp (s' := ((13, [some (.ref 0), some (.int u1), some (.int s6.1), none, none], []), (s6.2, g, mw_R (some 7)))) rfl (st_ifeq_n q3) ?_
    refine rh_Ex.blk 1 (s' := ((14, [some (.ref 0), some (.int u1), some (.int s6.1), none, none], [.ref 0]), (s6.2, g, mw_R (some 7)))) rfl ?_
    obtain ⟨x4, hx4, hf⟩ := rh_bq hf
    refine rh_Ex.call (j := 191) (rc := some 11) [.ref 0] [] (some (.int x4)) rfl rfl rfl (Nat.le_of_ble_eq_true rfl) (R_Mo_here_r7 (d + 5) s6.2 g  hx4) ?_
    show rh_Ex _ _ _ ((17, [some (.ref 0), some (.int u1), some (.int s6.1), none, none], [.int x4]), (s6.2, g, mw_R (some 7))) _ _
    refine rh_Ex.blk 1 (s' := ((19, [some (.ref 0), some (.int u1), some (.int s6.1), none, none], [.int (42 : Int32), .int x4]), (s6.2, g, mw_R (some 7)))) rfl ?_
    by_cases q5 : x4 = (42 : Int32)
    · rw [if_pos q5] at hf
      refine rh_Ex.stp (s' := ((31, [some (.ref 0), some (.int u1), some (.int s6.1), none, none], []), (s6.2, g, mw_R (some 7)))) rfl (st_iceq_p q5) ?_
      refine rh_Ex.fgt [some (.ref 0), some (.int u1), some (.int s6.1), none, none] ⟨rfl, rfl, rfl, trivial⟩ ?_
      exact lj_Mo_product_r7_31 d T hT s6.2 u1 s6.1 g _ _ _ hf hk
    · rw [if_neg q5] at hf
      refine rh_Ex.stp (s' := ((22, [some (.ref 0), some (.int u1), some (.int s6.1), none, none], []), (s6.2, g, mw_R (some 7)))) rfl (st_iceq_n q5) ?_
      refine rh_Ex.blk 1 (s' := ((23, [some (.ref 0), some (.int u1), some (.int s6.1), none, none], [.ref 0]), (s6.2, g, mw_R (some 7)))) rfl ?_
      obtain ⟨x12, hx12, hf⟩ := rh_bq hf
      refine rh_Ex.call (j := 191) (rc := some 11) [.ref 0] [] (some (.int x12)) rfl rfl rfl (Nat.le_of_ble_eq_true rfl) (R_Mo_here_r7 (d + 5) s6.2 g  hx12) ?_
      show rh_Ex _ _ _ ((26, [some (.ref 0), some (.int u1), some (.int s6.1), none, none], [.int x12]), (s6.2, g, mw_R (some 7))) _ _
      refine rh_Ex.blk 1 (s' := ((28, [some (.ref 0), some (.int u1), some (.int s6.1), none, none], [.int (47 : Int32), .int x12]), (s6.2, g, mw_R (some 7)))) rfl ?_
      by_cases q13 : x12 = (47 : Int32)
      · rw [if_pos q13] at hf
        refine rh_Ex.stp (s' := ((31, [some (.ref 0), some (.int u1), some (.int s6.1), none, none], []), (s6.2, g, mw_R (some 7)))) rfl (st_icne_p q13) ?_
        refine rh_Ex.fgt [some (.ref 0), some (.int u1), some (.int s6.1), none, none] ⟨rfl, rfl, rfl, trivial⟩ ?_
        exact lj_Mo_product_r7_31 d T hT s6.2 u1 s6.1 g _ _ _ hf hk
      · rw [if_neg q13] at hf
        refine rh_Ex.stp (s' := ((91, [some (.ref 0), some (.int u1), some (.int s6.1), none, none], []), (s6.2, g, mw_R (some 7)))) rfl (st_icne_n q13) ?_
        obtain rfl := Option.some.inj hf
        refine rh_Ex.fgt [none, none, some (.int s6.1), none, none] ⟨rfl, trivial⟩ ?_
        exact hk
set_option maxRecDepth 20000 in
set_option maxHeartbeats 4000000 in
theorem R_Mo_product_r7 (d : Nat) (T : (Nat → Nat → Int32) → Int32 → Option (Int32 × (Nat → Nat → Int32))) (hT : ∀ (h : Nat → Nat → Int32) (g : Nat → Nat → Int64) (a0 : Int32) z, T h a0 = some z → rh_M rh_PT mw_L (d + 6) 203 [.ref 0, .int a0] (h, g, mw_R (some 7)) (some (.int z.1)) (z.2, g, mw_R (some 7))) (h : Nat → Nat → Int32) (g : Nat → Nat → Int64) (p0 : Int32) {z9 : Int32 × (Nat → Nat → Int32)} (hf : f_Mo_product_r7 T h p0 = some z9) : rh_M rh_PT mw_L (d + 7) 202 [.ref 0, .int p0] (h, g, mw_R (some 7)) (some (.int z9.1)) (z9.2, g, mw_R (some 7)) := by
  unfold f_Mo_product_r7 at hf
  refine rh_go pt_202 (Nat.le_of_ble_eq_true rfl) (lv := [some (.ref 0), some (.int p0), none, none, none]) rfl ?_
  refine rh_Ex.blk 2 (s' := ((2, [some (.ref 0), some (.int p0), none, none, none], [.int p0, .ref 0]), (h, g, mw_R (some 7)))) rfl ?_
  obtain ⟨x1, hx1, hf⟩ := rh_bq hf
  refine rh_Ex.call (j := 203) (rc := some 11) [.ref 0, .int p0] [] (some (.int x1.1)) rfl rfl rfl (Nat.le_of_ble_eq_true rfl) (rh_M_le (Nat.add_le_add_left (Nat.le_of_ble_eq_true rfl) d) (hT h g p0 _ hx1)) ?_
  show rh_Ex _ _ _ ((5, [some (.ref 0), some (.int p0), none, none, none], [.int x1.1]), (x1.2, g, mw_R (some 7))) _ _
  refine rh_Ex.blk 1 (s' := ((6, [some (.ref 0), some (.int p0), some (.int x1.1), none, none], []), (x1.2, g, mw_R (some 7)))) rfl ?_
  obtain ⟨r14, hr14, hf⟩ := rh_bq hf
  refine rh_Ex.fgt [some (.ref 0), some (.int p0), some (.int x1.1), none, none] ⟨rfl, rfl, rfl, trivial⟩ ?_
  refine rh_Ex.loop _ _ _ (lb_Mo_product_r7_6 d T hT p0  g _ _) rh_N _ r14 hr14 ?_
  refine rh_Ex.blk 1 (s' := ((92, [none, none, some (.int r14.1), none, none], [.int r14.1]), (r14.2, g, mw_R (some 7)))) rfl ?_
  obtain rfl := Option.some.inj hf
  exact rh_Ex.ret rfl rfl
def j_Mo_sum_r7_31 (T : (Nat → Nat → Int32) → Int32 → Option (Int32 × (Nat → Nat → Int32))) (h : Nat → Nat → Int32) (u1 : Int32) (j2 : Int32) : Option ((Int32 × (Nat → Nat → Int32)) ⊕ (Int32 × (Nat → Nat → Int32))) :=
  (f_Mo_here_r7 h).bind (fun x6 =>
    if x6 = (43 : Int32) then
      (f_Mo_product_r7 T (rh_up h 0 13 ((h 0 13) + (1 : Int32))) u1).bind (fun x8 =>
        if (1 : Int32) = 0 then
          some (.inl (j2 - x8.1, x8.2))
        else
          some (.inl (j2 + x8.1, x8.2))
      )
    else
      (f_Mo_product_r7 T (rh_up h 0 13 ((h 0 13) + (1 : Int32))) u1).bind (fun x10 =>
        if (0 : Int32) = 0 then
          some (.inl (j2 - x10.1, x10.2))
        else
          some (.inl (j2 + x10.1, x10.2))
      )
  )
def b_Mo_sum_r7_6 (T : (Nat → Nat → Int32) → Int32 → Option (Int32 × (Nat → Nat → Int32))) (u1 : Int32) : (Int32 × (Nat → Nat → Int32)) → Option ((Int32 × (Nat → Nat → Int32)) ⊕ (Int32 × (Nat → Nat → Int32))) := fun s6 =>
  if (f_Mo_fine s6.2) = 0 then
    some (.inr (s6.1, s6.2))
  else
    (f_Mo_here_r7 s6.2).bind (fun x4 =>
      if x4 = (43 : Int32) then
        j_Mo_sum_r7_31 T s6.2 u1 s6.1
      else
        (f_Mo_here_r7 s6.2).bind (fun x12 =>
          if x12 = (45 : Int32) then
            j_Mo_sum_r7_31 T s6.2 u1 s6.1
          else
            some (.inr (s6.1, s6.2))
        )
    )
def f_Mo_sum_r7 (T : (Nat → Nat → Int32) → Int32 → Option (Int32 × (Nat → Nat → Int32))) (h : Nat → Nat → Int32) (p0 : Int32) : Option (Int32 × (Nat → Nat → Int32)) :=
  (f_Mo_product_r7 T h p0).bind (fun x1 =>
    (rh_loop (b_Mo_sum_r7_6 T p0) rh_N (x1.1, x1.2)).bind (fun r14 =>
      some ((r14.1, r14.2))
    )
  )
set_option maxRecDepth 20000 in
set_option maxHeartbeats 4000000 in
theorem lj_Mo_sum_r7_31 (d : Nat) (T : (Nat → Nat → Int32) → Int32 → Option (Int32 × (Nat → Nat → Int32))) (hT : ∀ (h : Nat → Nat → Int32) (g : Nat → Nat → Int64) (a0 : Int32) z, T h a0 = some z → rh_M rh_PT mw_L (d + 6) 203 [.ref 0, .int a0] (h, g, mw_R (some 7)) (some (.int z.1)) (z.2, g, mw_R (some 7))) (h : Nat → Nat → Int32) (u1 : Int32) (j2 : Int32) (g : Nat → Nat → Int64) (v9 : Option Value) (h9 : rh_H) (x9 : (Int32 × (Nat → Nat → Int32)) ⊕ (Int32 × (Nat → Nat → Int32))) (hf : j_Mo_sum_r7_31 T h u1 j2 = some x9) (hk : Sum.elim (fun s6 => rh_Ex (rh_M rh_PT mw_L (d + 7)) mw_L pg_X12_sum ((6, [some (.ref 0), some (.int u1), some (.int s6.1), none, none], []), (s6.2, g, mw_R (some 7))) v9 h9) (fun e9 => rh_Ex (rh_M rh_PT mw_L (d + 7)) mw_L pg_X12_sum ((82, [none, none, some (.int e9.1), none, none], []), (e9.2, g, mw_R (some 7))) v9 h9) x9) : rh_Ex (rh_M rh_PT mw_L (d + 7)) mw_L pg_X12_sum ((31, [some (.ref 0), some (.int u1), some (.int j2), none, none], []), (h, g, mw_R (some 7))) v9 h9 := by
  unfold j_Mo_sum_r7_31 at hf
  refine rh_Ex.blk 1 (s' := ((32, [some (.ref 0), some (.int u1), some (.int j2), none, none], [.ref 0]), (h, g, mw_R (some 7)))) rfl ?_
  obtain ⟨x6, hx6, hf⟩ := rh_bq hf
  refine rh_Ex.call (j := 191) (rc := some 11) [.ref 0] [] (some (.int x6)) rfl rfl rfl (Nat.le_of_ble_eq_true rfl) (R_Mo_here_r7 (d + 6) h g  hx6) ?_
  show rh_Ex _ _ _ ((35, [some (.ref 0), some (.int u1), some (.int j2), none, none], [.int x6]), (h, g, mw_R (some 7))) _ _
  refine rh_Ex.blk 1 (s' := ((37, [some (.ref 0), some (.int u1), some (.int j2), none, none], [.int (43 : Int32), .int x6]), (h, g, mw_R (some 7)))) rfl ?_
  by_cases q7 : x6 = (43 : Int32)
  · rw [if_pos q7] at hf
    refine rh_Ex.stp (s' := ((40, [some (.ref 0), some (.int u1), some (.int j2), none, none], []), (h, g, mw_R (some 7)))) rfl (st_icne_p q7) ?_
    refine rh_Ex.blk 11 (s' := ((58, [some (.ref 0), some (.int u1), some (.int j2), some (.int (1 : Int32)), none], [.int u1, .ref 0]), (rh_up h 0 13 ((h 0 13) + (1 : Int32)), g, mw_R (some 7)))) rfl ?_
    obtain ⟨x8, hx8, hf⟩ := rh_bq hf
    refine rh_Ex.call (j := 202) (rc := some 11) [.ref 0, .int u1] [] (some (.int x8.1)) rfl rfl rfl (Nat.le_of_ble_eq_true rfl) (R_Mo_product_r7 d T hT (rh_up h 0 13 ((h 0 13) + (1 : Int32))) g u1 hx8) ?_
    show rh_Ex _ _ _ ((61, [some (.ref 0), some (.int u1), some (.int j2), some (.int (1 : Int32)), none], [.int x8.1]), (x8.2, g, mw_R (some 7))) _ _
    refine rh_Ex.blk 2 (s' := ((64, [some (.ref 0), some (.int u1), some (.int j2), some (.int (1 : Int32)), some (.int x8.1)], [.int (1 : Int32)]), (x8.2, g, mw_R (some 7)))) rfl ?_
    by_cases q9 : (1 : Int32) = 0
    · rw [if_pos q9] at hf
      refine rh_Ex.stp (s' := ((74, [some (.ref 0), some (.int u1), some (.int j2), some (.int (1 : Int32)), some (.int x8.1)], []), (x8.2, g, mw_R (some 7)))) rfl (st_ifeq_p q9) ?_
      refine rh_Ex.blk 5 (s' := ((6, [some (.ref 0), some (.int u1), some (.int (j2 - x8.1)), some (.int (1 : Int32)), some (.int x8.1)], []), (x8.2, g, mw_R (some 7)))) rfl ?_
      obtain rfl := Option.some.inj hf
      refine rh_Ex.fgt [some (.ref 0), some (.int u1), some (.int (j2 - x8.1)), none, none] ⟨rfl, rfl, rfl, trivial⟩ ?_
      exact hk
    · rw [if_neg q9] at hf
      refine rh_Ex.stp (s' := ((67, [some (.ref 0), some (.int u1), some (.int j2), some (.int (1 : Int32)), some (.int x8.1)], []), (x8.2, g, mw_R (some 7)))) rfl (st_ifeq_n q9) ?_
      refine rh_Ex.blk 6 (s' := ((6, [some (.ref 0), some (.int u1), some (.int (j2 + x8.1)), some (.int (1 : Int32)), some (.int x8.1)], []), (x8.2, g, mw_R (some 7)))) rfl ?_
      obtain rfl := Option.some.inj hf
      refine rh_Ex.fgt [some (.ref 0), some (.int u1), some (.int (j2 + x8.1)), none, none] ⟨rfl, rfl, rfl, trivial⟩ ?_
      exact hk
  · rw [if_neg q7] at hf
    refine rh_Ex.stp (s' := ((44, [some (.ref 0), some (.int u1), some (.int j2), none, none], []), (h, g, mw_R (some 7)))) rfl (st_icne_n q7) ?_
    refine rh_Ex.blk 10 (s' := ((58, [some (.ref 0), some (.int u1), some (.int j2), some (.int (0 : Int32)), none], [.int u1, .ref 0]), (rh_up h 0 13 ((h 0 13) + (1 : Int32)), g, mw_R (some 7)))) rfl ?_
    obtain ⟨x10, hx10, hf⟩ := rh_bq hf
    refine rh_Ex.call (j := 202) (rc := some 11) [.ref 0, .int u1] [] (some (.int x10.1)) rfl rfl rfl (Nat.le_of_ble_eq_true rfl) (R_Mo_product_r7 d T hT (rh_up h 0 13 ((h 0 13) + (1 : Int32))) g u1 hx10) ?_
    show rh_Ex _ _ _ ((61, [some (.ref 0), some (.int u1), some (.int j2), some (.int (0 : Int32)), none], [.int x10.1]), (x10.2, g, mw_R (some 7))) _ _
    refine rh_Ex.blk 2 (s' := ((64, [some (.ref 0), some (.int u1), some (.int j2), some (.int (0 : Int32)), some (.int x10.1)], [.int (0 : Int32)]), (x10.2, g, mw_R (some 7)))) rfl ?_
    by_cases q11 : (0 : Int32) = 0
    · rw [if_pos q11] at hf
      refine rh_Ex.stp (s' := ((74, [some (.ref 0), some (.int u1), some (.int j2), some (.int (0 : Int32)), some (.int x10.1)], []), (x10.2, g, mw_R (some 7)))) rfl (st_ifeq_p q11) ?_
      refine rh_Ex.blk 5 (s' := ((6, [some (.ref 0), some (.int u1), some (.int (j2 - x10.1)), some (.int (0 : Int32)), some (.int x10.1)], []), (x10.2, g, mw_R (some 7)))) rfl ?_
      obtain rfl := Option.some.inj hf
      refine rh_Ex.fgt [some (.ref 0), some (.int u1), some (.int (j2 - x10.1)), none, none] ⟨rfl, rfl, rfl, trivial⟩ ?_
      exact hk
    · rw [if_neg q11] at hf
      refine rh_Ex.stp (s' := ((67, [some (.ref 0), some (.int u1), some (.int j2), some (.int (0 : Int32)), some (.int x10.1)], []), (x10.2, g, mw_R (some 7)))) rfl (st_ifeq_n q11) ?_
      refine rh_Ex.blk 6 (s' := ((6, [some (.ref 0), some (.int u1), some (.int (j2 + x10.1)), some (.int (0 : Int32)), some (.int x10.1)], []), (x10.2, g, mw_R (some 7)))) rfl ?_
      obtain rfl := Option.some.inj hf
      refine rh_Ex.fgt [some (.ref 0), some (.int u1), some (.int (j2 + x10.1)), none, none] ⟨rfl, rfl, rfl, trivial⟩ ?_
      exact hk
set_option maxRecDepth 20000 in
set_option maxHeartbeats 4000000 in
theorem lb_Mo_sum_r7_6 (d : Nat) (T : (Nat → Nat → Int32) → Int32 → Option (Int32 × (Nat → Nat → Int32))) (hT : ∀ (h : Nat → Nat → Int32) (g : Nat → Nat → Int64) (a0 : Int32) z, T h a0 = some z → rh_M rh_PT mw_L (d + 6) 203 [.ref 0, .int a0] (h, g, mw_R (some 7)) (some (.int z.1)) (z.2, g, mw_R (some 7))) (u1 : Int32) (g : Nat → Nat → Int64) (v9 : Option Value) (h9 : rh_H) : ∀ s6 x9, b_Mo_sum_r7_6 T u1 s6 = some x9 → Sum.elim (fun s6 => rh_Ex (rh_M rh_PT mw_L (d + 7)) mw_L pg_X12_sum ((6, [some (.ref 0), some (.int u1), some (.int s6.1), none, none], []), (s6.2, g, mw_R (some 7))) v9 h9) (fun e9 => rh_Ex (rh_M rh_PT mw_L (d + 7)) mw_L pg_X12_sum ((82, [none, none, some (.int e9.1), none, none], []), (e9.2, g, mw_R (some 7))) v9 h9) x9 → rh_Ex (rh_M rh_PT mw_L (d + 7)) mw_L pg_X12_sum ((6, [some (.ref 0), some (.int u1), some (.int s6.1), none, none], []), (s6.2, g, mw_R (some 7))) v9 h9 := by
  intro s6 x9 hf hk
  unfold b_Mo_sum_r7_6 at hf
  refine rh_Ex.blk 1 (s' := ((7, [some (.ref 0), some (.int u1), some (.int s6.1), none, none], [.ref 0]), (s6.2, g, mw_R (some 7)))) rfl ?_
  refine rh_Ex.call (j := 192) (rc := some 11) [.ref 0] [] (some (.int (f_Mo_fine s6.2))) rfl rfl rfl (Nat.le_of_ble_eq_true rfl) (R_Mo_fine (d + 6) (some 7) s6.2 g  rfl) ?_
  show rh_Ex _ _ _ ((10, [some (.ref 0), some (.int u1), some (.int s6.1), none, none], [.int (f_Mo_fine s6.2)]), (s6.2, g, mw_R (some 7))) _ _
  by_cases q3 : (f_Mo_fine s6.2) = 0
  · rw [if_pos q3] at hf
    refine rh_Ex.stp (s' := ((82, [some (.ref 0), some (.int u1), some (.int s6.1), none, none], []), (s6.2, g, mw_R (some 7)))) rfl (st_ifeq_p q3) ?_
    obtain rfl := Option.some.inj hf
    refine rh_Ex.fgt [none, none, some (.int s6.1), none, none] ⟨rfl, trivial⟩ ?_
    exact hk
  · rw [if_neg q3] at hf
    refine rh_Ex.stp (s' := ((13, [some (.ref 0), some (.int u1), some (.int s6.1), none, none], []), (s6.2, g, mw_R (some 7)))) rfl (st_ifeq_n q3) ?_
    refine rh_Ex.blk 1 (s' := ((14, [some (.ref 0), some (.int u1), some (.int s6.1), none, none], [.ref 0]), (s6.2, g, mw_R (some 7)))) rfl ?_
    obtain ⟨x4, hx4, hf⟩ := rh_bq hf
    refine rh_Ex.call (j := 191) (rc := some 11) [.ref 0] [] (some (.int x4)) rfl rfl rfl (Nat.le_of_ble_eq_true rfl) (R_Mo_here_r7 (d + 6) s6.2 g  hx4) ?_
    show rh_Ex _ _ _ ((17, [some (.ref 0), some (.int u1), some (.int s6.1), none, none], [.int x4]), (s6.2, g, mw_R (some 7))) _ _
    refine rh_Ex.blk 1 (s' := ((19, [some (.ref 0), some (.int u1), some (.int s6.1), none, none], [.int (43 : Int32), .int x4]), (s6.2, g, mw_R (some 7)))) rfl ?_
    by_cases q5 : x4 = (43 : Int32)
    · rw [if_pos q5] at hf
      refine rh_Ex.stp (s' := ((31, [some (.ref 0), some (.int u1), some (.int s6.1), none, none], []), (s6.2, g, mw_R (some 7)))) rfl (st_iceq_p q5) ?_
      refine rh_Ex.fgt [some (.ref 0), some (.int u1), some (.int s6.1), none, none] ⟨rfl, rfl, rfl, trivial⟩ ?_
      exact lj_Mo_sum_r7_31 d T hT s6.2 u1 s6.1 g _ _ _ hf hk
    · rw [if_neg q5] at hf
      refine rh_Ex.stp (s' := ((22, [some (.ref 0), some (.int u1), some (.int s6.1), none, none], []), (s6.2, g, mw_R (some 7)))) rfl (st_iceq_n q5) ?_
      refine rh_Ex.blk 1 (s' := ((23, [some (.ref 0), some (.int u1), some (.int s6.1), none, none], [.ref 0]), (s6.2, g, mw_R (some 7)))) rfl ?_
      obtain ⟨x12, hx12, hf⟩ := rh_bq hf
      refine rh_Ex.call (j := 191) (rc := some 11) [.ref 0] [] (some (.int x12)) rfl rfl rfl (Nat.le_of_ble_eq_true rfl) (R_Mo_here_r7 (d + 6) s6.2 g  hx12) ?_
      show rh_Ex _ _ _ ((26, [some (.ref 0), some (.int u1), some (.int s6.1), none, none], [.int x12]), (s6.2, g, mw_R (some 7))) _ _
      refine rh_Ex.blk 1 (s' := ((28, [some (.ref 0), some (.int u1), some (.int s6.1), none, none], [.int (45 : Int32), .int x12]), (s6.2, g, mw_R (some 7)))) rfl ?_
      by_cases q13 : x12 = (45 : Int32)
      · rw [if_pos q13] at hf
        refine rh_Ex.stp (s' := ((31, [some (.ref 0), some (.int u1), some (.int s6.1), none, none], []), (s6.2, g, mw_R (some 7)))) rfl (st_icne_p q13) ?_
        refine rh_Ex.fgt [some (.ref 0), some (.int u1), some (.int s6.1), none, none] ⟨rfl, rfl, rfl, trivial⟩ ?_
        exact lj_Mo_sum_r7_31 d T hT s6.2 u1 s6.1 g _ _ _ hf hk
      · rw [if_neg q13] at hf
        refine rh_Ex.stp (s' := ((82, [some (.ref 0), some (.int u1), some (.int s6.1), none, none], []), (s6.2, g, mw_R (some 7)))) rfl (st_icne_n q13) ?_
        obtain rfl := Option.some.inj hf
        refine rh_Ex.fgt [none, none, some (.int s6.1), none, none] ⟨rfl, trivial⟩ ?_
        exact hk
set_option maxRecDepth 20000 in
set_option maxHeartbeats 4000000 in
theorem R_Mo_sum_r7 (d : Nat) (T : (Nat → Nat → Int32) → Int32 → Option (Int32 × (Nat → Nat → Int32))) (hT : ∀ (h : Nat → Nat → Int32) (g : Nat → Nat → Int64) (a0 : Int32) z, T h a0 = some z → rh_M rh_PT mw_L (d + 6) 203 [.ref 0, .int a0] (h, g, mw_R (some 7)) (some (.int z.1)) (z.2, g, mw_R (some 7))) (h : Nat → Nat → Int32) (g : Nat → Nat → Int64) (p0 : Int32) {z9 : Int32 × (Nat → Nat → Int32)} (hf : f_Mo_sum_r7 T h p0 = some z9) : rh_M rh_PT mw_L (d + 8) 201 [.ref 0, .int p0] (h, g, mw_R (some 7)) (some (.int z9.1)) (z9.2, g, mw_R (some 7)) := by
  unfold f_Mo_sum_r7 at hf
  refine rh_go pt_201 (Nat.le_of_ble_eq_true rfl) (lv := [some (.ref 0), some (.int p0), none, none, none]) rfl ?_
  refine rh_Ex.blk 2 (s' := ((2, [some (.ref 0), some (.int p0), none, none, none], [.int p0, .ref 0]), (h, g, mw_R (some 7)))) rfl ?_
  obtain ⟨x1, hx1, hf⟩ := rh_bq hf
  refine rh_Ex.call (j := 202) (rc := some 11) [.ref 0, .int p0] [] (some (.int x1.1)) rfl rfl rfl (Nat.le_of_ble_eq_true rfl) (R_Mo_product_r7 d T hT h g p0 hx1) ?_
  show rh_Ex _ _ _ ((5, [some (.ref 0), some (.int p0), none, none, none], [.int x1.1]), (x1.2, g, mw_R (some 7))) _ _
  refine rh_Ex.blk 1 (s' := ((6, [some (.ref 0), some (.int p0), some (.int x1.1), none, none], []), (x1.2, g, mw_R (some 7)))) rfl ?_
  obtain ⟨r14, hr14, hf⟩ := rh_bq hf
  refine rh_Ex.fgt [some (.ref 0), some (.int p0), some (.int x1.1), none, none] ⟨rfl, rfl, rfl, trivial⟩ ?_
  refine rh_Ex.loop _ _ _ (lb_Mo_sum_r7_6 d T hT p0  g _ _) rh_N _ r14 hr14 ?_
  refine rh_Ex.blk 1 (s' := ((83, [none, none, some (.int r14.1), none, none], [.int r14.1]), (r14.2, g, mw_R (some 7)))) rfl ?_
  obtain rfl := Option.some.inj hf
  exact rh_Ex.ret rfl rfl
def f_Mo_passes_r7 (h : Nat → Nat → Int32) (p0 : Int32) : Option (Int32 × (Nat → Nat → Int32)) :=
  if (f_Mo_fine h) = 0 then
    some (((0 : Int32), h))
  else
    (f_Mo_here_r7 h).bind (fun x2 =>
      if x2 = p0 then
        some (((1 : Int32), rh_up h 0 13 ((h 0 13) + (1 : Int32))))
      else
        some (((0 : Int32), h))
    )
set_option maxRecDepth 20000 in
set_option maxHeartbeats 4000000 in
theorem R_Mo_passes_r7 (d : Nat) (h : Nat → Nat → Int32) (g : Nat → Nat → Int64) (p0 : Int32) {z9 : Int32 × (Nat → Nat → Int32)} (hf : f_Mo_passes_r7 h p0 = some z9) : rh_M rh_PT mw_L (d + 2) 194 [.ref 0, .int p0] (h, g, mw_R (some 7)) (some (.int z9.1)) (z9.2, g, mw_R (some 7)) := by
  unfold f_Mo_passes_r7 at hf
  refine rh_go pt_194 (Nat.le_of_ble_eq_true rfl) (lv := [some (.ref 0), some (.int p0)]) rfl ?_
  refine rh_Ex.blk 1 (s' := ((1, [some (.ref 0), some (.int p0)], [.ref 0]), (h, g, mw_R (some 7)))) rfl ?_
  refine rh_Ex.call (j := 192) (rc := some 11) [.ref 0] [] (some (.int (f_Mo_fine h))) rfl rfl rfl (Nat.le_of_ble_eq_true rfl) (R_Mo_fine d (some 7) h g  rfl) ?_
  show rh_Ex _ _ _ ((4, [some (.ref 0), some (.int p0)], [.int (f_Mo_fine h)]), (h, g, mw_R (some 7))) _ _
  by_cases q1 : (f_Mo_fine h) = 0
  · rw [if_pos q1] at hf
    refine rh_Ex.stp (s' := ((15, [some (.ref 0), some (.int p0)], []), (h, g, mw_R (some 7)))) rfl (st_ifeq_p q1) ?_
    refine rh_Ex.blk 1 (s' := ((16, [some (.ref 0), some (.int p0)], [.int (0 : Int32)]), (h, g, mw_R (some 7)))) rfl ?_
    obtain rfl := Option.some.inj hf
    exact rh_Ex.ret rfl ⟨rfl, Or.inl rfl⟩
  · rw [if_neg q1] at hf
    refine rh_Ex.stp (s' := ((7, [some (.ref 0), some (.int p0)], []), (h, g, mw_R (some 7)))) rfl (st_ifeq_n q1) ?_
    refine rh_Ex.blk 1 (s' := ((8, [some (.ref 0), some (.int p0)], [.ref 0]), (h, g, mw_R (some 7)))) rfl ?_
    obtain ⟨x2, hx2, hf⟩ := rh_bq hf
    refine rh_Ex.call (j := 191) (rc := some 11) [.ref 0] [] (some (.int x2)) rfl rfl rfl (Nat.le_of_ble_eq_true rfl) (R_Mo_here_r7 d h g  hx2) ?_
    show rh_Ex _ _ _ ((11, [some (.ref 0), some (.int p0)], [.int x2]), (h, g, mw_R (some 7))) _ _
    refine rh_Ex.blk 1 (s' := ((12, [some (.ref 0), some (.int p0)], [.int p0, .int x2]), (h, g, mw_R (some 7)))) rfl ?_
    by_cases q3 : x2 = p0
    · rw [if_pos q3] at hf
      refine rh_Ex.stp (s' := ((17, [some (.ref 0), some (.int p0)], []), (h, g, mw_R (some 7)))) rfl (st_iceq_p q3) ?_
      refine rh_Ex.blk 7 (s' := ((28, [some (.ref 0), some (.int p0)], [.int (1 : Int32)]), (rh_up h 0 13 ((h 0 13) + (1 : Int32)), g, mw_R (some 7)))) rfl ?_
      obtain rfl := Option.some.inj hf
      exact rh_Ex.ret rfl ⟨rfl, Or.inr rfl⟩
    · rw [if_neg q3] at hf
      refine rh_Ex.stp (s' := ((15, [some (.ref 0), some (.int p0)], []), (h, g, mw_R (some 7)))) rfl (st_iceq_n q3) ?_
      refine rh_Ex.blk 1 (s' := ((16, [some (.ref 0), some (.int p0)], [.int (0 : Int32)]), (h, g, mw_R (some 7)))) rfl ?_
      obtain rfl := Option.some.inj hf
      exact rh_Ex.ret rfl ⟨rfl, Or.inl rfl⟩
def f_Mo_held_r7 (T : (Nat → Nat → Int32) → Int32 → Option (Int32 × (Nat → Nat → Int32))) (h : Nat → Nat → Int32) (p0 : Int32) : Option (Int32 × (Nat → Nat → Int32)) :=
  (f_Mo_sum_r7 T h p0).bind (fun x1 =>
    (f_Mo_passes_r7 x1.2 (60 : Int32)).bind (fun x2 =>
      if x2.1 = 0 then
        (f_Mo_passes_r7 x2.2 (62 : Int32)).bind (fun x4 =>
          if x4.1 = 0 then
            (f_Mo_passes_r7 x4.2 (61 : Int32)).bind (fun x6 =>
              if x6.1 = 0 then
                some ((x1.1, x6.2))
              else
                (f_Mo_sum_r7 T x6.2 p0).bind (fun x8 =>
                  if x1.1 = x8.1 then
                    some (((1 : Int32), x8.2))
                  else
                    some (((0 : Int32), x8.2))
                )
            )
          else
            (f_Mo_sum_r7 T x4.2 p0).bind (fun x10 =>
              if x1.1 ≤ x10.1 then
                some (((0 : Int32), x10.2))
              else
                some (((1 : Int32), x10.2))
            )
        )
      else
        (f_Mo_sum_r7 T x2.2 p0).bind (fun x12 =>
          if x12.1 ≤ x1.1 then
            some (((0 : Int32), x12.2))
          else
            some (((1 : Int32), x12.2))
        )
    )
  )
set_option maxRecDepth 20000 in
set_option maxHeartbeats 4000000 in
theorem R_Mo_held_r7 (d : Nat) (T : (Nat → Nat → Int32) → Int32 → Option (Int32 × (Nat → Nat → Int32))) (hT : ∀ (h : Nat → Nat → Int32) (g : Nat → Nat → Int64) (a0 : Int32) z, T h a0 = some z → rh_M rh_PT mw_L (d + 6) 203 [.ref 0, .int a0] (h, g, mw_R (some 7)) (some (.int z.1)) (z.2, g, mw_R (some 7))) (h : Nat → Nat → Int32) (g : Nat → Nat → Int64) (p0 : Int32) {z9 : Int32 × (Nat → Nat → Int32)} (hf : f_Mo_held_r7 T h p0 = some z9) : rh_M rh_PT mw_L (d + 9) 200 [.ref 0, .int p0] (h, g, mw_R (some 7)) (some (.int z9.1)) (z9.2, g, mw_R (some 7)) := by
  unfold f_Mo_held_r7 at hf
  refine rh_go pt_200 (Nat.le_of_ble_eq_true rfl) (lv := [some (.ref 0), some (.int p0), none]) rfl ?_
  refine rh_Ex.blk 2 (s' := ((2, [some (.ref 0), some (.int p0), none], [.int p0, .ref 0]), (h, g, mw_R (some 7)))) rfl ?_
  obtain ⟨x1, hx1, hf⟩ := rh_bq hf
  refine rh_Ex.call (j := 201) (rc := some 11) [.ref 0, .int p0] [] (some (.int x1.1)) rfl rfl rfl (Nat.le_of_ble_eq_true rfl) (R_Mo_sum_r7 d T hT h g p0 hx1) ?_
  show rh_Ex _ _ _ ((5, [some (.ref 0), some (.int p0), none], [.int x1.1]), (x1.2, g, mw_R (some 7))) _ _
  refine rh_Ex.blk 3 (s' := ((9, [some (.ref 0), some (.int p0), some (.int x1.1)], [.int (60 : Int32), .ref 0]), (x1.2, g, mw_R (some 7)))) rfl ?_
  obtain ⟨x2, hx2, hf⟩ := rh_bq hf
  refine rh_Ex.call (j := 194) (rc := some 11) [.ref 0, .int (60 : Int32)] [] (some (.int x2.1)) rfl rfl rfl (Nat.le_of_ble_eq_true rfl) (R_Mo_passes_r7 (d + 6) x1.2 g (60 : Int32) hx2) ?_
  show rh_Ex _ _ _ ((12, [some (.ref 0), some (.int p0), some (.int x1.1)], [.int x2.1]), (x2.2, g, mw_R (some 7))) _ _
  by_cases q3 : x2.1 = 0
  · rw [if_pos q3] at hf
    refine rh_Ex.stp (s' := ((30, [some (.ref 0), some (.int p0), some (.int x1.1)], []), (x2.2, g, mw_R (some 7)))) rfl (st_ifeq_p q3) ?_
    refine rh_Ex.blk 2 (s' := ((33, [some (.ref 0), some (.int p0), some (.int x1.1)], [.int (62 : Int32), .ref 0]), (x2.2, g, mw_R (some 7)))) rfl ?_
    obtain ⟨x4, hx4, hf⟩ := rh_bq hf
    refine rh_Ex.call (j := 194) (rc := some 11) [.ref 0, .int (62 : Int32)] [] (some (.int x4.1)) rfl rfl rfl (Nat.le_of_ble_eq_true rfl) (R_Mo_passes_r7 (d + 6) x2.2 g (62 : Int32) hx4) ?_
    show rh_Ex _ _ _ ((36, [some (.ref 0), some (.int p0), some (.int x1.1)], [.int x4.1]), (x4.2, g, mw_R (some 7))) _ _
    by_cases q5 : x4.1 = 0
    · rw [if_pos q5] at hf
      refine rh_Ex.stp (s' := ((54, [some (.ref 0), some (.int p0), some (.int x1.1)], []), (x4.2, g, mw_R (some 7)))) rfl (st_ifeq_p q5) ?_
      refine rh_Ex.blk 2 (s' := ((57, [some (.ref 0), some (.int p0), some (.int x1.1)], [.int (61 : Int32), .ref 0]), (x4.2, g, mw_R (some 7)))) rfl ?_
      obtain ⟨x6, hx6, hf⟩ := rh_bq hf
      refine rh_Ex.call (j := 194) (rc := some 11) [.ref 0, .int (61 : Int32)] [] (some (.int x6.1)) rfl rfl rfl (Nat.le_of_ble_eq_true rfl) (R_Mo_passes_r7 (d + 6) x4.2 g (61 : Int32) hx6) ?_
      show rh_Ex _ _ _ ((60, [some (.ref 0), some (.int p0), some (.int x1.1)], [.int x6.1]), (x6.2, g, mw_R (some 7))) _ _
      by_cases q7 : x6.1 = 0
      · rw [if_pos q7] at hf
        refine rh_Ex.stp (s' := ((78, [some (.ref 0), some (.int p0), some (.int x1.1)], []), (x6.2, g, mw_R (some 7)))) rfl (st_ifeq_p q7) ?_
        refine rh_Ex.blk 1 (s' := ((79, [some (.ref 0), some (.int p0), some (.int x1.1)], [.int x1.1]), (x6.2, g, mw_R (some 7)))) rfl ?_
        obtain rfl := Option.some.inj hf
        exact rh_Ex.ret rfl rfl
      · rw [if_neg q7] at hf
        refine rh_Ex.stp (s' := ((63, [some (.ref 0), some (.int p0), some (.int x1.1)], []), (x6.2, g, mw_R (some 7)))) rfl (st_ifeq_n q7) ?_
        refine rh_Ex.blk 3 (s' := ((66, [some (.ref 0), some (.int p0), some (.int x1.1)], [.int p0, .ref 0, .int x1.1]), (x6.2, g, mw_R (some 7)))) rfl ?_
        obtain ⟨x8, hx8, hf⟩ := rh_bq hf
        refine rh_Ex.call (j := 201) (rc := some 11) [.ref 0, .int p0] [.int x1.1] (some (.int x8.1)) rfl rfl rfl (Nat.le_of_ble_eq_true rfl) (R_Mo_sum_r7 d T hT x6.2 g p0 hx8) ?_
        show rh_Ex _ _ _ ((69, [some (.ref 0), some (.int p0), some (.int x1.1)], [.int x8.1, .int x1.1]), (x8.2, g, mw_R (some 7))) _ _
        by_cases q9 : x1.1 = x8.1
        · rw [if_pos q9] at hf
          refine rh_Ex.stp (s' := ((72, [some (.ref 0), some (.int p0), some (.int x1.1)], []), (x8.2, g, mw_R (some 7)))) rfl (st_icne_p q9) ?_
          refine rh_Ex.blk 2 (s' := ((77, [some (.ref 0), some (.int p0), some (.int x1.1)], [.int (1 : Int32)]), (x8.2, g, mw_R (some 7)))) rfl ?_
          obtain rfl := Option.some.inj hf
          exact rh_Ex.ret rfl rfl
        · rw [if_neg q9] at hf
          refine rh_Ex.stp (s' := ((76, [some (.ref 0), some (.int p0), some (.int x1.1)], []), (x8.2, g, mw_R (some 7)))) rfl (st_icne_n q9) ?_
          refine rh_Ex.blk 1 (s' := ((77, [some (.ref 0), some (.int p0), some (.int x1.1)], [.int (0 : Int32)]), (x8.2, g, mw_R (some 7)))) rfl ?_
          obtain rfl := Option.some.inj hf
          exact rh_Ex.ret rfl rfl
    · rw [if_neg q5] at hf
      refine rh_Ex.stp (s' := ((39, [some (.ref 0), some (.int p0), some (.int x1.1)], []), (x4.2, g, mw_R (some 7)))) rfl (st_ifeq_n q5) ?_
      refine rh_Ex.blk 3 (s' := ((42, [some (.ref 0), some (.int p0), some (.int x1.1)], [.int p0, .ref 0, .int x1.1]), (x4.2, g, mw_R (some 7)))) rfl ?_
      obtain ⟨x10, hx10, hf⟩ := rh_bq hf
      refine rh_Ex.call (j := 201) (rc := some 11) [.ref 0, .int p0] [.int x1.1] (some (.int x10.1)) rfl rfl rfl (Nat.le_of_ble_eq_true rfl) (R_Mo_sum_r7 d T hT x4.2 g p0 hx10) ?_
      show rh_Ex _ _ _ ((45, [some (.ref 0), some (.int p0), some (.int x1.1)], [.int x10.1, .int x1.1]), (x10.2, g, mw_R (some 7))) _ _
      by_cases q11 : x1.1 ≤ x10.1
      · rw [if_pos q11] at hf
        refine rh_Ex.stp (s' := ((52, [some (.ref 0), some (.int p0), some (.int x1.1)], []), (x10.2, g, mw_R (some 7)))) rfl (st_icle_p q11) ?_
        refine rh_Ex.blk 1 (s' := ((53, [some (.ref 0), some (.int p0), some (.int x1.1)], [.int (0 : Int32)]), (x10.2, g, mw_R (some 7)))) rfl ?_
        obtain rfl := Option.some.inj hf
        exact rh_Ex.ret rfl rfl
      · rw [if_neg q11] at hf
        refine rh_Ex.stp (s' := ((48, [some (.ref 0), some (.int p0), some (.int x1.1)], []), (x10.2, g, mw_R (some 7)))) rfl (st_icle_n q11) ?_
        refine rh_Ex.blk 2 (s' := ((53, [some (.ref 0), some (.int p0), some (.int x1.1)], [.int (1 : Int32)]), (x10.2, g, mw_R (some 7)))) rfl ?_
        obtain rfl := Option.some.inj hf
        exact rh_Ex.ret rfl rfl
  · rw [if_neg q3] at hf
    refine rh_Ex.stp (s' := ((15, [some (.ref 0), some (.int p0), some (.int x1.1)], []), (x2.2, g, mw_R (some 7)))) rfl (st_ifeq_n q3) ?_
    refine rh_Ex.blk 3 (s' := ((18, [some (.ref 0), some (.int p0), some (.int x1.1)], [.int p0, .ref 0, .int x1.1]), (x2.2, g, mw_R (some 7)))) rfl ?_
    obtain ⟨x12, hx12, hf⟩ := rh_bq hf
    refine rh_Ex.call (j := 201) (rc := some 11) [.ref 0, .int p0] [.int x1.1] (some (.int x12.1)) rfl rfl rfl (Nat.le_of_ble_eq_true rfl) (R_Mo_sum_r7 d T hT x2.2 g p0 hx12) ?_
    show rh_Ex _ _ _ ((21, [some (.ref 0), some (.int p0), some (.int x1.1)], [.int x12.1, .int x1.1]), (x12.2, g, mw_R (some 7))) _ _
    by_cases q13 : x12.1 ≤ x1.1
    · rw [if_pos q13] at hf
      refine rh_Ex.stp (s' := ((28, [some (.ref 0), some (.int p0), some (.int x1.1)], []), (x12.2, g, mw_R (some 7)))) rfl (st_icge_p q13) ?_
      refine rh_Ex.blk 1 (s' := ((29, [some (.ref 0), some (.int p0), some (.int x1.1)], [.int (0 : Int32)]), (x12.2, g, mw_R (some 7)))) rfl ?_
      obtain rfl := Option.some.inj hf
      exact rh_Ex.ret rfl rfl
    · rw [if_neg q13] at hf
      refine rh_Ex.stp (s' := ((24, [some (.ref 0), some (.int p0), some (.int x1.1)], []), (x12.2, g, mw_R (some 7)))) rfl (st_icge_n q13) ?_
      refine rh_Ex.blk 2 (s' := ((29, [some (.ref 0), some (.int p0), some (.int x1.1)], [.int (1 : Int32)]), (x12.2, g, mw_R (some 7)))) rfl ?_
      obtain rfl := Option.some.inj hf
      exact rh_Ex.ret rfl rfl
def b_Mo_number_r7_16 (u1 : Int32) (u2 : Int32) : (Int32 × (Nat → Nat → Int32)) → Option ((Int32 × (Nat → Nat → Int32)) ⊕ (Int32 × (Nat → Nat → Int32))) := fun s16 =>
  if (u2 + u1) ≤ (s16.2 0 13) then
    some (.inr (s16.1, s16.2))
  else
    (f_Mo_here_r7 s16.2).bind (fun x4 =>
      if (f_Mo_in x4 (48 : Int32) (57 : Int32)) = 0 then
        some (.inr (s16.1, s16.2))
      else
        (f_Mo_here_r7 s16.2).bind (fun x6 =>
          some (.inl ((((10 : Int32) * s16.1) + x6) - (48 : Int32), rh_up s16.2 0 13 ((s16.2 0 13) + (1 : Int32))))
        )
    )
def f_Mo_number_r7 (h : Nat → Nat → Int32) (p0 : Int32) : Option (Int32 × (Nat → Nat → Int32)) :=
  if (f_Mo_fine h) = 0 then
    some (((0 : Int32), h))
  else
    (rh_loop (b_Mo_number_r7_16 p0 (h 0 13)) rh_N ((0 : Int32), h)).bind (fun r7 =>
      if (r7.2 0 13) = (h 0 13) then
        some ((r7.1, (f_Mo_fault r7.2 (r7.2 0 13))))
      else
        some ((r7.1, r7.2))
    )
set_option maxRecDepth 20000 in
set_option maxHeartbeats 4000000 in
theorem lb_Mo_number_r7_16 (d : Nat) (u1 : Int32) (u2 : Int32) (g : Nat → Nat → Int64) (v9 : Option Value) (h9 : rh_H) : ∀ s16 x9, b_Mo_number_r7_16 u1 u2 s16 = some x9 → Sum.elim (fun s16 => rh_Ex (rh_M rh_PT mw_L (d + 2)) mw_L pg_X12_number ((16, [some (.ref 0), some (.int u1), some (.int u2), some (.int s16.1)], []), (s16.2, g, mw_R (some 7))) v9 h9) (fun e9 => rh_Ex (rh_M rh_PT mw_L (d + 2)) mw_L pg_X12_number ((66, [some (.ref 0), none, some (.int u2), some (.int e9.1)], []), (e9.2, g, mw_R (some 7))) v9 h9) x9 → rh_Ex (rh_M rh_PT mw_L (d + 2)) mw_L pg_X12_number ((16, [some (.ref 0), some (.int u1), some (.int u2), some (.int s16.1)], []), (s16.2, g, mw_R (some 7))) v9 h9 := by
  intro s16 x9 hf hk
  unfold b_Mo_number_r7_16 at hf
  refine rh_Ex.blk 5 (s' := ((23, [some (.ref 0), some (.int u1), some (.int u2), some (.int s16.1)], [.int (u2 + u1), .int (s16.2 0 13)]), (s16.2, g, mw_R (some 7)))) rfl ?_
  by_cases q3 : (u2 + u1) ≤ (s16.2 0 13)
  · rw [if_pos q3] at hf
    refine rh_Ex.stp (s' := ((66, [some (.ref 0), some (.int u1), some (.int u2), some (.int s16.1)], []), (s16.2, g, mw_R (some 7)))) rfl (st_icge_p q3) ?_
    obtain rfl := Option.some.inj hf
    refine rh_Ex.fgt [some (.ref 0), none, some (.int u2), some (.int s16.1)] ⟨rfl, rfl, rfl, trivial⟩ ?_
    exact hk
  · rw [if_neg q3] at hf
    refine rh_Ex.stp (s' := ((26, [some (.ref 0), some (.int u1), some (.int u2), some (.int s16.1)], []), (s16.2, g, mw_R (some 7)))) rfl (st_icge_n q3) ?_
    refine rh_Ex.blk 1 (s' := ((27, [some (.ref 0), some (.int u1), some (.int u2), some (.int s16.1)], [.ref 0]), (s16.2, g, mw_R (some 7)))) rfl ?_
    obtain ⟨x4, hx4, hf⟩ := rh_bq hf
    refine rh_Ex.call (j := 191) (rc := some 11) [.ref 0] [] (some (.int x4)) rfl rfl rfl (Nat.le_of_ble_eq_true rfl) (R_Mo_here_r7 (d + 1) s16.2 g  hx4) ?_
    show rh_Ex _ _ _ ((30, [some (.ref 0), some (.int u1), some (.int u2), some (.int s16.1)], [.int x4]), (s16.2, g, mw_R (some 7))) _ _
    refine rh_Ex.blk 2 (s' := ((34, [some (.ref 0), some (.int u1), some (.int u2), some (.int s16.1)], [.int (57 : Int32), .int (48 : Int32), .int x4]), (s16.2, g, mw_R (some 7)))) rfl ?_
    refine rh_Ex.call (j := 179) (rc := none) [.int x4, .int (48 : Int32), .int (57 : Int32)] [] (some (.int (f_Mo_in x4 (48 : Int32) (57 : Int32)))) rfl rfl trivial (Nat.le_of_ble_eq_true rfl) (R_Mo_in (d + 1) mw_L (mw_R (some 7)) s16.2 g x4 (48 : Int32) (57 : Int32) rfl) ?_
    show rh_Ex _ _ _ ((37, [some (.ref 0), some (.int u1), some (.int u2), some (.int s16.1)], [.int (f_Mo_in x4 (48 : Int32) (57 : Int32))]), (s16.2, g, mw_R (some 7))) _ _
    by_cases q5 : (f_Mo_in x4 (48 : Int32) (57 : Int32)) = 0
    · rw [if_pos q5] at hf
      refine rh_Ex.stp (s' := ((66, [some (.ref 0), some (.int u1), some (.int u2), some (.int s16.1)], []), (s16.2, g, mw_R (some 7)))) rfl (st_ifeq_p q5) ?_
      obtain rfl := Option.some.inj hf
      refine rh_Ex.fgt [some (.ref 0), none, some (.int u2), some (.int s16.1)] ⟨rfl, rfl, rfl, trivial⟩ ?_
      exact hk
    · rw [if_neg q5] at hf
      refine rh_Ex.stp (s' := ((40, [some (.ref 0), some (.int u1), some (.int u2), some (.int s16.1)], []), (s16.2, g, mw_R (some 7)))) rfl (st_ifeq_n q5) ?_
      refine rh_Ex.blk 4 (s' := ((45, [some (.ref 0), some (.int u1), some (.int u2), some (.int s16.1)], [.ref 0, .int ((10 : Int32) * s16.1)]), (s16.2, g, mw_R (some 7)))) rfl ?_
      obtain ⟨x6, hx6, hf⟩ := rh_bq hf
      refine rh_Ex.call (j := 191) (rc := some 11) [.ref 0] [.int ((10 : Int32) * s16.1)] (some (.int x6)) rfl rfl rfl (Nat.le_of_ble_eq_true rfl) (R_Mo_here_r7 (d + 1) s16.2 g  hx6) ?_
      show rh_Ex _ _ _ ((48, [some (.ref 0), some (.int u1), some (.int u2), some (.int s16.1)], [.int x6, .int ((10 : Int32) * s16.1)]), (s16.2, g, mw_R (some 7))) _ _
      refine rh_Ex.blk 11 (s' := ((16, [some (.ref 0), some (.int u1), some (.int u2), some (.int ((((10 : Int32) * s16.1) + x6) - (48 : Int32)))], []), (rh_up s16.2 0 13 ((s16.2 0 13) + (1 : Int32)), g, mw_R (some 7)))) rfl ?_
      obtain rfl := Option.some.inj hf
      refine rh_Ex.fgt [some (.ref 0), some (.int u1), some (.int u2), some (.int ((((10 : Int32) * s16.1) + x6) - (48 : Int32)))] ⟨rfl, rfl, rfl, rfl, trivial⟩ ?_
      exact hk
set_option maxRecDepth 20000 in
set_option maxHeartbeats 4000000 in
theorem R_Mo_number_r7 (d : Nat) (h : Nat → Nat → Int32) (g : Nat → Nat → Int64) (p0 : Int32) {z9 : Int32 × (Nat → Nat → Int32)} (hf : f_Mo_number_r7 h p0 = some z9) : rh_M rh_PT mw_L (d + 3) 196 [.ref 0, .int p0] (h, g, mw_R (some 7)) (some (.int z9.1)) (z9.2, g, mw_R (some 7)) := by
  unfold f_Mo_number_r7 at hf
  refine rh_go pt_196 (Nat.le_of_ble_eq_true rfl) (lv := [some (.ref 0), some (.int p0), none, none]) rfl ?_
  refine rh_Ex.blk 1 (s' := ((1, [some (.ref 0), some (.int p0), none, none], [.ref 0]), (h, g, mw_R (some 7)))) rfl ?_
  refine rh_Ex.call (j := 192) (rc := some 11) [.ref 0] [] (some (.int (f_Mo_fine h))) rfl rfl rfl (Nat.le_of_ble_eq_true rfl) (R_Mo_fine (d + 1) (some 7) h g  rfl) ?_
  show rh_Ex _ _ _ ((4, [some (.ref 0), some (.int p0), none, none], [.int (f_Mo_fine h)]), (h, g, mw_R (some 7))) _ _
  by_cases q1 : (f_Mo_fine h) = 0
  · rw [if_pos q1] at hf
    refine rh_Ex.stp (s' := ((7, [some (.ref 0), some (.int p0), none, none], []), (h, g, mw_R (some 7)))) rfl (st_ifne_p q1) ?_
    refine rh_Ex.blk 1 (s' := ((8, [some (.ref 0), some (.int p0), none, none], [.int (0 : Int32)]), (h, g, mw_R (some 7)))) rfl ?_
    obtain rfl := Option.some.inj hf
    exact rh_Ex.ret rfl rfl
  · rw [if_neg q1] at hf
    refine rh_Ex.stp (s' := ((9, [some (.ref 0), some (.int p0), none, none], []), (h, g, mw_R (some 7)))) rfl (st_ifne_n q1) ?_
    refine rh_Ex.blk 5 (s' := ((16, [some (.ref 0), some (.int p0), some (.int (h 0 13)), some (.int (0 : Int32))], []), (h, g, mw_R (some 7)))) rfl ?_
    obtain ⟨r7, hr7, hf⟩ := rh_bq hf
    refine rh_Ex.fgt [some (.ref 0), some (.int p0), some (.int (h 0 13)), some (.int (0 : Int32))] ⟨rfl, rfl, rfl, rfl, trivial⟩ ?_
    refine rh_Ex.loop _ _ _ (lb_Mo_number_r7_16 d p0 (h 0 13)  g _ _) rh_N _ r7 hr7 ?_
    refine rh_Ex.blk 3 (s' := ((71, [some (.ref 0), none, some (.int (h 0 13)), some (.int r7.1)], [.int (h 0 13), .int (r7.2 0 13)]), (r7.2, g, mw_R (some 7)))) rfl ?_
    by_cases q8 : (r7.2 0 13) = (h 0 13)
    · rw [if_pos q8] at hf
      refine rh_Ex.stp (s' := ((74, [some (.ref 0), none, some (.int (h 0 13)), some (.int r7.1)], []), (r7.2, g, mw_R (some 7)))) rfl (st_icne_p q8) ?_
      refine rh_Ex.blk 3 (s' := ((79, [some (.ref 0), none, some (.int (h 0 13)), some (.int r7.1)], [.int (r7.2 0 13), .ref 0]), (r7.2, g, mw_R (some 7)))) rfl ?_
      refine rh_Ex.call (j := 193) (rc := some 11) [.ref 0, .int (r7.2 0 13)] [] none rfl rfl rfl (Nat.le_of_ble_eq_true rfl) (R_Mo_fault d (some 7) r7.2 g (r7.2 0 13) rfl) ?_
      show rh_Ex _ _ _ ((82, [some (.ref 0), none, some (.int (h 0 13)), some (.int r7.1)], []), ((f_Mo_fault r7.2 (r7.2 0 13)), g, mw_R (some 7))) _ _
      refine rh_Ex.blk 1 (s' := ((83, [some (.ref 0), none, some (.int (h 0 13)), some (.int r7.1)], [.int r7.1]), ((f_Mo_fault r7.2 (r7.2 0 13)), g, mw_R (some 7)))) rfl ?_
      obtain rfl := Option.some.inj hf
      exact rh_Ex.ret rfl rfl
    · rw [if_neg q8] at hf
      refine rh_Ex.stp (s' := ((82, [some (.ref 0), none, some (.int (h 0 13)), some (.int r7.1)], []), (r7.2, g, mw_R (some 7)))) rfl (st_icne_n q8) ?_
      refine rh_Ex.blk 1 (s' := ((83, [some (.ref 0), none, some (.int (h 0 13)), some (.int r7.1)], [.int r7.1]), (r7.2, g, mw_R (some 7)))) rfl ?_
      obtain rfl := Option.some.inj hf
      exact rh_Ex.ret rfl rfl
def f_Mo_need_r7 (h : Nat → Nat → Int32) (p0 : Int32) : Option ((Nat → Nat → Int32)) :=
  (f_Mo_passes_r7 h p0).bind (fun x1 =>
    if x1.1 = 0 then
      some ((f_Mo_fault x1.2 (x1.2 0 13)))
    else
      some (x1.2)
  )
set_option maxRecDepth 20000 in
set_option maxHeartbeats 4000000 in
theorem R_Mo_need_r7 (d : Nat) (h : Nat → Nat → Int32) (g : Nat → Nat → Int64) (p0 : Int32) {z9 : (Nat → Nat → Int32)} (hf : f_Mo_need_r7 h p0 = some z9) : rh_M rh_PT mw_L (d + 3) 195 [.ref 0, .int p0] (h, g, mw_R (some 7)) none (z9, g, mw_R (some 7)) := by
  unfold f_Mo_need_r7 at hf
  refine rh_go pt_195 (Nat.le_of_ble_eq_true rfl) (lv := [some (.ref 0), some (.int p0)]) rfl ?_
  refine rh_Ex.blk 2 (s' := ((2, [some (.ref 0), some (.int p0)], [.int p0, .ref 0]), (h, g, mw_R (some 7)))) rfl ?_
  obtain ⟨x1, hx1, hf⟩ := rh_bq hf
  refine rh_Ex.call (j := 194) (rc := some 11) [.ref 0, .int p0] [] (some (.int x1.1)) rfl rfl rfl (Nat.le_of_ble_eq_true rfl) (R_Mo_passes_r7 d h g p0 hx1) ?_
  show rh_Ex _ _ _ ((5, [some (.ref 0), some (.int p0)], [.int x1.1]), (x1.2, g, mw_R (some 7))) _ _
  by_cases q2 : x1.1 = 0
  · rw [if_pos q2] at hf
    refine rh_Ex.stp (s' := ((8, [some (.ref 0), some (.int p0)], []), (x1.2, g, mw_R (some 7)))) rfl (st_ifne_p q2) ?_
    refine rh_Ex.blk 3 (s' := ((13, [some (.ref 0), some (.int p0)], [.int (x1.2 0 13), .ref 0]), (x1.2, g, mw_R (some 7)))) rfl ?_
    refine rh_Ex.call (j := 193) (rc := some 11) [.ref 0, .int (x1.2 0 13)] [] none rfl rfl rfl (Nat.le_of_ble_eq_true rfl) (R_Mo_fault d (some 7) x1.2 g (x1.2 0 13) rfl) ?_
    show rh_Ex _ _ _ ((16, [some (.ref 0), some (.int p0)], []), ((f_Mo_fault x1.2 (x1.2 0 13)), g, mw_R (some 7))) _ _
    obtain rfl := Option.some.inj hf
    exact rh_Ex.ret rfl trivial
  · rw [if_neg q2] at hf
    refine rh_Ex.stp (s' := ((16, [some (.ref 0), some (.int p0)], []), (x1.2, g, mw_R (some 7)))) rfl (st_ifne_n q2) ?_
    obtain rfl := Option.some.inj hf
    exact rh_Ex.ret rfl trivial
def j_Mo_thing_r7_118 (T : (Nat → Nat → Int32) → Int32 → Option (Int32 × (Nat → Nat → Int32))) (h : Nat → Nat → Int32) (j2 : Int32) : Option (Int32 × (Nat → Nat → Int32)) :=
  if (h 0 18) = (-1 : Int32) then
    some (((0 : Int32), rh_up h 0 13 ((h 0 13) + (1 : Int32))))
  else
    if j2 = (119 : Int32) then
      some ((h 0 19, rh_up h 0 13 ((h 0 13) + (1 : Int32))))
    else
      if j2 = (98 : Int32) then
        some (((h 0 20) - (h 0 20) / (9 : Int32) * (9 : Int32), rh_up h 0 13 ((h 0 13) + (1 : Int32))))
      else
        if j2 = (100 : Int32) then
          some (((h 0 20) / (9 : Int32), rh_up h 0 13 ((h 0 13) + (1 : Int32))))
        else
          some ((h 0 18, rh_up h 0 13 ((h 0 13) + (1 : Int32))))
def j_Mo_thing_r7_67 (T : (Nat → Nat → Int32) → Int32 → Option (Int32 × (Nat → Nat → Int32))) (h : Nat → Nat → Int32) (j2 : Int32) : Option (Int32 × (Nat → Nat → Int32)) :=
  if (f_Mo_in j2 (48 : Int32) (57 : Int32)) = 0 then
    if j2 = (119 : Int32) then
      j_Mo_thing_r7_118 T h j2
    else
      if j2 = (98 : Int32) then
        j_Mo_thing_r7_118 T h j2
      else
        if j2 = (100 : Int32) then
          j_Mo_thing_r7_118 T h j2
        else
          if j2 = (105 : Int32) then
            j_Mo_thing_r7_118 T h j2
          else
            some (((0 : Int32), (f_Mo_fault h (h 0 13))))
  else
    (f_Mo_number_r7 h (3 : Int32)).bind (fun x16 =>
      some ((x16.1, x16.2))
    )
def f_Mo_thing_r7 (T : (Nat → Nat → Int32) → Int32 → Option (Int32 × (Nat → Nat → Int32))) (h : Nat → Nat → Int32) (p0 : Int32) : Option (Int32 × (Nat → Nat → Int32)) :=
  (f_Mo_passes_r7 h (45 : Int32)).bind (fun x1 =>
    if x1.1 = 0 then
      if (f_Mo_fine x1.2) = 0 then
        some (((0 : Int32), x1.2))
      else
        (f_Mo_here_r7 x1.2).bind (fun x4 =>
          if x4 = (40 : Int32) then
            if (4 : Int32) ≤ p0 then
              j_Mo_thing_r7_67 T x1.2 x4
            else
              (f_Mo_held_r7 T (rh_up x1.2 0 13 ((x1.2 0 13) + (1 : Int32))) (p0 + (1 : Int32))).bind (fun x17 =>
                (f_Mo_need_r7 x17.2 (41 : Int32)).bind (fun x18 =>
                  some ((x17.1, x18))
                )
              )
          else
            j_Mo_thing_r7_67 T x1.2 x4
        )
    else
      (T x1.2 p0).bind (fun x19 =>
        some ((-x19.1, x19.2))
      )
  )
set_option maxRecDepth 20000 in
set_option maxHeartbeats 4000000 in
theorem lj_Mo_thing_r7_118 (d : Nat) (T : (Nat → Nat → Int32) → Int32 → Option (Int32 × (Nat → Nat → Int32))) (hT : ∀ (h : Nat → Nat → Int32) (g : Nat → Nat → Int64) (a0 : Int32) z, T h a0 = some z → rh_M rh_PT mw_L (d + 6) 203 [.ref 0, .int a0] (h, g, mw_R (some 7)) (some (.int z.1)) (z.2, g, mw_R (some 7))) (h : Nat → Nat → Int32) (j2 : Int32) (g : Nat → Nat → Int64) {z9 : Int32 × (Nat → Nat → Int32)} (hf : j_Mo_thing_r7_118 T h j2 = some z9) : rh_Ex (rh_M rh_PT mw_L (d + 9)) mw_L pg_X12_thing ((118, [some (.ref 0), none, some (.int j2), none], []), (h, g, mw_R (some 7))) (some (.int z9.1)) (z9.2, g, mw_R (some 7)) := by
  unfold j_Mo_thing_r7_118 at hf
  refine rh_Ex.blk 9 (s' := ((133, [some (.ref 0), none, some (.int j2), none], [.int (-1 : Int32), .int (h 0 18)]), (rh_up h 0 13 ((h 0 13) + (1 : Int32)), g, mw_R (some 7)))) rfl ?_
  by_cases q9 : (h 0 18) = (-1 : Int32)
  · rw [if_pos q9] at hf
    refine rh_Ex.stp (s' := ((136, [some (.ref 0), none, some (.int j2), none], []), (rh_up h 0 13 ((h 0 13) + (1 : Int32)), g, mw_R (some 7)))) rfl (st_icne_p q9) ?_
    refine rh_Ex.blk 1 (s' := ((137, [some (.ref 0), none, some (.int j2), none], [.int (0 : Int32)]), (rh_up h 0 13 ((h 0 13) + (1 : Int32)), g, mw_R (some 7)))) rfl ?_
    obtain rfl := Option.some.inj hf
    exact rh_Ex.ret rfl rfl
  · rw [if_neg q9] at hf
    refine rh_Ex.stp (s' := ((138, [some (.ref 0), none, some (.int j2), none], []), (rh_up h 0 13 ((h 0 13) + (1 : Int32)), g, mw_R (some 7)))) rfl (st_icne_n q9) ?_
    refine rh_Ex.blk 2 (s' := ((141, [some (.ref 0), none, some (.int j2), none], [.int (119 : Int32), .int j2]), (rh_up h 0 13 ((h 0 13) + (1 : Int32)), g, mw_R (some 7)))) rfl ?_
    by_cases q10 : j2 = (119 : Int32)
    · rw [if_pos q10] at hf
      refine rh_Ex.stp (s' := ((144, [some (.ref 0), none, some (.int j2), none], []), (rh_up h 0 13 ((h 0 13) + (1 : Int32)), g, mw_R (some 7)))) rfl (st_icne_p q10) ?_
      refine rh_Ex.blk 3 (s' := ((187, [some (.ref 0), none, some (.int j2), none], [.int (h 0 19)]), (rh_up h 0 13 ((h 0 13) + (1 : Int32)), g, mw_R (some 7)))) rfl ?_
      obtain rfl := Option.some.inj hf
      exact rh_Ex.ret rfl rfl
    · rw [if_neg q10] at hf
      refine rh_Ex.stp (s' := ((151, [some (.ref 0), none, some (.int j2), none], []), (rh_up h 0 13 ((h 0 13) + (1 : Int32)), g, mw_R (some 7)))) rfl (st_icne_n q10) ?_
      refine rh_Ex.blk 2 (s' := ((154, [some (.ref 0), none, some (.int j2), none], [.int (98 : Int32), .int j2]), (rh_up h 0 13 ((h 0 13) + (1 : Int32)), g, mw_R (some 7)))) rfl ?_
      by_cases q11 : j2 = (98 : Int32)
      · rw [if_pos q11] at hf
        refine rh_Ex.stp (s' := ((157, [some (.ref 0), none, some (.int j2), none], []), (rh_up h 0 13 ((h 0 13) + (1 : Int32)), g, mw_R (some 7)))) rfl (st_icne_p q11) ?_
        refine rh_Ex.blk 3 (s' := ((163, [some (.ref 0), none, some (.int j2), none], [.int (9 : Int32), .int (h 0 20)]), (rh_up h 0 13 ((h 0 13) + (1 : Int32)), g, mw_R (some 7)))) rfl ?_
        refine rh_Ex.stp (s' := ((164, [some (.ref 0), none, some (.int j2), none], [.int ((h 0 20) - (h 0 20) / (9 : Int32) * (9 : Int32))]), (rh_up h 0 13 ((h 0 13) + (1 : Int32)), g, mw_R (some 7)))) rfl (st_irem (by decide)) ?_
        refine rh_Ex.blk 1 (s' := ((187, [some (.ref 0), none, some (.int j2), none], [.int ((h 0 20) - (h 0 20) / (9 : Int32) * (9 : Int32))]), (rh_up h 0 13 ((h 0 13) + (1 : Int32)), g, mw_R (some 7)))) rfl ?_
        obtain rfl := Option.some.inj hf
        exact rh_Ex.ret rfl rfl
      · rw [if_neg q11] at hf
        refine rh_Ex.stp (s' := ((167, [some (.ref 0), none, some (.int j2), none], []), (rh_up h 0 13 ((h 0 13) + (1 : Int32)), g, mw_R (some 7)))) rfl (st_icne_n q11) ?_
        refine rh_Ex.blk 2 (s' := ((170, [some (.ref 0), none, some (.int j2), none], [.int (100 : Int32), .int j2]), (rh_up h 0 13 ((h 0 13) + (1 : Int32)), g, mw_R (some 7)))) rfl ?_
        by_cases q12 : j2 = (100 : Int32)
        · rw [if_pos q12] at hf
          refine rh_Ex.stp (s' := ((173, [some (.ref 0), none, some (.int j2), none], []), (rh_up h 0 13 ((h 0 13) + (1 : Int32)), g, mw_R (some 7)))) rfl (st_icne_p q12) ?_
          refine rh_Ex.blk 3 (s' := ((179, [some (.ref 0), none, some (.int j2), none], [.int (9 : Int32), .int (h 0 20)]), (rh_up h 0 13 ((h 0 13) + (1 : Int32)), g, mw_R (some 7)))) rfl ?_
          refine rh_Ex.stp (s' := ((180, [some (.ref 0), none, some (.int j2), none], [.int ((h 0 20) / (9 : Int32))]), (rh_up h 0 13 ((h 0 13) + (1 : Int32)), g, mw_R (some 7)))) rfl (st_idiv (by decide)) ?_
          refine rh_Ex.blk 1 (s' := ((187, [some (.ref 0), none, some (.int j2), none], [.int ((h 0 20) / (9 : Int32))]), (rh_up h 0 13 ((h 0 13) + (1 : Int32)), g, mw_R (some 7)))) rfl ?_
          obtain rfl := Option.some.inj hf
          exact rh_Ex.ret rfl rfl
        · rw [if_neg q12] at hf
          refine rh_Ex.stp (s' := ((183, [some (.ref 0), none, some (.int j2), none], []), (rh_up h 0 13 ((h 0 13) + (1 : Int32)), g, mw_R (some 7)))) rfl (st_icne_n q12) ?_
          refine rh_Ex.blk 2 (s' := ((187, [some (.ref 0), none, some (.int j2), none], [.int (h 0 18)]), (rh_up h 0 13 ((h 0 13) + (1 : Int32)), g, mw_R (some 7)))) rfl ?_
          obtain rfl := Option.some.inj hf
          exact rh_Ex.ret rfl rfl
set_option maxRecDepth 20000 in
set_option maxHeartbeats 4000000 in
theorem lj_Mo_thing_r7_67 (d : Nat) (T : (Nat → Nat → Int32) → Int32 → Option (Int32 × (Nat → Nat → Int32))) (hT : ∀ (h : Nat → Nat → Int32) (g : Nat → Nat → Int64) (a0 : Int32) z, T h a0 = some z → rh_M rh_PT mw_L (d + 6) 203 [.ref 0, .int a0] (h, g, mw_R (some 7)) (some (.int z.1)) (z.2, g, mw_R (some 7))) (h : Nat → Nat → Int32) (j2 : Int32) (g : Nat → Nat → Int64) {z9 : Int32 × (Nat → Nat → Int32)} (hf : j_Mo_thing_r7_67 T h j2 = some z9) : rh_Ex (rh_M rh_PT mw_L (d + 9)) mw_L pg_X12_thing ((67, [some (.ref 0), none, some (.int j2), none], []), (h, g, mw_R (some 7))) (some (.int z9.1)) (z9.2, g, mw_R (some 7)) := by
  unfold j_Mo_thing_r7_67 at hf
  refine rh_Ex.blk 3 (s' := ((72, [some (.ref 0), none, some (.int j2), none], [.int (57 : Int32), .int (48 : Int32), .int j2]), (h, g, mw_R (some 7)))) rfl ?_
  refine rh_Ex.call (j := 179) (rc := none) [.int j2, .int (48 : Int32), .int (57 : Int32)] [] (some (.int (f_Mo_in j2 (48 : Int32) (57 : Int32)))) rfl rfl trivial (Nat.le_of_ble_eq_true rfl) (R_Mo_in (d + 8) mw_L (mw_R (some 7)) h g j2 (48 : Int32) (57 : Int32) rfl) ?_
  show rh_Ex _ _ _ ((75, [some (.ref 0), none, some (.int j2), none], [.int (f_Mo_in j2 (48 : Int32) (57 : Int32))]), (h, g, mw_R (some 7))) _ _
  by_cases q7 : (f_Mo_in j2 (48 : Int32) (57 : Int32)) = 0
  · rw [if_pos q7] at hf
    refine rh_Ex.stp (s' := ((84, [some (.ref 0), none, some (.int j2), none], []), (h, g, mw_R (some 7)))) rfl (st_ifeq_p q7) ?_
    refine rh_Ex.blk 2 (s' := ((87, [some (.ref 0), none, some (.int j2), none], [.int (119 : Int32), .int j2]), (h, g, mw_R (some 7)))) rfl ?_
    by_cases q8 : j2 = (119 : Int32)
    · rw [if_pos q8] at hf
      refine rh_Ex.stp (s' := ((118, [some (.ref 0), none, some (.int j2), none], []), (h, g, mw_R (some 7)))) rfl (st_iceq_p q8) ?_
      refine rh_Ex.fgt [some (.ref 0), none, some (.int j2), none] ⟨rfl, rfl, trivial⟩ ?_
      exact lj_Mo_thing_r7_118 d T hT h j2 g hf
    · rw [if_neg q8] at hf
      refine rh_Ex.stp (s' := ((90, [some (.ref 0), none, some (.int j2), none], []), (h, g, mw_R (some 7)))) rfl (st_iceq_n q8) ?_
      refine rh_Ex.blk 2 (s' := ((93, [some (.ref 0), none, some (.int j2), none], [.int (98 : Int32), .int j2]), (h, g, mw_R (some 7)))) rfl ?_
      by_cases q13 : j2 = (98 : Int32)
      · rw [if_pos q13] at hf
        refine rh_Ex.stp (s' := ((118, [some (.ref 0), none, some (.int j2), none], []), (h, g, mw_R (some 7)))) rfl (st_iceq_p q13) ?_
        refine rh_Ex.fgt [some (.ref 0), none, some (.int j2), none] ⟨rfl, rfl, trivial⟩ ?_
        exact lj_Mo_thing_r7_118 d T hT h j2 g hf
      · rw [if_neg q13] at hf
        refine rh_Ex.stp (s' := ((96, [some (.ref 0), none, some (.int j2), none], []), (h, g, mw_R (some 7)))) rfl (st_iceq_n q13) ?_
        refine rh_Ex.blk 2 (s' := ((99, [some (.ref 0), none, some (.int j2), none], [.int (100 : Int32), .int j2]), (h, g, mw_R (some 7)))) rfl ?_
        by_cases q14 : j2 = (100 : Int32)
        · rw [if_pos q14] at hf
          refine rh_Ex.stp (s' := ((118, [some (.ref 0), none, some (.int j2), none], []), (h, g, mw_R (some 7)))) rfl (st_iceq_p q14) ?_
          refine rh_Ex.fgt [some (.ref 0), none, some (.int j2), none] ⟨rfl, rfl, trivial⟩ ?_
          exact lj_Mo_thing_r7_118 d T hT h j2 g hf
        · rw [if_neg q14] at hf
          refine rh_Ex.stp (s' := ((102, [some (.ref 0), none, some (.int j2), none], []), (h, g, mw_R (some 7)))) rfl (st_iceq_n q14) ?_
          refine rh_Ex.blk 2 (s' := ((105, [some (.ref 0), none, some (.int j2), none], [.int (105 : Int32), .int j2]), (h, g, mw_R (some 7)))) rfl ?_
          by_cases q15 : j2 = (105 : Int32)
          · rw [if_pos q15] at hf
            refine rh_Ex.stp (s' := ((118, [some (.ref 0), none, some (.int j2), none], []), (h, g, mw_R (some 7)))) rfl (st_iceq_p q15) ?_
            refine rh_Ex.fgt [some (.ref 0), none, some (.int j2), none] ⟨rfl, rfl, trivial⟩ ?_
            exact lj_Mo_thing_r7_118 d T hT h j2 g hf
          · rw [if_neg q15] at hf
            refine rh_Ex.stp (s' := ((108, [some (.ref 0), none, some (.int j2), none], []), (h, g, mw_R (some 7)))) rfl (st_iceq_n q15) ?_
            refine rh_Ex.blk 3 (s' := ((113, [some (.ref 0), none, some (.int j2), none], [.int (h 0 13), .ref 0]), (h, g, mw_R (some 7)))) rfl ?_
            refine rh_Ex.call (j := 193) (rc := some 11) [.ref 0, .int (h 0 13)] [] none rfl rfl rfl (Nat.le_of_ble_eq_true rfl) (R_Mo_fault (d + 7) (some 7) h g (h 0 13) rfl) ?_
            show rh_Ex _ _ _ ((116, [some (.ref 0), none, some (.int j2), none], []), ((f_Mo_fault h (h 0 13)), g, mw_R (some 7))) _ _
            refine rh_Ex.blk 1 (s' := ((117, [some (.ref 0), none, some (.int j2), none], [.int (0 : Int32)]), ((f_Mo_fault h (h 0 13)), g, mw_R (some 7)))) rfl ?_
            obtain rfl := Option.some.inj hf
            exact rh_Ex.ret rfl rfl
  · rw [if_neg q7] at hf
    refine rh_Ex.stp (s' := ((78, [some (.ref 0), none, some (.int j2), none], []), (h, g, mw_R (some 7)))) rfl (st_ifeq_n q7) ?_
    refine rh_Ex.blk 2 (s' := ((80, [some (.ref 0), none, some (.int j2), none], [.int (3 : Int32), .ref 0]), (h, g, mw_R (some 7)))) rfl ?_
    obtain ⟨x16, hx16, hf⟩ := rh_bq hf
    refine rh_Ex.call (j := 196) (rc := some 11) [.ref 0, .int (3 : Int32)] [] (some (.int x16.1)) rfl rfl rfl (Nat.le_of_ble_eq_true rfl) (R_Mo_number_r7 (d + 6) h g (3 : Int32) hx16) ?_
    show rh_Ex _ _ _ ((83, [some (.ref 0), none, some (.int j2), none], [.int x16.1]), (x16.2, g, mw_R (some 7))) _ _
    obtain rfl := Option.some.inj hf
    exact rh_Ex.ret rfl rfl
set_option maxRecDepth 20000 in
set_option maxHeartbeats 4000000 in
theorem R_Mo_thing_r7 (d : Nat) (T : (Nat → Nat → Int32) → Int32 → Option (Int32 × (Nat → Nat → Int32))) (hT : ∀ (h : Nat → Nat → Int32) (g : Nat → Nat → Int64) (a0 : Int32) z, T h a0 = some z → rh_M rh_PT mw_L (d + 6) 203 [.ref 0, .int a0] (h, g, mw_R (some 7)) (some (.int z.1)) (z.2, g, mw_R (some 7))) (h : Nat → Nat → Int32) (g : Nat → Nat → Int64) (p0 : Int32) {z9 : Int32 × (Nat → Nat → Int32)} (hf : f_Mo_thing_r7 T h p0 = some z9) : rh_M rh_PT mw_L (d + 10) 203 [.ref 0, .int p0] (h, g, mw_R (some 7)) (some (.int z9.1)) (z9.2, g, mw_R (some 7)) := by
  unfold f_Mo_thing_r7 at hf
  refine rh_go pt_203 (Nat.le_of_ble_eq_true rfl) (lv := [some (.ref 0), some (.int p0), none, none]) rfl ?_
  refine rh_Ex.blk 2 (s' := ((3, [some (.ref 0), some (.int p0), none, none], [.int (45 : Int32), .ref 0]), (h, g, mw_R (some 7)))) rfl ?_
  obtain ⟨x1, hx1, hf⟩ := rh_bq hf
  refine rh_Ex.call (j := 194) (rc := some 11) [.ref 0, .int (45 : Int32)] [] (some (.int x1.1)) rfl rfl rfl (Nat.le_of_ble_eq_true rfl) (R_Mo_passes_r7 (d + 7) h g (45 : Int32) hx1) ?_
  show rh_Ex _ _ _ ((6, [some (.ref 0), some (.int p0), none, none], [.int x1.1]), (x1.2, g, mw_R (some 7))) _ _
  by_cases q2 : x1.1 = 0
  · rw [if_pos q2] at hf
    refine rh_Ex.stp (s' := ((16, [some (.ref 0), some (.int p0), none, none], []), (x1.2, g, mw_R (some 7)))) rfl (st_ifeq_p q2) ?_
    refine rh_Ex.blk 1 (s' := ((17, [some (.ref 0), some (.int p0), none, none], [.ref 0]), (x1.2, g, mw_R (some 7)))) rfl ?_
    refine rh_Ex.call (j := 192) (rc := some 11) [.ref 0] [] (some (.int (f_Mo_fine x1.2))) rfl rfl rfl (Nat.le_of_ble_eq_true rfl) (R_Mo_fine (d + 8) (some 7) x1.2 g  rfl) ?_
    show rh_Ex _ _ _ ((20, [some (.ref 0), some (.int p0), none, none], [.int (f_Mo_fine x1.2)]), (x1.2, g, mw_R (some 7))) _ _
    by_cases q3 : (f_Mo_fine x1.2) = 0
    · rw [if_pos q3] at hf
      refine rh_Ex.stp (s' := ((23, [some (.ref 0), some (.int p0), none, none], []), (x1.2, g, mw_R (some 7)))) rfl (st_ifne_p q3) ?_
      refine rh_Ex.blk 1 (s' := ((24, [some (.ref 0), some (.int p0), none, none], [.int (0 : Int32)]), (x1.2, g, mw_R (some 7)))) rfl ?_
      obtain rfl := Option.some.inj hf
      exact rh_Ex.ret rfl rfl
    · rw [if_neg q3] at hf
      refine rh_Ex.stp (s' := ((25, [some (.ref 0), some (.int p0), none, none], []), (x1.2, g, mw_R (some 7)))) rfl (st_ifne_n q3) ?_
      refine rh_Ex.blk 1 (s' := ((26, [some (.ref 0), some (.int p0), none, none], [.ref 0]), (x1.2, g, mw_R (some 7)))) rfl ?_
      obtain ⟨x4, hx4, hf⟩ := rh_bq hf
      refine rh_Ex.call (j := 191) (rc := some 11) [.ref 0] [] (some (.int x4)) rfl rfl rfl (Nat.le_of_ble_eq_true rfl) (R_Mo_here_r7 (d + 8) x1.2 g  hx4) ?_
      show rh_Ex _ _ _ ((29, [some (.ref 0), some (.int p0), none, none], [.int x4]), (x1.2, g, mw_R (some 7))) _ _
      refine rh_Ex.blk 3 (s' := ((33, [some (.ref 0), some (.int p0), some (.int x4), none], [.int (40 : Int32), .int x4]), (x1.2, g, mw_R (some 7)))) rfl ?_
      by_cases q5 : x4 = (40 : Int32)
      · rw [if_pos q5] at hf
        refine rh_Ex.stp (s' := ((36, [some (.ref 0), some (.int p0), some (.int x4), none], []), (x1.2, g, mw_R (some 7)))) rfl (st_icne_p q5) ?_
        refine rh_Ex.blk 2 (s' := ((38, [some (.ref 0), some (.int p0), some (.int x4), none], [.int (4 : Int32), .int p0]), (x1.2, g, mw_R (some 7)))) rfl ?_
        by_cases q6 : (4 : Int32) ≤ p0
        · rw [if_pos q6] at hf
          refine rh_Ex.stp (s' := ((67, [some (.ref 0), some (.int p0), some (.int x4), none], []), (x1.2, g, mw_R (some 7)))) rfl (st_icge_p q6) ?_
          refine rh_Ex.fgt [some (.ref 0), none, some (.int x4), none] ⟨rfl, rfl, trivial⟩ ?_
          exact lj_Mo_thing_r7_67 d T hT x1.2 x4 g hf
        · rw [if_neg q6] at hf
          refine rh_Ex.stp (s' := ((41, [some (.ref 0), some (.int p0), some (.int x4), none], []), (x1.2, g, mw_R (some 7)))) rfl (st_icge_n q6) ?_
          refine rh_Ex.blk 10 (s' := ((55, [some (.ref 0), some (.int p0), some (.int x4), none], [.int (p0 + (1 : Int32)), .ref 0]), (rh_up x1.2 0 13 ((x1.2 0 13) + (1 : Int32)), g, mw_R (some 7)))) rfl ?_
          obtain ⟨x17, hx17, hf⟩ := rh_bq hf
          refine rh_Ex.call (j := 200) (rc := some 11) [.ref 0, .int (p0 + (1 : Int32))] [] (some (.int x17.1)) rfl rfl rfl (Nat.le_of_ble_eq_true rfl) (R_Mo_held_r7 d T hT (rh_up x1.2 0 13 ((x1.2 0 13) + (1 : Int32))) g (p0 + (1 : Int32)) hx17) ?_
          show rh_Ex _ _ _ ((58, [some (.ref 0), some (.int p0), some (.int x4), none], [.int x17.1]), (x17.2, g, mw_R (some 7))) _ _
          refine rh_Ex.blk 3 (s' := ((62, [some (.ref 0), some (.int p0), some (.int x4), some (.int x17.1)], [.int (41 : Int32), .ref 0]), (x17.2, g, mw_R (some 7)))) rfl ?_
          obtain ⟨x18, hx18, hf⟩ := rh_bq hf
          refine rh_Ex.call (j := 195) (rc := some 11) [.ref 0, .int (41 : Int32)] [] none rfl rfl rfl (Nat.le_of_ble_eq_true rfl) (R_Mo_need_r7 (d + 6) x17.2 g (41 : Int32) hx18) ?_
          show rh_Ex _ _ _ ((65, [some (.ref 0), some (.int p0), some (.int x4), some (.int x17.1)], []), (x18, g, mw_R (some 7))) _ _
          refine rh_Ex.blk 1 (s' := ((66, [some (.ref 0), some (.int p0), some (.int x4), some (.int x17.1)], [.int x17.1]), (x18, g, mw_R (some 7)))) rfl ?_
          obtain rfl := Option.some.inj hf
          exact rh_Ex.ret rfl rfl
      · rw [if_neg q5] at hf
        refine rh_Ex.stp (s' := ((67, [some (.ref 0), some (.int p0), some (.int x4), none], []), (x1.2, g, mw_R (some 7)))) rfl (st_icne_n q5) ?_
        refine rh_Ex.fgt [some (.ref 0), none, some (.int x4), none] ⟨rfl, rfl, trivial⟩ ?_
        exact lj_Mo_thing_r7_67 d T hT x1.2 x4 g hf
  · rw [if_neg q2] at hf
    refine rh_Ex.stp (s' := ((9, [some (.ref 0), some (.int p0), none, none], []), (x1.2, g, mw_R (some 7)))) rfl (st_ifeq_n q2) ?_
    refine rh_Ex.blk 2 (s' := ((11, [some (.ref 0), some (.int p0), none, none], [.int p0, .ref 0]), (x1.2, g, mw_R (some 7)))) rfl ?_
    obtain ⟨x19, hx19, hf⟩ := rh_bq hf
    refine rh_Ex.call (j := 203) (rc := some 11) [.ref 0, .int p0] [] (some (.int x19.1)) rfl rfl rfl (Nat.le_of_ble_eq_true rfl) (rh_M_le (Nat.add_le_add_left (Nat.le_of_ble_eq_true rfl) d) (hT x1.2 g p0 _ hx19)) ?_
    show rh_Ex _ _ _ ((14, [some (.ref 0), some (.int p0), none, none], [.int x19.1]), (x19.2, g, mw_R (some 7))) _ _
    refine rh_Ex.blk 1 (s' := ((15, [some (.ref 0), some (.int p0), none, none], [.int (-x19.1)]), (x19.2, g, mw_R (some 7)))) rfl ?_
    obtain rfl := Option.some.inj hf
    exact rh_Ex.ret rfl rfl
def g_Mo_thing_r7 : Nat → (Nat → Nat → Int32) → Int32 → Option (Int32 × (Nat → Nat → Int32))
  | 0 => fun _ _ => none
  | n + 1 => f_Mo_thing_r7 (g_Mo_thing_r7 n)
set_option maxRecDepth 20000 in
set_option maxHeartbeats 4000000 in
theorem Rg_Mo_thing_r7 : ∀ (n : Nat) (h : Nat → Nat → Int32) (g : Nat → Nat → Int64) (a0 : Int32) z, g_Mo_thing_r7 n h a0 = some z → rh_M rh_PT mw_L (4 * n + 6) 203 [.ref 0, .int a0] (h, g, mw_R (some 7)) (some (.int z.1)) (z.2, g, mw_R (some 7)) := by
  intro n
  induction n with
  | zero => intro h g a0 z hz; cases hz
  | succ n ih =>
    intro h g a0 z hz
    exact R_Mo_thing_r7 (4 * n) (g_Mo_thing_r7 n) ih h g a0 hz
def f_Mo_held_r7w (h : Nat → Nat → Int32) (p0 : Int32) : Option (Int32 × (Nat → Nat → Int32)) := f_Mo_held_r7 (g_Mo_thing_r7 64) h p0
set_option maxRecDepth 20000 in
set_option maxHeartbeats 4000000 in
theorem R_Mo_held_r7w (d : Nat) (h : Nat → Nat → Int32) (g : Nat → Nat → Int64) (p0 : Int32) {z9 : Int32 × (Nat → Nat → Int32)} (hf : f_Mo_held_r7w h p0 = some z9) : rh_M rh_PT mw_L (d + 265) 200 [.ref 0, .int p0] (h, g, mw_R (some 7)) (some (.int z9.1)) (z9.2, g, mw_R (some 7)) := R_Mo_held_r7 (d + 256) (g_Mo_thing_r7 64) (fun h g a0 z hz => rh_M_le (by omega) (Rg_Mo_thing_r7 64 h g a0 z hz)) h g p0 hf
def f_Mo_weightBy (h : Nat → Nat → Int32) (rd : Option Nat) (p0 : Int32) (p1 : Int32) (p2 : Int32) : Option (Int32 × (Nat → Nat → Int32) × (Option Nat)) :=
  if (f_Mo_has (h 0 2) p0) = 0 then
    some ((p1, h, rd))
  else
    if (h 0 17) = 0 then
      some (((if (0 : Int32) < (if (p1 - ((p1 * (p2 - p2 / (9 : Int32) * (9 : Int32))) / (24 : Int32))) < (9999 : Int32) then (p1 - ((p1 * (p2 - p2 / (9 : Int32) * (9 : Int32))) / (24 : Int32))) else (9999 : Int32)) then (if (p1 - ((p1 * (p2 - p2 / (9 : Int32) * (9 : Int32))) / (24 : Int32))) < (9999 : Int32) then (p1 - ((p1 * (p2 - p2 / (9 : Int32) * (9 : Int32))) / (24 : Int32))) else (9999 : Int32)) else (0 : Int32)), h, rd))
    else
      (f_Mo_held_r7w (rh_up (rh_up (rh_up (f_Mo_begin_7 h (h 0 17) (40 : Int32)) 0 18 p0) 0 19 p1) 0 20 p2) (0 : Int32)).bind (fun x3 =>
        some (((if (0 : Int32) < (if x3.1 < (9999 : Int32) then x3.1 else (9999 : Int32)) then (if x3.1 < (9999 : Int32) then x3.1 else (9999 : Int32)) else (0 : Int32)), x3.2, (some 7)))
      )
set_option maxRecDepth 20000 in
set_option maxHeartbeats 4000000 in
theorem R_Mo_weightBy (d : Nat) (rd : Option Nat) (h : Nat → Nat → Int32) (g : Nat → Nat → Int64) (p0 : Int32) (p1 : Int32) (p2 : Int32) {z9 : Int32 × (Nat → Nat → Int32) × (Option Nat)} (hf : f_Mo_weightBy h rd p0 p1 p2 = some z9) : rh_M rh_PT mw_L (d + 266) 206 [.ref 0, .int p0, .int p1, .int p2] (h, g, mw_R rd) (some (.int z9.1)) (z9.2.1, g, mw_R z9.2.2) := by
  unfold f_Mo_weightBy at hf
  refine rh_go pt_206 (Nat.le_of_ble_eq_true rfl) (lv := [some (.ref 0), some (.int p0), some (.int p1), some (.int p2), none]) rfl ?_
  refine rh_Ex.blk 3 (s' := ((5, [some (.ref 0), some (.int p0), some (.int p1), some (.int p2), none], [.int p0, .int (h 0 2)]), (h, g, mw_R rd))) rfl ?_
  refine rh_Ex.call (j := 180) (rc := none) [.int (h 0 2), .int p0] [] (some (.int (f_Mo_has (h 0 2) p0))) rfl rfl trivial (Nat.le_of_ble_eq_true rfl) (R_Mo_has (d + 264) mw_L (mw_R rd) h g (h 0 2) p0 rfl) ?_
  show rh_Ex _ _ _ ((8, [some (.ref 0), some (.int p0), some (.int p1), some (.int p2), none], [.int (f_Mo_has (h 0 2) p0)]), (h, g, mw_R rd)) _ _
  by_cases q1 : (f_Mo_has (h 0 2) p0) = 0
  · rw [if_pos q1] at hf
    refine rh_Ex.stp (s' := ((11, [some (.ref 0), some (.int p0), some (.int p1), some (.int p2), none], []), (h, g, mw_R rd))) rfl (st_ifne_p q1) ?_
    refine rh_Ex.blk 1 (s' := ((12, [some (.ref 0), some (.int p0), some (.int p1), some (.int p2), none], [.int p1]), (h, g, mw_R rd))) rfl ?_
    obtain rfl := Option.some.inj hf
    exact rh_Ex.ret rfl rfl
  · rw [if_neg q1] at hf
    refine rh_Ex.stp (s' := ((13, [some (.ref 0), some (.int p0), some (.int p1), some (.int p2), none], []), (h, g, mw_R rd))) rfl (st_ifne_n q1) ?_
    refine rh_Ex.blk 2 (s' := ((17, [some (.ref 0), some (.int p0), some (.int p1), some (.int p2), none], [.int (h 0 17)]), (h, g, mw_R rd))) rfl ?_
    by_cases q2 : (h 0 17) = 0
    · rw [if_pos q2] at hf
      refine rh_Ex.stp (s' := ((20, [some (.ref 0), some (.int p0), some (.int p1), some (.int p2), none], []), (h, g, mw_R rd))) rfl (st_ifne_p q2) ?_
      refine rh_Ex.blk 4 (s' := ((25, [some (.ref 0), some (.int p0), some (.int p1), some (.int p2), none], [.int (9 : Int32), .int p2, .int p1, .int p1]), (h, g, mw_R rd))) rfl ?_
      refine rh_Ex.stp (s' := ((26, [some (.ref 0), some (.int p0), some (.int p1), some (.int p2), none], [.int (p2 - p2 / (9 : Int32) * (9 : Int32)), .int p1, .int p1]), (h, g, mw_R rd))) rfl (st_irem (by decide)) ?_
      refine rh_Ex.blk 2 (s' := ((29, [some (.ref 0), some (.int p0), some (.int p1), some (.int p2), none], [.int (24 : Int32), .int (p1 * (p2 - p2 / (9 : Int32) * (9 : Int32))), .int p1]), (h, g, mw_R rd))) rfl ?_
      refine rh_Ex.stp (s' := ((30, [some (.ref 0), some (.int p0), some (.int p1), some (.int p2), none], [.int ((p1 * (p2 - p2 / (9 : Int32) * (9 : Int32))) / (24 : Int32)), .int p1]), (h, g, mw_R rd))) rfl (st_idiv (by decide)) ?_
      refine rh_Ex.blk 6 (s' := ((78, [some (.ref 0), some (.int p0), some (.int p1), some (.int p2), some (.int (p1 - ((p1 * (p2 - p2 / (9 : Int32) * (9 : Int32))) / (24 : Int32))))], [.int (p1 - ((p1 * (p2 - p2 / (9 : Int32) * (9 : Int32))) / (24 : Int32))), .int (9999 : Int32), .int (0 : Int32)]), (h, g, mw_R rd))) rfl ?_
      refine rh_Ex.stp (s' := ((81, [some (.ref 0), some (.int p0), some (.int p1), some (.int p2), some (.int (p1 - ((p1 * (p2 - p2 / (9 : Int32) * (9 : Int32))) / (24 : Int32))))], [.int (if (p1 - ((p1 * (p2 - p2 / (9 : Int32) * (9 : Int32))) / (24 : Int32))) < (9999 : Int32) then (p1 - ((p1 * (p2 - p2 / (9 : Int32) * (9 : Int32))) / (24 : Int32))) else (9999 : Int32)), .int (0 : Int32)]), (h, g, mw_R rd))) rfl (st_mmin (Nat.le_of_ble_eq_true rfl)) ?_
      refine rh_Ex.stp (s' := ((84, [some (.ref 0), some (.int p0), some (.int p1), some (.int p2), some (.int (p1 - ((p1 * (p2 - p2 / (9 : Int32) * (9 : Int32))) / (24 : Int32))))], [.int (if (0 : Int32) < (if (p1 - ((p1 * (p2 - p2 / (9 : Int32) * (9 : Int32))) / (24 : Int32))) < (9999 : Int32) then (p1 - ((p1 * (p2 - p2 / (9 : Int32) * (9 : Int32))) / (24 : Int32))) else (9999 : Int32)) then (if (p1 - ((p1 * (p2 - p2 / (9 : Int32) * (9 : Int32))) / (24 : Int32))) < (9999 : Int32) then (p1 - ((p1 * (p2 - p2 / (9 : Int32) * (9 : Int32))) / (24 : Int32))) else (9999 : Int32)) else (0 : Int32))]), (h, g, mw_R rd))) rfl (st_mmax (Nat.le_of_ble_eq_true rfl)) ?_
      obtain rfl := Option.some.inj hf
      exact rh_Ex.ret rfl rfl
    · rw [if_neg q2] at hf
      refine rh_Ex.stp (s' := ((36, [some (.ref 0), some (.int p0), some (.int p1), some (.int p2), none], []), (h, g, mw_R rd))) rfl (st_ifne_n q2) ?_
      refine rh_Ex.blk 6 (s' := ((47, [some (.ref 0), some (.int p0), some (.int p1), some (.int p2), none], [.int (40 : Int32), .int (h 0 17), .ref 7, .ref 0]), (h, g, mw_R rd))) rfl ?_
      refine rh_Ex.call (j := 190) (rc := some 11) [.ref 0, .ref 7, .int (h 0 17), .int (40 : Int32)] [] none rfl rfl rfl (Nat.le_of_ble_eq_true rfl) (R_Mo_begin_7 (d + 264) rd h g (h 0 17) (40 : Int32) rfl) ?_
      show rh_Ex _ _ _ ((50, [some (.ref 0), some (.int p0), some (.int p1), some (.int p2), none], []), ((f_Mo_begin_7 h (h 0 17) (40 : Int32)), g, mw_R (some 7))) _ _
      refine rh_Ex.blk 11 (s' := ((67, [some (.ref 0), some (.int p0), some (.int p1), some (.int p2), none], [.int (0 : Int32), .ref 0]), (rh_up (rh_up (rh_up (f_Mo_begin_7 h (h 0 17) (40 : Int32)) 0 18 p0) 0 19 p1) 0 20 p2, g, mw_R (some 7)))) rfl ?_
      obtain ⟨x3, hx3, hf⟩ := rh_bq hf
      refine rh_Ex.call (j := 200) (rc := some 11) [.ref 0, .int (0 : Int32)] [] (some (.int x3.1)) rfl rfl rfl (Nat.le_of_ble_eq_true rfl) (R_Mo_held_r7w d (rh_up (rh_up (rh_up (f_Mo_begin_7 h (h 0 17) (40 : Int32)) 0 18 p0) 0 19 p1) 0 20 p2) g (0 : Int32) hx3) ?_
      show rh_Ex _ _ _ ((70, [some (.ref 0), some (.int p0), some (.int p1), some (.int p2), none], [.int x3.1]), (x3.2, g, mw_R (some 7))) _ _
      refine rh_Ex.blk 4 (s' := ((78, [some (.ref 0), some (.int p0), some (.int p1), some (.int p2), some (.int x3.1)], [.int x3.1, .int (9999 : Int32), .int (0 : Int32)]), (x3.2, g, mw_R (some 7)))) rfl ?_
      refine rh_Ex.stp (s' := ((81, [some (.ref 0), some (.int p0), some (.int p1), some (.int p2), some (.int x3.1)], [.int (if x3.1 < (9999 : Int32) then x3.1 else (9999 : Int32)), .int (0 : Int32)]), (x3.2, g, mw_R (some 7)))) rfl (st_mmin (Nat.le_of_ble_eq_true rfl)) ?_
      refine rh_Ex.stp (s' := ((84, [some (.ref 0), some (.int p0), some (.int p1), some (.int p2), some (.int x3.1)], [.int (if (0 : Int32) < (if x3.1 < (9999 : Int32) then x3.1 else (9999 : Int32)) then (if x3.1 < (9999 : Int32) then x3.1 else (9999 : Int32)) else (0 : Int32))]), (x3.2, g, mw_R (some 7)))) rfl (st_mmax (Nat.le_of_ble_eq_true rfl)) ?_
      obtain rfl := Option.some.inj hf
      exact rh_Ex.ret rfl rfl
def f_Mo_weightOf (h : Nat → Nat → Int32) (rd : Option Nat) (p0 : Int32) (p1 : Int32) : Option (Int32 × (Nat → Nat → Int32) × (Option Nat)) :=
  rh_g (0 ≤ p0.toInt ∧ p0.toInt < ((9 : Nat) : Int)) (
    (f_Mo_weightBy h rd p0 (h 2 p0.toNatClampNeg) p1).bind (fun x2 =>
      some ((x2.1, x2.2.1, x2.2.2))
    )
  )
set_option maxRecDepth 20000 in
set_option maxHeartbeats 4000000 in
theorem R_Mo_weightOf (d : Nat) (rd : Option Nat) (h : Nat → Nat → Int32) (g : Nat → Nat → Int64) (p0 : Int32) (p1 : Int32) {z9 : Int32 × (Nat → Nat → Int32) × (Option Nat)} (hf : f_Mo_weightOf h rd p0 p1 = some z9) : rh_M rh_PT mw_L (d + 267) 205 [.ref 0, .int p0, .int p1] (h, g, mw_R rd) (some (.int z9.1)) (z9.2.1, g, mw_R z9.2.2) := by
  unfold f_Mo_weightOf at hf
  refine rh_go pt_205 (Nat.le_of_ble_eq_true rfl) (lv := [some (.ref 0), some (.int p0), some (.int p1)]) rfl ?_
  refine rh_Ex.blk 5 (s' := ((7, [some (.ref 0), some (.int p0), some (.int p1)], [.int p0, .ref 2, .int p0, .ref 0]), (h, g, mw_R rd))) rfl ?_
  obtain ⟨q1, hf⟩ := rh_gq hf
  refine rh_Ex.stp (s' := ((8, [some (.ref 0), some (.int p0), some (.int p1)], [.int (h 2 p0.toNatClampNeg), .int p0, .ref 0]), (h, g, mw_R rd))) rfl (st_iald (n := 9) rfl q1) ?_
  refine rh_Ex.blk 1 (s' := ((9, [some (.ref 0), some (.int p0), some (.int p1)], [.int p1, .int (h 2 p0.toNatClampNeg), .int p0, .ref 0]), (h, g, mw_R rd))) rfl ?_
  obtain ⟨x2, hx2, hf⟩ := rh_bq hf
  refine rh_Ex.call (j := 206) (rc := some 11) [.ref 0, .int p0, .int (h 2 p0.toNatClampNeg), .int p1] [] (some (.int x2.1)) rfl rfl rfl (Nat.le_of_ble_eq_true rfl) (R_Mo_weightBy d rd h g p0 (h 2 p0.toNatClampNeg) p1 hx2) ?_
  show rh_Ex _ _ _ ((12, [some (.ref 0), some (.int p0), some (.int p1)], [.int x2.1]), (x2.2.1, g, mw_R x2.2.2)) _ _
  obtain rfl := Option.some.inj hf
  exact rh_Ex.ret rfl rfl
def b_Mo_weightOfAll_5 (u1 : Int32) (u2 : Int32) : (Int32 × Int32 × (Nat → Nat → Int32) × (Option Nat)) → Option ((Int32 × Int32 × (Nat → Nat → Int32) × (Option Nat)) ⊕ (Int32 × (Nat → Nat → Int32) × (Option Nat))) := fun s5 =>
  if (s5.2.2.1 0 1) ≤ s5.2.1 then
    some (.inr (s5.1, s5.2.2.1, s5.2.2.2))
  else
    if (f_Mo_has u1 s5.2.1) = 0 then
      some (.inl (s5.1 + (0 : Int32), s5.2.1 + (1 : Int32), s5.2.2.1, s5.2.2.2))
    else
      (f_Mo_weightOf s5.2.2.1 s5.2.2.2 s5.2.1 u2).bind (fun x4 =>
        some (.inl (s5.1 + x4.1, s5.2.1 + (1 : Int32), x4.2.1, x4.2.2))
      )
def f_Mo_weightOfAll (h : Nat → Nat → Int32) (rd : Option Nat) (p0 : Int32) (p1 : Int32) : Option (Int32 × (Nat → Nat → Int32) × (Option Nat)) :=
  (rh_loop (b_Mo_weightOfAll_5 p0 p1) rh_N ((0 : Int32), (0 : Int32), h, rd)).bind (fun r5 =>
    some ((r5.1, r5.2.1, r5.2.2))
  )
set_option maxRecDepth 20000 in
set_option maxHeartbeats 4000000 in
theorem lb_Mo_weightOfAll_5 (d : Nat) (u1 : Int32) (u2 : Int32) (g : Nat → Nat → Int64) (v9 : Option Value) (h9 : rh_H) : ∀ s5 x9, b_Mo_weightOfAll_5 u1 u2 s5 = some x9 → Sum.elim (fun s5 => rh_Ex (rh_M rh_PT mw_L (d + 267)) mw_L pg_X12_weightOfAll ((5, [some (.ref 0), some (.int u1), some (.int u2), some (.int s5.1), some (.int s5.2.1)], []), (s5.2.2.1, g, mw_R s5.2.2.2)) v9 h9) (fun e9 => rh_Ex (rh_M rh_PT mw_L (d + 267)) mw_L pg_X12_weightOfAll ((43, [none, none, none, some (.int e9.1), none], []), (e9.2.1, g, mw_R e9.2.2)) v9 h9) x9 → rh_Ex (rh_M rh_PT mw_L (d + 267)) mw_L pg_X12_weightOfAll ((5, [some (.ref 0), some (.int u1), some (.int u2), some (.int s5.1), some (.int s5.2.1)], []), (s5.2.2.1, g, mw_R s5.2.2.2)) v9 h9 := by
  intro s5 x9 hf hk
  unfold b_Mo_weightOfAll_5 at hf
  refine rh_Ex.blk 3 (s' := ((11, [some (.ref 0), some (.int u1), some (.int u2), some (.int s5.1), some (.int s5.2.1)], [.int (s5.2.2.1 0 1), .int s5.2.1]), (s5.2.2.1, g, mw_R s5.2.2.2))) rfl ?_
  by_cases q2 : (s5.2.2.1 0 1) ≤ s5.2.1
  · rw [if_pos q2] at hf
    refine rh_Ex.stp (s' := ((43, [some (.ref 0), some (.int u1), some (.int u2), some (.int s5.1), some (.int s5.2.1)], []), (s5.2.2.1, g, mw_R s5.2.2.2))) rfl (st_icge_p q2) ?_
    obtain rfl := Option.some.inj hf
    refine rh_Ex.fgt [none, none, none, some (.int s5.1), none] ⟨rfl, trivial⟩ ?_
    exact hk
  · rw [if_neg q2] at hf
    refine rh_Ex.stp (s' := ((14, [some (.ref 0), some (.int u1), some (.int u2), some (.int s5.1), some (.int s5.2.1)], []), (s5.2.2.1, g, mw_R s5.2.2.2))) rfl (st_icge_n q2) ?_
    refine rh_Ex.blk 3 (s' := ((18, [some (.ref 0), some (.int u1), some (.int u2), some (.int s5.1), some (.int s5.2.1)], [.int s5.2.1, .int u1, .int s5.1]), (s5.2.2.1, g, mw_R s5.2.2.2))) rfl ?_
    refine rh_Ex.call (j := 180) (rc := none) [.int u1, .int s5.2.1] [.int s5.1] (some (.int (f_Mo_has u1 s5.2.1))) rfl rfl trivial (Nat.le_of_ble_eq_true rfl) (R_Mo_has (d + 266) mw_L (mw_R s5.2.2.2) s5.2.2.1 g u1 s5.2.1 rfl) ?_
    show rh_Ex _ _ _ ((21, [some (.ref 0), some (.int u1), some (.int u2), some (.int s5.1), some (.int s5.2.1)], [.int (f_Mo_has u1 s5.2.1), .int s5.1]), (s5.2.2.1, g, mw_R s5.2.2.2)) _ _
    by_cases q3 : (f_Mo_has u1 s5.2.1) = 0
    · rw [if_pos q3] at hf
      refine rh_Ex.stp (s' := ((34, [some (.ref 0), some (.int u1), some (.int u2), some (.int s5.1), some (.int s5.2.1)], [.int s5.1]), (s5.2.2.1, g, mw_R s5.2.2.2))) rfl (st_ifeq_p q3) ?_
      refine rh_Ex.blk 5 (s' := ((5, [some (.ref 0), some (.int u1), some (.int u2), some (.int (s5.1 + (0 : Int32))), some (.int (s5.2.1 + (1 : Int32)))], []), (s5.2.2.1, g, mw_R s5.2.2.2))) rfl ?_
      obtain rfl := Option.some.inj hf
      refine rh_Ex.fgt [some (.ref 0), some (.int u1), some (.int u2), some (.int (s5.1 + (0 : Int32))), some (.int (s5.2.1 + (1 : Int32)))] ⟨rfl, rfl, rfl, rfl, rfl, trivial⟩ ?_
      exact hk
    · rw [if_neg q3] at hf
      refine rh_Ex.stp (s' := ((24, [some (.ref 0), some (.int u1), some (.int u2), some (.int s5.1), some (.int s5.2.1)], [.int s5.1]), (s5.2.2.1, g, mw_R s5.2.2.2))) rfl (st_ifeq_n q3) ?_
      refine rh_Ex.blk 3 (s' := ((28, [some (.ref 0), some (.int u1), some (.int u2), some (.int s5.1), some (.int s5.2.1)], [.int u2, .int s5.2.1, .ref 0, .int s5.1]), (s5.2.2.1, g, mw_R s5.2.2.2))) rfl ?_
      obtain ⟨x4, hx4, hf⟩ := rh_bq hf
      refine rh_Ex.call (j := 205) (rc := some 11) [.ref 0, .int s5.2.1, .int u2] [.int s5.1] (some (.int x4.1)) rfl rfl rfl (Nat.le_of_ble_eq_true rfl) (R_Mo_weightOf d s5.2.2.2 s5.2.2.1 g s5.2.1 u2 hx4) ?_
      show rh_Ex _ _ _ ((31, [some (.ref 0), some (.int u1), some (.int u2), some (.int s5.1), some (.int s5.2.1)], [.int x4.1, .int s5.1]), (x4.2.1, g, mw_R x4.2.2)) _ _
      refine rh_Ex.blk 5 (s' := ((5, [some (.ref 0), some (.int u1), some (.int u2), some (.int (s5.1 + x4.1)), some (.int (s5.2.1 + (1 : Int32)))], []), (x4.2.1, g, mw_R x4.2.2))) rfl ?_
      obtain rfl := Option.some.inj hf
      refine rh_Ex.fgt [some (.ref 0), some (.int u1), some (.int u2), some (.int (s5.1 + x4.1)), some (.int (s5.2.1 + (1 : Int32)))] ⟨rfl, rfl, rfl, rfl, rfl, trivial⟩ ?_
      exact hk
set_option maxRecDepth 20000 in
set_option maxHeartbeats 4000000 in
theorem R_Mo_weightOfAll (d : Nat) (rd : Option Nat) (h : Nat → Nat → Int32) (g : Nat → Nat → Int64) (p0 : Int32) (p1 : Int32) {z9 : Int32 × (Nat → Nat → Int32) × (Option Nat)} (hf : f_Mo_weightOfAll h rd p0 p1 = some z9) : rh_M rh_PT mw_L (d + 268) 207 [.ref 0, .int p0, .int p1] (h, g, mw_R rd) (some (.int z9.1)) (z9.2.1, g, mw_R z9.2.2) := by
  unfold f_Mo_weightOfAll at hf
  refine rh_go pt_207 (Nat.le_of_ble_eq_true rfl) (lv := [some (.ref 0), some (.int p0), some (.int p1), none, none]) rfl ?_
  refine rh_Ex.blk 4 (s' := ((5, [some (.ref 0), some (.int p0), some (.int p1), some (.int (0 : Int32)), some (.int (0 : Int32))], []), (h, g, mw_R rd))) rfl ?_
  obtain ⟨r5, hr5, hf⟩ := rh_bq hf
  refine rh_Ex.fgt [some (.ref 0), some (.int p0), some (.int p1), some (.int (0 : Int32)), some (.int (0 : Int32))] ⟨rfl, rfl, rfl, rfl, rfl, trivial⟩ ?_
  refine rh_Ex.loop _ _ _ (lb_Mo_weightOfAll_5 d p0 p1  g _ _) rh_N _ r5 hr5 ?_
  refine rh_Ex.blk 1 (s' := ((44, [none, none, none, some (.int r5.1), none], [.int r5.1]), (r5.2.1, g, mw_R r5.2.2))) rfl ?_
  obtain rfl := Option.some.inj hf
  exact rh_Ex.ret rfl rfl
def j_In_numberOfTrailingZeros_34 (j0 : Int32) (j1 : Int32) : Int32 :=
  if j0 ≤ (256 : Int32) then
    if j0 ≤ (16 : Int32) then
      if j0 ≤ (4 : Int32) then
        (j1 + ((j0.toUInt32 >>> ((1 : Int32).toUInt32 &&& Int32.toUInt32 31)).toInt32))
      else
        ((j1 + (2 : Int32)) + ((((j0.toUInt32 >>> ((2 : Int32).toUInt32 &&& Int32.toUInt32 31)).toInt32).toUInt32 >>> ((1 : Int32).toUInt32 &&& Int32.toUInt32 31)).toInt32))
    else
      if ((j0.toUInt32 >>> ((4 : Int32).toUInt32 &&& Int32.toUInt32 31)).toInt32) ≤ (4 : Int32) then
        ((j1 + (4 : Int32)) + ((((j0.toUInt32 >>> ((4 : Int32).toUInt32 &&& Int32.toUInt32 31)).toInt32).toUInt32 >>> ((1 : Int32).toUInt32 &&& Int32.toUInt32 31)).toInt32))
      else
        (((j1 + (4 : Int32)) + (2 : Int32)) + ((((((j0.toUInt32 >>> ((4 : Int32).toUInt32 &&& Int32.toUInt32 31)).toInt32).toUInt32 >>> ((2 : Int32).toUInt32 &&& Int32.toUInt32 31)).toInt32).toUInt32 >>> ((1 : Int32).toUInt32 &&& Int32.toUInt32 31)).toInt32))
  else
    if ((j0.toUInt32 >>> ((8 : Int32).toUInt32 &&& Int32.toUInt32 31)).toInt32) ≤ (16 : Int32) then
      if ((j0.toUInt32 >>> ((8 : Int32).toUInt32 &&& Int32.toUInt32 31)).toInt32) ≤ (4 : Int32) then
        ((j1 + (8 : Int32)) + ((((j0.toUInt32 >>> ((8 : Int32).toUInt32 &&& Int32.toUInt32 31)).toInt32).toUInt32 >>> ((1 : Int32).toUInt32 &&& Int32.toUInt32 31)).toInt32))
      else
        (((j1 + (8 : Int32)) + (2 : Int32)) + ((((((j0.toUInt32 >>> ((8 : Int32).toUInt32 &&& Int32.toUInt32 31)).toInt32).toUInt32 >>> ((2 : Int32).toUInt32 &&& Int32.toUInt32 31)).toInt32).toUInt32 >>> ((1 : Int32).toUInt32 &&& Int32.toUInt32 31)).toInt32))
    else
      if ((((j0.toUInt32 >>> ((8 : Int32).toUInt32 &&& Int32.toUInt32 31)).toInt32).toUInt32 >>> ((4 : Int32).toUInt32 &&& Int32.toUInt32 31)).toInt32) ≤ (4 : Int32) then
        (((j1 + (8 : Int32)) + (4 : Int32)) + ((((((j0.toUInt32 >>> ((8 : Int32).toUInt32 &&& Int32.toUInt32 31)).toInt32).toUInt32 >>> ((4 : Int32).toUInt32 &&& Int32.toUInt32 31)).toInt32).toUInt32 >>> ((1 : Int32).toUInt32 &&& Int32.toUInt32 31)).toInt32))
      else
        ((((j1 + (8 : Int32)) + (4 : Int32)) + (2 : Int32)) + ((((((((j0.toUInt32 >>> ((8 : Int32).toUInt32 &&& Int32.toUInt32 31)).toInt32).toUInt32 >>> ((4 : Int32).toUInt32 &&& Int32.toUInt32 31)).toInt32).toUInt32 >>> ((2 : Int32).toUInt32 &&& Int32.toUInt32 31)).toInt32).toUInt32 >>> ((1 : Int32).toUInt32 &&& Int32.toUInt32 31)).toInt32))
def f_In_numberOfTrailingZeros (p0 : Int32) : Int32 :=
  if 0 < ((p0 ^^^ (-1 : Int32)) &&& (p0 - (1 : Int32))) then
    if ((p0 ^^^ (-1 : Int32)) &&& (p0 - (1 : Int32))) ≤ (65536 : Int32) then
      j_In_numberOfTrailingZeros_34 ((p0 ^^^ (-1 : Int32)) &&& (p0 - (1 : Int32))) (1 : Int32)
    else
      j_In_numberOfTrailingZeros_34 ((((p0 ^^^ (-1 : Int32)) &&& (p0 - (1 : Int32))).toUInt32 >>> ((16 : Int32).toUInt32 &&& Int32.toUInt32 31)).toInt32) ((1 : Int32) + (16 : Int32))
  else
    (((p0 ^^^ (-1 : Int32)) &&& (p0 - (1 : Int32))) &&& (32 : Int32))
set_option maxRecDepth 20000 in
set_option maxHeartbeats 4000000 in
theorem lj_In_numberOfTrailingZeros_34 (d : Nat) (LL : rh_L) (rr : Nat → Nat → Option Nat) (j0 : Int32) (j1 : Int32) (h : Nat → Nat → Int32) (g : Nat → Nat → Int64) {z9 : Int32} (hf : j_In_numberOfTrailingZeros_34 j0 j1 = z9) : rh_Ex (rh_M rh_PT LL (d + 0)) LL pg_J6_numberOfTrailingZeros_0f7a4 ((34, [some (.int j0), some (.int j1)], []), (h, g, rr)) (some (.int z9)) (h, g, rr) := by
  unfold j_In_numberOfTrailingZeros_34 at hf
  refine rh_Ex.blk 2 (s' := ((38, [some (.int j0), some (.int j1)], [.int (256 : Int32), .int j0]), (h, g, rr))) rfl ?_
  by_cases q3 : j0 ≤ (256 : Int32)
  · rw [if_pos q3] at hf
    refine rh_Ex.stp (s' := ((49, [some (.int j0), some (.int j1)], []), (h, g, rr))) rfl (st_icle_p q3) ?_
    refine rh_Ex.blk 2 (s' := ((52, [some (.int j0), some (.int j1)], [.int (16 : Int32), .int j0]), (h, g, rr))) rfl ?_
    by_cases q4 : j0 ≤ (16 : Int32)
    · rw [if_pos q4] at hf
      refine rh_Ex.stp (s' := ((62, [some (.int j0), some (.int j1)], []), (h, g, rr))) rfl (st_icle_p q4) ?_
      refine rh_Ex.blk 2 (s' := ((64, [some (.int j0), some (.int j1)], [.int (4 : Int32), .int j0]), (h, g, rr))) rfl ?_
      by_cases q5 : j0 ≤ (4 : Int32)
      · rw [if_pos q5] at hf
        refine rh_Ex.stp (s' := ((74, [some (.int j0), some (.int j1)], []), (h, g, rr))) rfl (st_icle_p q5) ?_
        refine rh_Ex.blk 5 (s' := ((79, [some (.int j0), some (.int j1)], [.int (j1 + ((j0.toUInt32 >>> ((1 : Int32).toUInt32 &&& Int32.toUInt32 31)).toInt32))]), (h, g, rr))) rfl ?_
        subst hf
        exact rh_Ex.ret rfl rfl
      · rw [if_neg q5] at hf
        refine rh_Ex.stp (s' := ((67, [some (.int j0), some (.int j1)], []), (h, g, rr))) rfl (st_icle_n q5) ?_
        refine rh_Ex.blk 10 (s' := ((79, [some (.int ((j0.toUInt32 >>> ((2 : Int32).toUInt32 &&& Int32.toUInt32 31)).toInt32)), some (.int (j1 + (2 : Int32)))], [.int ((j1 + (2 : Int32)) + ((((j0.toUInt32 >>> ((2 : Int32).toUInt32 &&& Int32.toUInt32 31)).toInt32).toUInt32 >>> ((1 : Int32).toUInt32 &&& Int32.toUInt32 31)).toInt32))]), (h, g, rr))) rfl ?_
        subst hf
        exact rh_Ex.ret rfl rfl
    · rw [if_neg q4] at hf
      refine rh_Ex.stp (s' := ((55, [some (.int j0), some (.int j1)], []), (h, g, rr))) rfl (st_icle_n q4) ?_
      refine rh_Ex.blk 7 (s' := ((64, [some (.int ((j0.toUInt32 >>> ((4 : Int32).toUInt32 &&& Int32.toUInt32 31)).toInt32)), some (.int (j1 + (4 : Int32)))], [.int (4 : Int32), .int ((j0.toUInt32 >>> ((4 : Int32).toUInt32 &&& Int32.toUInt32 31)).toInt32)]), (h, g, rr))) rfl ?_
      by_cases q6 : ((j0.toUInt32 >>> ((4 : Int32).toUInt32 &&& Int32.toUInt32 31)).toInt32) ≤ (4 : Int32)
      · rw [if_pos q6] at hf
        refine rh_Ex.stp (s' := ((74, [some (.int ((j0.toUInt32 >>> ((4 : Int32).toUInt32 &&& Int32.toUInt32 31)).toInt32)), some (.int (j1 + (4 : Int32)))], []), (h, g, rr))) rfl (st_icle_p q6) ?_
        refine rh_Ex.blk 5 (s' := ((79, [some (.int ((j0.toUInt32 >>> ((4 : Int32).toUInt32 &&& Int32.toUInt32 31)).toInt32)), some (.int (j1 + (4 : Int32)))], [.int ((j1 + (4 : Int32)) + ((((j0.toUInt32 >>> ((4 : Int32).toUInt32 &&& Int32.toUInt32 31)).toInt32).toUInt32 >>> ((1 : Int32).toUInt32 &&& Int32.toUInt32 31)).toInt32))]), (h, g, rr))) rfl ?_
        subst hf
        exact rh_Ex.ret rfl rfl
      · rw [if_neg q6] at hf
        refine rh_Ex.stp (s' := ((67, [some (.int ((j0.toUInt32 >>> ((4 : Int32).toUInt32 &&& Int32.toUInt32 31)).toInt32)), some (.int (j1 + (4 : Int32)))], []), (h, g, rr))) rfl (st_icle_n q6) ?_
        refine rh_Ex.blk 10 (s' := ((79, [some (.int ((((j0.toUInt32 >>> ((4 : Int32).toUInt32 &&& Int32.toUInt32 31)).toInt32).toUInt32 >>> ((2 : Int32).toUInt32 &&& Int32.toUInt32 31)).toInt32)), some (.int ((j1 + (4 : Int32)) + (2 : Int32)))], [.int (((j1 + (4 : Int32)) + (2 : Int32)) + ((((((j0.toUInt32 >>> ((4 : Int32).toUInt32 &&& Int32.toUInt32 31)).toInt32).toUInt32 >>> ((2 : Int32).toUInt32 &&& Int32.toUInt32 31)).toInt32).toUInt32 >>> ((1 : Int32).toUInt32 &&& Int32.toUInt32 31)).toInt32))]), (h, g, rr))) rfl ?_
        subst hf
        exact rh_Ex.ret rfl rfl
  · rw [if_neg q3] at hf
    refine rh_Ex.stp (s' := ((41, [some (.int j0), some (.int j1)], []), (h, g, rr))) rfl (st_icle_n q3) ?_
    refine rh_Ex.blk 7 (s' := ((52, [some (.int ((j0.toUInt32 >>> ((8 : Int32).toUInt32 &&& Int32.toUInt32 31)).toInt32)), some (.int (j1 + (8 : Int32)))], [.int (16 : Int32), .int ((j0.toUInt32 >>> ((8 : Int32).toUInt32 &&& Int32.toUInt32 31)).toInt32)]), (h, g, rr))) rfl ?_
    by_cases q7 : ((j0.toUInt32 >>> ((8 : Int32).toUInt32 &&& Int32.toUInt32 31)).toInt32) ≤ (16 : Int32)
    · rw [if_pos q7] at hf
      refine rh_Ex.stp (s' := ((62, [some (.int ((j0.toUInt32 >>> ((8 : Int32).toUInt32 &&& Int32.toUInt32 31)).toInt32)), some (.int (j1 + (8 : Int32)))], []), (h, g, rr))) rfl (st_icle_p q7) ?_
      refine rh_Ex.blk 2 (s' := ((64, [some (.int ((j0.toUInt32 >>> ((8 : Int32).toUInt32 &&& Int32.toUInt32 31)).toInt32)), some (.int (j1 + (8 : Int32)))], [.int (4 : Int32), .int ((j0.toUInt32 >>> ((8 : Int32).toUInt32 &&& Int32.toUInt32 31)).toInt32)]), (h, g, rr))) rfl ?_
      by_cases q8 : ((j0.toUInt32 >>> ((8 : Int32).toUInt32 &&& Int32.toUInt32 31)).toInt32) ≤ (4 : Int32)
      · rw [if_pos q8] at hf
        refine rh_Ex.stp (s' := ((74, [some (.int ((j0.toUInt32 >>> ((8 : Int32).toUInt32 &&& Int32.toUInt32 31)).toInt32)), some (.int (j1 + (8 : Int32)))], []), (h, g, rr))) rfl (st_icle_p q8) ?_
        refine rh_Ex.blk 5 (s' := ((79, [some (.int ((j0.toUInt32 >>> ((8 : Int32).toUInt32 &&& Int32.toUInt32 31)).toInt32)), some (.int (j1 + (8 : Int32)))], [.int ((j1 + (8 : Int32)) + ((((j0.toUInt32 >>> ((8 : Int32).toUInt32 &&& Int32.toUInt32 31)).toInt32).toUInt32 >>> ((1 : Int32).toUInt32 &&& Int32.toUInt32 31)).toInt32))]), (h, g, rr))) rfl ?_
        subst hf
        exact rh_Ex.ret rfl rfl
      · rw [if_neg q8] at hf
        refine rh_Ex.stp (s' := ((67, [some (.int ((j0.toUInt32 >>> ((8 : Int32).toUInt32 &&& Int32.toUInt32 31)).toInt32)), some (.int (j1 + (8 : Int32)))], []), (h, g, rr))) rfl (st_icle_n q8) ?_
        refine rh_Ex.blk 10 (s' := ((79, [some (.int ((((j0.toUInt32 >>> ((8 : Int32).toUInt32 &&& Int32.toUInt32 31)).toInt32).toUInt32 >>> ((2 : Int32).toUInt32 &&& Int32.toUInt32 31)).toInt32)), some (.int ((j1 + (8 : Int32)) + (2 : Int32)))], [.int (((j1 + (8 : Int32)) + (2 : Int32)) + ((((((j0.toUInt32 >>> ((8 : Int32).toUInt32 &&& Int32.toUInt32 31)).toInt32).toUInt32 >>> ((2 : Int32).toUInt32 &&& Int32.toUInt32 31)).toInt32).toUInt32 >>> ((1 : Int32).toUInt32 &&& Int32.toUInt32 31)).toInt32))]), (h, g, rr))) rfl ?_
        subst hf
        exact rh_Ex.ret rfl rfl
    · rw [if_neg q7] at hf
      refine rh_Ex.stp (s' := ((55, [some (.int ((j0.toUInt32 >>> ((8 : Int32).toUInt32 &&& Int32.toUInt32 31)).toInt32)), some (.int (j1 + (8 : Int32)))], []), (h, g, rr))) rfl (st_icle_n q7) ?_
      refine rh_Ex.blk 7 (s' := ((64, [some (.int ((((j0.toUInt32 >>> ((8 : Int32).toUInt32 &&& Int32.toUInt32 31)).toInt32).toUInt32 >>> ((4 : Int32).toUInt32 &&& Int32.toUInt32 31)).toInt32)), some (.int ((j1 + (8 : Int32)) + (4 : Int32)))], [.int (4 : Int32), .int ((((j0.toUInt32 >>> ((8 : Int32).toUInt32 &&& Int32.toUInt32 31)).toInt32).toUInt32 >>> ((4 : Int32).toUInt32 &&& Int32.toUInt32 31)).toInt32)]), (h, g, rr))) rfl ?_
      by_cases q9 : ((((j0.toUInt32 >>> ((8 : Int32).toUInt32 &&& Int32.toUInt32 31)).toInt32).toUInt32 >>> ((4 : Int32).toUInt32 &&& Int32.toUInt32 31)).toInt32) ≤ (4 : Int32)
      · rw [if_pos q9] at hf
        refine rh_Ex.stp (s' := ((74, [some (.int ((((j0.toUInt32 >>> ((8 : Int32).toUInt32 &&& Int32.toUInt32 31)).toInt32).toUInt32 >>> ((4 : Int32).toUInt32 &&& Int32.toUInt32 31)).toInt32)), some (.int ((j1 + (8 : Int32)) + (4 : Int32)))], []), (h, g, rr))) rfl (st_icle_p q9) ?_
        refine rh_Ex.blk 5 (s' := ((79, [some (.int ((((j0.toUInt32 >>> ((8 : Int32).toUInt32 &&& Int32.toUInt32 31)).toInt32).toUInt32 >>> ((4 : Int32).toUInt32 &&& Int32.toUInt32 31)).toInt32)), some (.int ((j1 + (8 : Int32)) + (4 : Int32)))], [.int (((j1 + (8 : Int32)) + (4 : Int32)) + ((((((j0.toUInt32 >>> ((8 : Int32).toUInt32 &&& Int32.toUInt32 31)).toInt32).toUInt32 >>> ((4 : Int32).toUInt32 &&& Int32.toUInt32 31)).toInt32).toUInt32 >>> ((1 : Int32).toUInt32 &&& Int32.toUInt32 31)).toInt32))]), (h, g, rr))) rfl ?_
        subst hf
        exact rh_Ex.ret rfl rfl
      · rw [if_neg q9] at hf
        refine rh_Ex.stp (s' := ((67, [some (.int ((((j0.toUInt32 >>> ((8 : Int32).toUInt32 &&& Int32.toUInt32 31)).toInt32).toUInt32 >>> ((4 : Int32).toUInt32 &&& Int32.toUInt32 31)).toInt32)), some (.int ((j1 + (8 : Int32)) + (4 : Int32)))], []), (h, g, rr))) rfl (st_icle_n q9) ?_
        refine rh_Ex.blk 10 (s' := ((79, [some (.int ((((((j0.toUInt32 >>> ((8 : Int32).toUInt32 &&& Int32.toUInt32 31)).toInt32).toUInt32 >>> ((4 : Int32).toUInt32 &&& Int32.toUInt32 31)).toInt32).toUInt32 >>> ((2 : Int32).toUInt32 &&& Int32.toUInt32 31)).toInt32)), some (.int (((j1 + (8 : Int32)) + (4 : Int32)) + (2 : Int32)))], [.int ((((j1 + (8 : Int32)) + (4 : Int32)) + (2 : Int32)) + ((((((((j0.toUInt32 >>> ((8 : Int32).toUInt32 &&& Int32.toUInt32 31)).toInt32).toUInt32 >>> ((4 : Int32).toUInt32 &&& Int32.toUInt32 31)).toInt32).toUInt32 >>> ((2 : Int32).toUInt32 &&& Int32.toUInt32 31)).toInt32).toUInt32 >>> ((1 : Int32).toUInt32 &&& Int32.toUInt32 31)).toInt32))]), (h, g, rr))) rfl ?_
        subst hf
        exact rh_Ex.ret rfl rfl
set_option maxRecDepth 20000 in
set_option maxHeartbeats 4000000 in
theorem R_In_numberOfTrailingZeros (d : Nat) (LL : rh_L) (rr : Nat → Nat → Option Nat) (h : Nat → Nat → Int32) (g : Nat → Nat → Int64) (p0 : Int32) {z9 : Int32} (hf : f_In_numberOfTrailingZeros p0 = z9) : rh_M rh_PT LL (d + 1) 297 [.int p0] (h, g, rr) (some (.int z9)) (h, g, rr) := by
  unfold f_In_numberOfTrailingZeros at hf
  refine rh_go pt_297 (Nat.le_of_ble_eq_true rfl) (lv := [some (.int p0), none]) rfl ?_
  refine rh_Ex.blk 9 (s' := ((9, [some (.int ((p0 ^^^ (-1 : Int32)) &&& (p0 - (1 : Int32)))), none], [.int ((p0 ^^^ (-1 : Int32)) &&& (p0 - (1 : Int32)))]), (h, g, rr))) rfl ?_
  by_cases q1 : 0 < ((p0 ^^^ (-1 : Int32)) &&& (p0 - (1 : Int32)))
  · rw [if_pos q1] at hf
    refine rh_Ex.stp (s' := ((17, [some (.int ((p0 ^^^ (-1 : Int32)) &&& (p0 - (1 : Int32)))), none], []), (h, g, rr))) rfl (st_ifgt_p q1) ?_
    refine rh_Ex.blk 4 (s' := ((23, [some (.int ((p0 ^^^ (-1 : Int32)) &&& (p0 - (1 : Int32)))), some (.int (1 : Int32))], [.int (65536 : Int32), .int ((p0 ^^^ (-1 : Int32)) &&& (p0 - (1 : Int32)))]), (h, g, rr))) rfl ?_
    by_cases q2 : ((p0 ^^^ (-1 : Int32)) &&& (p0 - (1 : Int32))) ≤ (65536 : Int32)
    · rw [if_pos q2] at hf
      refine rh_Ex.stp (s' := ((34, [some (.int ((p0 ^^^ (-1 : Int32)) &&& (p0 - (1 : Int32)))), some (.int (1 : Int32))], []), (h, g, rr))) rfl (st_icle_p q2) ?_
      refine rh_Ex.fgt [some (.int ((p0 ^^^ (-1 : Int32)) &&& (p0 - (1 : Int32)))), some (.int (1 : Int32))] ⟨rfl, rfl, trivial⟩ ?_
      exact lj_In_numberOfTrailingZeros_34 d LL rr ((p0 ^^^ (-1 : Int32)) &&& (p0 - (1 : Int32))) (1 : Int32) h g hf
    · rw [if_neg q2] at hf
      refine rh_Ex.stp (s' := ((26, [some (.int ((p0 ^^^ (-1 : Int32)) &&& (p0 - (1 : Int32)))), some (.int (1 : Int32))], []), (h, g, rr))) rfl (st_icle_n q2) ?_
      refine rh_Ex.blk 5 (s' := ((34, [some (.int ((((p0 ^^^ (-1 : Int32)) &&& (p0 - (1 : Int32))).toUInt32 >>> ((16 : Int32).toUInt32 &&& Int32.toUInt32 31)).toInt32)), some (.int ((1 : Int32) + (16 : Int32)))], []), (h, g, rr))) rfl ?_
      refine rh_Ex.fgt [some (.int ((((p0 ^^^ (-1 : Int32)) &&& (p0 - (1 : Int32))).toUInt32 >>> ((16 : Int32).toUInt32 &&& Int32.toUInt32 31)).toInt32)), some (.int ((1 : Int32) + (16 : Int32)))] ⟨rfl, rfl, trivial⟩ ?_
      exact lj_In_numberOfTrailingZeros_34 d LL rr ((((p0 ^^^ (-1 : Int32)) &&& (p0 - (1 : Int32))).toUInt32 >>> ((16 : Int32).toUInt32 &&& Int32.toUInt32 31)).toInt32) ((1 : Int32) + (16 : Int32)) h g hf
  · rw [if_neg q1] at hf
    refine rh_Ex.stp (s' := ((12, [some (.int ((p0 ^^^ (-1 : Int32)) &&& (p0 - (1 : Int32)))), none], []), (h, g, rr))) rfl (st_ifgt_n q1) ?_
    refine rh_Ex.blk 3 (s' := ((16, [some (.int ((p0 ^^^ (-1 : Int32)) &&& (p0 - (1 : Int32)))), none], [.int (((p0 ^^^ (-1 : Int32)) &&& (p0 - (1 : Int32))) &&& (32 : Int32))]), (h, g, rr))) rfl ?_
    subst hf
    exact rh_Ex.ret rfl rfl
