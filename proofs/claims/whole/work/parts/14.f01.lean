def b_De_leanAt_4 (u1 : Int32) : (Int32 × Int32 × (Nat → Nat → Int32)) → Option ((Int32 × Int32 × (Nat → Nat → Int32)) ⊕ (Int32 × (Nat → Nat → Int32))) := fun s4 =>
  if (s4.2.2 4 0) ≤ s4.2.1 then
    some (.inr (s4.1, s4.2.2))
  else
    if (f_De_isAboard s4.2.2 s4.2.1) = 0 then
      some (.inl (s4.1, s4.2.1 + (1 : Int32), s4.2.2))
    else
      rh_g (0 ≤ s4.2.1.toInt ∧ s4.2.1.toInt < ((9 : Nat) : Int)) (
        if (s4.2.2 14 s4.2.1.toNatClampNeg) = 0 then
          some (.inl (s4.1, s4.2.1 + (1 : Int32), s4.2.2))
        else
          (f_Cr_weightAt s4.2.2 s4.2.1 u1).bind (fun x6 =>
            rh_g (0 ≤ s4.2.1.toInt ∧ s4.2.1.toInt < ((9 : Nat) : Int)) (
              some (.inl (s4.1 + (x6.1 * (x6.2 14 s4.2.1.toNatClampNeg)), s4.2.1 + (1 : Int32), x6.2))
            )
          )
      )
def f_De_leanAt (h : Nat → Nat → Int32) (p0 : Int32) : Option (Int32 × (Nat → Nat → Int32)) :=
  (rh_loop (b_De_leanAt_4 p0) rh_N ((0 : Int32), (0 : Int32), h)).bind (fun r8 =>
    some ((r8.1, r8.2))
  )
set_option maxRecDepth 20000 in
set_option maxHeartbeats 4000000 in
theorem lb_De_leanAt_4 (d : Nat) (xx : rh_L) (sv : Option Nat) (u1 : Int32) (g : Nat → Nat → Int64) (v9 : Option Value) (h9 : rh_H) : ∀ s4 x9, b_De_leanAt_4 u1 s4 = some x9 → Sum.elim (fun s4 => rh_Ex (rh_M rh_PT (cw_L ++ xx) (d + 3)) (cw_L ++ xx) pg_X2_leanAt ((4, [some (.ref 13), some (.int u1), some (.int s4.1), some (.int s4.2.1)], []), (s4.2.2, g, cw_R sv)) v9 h9) (fun e9 => rh_Ex (rh_M rh_PT (cw_L ++ xx) (d + 3)) (cw_L ++ xx) pg_X2_leanAt ((57, [none, none, some (.int e9.1), none], []), (e9.2, g, cw_R sv)) v9 h9) x9 → rh_Ex (rh_M rh_PT (cw_L ++ xx) (d + 3)) (cw_L ++ xx) pg_X2_leanAt ((4, [some (.ref 13), some (.int u1), some (.int s4.1), some (.int s4.2.1)], []), (s4.2.2, g, cw_R sv)) v9 h9 := by
  intro s4 x9 hf hk
  unfold b_De_leanAt_4 at hf
  refine rh_Ex.blk 4 (s' := ((12, [some (.ref 13), some (.int u1), some (.int s4.1), some (.int s4.2.1)], [.int (s4.2.2 4 0), .int s4.2.1]), (s4.2.2, g, cw_R sv))) rfl ?_
  by_cases q2 : (s4.2.2 4 0) ≤ s4.2.1
  · rw [if_pos q2] at hf
    refine rh_Ex.stp (s' := ((57, [some (.ref 13), some (.int u1), some (.int s4.1), some (.int s4.2.1)], []), (s4.2.2, g, cw_R sv))) rfl (st_icge_p q2) ?_
    obtain rfl := Option.some.inj hf
    refine rh_Ex.fgt [none, none, some (.int s4.1), none] ⟨rfl, trivial⟩ ?_
    exact hk
  · rw [if_neg q2] at hf
    refine rh_Ex.stp (s' := ((15, [some (.ref 13), some (.int u1), some (.int s4.1), some (.int s4.2.1)], []), (s4.2.2, g, cw_R sv))) rfl (st_icge_n q2) ?_
    refine rh_Ex.blk 2 (s' := ((17, [some (.ref 13), some (.int u1), some (.int s4.1), some (.int s4.2.1)], [.int s4.2.1, .ref 13]), (s4.2.2, g, cw_R sv))) rfl ?_
    refine rh_Ex.call (j := 19) (rc := some 2) [.ref 13, .int s4.2.1] [] (some (.int (f_De_isAboard s4.2.2 s4.2.1))) rfl rfl rfl (Nat.le_of_ble_eq_true rfl) (R_De_isAboard (d + 2) xx sv s4.2.2 g s4.2.1 rfl) ?_
    show rh_Ex _ _ _ ((20, [some (.ref 13), some (.int u1), some (.int s4.1), some (.int s4.2.1)], [.int (f_De_isAboard s4.2.2 s4.2.1)]), (s4.2.2, g, cw_R sv)) _ _
    by_cases q3 : (f_De_isAboard s4.2.2 s4.2.1) = 0
    · rw [if_pos q3] at hf
      refine rh_Ex.stp (s' := ((51, [some (.ref 13), some (.int u1), some (.int s4.1), some (.int s4.2.1)], []), (s4.2.2, g, cw_R sv))) rfl (st_ifeq_p q3) ?_
      refine rh_Ex.blk 2 (s' := ((4, [some (.ref 13), some (.int u1), some (.int s4.1), some (.int (s4.2.1 + (1 : Int32)))], []), (s4.2.2, g, cw_R sv))) rfl ?_
      obtain rfl := Option.some.inj hf
      refine rh_Ex.fgt [some (.ref 13), some (.int u1), some (.int s4.1), some (.int (s4.2.1 + (1 : Int32)))] ⟨rfl, rfl, rfl, rfl, trivial⟩ ?_
      exact hk
    · rw [if_neg q3] at hf
      refine rh_Ex.stp (s' := ((23, [some (.ref 13), some (.int u1), some (.int s4.1), some (.int s4.2.1)], []), (s4.2.2, g, cw_R sv))) rfl (st_ifeq_n q3) ?_
      refine rh_Ex.blk 3 (s' := ((28, [some (.ref 13), some (.int u1), some (.int s4.1), some (.int s4.2.1)], [.int s4.2.1, .ref 14]), (s4.2.2, g, cw_R sv))) rfl ?_
      obtain ⟨q4, hf⟩ := rh_gq hf
      refine rh_Ex.stp (s' := ((29, [some (.ref 13), some (.int u1), some (.int s4.1), some (.int s4.2.1)], [.int (s4.2.2 14 s4.2.1.toNatClampNeg)]), (s4.2.2, g, cw_R sv))) rfl (st_iald (n := 9) rfl q4) ?_
      by_cases q5 : (s4.2.2 14 s4.2.1.toNatClampNeg) = 0
      · rw [if_pos q5] at hf
        refine rh_Ex.stp (s' := ((51, [some (.ref 13), some (.int u1), some (.int s4.1), some (.int s4.2.1)], []), (s4.2.2, g, cw_R sv))) rfl (st_ifeq_p q5) ?_
        refine rh_Ex.blk 2 (s' := ((4, [some (.ref 13), some (.int u1), some (.int s4.1), some (.int (s4.2.1 + (1 : Int32)))], []), (s4.2.2, g, cw_R sv))) rfl ?_
        obtain rfl := Option.some.inj hf
        refine rh_Ex.fgt [some (.ref 13), some (.int u1), some (.int s4.1), some (.int (s4.2.1 + (1 : Int32)))] ⟨rfl, rfl, rfl, rfl, trivial⟩ ?_
        exact hk
      · rw [if_neg q5] at hf
        refine rh_Ex.stp (s' := ((32, [some (.ref 13), some (.int u1), some (.int s4.1), some (.int s4.2.1)], []), (s4.2.2, g, cw_R sv))) rfl (st_ifeq_n q5) ?_
        refine rh_Ex.blk 5 (s' := ((39, [some (.ref 13), some (.int u1), some (.int s4.1), some (.int s4.2.1)], [.int u1, .int s4.2.1, .ref 4, .int s4.1]), (s4.2.2, g, cw_R sv))) rfl ?_
        obtain ⟨x6, hx6, hf⟩ := rh_bq hf
        refine rh_Ex.call (j := 5) (rc := some 0) [.ref 4, .int s4.2.1, .int u1] [.int s4.1] (some (.int x6.1)) rfl rfl rfl (Nat.le_of_ble_eq_true rfl) (R_Cr_weightAt d xx sv s4.2.2 g s4.2.1 u1 hx6) ?_
        show rh_Ex _ _ _ ((42, [some (.ref 13), some (.int u1), some (.int s4.1), some (.int s4.2.1)], [.int x6.1, .int s4.1]), (x6.2, g, cw_R sv)) _ _
        refine rh_Ex.blk 3 (s' := ((47, [some (.ref 13), some (.int u1), some (.int s4.1), some (.int s4.2.1)], [.int s4.2.1, .ref 14, .int x6.1, .int s4.1]), (x6.2, g, cw_R sv))) rfl ?_
        obtain ⟨q7, hf⟩ := rh_gq hf
        refine rh_Ex.stp (s' := ((48, [some (.ref 13), some (.int u1), some (.int s4.1), some (.int s4.2.1)], [.int (x6.2 14 s4.2.1.toNatClampNeg), .int x6.1, .int s4.1]), (x6.2, g, cw_R sv))) rfl (st_iald (n := 9) rfl q7) ?_
        refine rh_Ex.blk 5 (s' := ((4, [some (.ref 13), some (.int u1), some (.int (s4.1 + (x6.1 * (x6.2 14 s4.2.1.toNatClampNeg)))), some (.int (s4.2.1 + (1 : Int32)))], []), (x6.2, g, cw_R sv))) rfl ?_
        obtain rfl := Option.some.inj hf
        refine rh_Ex.fgt [some (.ref 13), some (.int u1), some (.int (s4.1 + (x6.1 * (x6.2 14 s4.2.1.toNatClampNeg)))), some (.int (s4.2.1 + (1 : Int32)))] ⟨rfl, rfl, rfl, rfl, trivial⟩ ?_
        exact hk
set_option maxRecDepth 20000 in
set_option maxHeartbeats 4000000 in
theorem R_De_leanAt (d : Nat) (xx : rh_L) (sv : Option Nat) (h : Nat → Nat → Int32) (g : Nat → Nat → Int64) (p0 : Int32) {z9 : Int32 × (Nat → Nat → Int32)} (hf : f_De_leanAt h p0 = some z9) : rh_M rh_PT (cw_L ++ xx) (d + 4) 20 [.ref 13, .int p0] (h, g, cw_R sv) (some (.int z9.1)) (z9.2, g, cw_R sv) := by
  unfold f_De_leanAt at hf
  refine rh_go pt_20 (Nat.le_of_ble_eq_true rfl) (lv := [some (.ref 13), some (.int p0), none, none]) rfl ?_
  refine rh_Ex.blk 4 (s' := ((4, [some (.ref 13), some (.int p0), some (.int (0 : Int32)), some (.int (0 : Int32))], []), (h, g, cw_R sv))) rfl ?_
  obtain ⟨r8, hr8, hf⟩ := rh_bq hf
  refine rh_Ex.fgt [some (.ref 13), some (.int p0), some (.int (0 : Int32)), some (.int (0 : Int32))] ⟨rfl, rfl, rfl, rfl, trivial⟩ ?_
  refine rh_Ex.loop _ _ _ (lb_De_leanAt_4 d xx sv p0  g _ _) rh_N _ r8 hr8 ?_
  refine rh_Ex.blk 1 (s' := ((58, [none, none, some (.int r8.1), none], [.int r8.1]), (r8.2, g, cw_R sv))) rfl ?_
  obtain rfl := Option.some.inj hf
  exact rh_Ex.ret rfl rfl
def b_De_copyTo_15_18 (u2 : Int32) : (Int32 × (Nat → Nat → Int32)) → Option ((Int32 × (Nat → Nat → Int32)) ⊕ ((Nat → Nat → Int32))) := fun s18 =>
  if (9 : Int32) ≤ s18.1 then
    some (.inr s18.2)
  else
    rh_g (0 ≤ s18.1.toInt ∧ s18.1.toInt < ((9 : Nat) : Int)) (
      rh_g (0 ≤ ((u2 + (2 : Int32)) + s18.1).toInt ∧ ((u2 + (2 : Int32)) + s18.1).toInt < ((11 : Nat) : Int)) (
        some (.inl (s18.1 + (1 : Int32), rh_up s18.2 15 ((u2 + (2 : Int32)) + s18.1).toNatClampNeg (s18.2 14 s18.1.toNatClampNeg)))
      )
    )
def f_De_copyTo_15 (h : Nat → Nat → Int32) (p0 : Int32) : Option ((Nat → Nat → Int32)) :=
  rh_g (0 ≤ p0.toInt ∧ p0.toInt < ((11 : Nat) : Int)) (
    rh_g (0 ≤ (p0 + (1 : Int32)).toInt ∧ (p0 + (1 : Int32)).toInt < ((11 : Nat) : Int)) (
      (rh_loop (b_De_copyTo_15_18 p0) rh_N ((0 : Int32), rh_up (rh_up h 15 p0.toNatClampNeg (h 13 1)) 15 (p0 + (1 : Int32)).toNatClampNeg (h 13 2))).bind (fun r7 =>
        some (r7)
      )
    )
  )
set_option maxRecDepth 20000 in
set_option maxHeartbeats 4000000 in
theorem lb_De_copyTo_15_18 (d : Nat) (xx : rh_L) (sv : Option Nat) (u2 : Int32) (g : Nat → Nat → Int64) (v9 : Option Value) (h9 : rh_H) : ∀ s18 x9, b_De_copyTo_15_18 u2 s18 = some x9 → Sum.elim (fun s18 => rh_Ex (rh_M rh_PT (cw_L ++ xx) (d + 0)) (cw_L ++ xx) pg_X2_copyTo ((18, [some (.ref 13), some (.ref 15), some (.int u2), some (.int s18.1)], []), (s18.2, g, cw_R sv)) v9 h9) (fun e9 => rh_Ex (rh_M rh_PT (cw_L ++ xx) (d + 0)) (cw_L ++ xx) pg_X2_copyTo ((43, [none, none, none, none], []), (e9, g, cw_R sv)) v9 h9) x9 → rh_Ex (rh_M rh_PT (cw_L ++ xx) (d + 0)) (cw_L ++ xx) pg_X2_copyTo ((18, [some (.ref 13), some (.ref 15), some (.int u2), some (.int s18.1)], []), (s18.2, g, cw_R sv)) v9 h9 := by
  intro s18 x9 hf hk
  unfold b_De_copyTo_15_18 at hf
  refine rh_Ex.blk 2 (s' := ((21, [some (.ref 13), some (.ref 15), some (.int u2), some (.int s18.1)], [.int (9 : Int32), .int s18.1]), (s18.2, g, cw_R sv))) rfl ?_
  by_cases q4 : (9 : Int32) ≤ s18.1
  · rw [if_pos q4] at hf
    refine rh_Ex.stp (s' := ((43, [some (.ref 13), some (.ref 15), some (.int u2), some (.int s18.1)], []), (s18.2, g, cw_R sv))) rfl (st_icge_p q4) ?_
    obtain rfl := Option.some.inj hf
    refine rh_Ex.fgt [none, none, none, none] trivial ?_
    exact hk
  · rw [if_neg q4] at hf
    refine rh_Ex.stp (s' := ((24, [some (.ref 13), some (.ref 15), some (.int u2), some (.int s18.1)], []), (s18.2, g, cw_R sv))) rfl (st_icge_n q4) ?_
    refine rh_Ex.blk 9 (s' := ((35, [some (.ref 13), some (.ref 15), some (.int u2), some (.int s18.1)], [.int s18.1, .ref 14, .int ((u2 + (2 : Int32)) + s18.1), .ref 15]), (s18.2, g, cw_R sv))) rfl ?_
    obtain ⟨q5, hf⟩ := rh_gq hf
    refine rh_Ex.stp (s' := ((36, [some (.ref 13), some (.ref 15), some (.int u2), some (.int s18.1)], [.int (s18.2 14 s18.1.toNatClampNeg), .int ((u2 + (2 : Int32)) + s18.1), .ref 15]), (s18.2, g, cw_R sv))) rfl (st_iald (n := 9) rfl q5) ?_
    obtain ⟨q6, hf⟩ := rh_gq hf
    refine rh_Ex.stp (s' := ((37, [some (.ref 13), some (.ref 15), some (.int u2), some (.int s18.1)], []), (rh_up s18.2 15 ((u2 + (2 : Int32)) + s18.1).toNatClampNeg (s18.2 14 s18.1.toNatClampNeg), g, cw_R sv))) rfl (st_iast (n := 11) rfl q6) ?_
    refine rh_Ex.blk 2 (s' := ((18, [some (.ref 13), some (.ref 15), some (.int u2), some (.int (s18.1 + (1 : Int32)))], []), (rh_up s18.2 15 ((u2 + (2 : Int32)) + s18.1).toNatClampNeg (s18.2 14 s18.1.toNatClampNeg), g, cw_R sv))) rfl ?_
    obtain rfl := Option.some.inj hf
    refine rh_Ex.fgt [some (.ref 13), some (.ref 15), some (.int u2), some (.int (s18.1 + (1 : Int32)))] ⟨rfl, rfl, rfl, rfl, trivial⟩ ?_
    exact hk
set_option maxRecDepth 20000 in
set_option maxHeartbeats 4000000 in
theorem R_De_copyTo_15 (d : Nat) (xx : rh_L) (sv : Option Nat) (h : Nat → Nat → Int32) (g : Nat → Nat → Int64) (p0 : Int32) {z9 : (Nat → Nat → Int32)} (hf : f_De_copyTo_15 h p0 = some z9) : rh_M rh_PT (cw_L ++ xx) (d + 1) 21 [.ref 13, .ref 15, .int p0] (h, g, cw_R sv) none (z9, g, cw_R sv) := by
  unfold f_De_copyTo_15 at hf
  refine rh_go pt_21 (Nat.le_of_ble_eq_true rfl) (lv := [some (.ref 13), some (.ref 15), some (.int p0), none]) rfl ?_
  refine rh_Ex.blk 4 (s' := ((6, [some (.ref 13), some (.ref 15), some (.int p0), none], [.int (h 13 1), .int p0, .ref 15]), (h, g, cw_R sv))) rfl ?_
  obtain ⟨q1, hf⟩ := rh_gq hf
  refine rh_Ex.stp (s' := ((7, [some (.ref 13), some (.ref 15), some (.int p0), none], []), (rh_up h 15 p0.toNatClampNeg (h 13 1), g, cw_R sv))) rfl (st_iast (n := 11) rfl q1) ?_
  refine rh_Ex.blk 6 (s' := ((15, [some (.ref 13), some (.ref 15), some (.int p0), none], [.int (h 13 2), .int (p0 + (1 : Int32)), .ref 15]), (rh_up h 15 p0.toNatClampNeg (h 13 1), g, cw_R sv))) rfl ?_
  obtain ⟨q2, hf⟩ := rh_gq hf
  refine rh_Ex.stp (s' := ((16, [some (.ref 13), some (.ref 15), some (.int p0), none], []), (rh_up (rh_up h 15 p0.toNatClampNeg (h 13 1)) 15 (p0 + (1 : Int32)).toNatClampNeg (h 13 2), g, cw_R sv))) rfl (st_iast (n := 11) rfl q2) ?_
  refine rh_Ex.blk 2 (s' := ((18, [some (.ref 13), some (.ref 15), some (.int p0), some (.int (0 : Int32))], []), (rh_up (rh_up h 15 p0.toNatClampNeg (h 13 1)) 15 (p0 + (1 : Int32)).toNatClampNeg (h 13 2), g, cw_R sv))) rfl ?_
  obtain ⟨r7, hr7, hf⟩ := rh_bq hf
  refine rh_Ex.fgt [some (.ref 13), some (.ref 15), some (.int p0), some (.int (0 : Int32))] ⟨rfl, rfl, rfl, rfl, trivial⟩ ?_
  refine rh_Ex.loop _ _ _ (lb_De_copyTo_15_18 d xx sv p0  g _ _) rh_N _ r7 hr7 ?_
  obtain rfl := Option.some.inj hf
  exact rh_Ex.ret rfl trivial
def f_De_mark (h : Nat → Nat → Int32) : Option ((Nat → Nat → Int32)) :=
  (f_De_copyTo_15 h (0 : Int32)).bind (fun x1 =>
    some (x1)
  )
set_option maxRecDepth 20000 in
set_option maxHeartbeats 4000000 in
theorem R_De_mark (d : Nat) (xx : rh_L) (sv : Option Nat) (h : Nat → Nat → Int32) (g : Nat → Nat → Int64)  {z9 : (Nat → Nat → Int32)} (hf : f_De_mark h = some z9) : rh_M rh_PT (cw_L ++ xx) (d + 2) 23 [.ref 13] (h, g, cw_R sv) none (z9, g, cw_R sv) := by
  unfold f_De_mark at hf
  refine rh_go pt_23 (Nat.le_of_ble_eq_true rfl) (lv := [some (.ref 13)]) rfl ?_
  refine rh_Ex.blk 4 (s' := ((6, [some (.ref 13)], [.int (0 : Int32), .ref 15, .ref 13]), (h, g, cw_R sv))) rfl ?_
  obtain ⟨x1, hx1, hf⟩ := rh_bq hf
  refine rh_Ex.call (j := 21) (rc := some 2) [.ref 13, .ref 15, .int (0 : Int32)] [] none rfl rfl rfl (Nat.le_of_ble_eq_true rfl) (R_De_copyTo_15 d xx sv h g (0 : Int32) hx1) ?_
  show rh_Ex _ _ _ ((9, [some (.ref 13)], []), (x1, g, cw_R sv)) _ _
  obtain rfl := Option.some.inj hf
  exact rh_Ex.ret rfl trivial
def f_De_remember (h : Nat → Nat → Int32) : Option ((Nat → Nat → Int32)) :=
  if (h 13 6) = (12 : Int32) then
    rh_g (rh_cs ([] : List Value) ≤ 8 ∧ ¬ (0 : Int32) < 0 ∧ ¬ ((((rh_upA h 16 (va_cpy (h 16) (h 16) (11 : Int32).toNatClampNeg (0 : Int32).toNatClampNeg (121 : Int32).toNatClampNeg)) 13 6) - (1 : Int32)) * (11 : Int32)) < 0 ∧ ¬ (11 : Int32) < 0 ∧ (0 : Int32).toNatClampNeg + (11 : Int32).toNatClampNeg ≤ 11 ∧ ((((rh_upA h 16 (va_cpy (h 16) (h 16) (11 : Int32).toNatClampNeg (0 : Int32).toNatClampNeg (121 : Int32).toNatClampNeg)) 13 6) - (1 : Int32)) * (11 : Int32)).toNatClampNeg + (11 : Int32).toNatClampNeg ≤ 132) (
      some ((rh_up (rh_upA (rh_up (rh_upA h 16 (va_cpy (h 16) (h 16) (11 : Int32).toNatClampNeg (0 : Int32).toNatClampNeg (121 : Int32).toNatClampNeg)) 13 6 (((rh_upA h 16 (va_cpy (h 16) (h 16) (11 : Int32).toNatClampNeg (0 : Int32).toNatClampNeg (121 : Int32).toNatClampNeg)) 13 6) - (1 : Int32))) 16 (va_cpy ((rh_up (rh_upA h 16 (va_cpy (h 16) (h 16) (11 : Int32).toNatClampNeg (0 : Int32).toNatClampNeg (121 : Int32).toNatClampNeg)) 13 6 (((rh_upA h 16 (va_cpy (h 16) (h 16) (11 : Int32).toNatClampNeg (0 : Int32).toNatClampNeg (121 : Int32).toNatClampNeg)) 13 6) - (1 : Int32))) 15) ((rh_up (rh_upA h 16 (va_cpy (h 16) (h 16) (11 : Int32).toNatClampNeg (0 : Int32).toNatClampNeg (121 : Int32).toNatClampNeg)) 13 6 (((rh_upA h 16 (va_cpy (h 16) (h 16) (11 : Int32).toNatClampNeg (0 : Int32).toNatClampNeg (121 : Int32).toNatClampNeg)) 13 6) - (1 : Int32))) 16) (0 : Int32).toNatClampNeg ((((rh_upA h 16 (va_cpy (h 16) (h 16) (11 : Int32).toNatClampNeg (0 : Int32).toNatClampNeg (121 : Int32).toNatClampNeg)) 13 6) - (1 : Int32)) * (11 : Int32)).toNatClampNeg (11 : Int32).toNatClampNeg)) 13 6 (((rh_upA (rh_up (rh_upA h 16 (va_cpy (h 16) (h 16) (11 : Int32).toNatClampNeg (0 : Int32).toNatClampNeg (121 : Int32).toNatClampNeg)) 13 6 (((rh_upA h 16 (va_cpy (h 16) (h 16) (11 : Int32).toNatClampNeg (0 : Int32).toNatClampNeg (121 : Int32).toNatClampNeg)) 13 6) - (1 : Int32))) 16 (va_cpy ((rh_up (rh_upA h 16 (va_cpy (h 16) (h 16) (11 : Int32).toNatClampNeg (0 : Int32).toNatClampNeg (121 : Int32).toNatClampNeg)) 13 6 (((rh_upA h 16 (va_cpy (h 16) (h 16) (11 : Int32).toNatClampNeg (0 : Int32).toNatClampNeg (121 : Int32).toNatClampNeg)) 13 6) - (1 : Int32))) 15) ((rh_up (rh_upA h 16 (va_cpy (h 16) (h 16) (11 : Int32).toNatClampNeg (0 : Int32).toNatClampNeg (121 : Int32).toNatClampNeg)) 13 6 (((rh_upA h 16 (va_cpy (h 16) (h 16) (11 : Int32).toNatClampNeg (0 : Int32).toNatClampNeg (121 : Int32).toNatClampNeg)) 13 6) - (1 : Int32))) 16) (0 : Int32).toNatClampNeg ((((rh_upA h 16 (va_cpy (h 16) (h 16) (11 : Int32).toNatClampNeg (0 : Int32).toNatClampNeg (121 : Int32).toNatClampNeg)) 13 6) - (1 : Int32)) * (11 : Int32)).toNatClampNeg (11 : Int32).toNatClampNeg)) 13 6) + (1 : Int32))))
    )
  else
    rh_g (rh_cs ([] : List Value) ≤ 8 ∧ ¬ (0 : Int32) < 0 ∧ ¬ ((h 13 6) * (11 : Int32)) < 0 ∧ ¬ (11 : Int32) < 0 ∧ (0 : Int32).toNatClampNeg + (11 : Int32).toNatClampNeg ≤ 11 ∧ ((h 13 6) * (11 : Int32)).toNatClampNeg + (11 : Int32).toNatClampNeg ≤ 132) (
      some ((rh_up (rh_upA h 16 (va_cpy (h 15) (h 16) (0 : Int32).toNatClampNeg ((h 13 6) * (11 : Int32)).toNatClampNeg (11 : Int32).toNatClampNeg)) 13 6 (((rh_upA h 16 (va_cpy (h 15) (h 16) (0 : Int32).toNatClampNeg ((h 13 6) * (11 : Int32)).toNatClampNeg (11 : Int32).toNatClampNeg)) 13 6) + (1 : Int32))))
    )
set_option maxRecDepth 20000 in
set_option maxHeartbeats 4000000 in
theorem R_De_remember (d : Nat) (xx : rh_L) (sv : Option Nat) (h : Nat → Nat → Int32) (g : Nat → Nat → Int64)  {z9 : (Nat → Nat → Int32)} (hf : f_De_remember h = some z9) : rh_M rh_PT (cw_L ++ xx) (d + 1) 24 [.ref 13] (h, g, cw_R sv) none (z9, g, cw_R sv) := by
  unfold f_De_remember at hf
  refine rh_go pt_24 (Nat.le_of_ble_eq_true rfl) (lv := [some (.ref 13)]) rfl ?_
  refine rh_Ex.blk 3 (s' := ((6, [some (.ref 13)], [.int (12 : Int32), .int (h 13 6)]), (h, g, cw_R sv))) rfl ?_
  by_cases q1 : (h 13 6) = (12 : Int32)
  · rw [if_pos q1] at hf
    refine rh_Ex.stp (s' := ((9, [some (.ref 13)], []), (h, g, cw_R sv))) rfl (st_icne_p q1) ?_
    refine rh_Ex.blk 7 (s' := ((22, [some (.ref 13)], [.int (121 : Int32), .int (0 : Int32), .ref 16, .int (11 : Int32), .ref 16]), (h, g, cw_R sv))) rfl ?_
    refine rh_Ex.stp (s' := ((25, [some (.ref 13)], []), (rh_upA h 16 (va_cpy (h 16) (h 16) (11 : Int32).toNatClampNeg (0 : Int32).toNatClampNeg (121 : Int32).toNatClampNeg), g, cw_R sv))) rfl (st_cpy (n0 := 132) (n1 := 132) rfl rfl (by decide)) ?_
    refine rh_Ex.blk 16 (s' := ((53, [some (.ref 13)], [.int (11 : Int32), .int ((((rh_upA h 16 (va_cpy (h 16) (h 16) (11 : Int32).toNatClampNeg (0 : Int32).toNatClampNeg (121 : Int32).toNatClampNeg)) 13 6) - (1 : Int32)) * (11 : Int32)), .ref 16, .int (0 : Int32), .ref 15]), (rh_up (rh_upA h 16 (va_cpy (h 16) (h 16) (11 : Int32).toNatClampNeg (0 : Int32).toNatClampNeg (121 : Int32).toNatClampNeg)) 13 6 (((rh_upA h 16 (va_cpy (h 16) (h 16) (11 : Int32).toNatClampNeg (0 : Int32).toNatClampNeg (121 : Int32).toNatClampNeg)) 13 6) - (1 : Int32)), g, cw_R sv))) rfl ?_
    obtain ⟨q2, hf⟩ := rh_gq hf
    refine rh_Ex.stp (s' := ((56, [some (.ref 13)], []), (rh_upA (rh_up (rh_upA h 16 (va_cpy (h 16) (h 16) (11 : Int32).toNatClampNeg (0 : Int32).toNatClampNeg (121 : Int32).toNatClampNeg)) 13 6 (((rh_upA h 16 (va_cpy (h 16) (h 16) (11 : Int32).toNatClampNeg (0 : Int32).toNatClampNeg (121 : Int32).toNatClampNeg)) 13 6) - (1 : Int32))) 16 (va_cpy ((rh_up (rh_upA h 16 (va_cpy (h 16) (h 16) (11 : Int32).toNatClampNeg (0 : Int32).toNatClampNeg (121 : Int32).toNatClampNeg)) 13 6 (((rh_upA h 16 (va_cpy (h 16) (h 16) (11 : Int32).toNatClampNeg (0 : Int32).toNatClampNeg (121 : Int32).toNatClampNeg)) 13 6) - (1 : Int32))) 15) ((rh_up (rh_upA h 16 (va_cpy (h 16) (h 16) (11 : Int32).toNatClampNeg (0 : Int32).toNatClampNeg (121 : Int32).toNatClampNeg)) 13 6 (((rh_upA h 16 (va_cpy (h 16) (h 16) (11 : Int32).toNatClampNeg (0 : Int32).toNatClampNeg (121 : Int32).toNatClampNeg)) 13 6) - (1 : Int32))) 16) (0 : Int32).toNatClampNeg ((((rh_upA h 16 (va_cpy (h 16) (h 16) (11 : Int32).toNatClampNeg (0 : Int32).toNatClampNeg (121 : Int32).toNatClampNeg)) 13 6) - (1 : Int32)) * (11 : Int32)).toNatClampNeg (11 : Int32).toNatClampNeg), g, cw_R sv))) rfl (st_cpy (n0 := 11) (n1 := 132) rfl rfl q2) ?_
    refine rh_Ex.blk 6 (s' := ((66, [some (.ref 13)], []), (rh_up (rh_upA (rh_up (rh_upA h 16 (va_cpy (h 16) (h 16) (11 : Int32).toNatClampNeg (0 : Int32).toNatClampNeg (121 : Int32).toNatClampNeg)) 13 6 (((rh_upA h 16 (va_cpy (h 16) (h 16) (11 : Int32).toNatClampNeg (0 : Int32).toNatClampNeg (121 : Int32).toNatClampNeg)) 13 6) - (1 : Int32))) 16 (va_cpy ((rh_up (rh_upA h 16 (va_cpy (h 16) (h 16) (11 : Int32).toNatClampNeg (0 : Int32).toNatClampNeg (121 : Int32).toNatClampNeg)) 13 6 (((rh_upA h 16 (va_cpy (h 16) (h 16) (11 : Int32).toNatClampNeg (0 : Int32).toNatClampNeg (121 : Int32).toNatClampNeg)) 13 6) - (1 : Int32))) 15) ((rh_up (rh_upA h 16 (va_cpy (h 16) (h 16) (11 : Int32).toNatClampNeg (0 : Int32).toNatClampNeg (121 : Int32).toNatClampNeg)) 13 6 (((rh_upA h 16 (va_cpy (h 16) (h 16) (11 : Int32).toNatClampNeg (0 : Int32).toNatClampNeg (121 : Int32).toNatClampNeg)) 13 6) - (1 : Int32))) 16) (0 : Int32).toNatClampNeg ((((rh_upA h 16 (va_cpy (h 16) (h 16) (11 : Int32).toNatClampNeg (0 : Int32).toNatClampNeg (121 : Int32).toNatClampNeg)) 13 6) - (1 : Int32)) * (11 : Int32)).toNatClampNeg (11 : Int32).toNatClampNeg)) 13 6 (((rh_upA (rh_up (rh_upA h 16 (va_cpy (h 16) (h 16) (11 : Int32).toNatClampNeg (0 : Int32).toNatClampNeg (121 : Int32).toNatClampNeg)) 13 6 (((rh_upA h 16 (va_cpy (h 16) (h 16) (11 : Int32).toNatClampNeg (0 : Int32).toNatClampNeg (121 : Int32).toNatClampNeg)) 13 6) - (1 : Int32))) 16 (va_cpy ((rh_up (rh_upA h 16 (va_cpy (h 16) (h 16) (11 : Int32).toNatClampNeg (0 : Int32).toNatClampNeg (121 : Int32).toNatClampNeg)) 13 6 (((rh_upA h 16 (va_cpy (h 16) (h 16) (11 : Int32).toNatClampNeg (0 : Int32).toNatClampNeg (121 : Int32).toNatClampNeg)) 13 6) - (1 : Int32))) 15) ((rh_up (rh_upA h 16 (va_cpy (h 16) (h 16) (11 : Int32).toNatClampNeg (0 : Int32).toNatClampNeg (121 : Int32).toNatClampNeg)) 13 6 (((rh_upA h 16 (va_cpy (h 16) (h 16) (11 : Int32).toNatClampNeg (0 : Int32).toNatClampNeg (121 : Int32).toNatClampNeg)) 13 6) - (1 : Int32))) 16) (0 : Int32).toNatClampNeg ((((rh_upA h 16 (va_cpy (h 16) (h 16) (11 : Int32).toNatClampNeg (0 : Int32).toNatClampNeg (121 : Int32).toNatClampNeg)) 13 6) - (1 : Int32)) * (11 : Int32)).toNatClampNeg (11 : Int32).toNatClampNeg)) 13 6) + (1 : Int32)), g, cw_R sv))) rfl ?_
    obtain rfl := Option.some.inj hf
    exact rh_Ex.ret rfl trivial
  · rw [if_neg q1] at hf
    refine rh_Ex.stp (s' := ((35, [some (.ref 13)], []), (h, g, cw_R sv))) rfl (st_icne_n q1) ?_
    refine rh_Ex.blk 10 (s' := ((53, [some (.ref 13)], [.int (11 : Int32), .int ((h 13 6) * (11 : Int32)), .ref 16, .int (0 : Int32), .ref 15]), (h, g, cw_R sv))) rfl ?_
    obtain ⟨q3, hf⟩ := rh_gq hf
    refine rh_Ex.stp (s' := ((56, [some (.ref 13)], []), (rh_upA h 16 (va_cpy (h 15) (h 16) (0 : Int32).toNatClampNeg ((h 13 6) * (11 : Int32)).toNatClampNeg (11 : Int32).toNatClampNeg), g, cw_R sv))) rfl (st_cpy (n0 := 11) (n1 := 132) rfl rfl q3) ?_
    refine rh_Ex.blk 6 (s' := ((66, [some (.ref 13)], []), (rh_up (rh_upA h 16 (va_cpy (h 15) (h 16) (0 : Int32).toNatClampNeg ((h 13 6) * (11 : Int32)).toNatClampNeg (11 : Int32).toNatClampNeg)) 13 6 (((rh_upA h 16 (va_cpy (h 15) (h 16) (0 : Int32).toNatClampNeg ((h 13 6) * (11 : Int32)).toNatClampNeg (11 : Int32).toNatClampNeg)) 13 6) + (1 : Int32)), g, cw_R sv))) rfl ?_
    obtain rfl := Option.some.inj hf
    exact rh_Ex.ret rfl trivial
def b_De_copyFrom_16_18 (u2 : Int32) : (Int32 × (Nat → Nat → Int32)) → Option ((Int32 × (Nat → Nat → Int32)) ⊕ ((Nat → Nat → Int32))) := fun s18 =>
  if (9 : Int32) ≤ s18.1 then
    some (.inr s18.2)
  else
    rh_g (0 ≤ ((u2 + (2 : Int32)) + s18.1).toInt ∧ ((u2 + (2 : Int32)) + s18.1).toInt < ((132 : Nat) : Int)) (
      rh_g (0 ≤ s18.1.toInt ∧ s18.1.toInt < ((9 : Nat) : Int)) (
        some (.inl (s18.1 + (1 : Int32), rh_up s18.2 14 s18.1.toNatClampNeg (s18.2 16 ((u2 + (2 : Int32)) + s18.1).toNatClampNeg)))
      )
    )
def f_De_copyFrom_16 (h : Nat → Nat → Int32) (p0 : Int32) : Option ((Nat → Nat → Int32)) :=
  rh_g (0 ≤ p0.toInt ∧ p0.toInt < ((132 : Nat) : Int)) (
    rh_g (0 ≤ (p0 + (1 : Int32)).toInt ∧ (p0 + (1 : Int32)).toInt < ((132 : Nat) : Int)) (
      (rh_loop (b_De_copyFrom_16_18 p0) rh_N ((0 : Int32), rh_up (rh_up h 13 1 (h 16 p0.toNatClampNeg)) 13 2 ((rh_up h 13 1 (h 16 p0.toNatClampNeg)) 16 (p0 + (1 : Int32)).toNatClampNeg))).bind (fun r7 =>
        some (r7)
      )
    )
  )
set_option maxRecDepth 20000 in
set_option maxHeartbeats 4000000 in
theorem lb_De_copyFrom_16_18 (d : Nat) (xx : rh_L) (sv : Option Nat) (u2 : Int32) (g : Nat → Nat → Int64) (v9 : Option Value) (h9 : rh_H) : ∀ s18 x9, b_De_copyFrom_16_18 u2 s18 = some x9 → Sum.elim (fun s18 => rh_Ex (rh_M rh_PT (cw_L ++ xx) (d + 0)) (cw_L ++ xx) pg_X2_copyFrom ((18, [some (.ref 13), some (.ref 16), some (.int u2), some (.int s18.1)], []), (s18.2, g, cw_R sv)) v9 h9) (fun e9 => rh_Ex (rh_M rh_PT (cw_L ++ xx) (d + 0)) (cw_L ++ xx) pg_X2_copyFrom ((43, [none, none, none, none], []), (e9, g, cw_R sv)) v9 h9) x9 → rh_Ex (rh_M rh_PT (cw_L ++ xx) (d + 0)) (cw_L ++ xx) pg_X2_copyFrom ((18, [some (.ref 13), some (.ref 16), some (.int u2), some (.int s18.1)], []), (s18.2, g, cw_R sv)) v9 h9 := by
  intro s18 x9 hf hk
  unfold b_De_copyFrom_16_18 at hf
  refine rh_Ex.blk 2 (s' := ((21, [some (.ref 13), some (.ref 16), some (.int u2), some (.int s18.1)], [.int (9 : Int32), .int s18.1]), (s18.2, g, cw_R sv))) rfl ?_
  by_cases q4 : (9 : Int32) ≤ s18.1
  · rw [if_pos q4] at hf
    refine rh_Ex.stp (s' := ((43, [some (.ref 13), some (.ref 16), some (.int u2), some (.int s18.1)], []), (s18.2, g, cw_R sv))) rfl (st_icge_p q4) ?_
    obtain rfl := Option.some.inj hf
    refine rh_Ex.fgt [none, none, none, none] trivial ?_
    exact hk
  · rw [if_neg q4] at hf
    refine rh_Ex.stp (s' := ((24, [some (.ref 13), some (.ref 16), some (.int u2), some (.int s18.1)], []), (s18.2, g, cw_R sv))) rfl (st_icge_n q4) ?_
    refine rh_Ex.blk 9 (s' := ((35, [some (.ref 13), some (.ref 16), some (.int u2), some (.int s18.1)], [.int ((u2 + (2 : Int32)) + s18.1), .ref 16, .int s18.1, .ref 14]), (s18.2, g, cw_R sv))) rfl ?_
    obtain ⟨q5, hf⟩ := rh_gq hf
    refine rh_Ex.stp (s' := ((36, [some (.ref 13), some (.ref 16), some (.int u2), some (.int s18.1)], [.int (s18.2 16 ((u2 + (2 : Int32)) + s18.1).toNatClampNeg), .int s18.1, .ref 14]), (s18.2, g, cw_R sv))) rfl (st_iald (n := 132) rfl q5) ?_
    obtain ⟨q6, hf⟩ := rh_gq hf
    refine rh_Ex.stp (s' := ((37, [some (.ref 13), some (.ref 16), some (.int u2), some (.int s18.1)], []), (rh_up s18.2 14 s18.1.toNatClampNeg (s18.2 16 ((u2 + (2 : Int32)) + s18.1).toNatClampNeg), g, cw_R sv))) rfl (st_iast (n := 9) rfl q6) ?_
    refine rh_Ex.blk 2 (s' := ((18, [some (.ref 13), some (.ref 16), some (.int u2), some (.int (s18.1 + (1 : Int32)))], []), (rh_up s18.2 14 s18.1.toNatClampNeg (s18.2 16 ((u2 + (2 : Int32)) + s18.1).toNatClampNeg), g, cw_R sv))) rfl ?_
    obtain rfl := Option.some.inj hf
    refine rh_Ex.fgt [some (.ref 13), some (.ref 16), some (.int u2), some (.int (s18.1 + (1 : Int32)))] ⟨rfl, rfl, rfl, rfl, trivial⟩ ?_
    exact hk
set_option maxRecDepth 20000 in
set_option maxHeartbeats 4000000 in
theorem R_De_copyFrom_16 (d : Nat) (xx : rh_L) (sv : Option Nat) (h : Nat → Nat → Int32) (g : Nat → Nat → Int64) (p0 : Int32) {z9 : (Nat → Nat → Int32)} (hf : f_De_copyFrom_16 h p0 = some z9) : rh_M rh_PT (cw_L ++ xx) (d + 1) 22 [.ref 13, .ref 16, .int p0] (h, g, cw_R sv) none (z9, g, cw_R sv) := by
  unfold f_De_copyFrom_16 at hf
  refine rh_go pt_22 (Nat.le_of_ble_eq_true rfl) (lv := [some (.ref 13), some (.ref 16), some (.int p0), none]) rfl ?_
  refine rh_Ex.blk 3 (s' := ((3, [some (.ref 13), some (.ref 16), some (.int p0), none], [.int p0, .ref 16, .ref 13]), (h, g, cw_R sv))) rfl ?_
  obtain ⟨q1, hf⟩ := rh_gq hf
  refine rh_Ex.stp (s' := ((4, [some (.ref 13), some (.ref 16), some (.int p0), none], [.int (h 16 p0.toNatClampNeg), .ref 13]), (h, g, cw_R sv))) rfl (st_iald (n := 132) rfl q1) ?_
  refine rh_Ex.blk 6 (s' := ((12, [some (.ref 13), some (.ref 16), some (.int p0), none], [.int (p0 + (1 : Int32)), .ref 16, .ref 13]), (rh_up h 13 1 (h 16 p0.toNatClampNeg), g, cw_R sv))) rfl ?_
  obtain ⟨q2, hf⟩ := rh_gq hf
  refine rh_Ex.stp (s' := ((13, [some (.ref 13), some (.ref 16), some (.int p0), none], [.int ((rh_up h 13 1 (h 16 p0.toNatClampNeg)) 16 (p0 + (1 : Int32)).toNatClampNeg), .ref 13]), (rh_up h 13 1 (h 16 p0.toNatClampNeg), g, cw_R sv))) rfl (st_iald (n := 132) rfl q2) ?_
  refine rh_Ex.blk 3 (s' := ((18, [some (.ref 13), some (.ref 16), some (.int p0), some (.int (0 : Int32))], []), (rh_up (rh_up h 13 1 (h 16 p0.toNatClampNeg)) 13 2 ((rh_up h 13 1 (h 16 p0.toNatClampNeg)) 16 (p0 + (1 : Int32)).toNatClampNeg), g, cw_R sv))) rfl ?_
  obtain ⟨r7, hr7, hf⟩ := rh_bq hf
  refine rh_Ex.fgt [some (.ref 13), some (.ref 16), some (.int p0), some (.int (0 : Int32))] ⟨rfl, rfl, rfl, rfl, trivial⟩ ?_
  refine rh_Ex.loop _ _ _ (lb_De_copyFrom_16_18 d xx sv p0  g _ _) rh_N _ r7 hr7 ?_
  obtain rfl := Option.some.inj hf
  exact rh_Ex.ret rfl trivial
def f_De_goBack (h : Nat → Nat → Int32) : Option (Int32 × (Nat → Nat → Int32)) :=
  if (h 13 6) = 0 then
    some (((-1 : Int32), h))
  else
    (f_De_copyFrom_16 (rh_up h 13 6 ((h 13 6) - (1 : Int32))) (((h 13 6) - (1 : Int32)) * (11 : Int32))).bind (fun x2 =>
      some ((x2 13 6, x2))
    )
set_option maxRecDepth 20000 in
set_option maxHeartbeats 4000000 in
theorem R_De_goBack (d : Nat) (xx : rh_L) (sv : Option Nat) (h : Nat → Nat → Int32) (g : Nat → Nat → Int64)  {z9 : Int32 × (Nat → Nat → Int32)} (hf : f_De_goBack h = some z9) : rh_M rh_PT (cw_L ++ xx) (d + 2) 25 [.ref 13] (h, g, cw_R sv) (some (.int z9.1)) (z9.2, g, cw_R sv) := by
  unfold f_De_goBack at hf
  refine rh_go pt_25 (Nat.le_of_ble_eq_true rfl) (lv := [some (.ref 13)]) rfl ?_
  refine rh_Ex.blk 2 (s' := ((4, [some (.ref 13)], [.int (h 13 6)]), (h, g, cw_R sv))) rfl ?_
  by_cases q1 : (h 13 6) = 0
  · rw [if_pos q1] at hf
    refine rh_Ex.stp (s' := ((7, [some (.ref 13)], []), (h, g, cw_R sv))) rfl (st_ifne_p q1) ?_
    refine rh_Ex.blk 1 (s' := ((8, [some (.ref 13)], [.int (-1 : Int32)]), (h, g, cw_R sv))) rfl ?_
    obtain rfl := Option.some.inj hf
    exact rh_Ex.ret rfl rfl
  · rw [if_neg q1] at hf
    refine rh_Ex.stp (s' := ((9, [some (.ref 13)], []), (h, g, cw_R sv))) rfl (st_ifne_n q1) ?_
    refine rh_Ex.blk 13 (s' := ((31, [some (.ref 13)], [.int (((h 13 6) - (1 : Int32)) * (11 : Int32)), .ref 16, .ref 13]), (rh_up h 13 6 ((h 13 6) - (1 : Int32)), g, cw_R sv))) rfl ?_
    obtain ⟨x2, hx2, hf⟩ := rh_bq hf
    refine rh_Ex.call (j := 22) (rc := some 2) [.ref 13, .ref 16, .int (((h 13 6) - (1 : Int32)) * (11 : Int32))] [] none rfl rfl rfl (Nat.le_of_ble_eq_true rfl) (R_De_copyFrom_16 d xx sv (rh_up h 13 6 ((h 13 6) - (1 : Int32))) g (((h 13 6) - (1 : Int32)) * (11 : Int32)) hx2) ?_
    show rh_Ex _ _ _ ((34, [some (.ref 13)], []), (x2, g, cw_R sv)) _ _
    refine rh_Ex.blk 2 (s' := ((38, [some (.ref 13)], [.int (x2 13 6)]), (x2, g, cw_R sv))) rfl ?_
    obtain rfl := Option.some.inj hf
    exact rh_Ex.ret rfl rfl
def f_De_forgetPast (h : Nat → Nat → Int32) : (Nat → Nat → Int32) :=
  (rh_up h 13 6 (0 : Int32))
set_option maxRecDepth 20000 in
set_option maxHeartbeats 4000000 in
theorem R_De_forgetPast (d : Nat) (xx : rh_L) (sv : Option Nat) (h : Nat → Nat → Int32) (g : Nat → Nat → Int64)  {z9 : (Nat → Nat → Int32)} (hf : f_De_forgetPast h = z9) : rh_M rh_PT (cw_L ++ xx) (d + 1) 26 [.ref 13] (h, g, cw_R sv) none (z9, g, cw_R sv) := by
  unfold f_De_forgetPast at hf
  refine rh_go pt_26 (Nat.le_of_ble_eq_true rfl) (lv := [some (.ref 13)]) rfl ?_
  refine rh_Ex.blk 3 (s' := ((5, [some (.ref 13)], []), (rh_up h 13 6 (0 : Int32), g, cw_R sv))) rfl ?_
  subst hf
  exact rh_Ex.ret rfl trivial
def b_De_copyTo_17_18 (u2 : Int32) : (Int32 × (Nat → Nat → Int32)) → Option ((Int32 × (Nat → Nat → Int32)) ⊕ ((Nat → Nat → Int32))) := fun s18 =>
  if (9 : Int32) ≤ s18.1 then
    some (.inr s18.2)
  else
    rh_g (0 ≤ s18.1.toInt ∧ s18.1.toInt < ((9 : Nat) : Int)) (
      rh_g (0 ≤ ((u2 + (2 : Int32)) + s18.1).toInt ∧ ((u2 + (2 : Int32)) + s18.1).toInt < ((22 : Nat) : Int)) (
        some (.inl (s18.1 + (1 : Int32), rh_up s18.2 17 ((u2 + (2 : Int32)) + s18.1).toNatClampNeg (s18.2 14 s18.1.toNatClampNeg)))
      )
    )
def f_De_copyTo_17 (h : Nat → Nat → Int32) (p0 : Int32) : Option ((Nat → Nat → Int32)) :=
  rh_g (0 ≤ p0.toInt ∧ p0.toInt < ((22 : Nat) : Int)) (
    rh_g (0 ≤ (p0 + (1 : Int32)).toInt ∧ (p0 + (1 : Int32)).toInt < ((22 : Nat) : Int)) (
      (rh_loop (b_De_copyTo_17_18 p0) rh_N ((0 : Int32), rh_up (rh_up h 17 p0.toNatClampNeg (h 13 1)) 17 (p0 + (1 : Int32)).toNatClampNeg (h 13 2))).bind (fun r7 =>
        some (r7)
      )
    )
  )
set_option maxRecDepth 20000 in
set_option maxHeartbeats 4000000 in
theorem lb_De_copyTo_17_18 (d : Nat) (xx : rh_L) (sv : Option Nat) (u2 : Int32) (g : Nat → Nat → Int64) (v9 : Option Value) (h9 : rh_H) : ∀ s18 x9, b_De_copyTo_17_18 u2 s18 = some x9 → Sum.elim (fun s18 => rh_Ex (rh_M rh_PT (cw_L ++ xx) (d + 0)) (cw_L ++ xx) pg_X2_copyTo ((18, [some (.ref 13), some (.ref 17), some (.int u2), some (.int s18.1)], []), (s18.2, g, cw_R sv)) v9 h9) (fun e9 => rh_Ex (rh_M rh_PT (cw_L ++ xx) (d + 0)) (cw_L ++ xx) pg_X2_copyTo ((43, [none, none, none, none], []), (e9, g, cw_R sv)) v9 h9) x9 → rh_Ex (rh_M rh_PT (cw_L ++ xx) (d + 0)) (cw_L ++ xx) pg_X2_copyTo ((18, [some (.ref 13), some (.ref 17), some (.int u2), some (.int s18.1)], []), (s18.2, g, cw_R sv)) v9 h9 := by
  intro s18 x9 hf hk
  unfold b_De_copyTo_17_18 at hf
  refine rh_Ex.blk 2 (s' := ((21, [some (.ref 13), some (.ref 17), some (.int u2), some (.int s18.1)], [.int (9 : Int32), .int s18.1]), (s18.2, g, cw_R sv))) rfl ?_
  by_cases q4 : (9 : Int32) ≤ s18.1
  · rw [if_pos q4] at hf
    refine rh_Ex.stp (s' := ((43, [some (.ref 13), some (.ref 17), some (.int u2), some (.int s18.1)], []), (s18.2, g, cw_R sv))) rfl (st_icge_p q4) ?_
    obtain rfl := Option.some.inj hf
    refine rh_Ex.fgt [none, none, none, none] trivial ?_
    exact hk
  · rw [if_neg q4] at hf
    refine rh_Ex.stp (s' := ((24, [some (.ref 13), some (.ref 17), some (.int u2), some (.int s18.1)], []), (s18.2, g, cw_R sv))) rfl (st_icge_n q4) ?_
    refine rh_Ex.blk 9 (s' := ((35, [some (.ref 13), some (.ref 17), some (.int u2), some (.int s18.1)], [.int s18.1, .ref 14, .int ((u2 + (2 : Int32)) + s18.1), .ref 17]), (s18.2, g, cw_R sv))) rfl ?_
    obtain ⟨q5, hf⟩ := rh_gq hf
    refine rh_Ex.stp (s' := ((36, [some (.ref 13), some (.ref 17), some (.int u2), some (.int s18.1)], [.int (s18.2 14 s18.1.toNatClampNeg), .int ((u2 + (2 : Int32)) + s18.1), .ref 17]), (s18.2, g, cw_R sv))) rfl (st_iald (n := 9) rfl q5) ?_
    obtain ⟨q6, hf⟩ := rh_gq hf
    refine rh_Ex.stp (s' := ((37, [some (.ref 13), some (.ref 17), some (.int u2), some (.int s18.1)], []), (rh_up s18.2 17 ((u2 + (2 : Int32)) + s18.1).toNatClampNeg (s18.2 14 s18.1.toNatClampNeg), g, cw_R sv))) rfl (st_iast (n := 22) rfl q6) ?_
    refine rh_Ex.blk 2 (s' := ((18, [some (.ref 13), some (.ref 17), some (.int u2), some (.int (s18.1 + (1 : Int32)))], []), (rh_up s18.2 17 ((u2 + (2 : Int32)) + s18.1).toNatClampNeg (s18.2 14 s18.1.toNatClampNeg), g, cw_R sv))) rfl ?_
    obtain rfl := Option.some.inj hf
    refine rh_Ex.fgt [some (.ref 13), some (.ref 17), some (.int u2), some (.int (s18.1 + (1 : Int32)))] ⟨rfl, rfl, rfl, rfl, trivial⟩ ?_
    exact hk
set_option maxRecDepth 20000 in
set_option maxHeartbeats 4000000 in
theorem R_De_copyTo_17 (d : Nat) (xx : rh_L) (sv : Option Nat) (h : Nat → Nat → Int32) (g : Nat → Nat → Int64) (p0 : Int32) {z9 : (Nat → Nat → Int32)} (hf : f_De_copyTo_17 h p0 = some z9) : rh_M rh_PT (cw_L ++ xx) (d + 1) 21 [.ref 13, .ref 17, .int p0] (h, g, cw_R sv) none (z9, g, cw_R sv) := by
  unfold f_De_copyTo_17 at hf
  refine rh_go pt_21 (Nat.le_of_ble_eq_true rfl) (lv := [some (.ref 13), some (.ref 17), some (.int p0), none]) rfl ?_
  refine rh_Ex.blk 4 (s' := ((6, [some (.ref 13), some (.ref 17), some (.int p0), none], [.int (h 13 1), .int p0, .ref 17]), (h, g, cw_R sv))) rfl ?_
  obtain ⟨q1, hf⟩ := rh_gq hf
  refine rh_Ex.stp (s' := ((7, [some (.ref 13), some (.ref 17), some (.int p0), none], []), (rh_up h 17 p0.toNatClampNeg (h 13 1), g, cw_R sv))) rfl (st_iast (n := 22) rfl q1) ?_
  refine rh_Ex.blk 6 (s' := ((15, [some (.ref 13), some (.ref 17), some (.int p0), none], [.int (h 13 2), .int (p0 + (1 : Int32)), .ref 17]), (rh_up h 17 p0.toNatClampNeg (h 13 1), g, cw_R sv))) rfl ?_
  obtain ⟨q2, hf⟩ := rh_gq hf
  refine rh_Ex.stp (s' := ((16, [some (.ref 13), some (.ref 17), some (.int p0), none], []), (rh_up (rh_up h 17 p0.toNatClampNeg (h 13 1)) 17 (p0 + (1 : Int32)).toNatClampNeg (h 13 2), g, cw_R sv))) rfl (st_iast (n := 22) rfl q2) ?_
  refine rh_Ex.blk 2 (s' := ((18, [some (.ref 13), some (.ref 17), some (.int p0), some (.int (0 : Int32))], []), (rh_up (rh_up h 17 p0.toNatClampNeg (h 13 1)) 17 (p0 + (1 : Int32)).toNatClampNeg (h 13 2), g, cw_R sv))) rfl ?_
  obtain ⟨r7, hr7, hf⟩ := rh_bq hf
  refine rh_Ex.fgt [some (.ref 13), some (.ref 17), some (.int p0), some (.int (0 : Int32))] ⟨rfl, rfl, rfl, rfl, trivial⟩ ?_
  refine rh_Ex.loop _ _ _ (lb_De_copyTo_17_18 d xx sv p0  g _ _) rh_N _ r7 hr7 ?_
  obtain rfl := Option.some.inj hf
  exact rh_Ex.ret rfl trivial
def f_De_store (h : Nat → Nat → Int32) (p0 : Int32) : Option ((Nat → Nat → Int32)) :=
  (f_De_copyTo_17 h (p0 * (11 : Int32))).bind (fun x1 =>
    rh_g (0 ≤ p0.toInt ∧ p0.toInt < ((2 : Nat) : Int)) (
      some ((rh_up x1 18 p0.toNatClampNeg ((1 : Int32) &&& 1)))
    )
  )
set_option maxRecDepth 20000 in
set_option maxHeartbeats 4000000 in
theorem R_De_store (d : Nat) (xx : rh_L) (sv : Option Nat) (h : Nat → Nat → Int32) (g : Nat → Nat → Int64) (p0 : Int32) {z9 : (Nat → Nat → Int32)} (hf : f_De_store h p0 = some z9) : rh_M rh_PT (cw_L ++ xx) (d + 2) 27 [.ref 13, .int p0] (h, g, cw_R sv) none (z9, g, cw_R sv) := by
  unfold f_De_store at hf
  refine rh_go pt_27 (Nat.le_of_ble_eq_true rfl) (lv := [some (.ref 13), some (.int p0)]) rfl ?_
  refine rh_Ex.blk 6 (s' := ((9, [some (.ref 13), some (.int p0)], [.int (p0 * (11 : Int32)), .ref 17, .ref 13]), (h, g, cw_R sv))) rfl ?_
  obtain ⟨x1, hx1, hf⟩ := rh_bq hf
  refine rh_Ex.call (j := 21) (rc := some 2) [.ref 13, .ref 17, .int (p0 * (11 : Int32))] [] none rfl rfl rfl (Nat.le_of_ble_eq_true rfl) (R_De_copyTo_17 d xx sv h g (p0 * (11 : Int32)) hx1) ?_
  show rh_Ex _ _ _ ((12, [some (.ref 13), some (.int p0)], []), (x1, g, cw_R sv)) _ _
  refine rh_Ex.blk 4 (s' := ((18, [some (.ref 13), some (.int p0)], [.int (1 : Int32), .int p0, .ref 18]), (x1, g, cw_R sv))) rfl ?_
  obtain ⟨q2, hf⟩ := rh_gq hf
  refine rh_Ex.stp (s' := ((19, [some (.ref 13), some (.int p0)], []), (rh_up x1 18 p0.toNatClampNeg ((1 : Int32) &&& 1), g, cw_R sv))) rfl (st_zast (n := 2) rfl q2) ?_
  obtain rfl := Option.some.inj hf
  exact rh_Ex.ret rfl trivial
def b_De_copyFrom_17_18 (u2 : Int32) : (Int32 × (Nat → Nat → Int32)) → Option ((Int32 × (Nat → Nat → Int32)) ⊕ ((Nat → Nat → Int32))) := fun s18 =>
  if (9 : Int32) ≤ s18.1 then
    some (.inr s18.2)
  else
    rh_g (0 ≤ ((u2 + (2 : Int32)) + s18.1).toInt ∧ ((u2 + (2 : Int32)) + s18.1).toInt < ((22 : Nat) : Int)) (
      rh_g (0 ≤ s18.1.toInt ∧ s18.1.toInt < ((9 : Nat) : Int)) (
        some (.inl (s18.1 + (1 : Int32), rh_up s18.2 14 s18.1.toNatClampNeg (s18.2 17 ((u2 + (2 : Int32)) + s18.1).toNatClampNeg)))
      )
    )
def f_De_copyFrom_17 (h : Nat → Nat → Int32) (p0 : Int32) : Option ((Nat → Nat → Int32)) :=
  rh_g (0 ≤ p0.toInt ∧ p0.toInt < ((22 : Nat) : Int)) (
    rh_g (0 ≤ (p0 + (1 : Int32)).toInt ∧ (p0 + (1 : Int32)).toInt < ((22 : Nat) : Int)) (
      (rh_loop (b_De_copyFrom_17_18 p0) rh_N ((0 : Int32), rh_up (rh_up h 13 1 (h 17 p0.toNatClampNeg)) 13 2 ((rh_up h 13 1 (h 17 p0.toNatClampNeg)) 17 (p0 + (1 : Int32)).toNatClampNeg))).bind (fun r7 =>
        some (r7)
      )
    )
  )
set_option maxRecDepth 20000 in
set_option maxHeartbeats 4000000 in
theorem lb_De_copyFrom_17_18 (d : Nat) (xx : rh_L) (sv : Option Nat) (u2 : Int32) (g : Nat → Nat → Int64) (v9 : Option Value) (h9 : rh_H) : ∀ s18 x9, b_De_copyFrom_17_18 u2 s18 = some x9 → Sum.elim (fun s18 => rh_Ex (rh_M rh_PT (cw_L ++ xx) (d + 0)) (cw_L ++ xx) pg_X2_copyFrom ((18, [some (.ref 13), some (.ref 17), some (.int u2), some (.int s18.1)], []), (s18.2, g, cw_R sv)) v9 h9) (fun e9 => rh_Ex (rh_M rh_PT (cw_L ++ xx) (d + 0)) (cw_L ++ xx) pg_X2_copyFrom ((43, [none, none, none, none], []), (e9, g, cw_R sv)) v9 h9) x9 → rh_Ex (rh_M rh_PT (cw_L ++ xx) (d + 0)) (cw_L ++ xx) pg_X2_copyFrom ((18, [some (.ref 13), some (.ref 17), some (.int u2), some (.int s18.1)], []), (s18.2, g, cw_R sv)) v9 h9 := by
  intro s18 x9 hf hk
  unfold b_De_copyFrom_17_18 at hf
  refine rh_Ex.blk 2 (s' := ((21, [some (.ref 13), some (.ref 17), some (.int u2), some (.int s18.1)], [.int (9 : Int32), .int s18.1]), (s18.2, g, cw_R sv))) rfl ?_
  by_cases q4 : (9 : Int32) ≤ s18.1
  · rw [if_pos q4] at hf
    refine rh_Ex.stp (s' := ((43, [some (.ref 13), some (.ref 17), some (.int u2), some (.int s18.1)], []), (s18.2, g, cw_R sv))) rfl (st_icge_p q4) ?_
    obtain rfl := Option.some.inj hf
    refine rh_Ex.fgt [none, none, none, none] trivial ?_
    exact hk
  · rw [if_neg q4] at hf
    refine rh_Ex.stp (s' := ((24, [some (.ref 13), some (.ref 17), some (.int u2), some (.int s18.1)], []), (s18.2, g, cw_R sv))) rfl (st_icge_n q4) ?_
    refine rh_Ex.blk 9 (s' := ((35, [some (.ref 13), some (.ref 17), some (.int u2), some (.int s18.1)], [.int ((u2 + (2 : Int32)) + s18.1), .ref 17, .int s18.1, .ref 14]), (s18.2, g, cw_R sv))) rfl ?_
    obtain ⟨q5, hf⟩ := rh_gq hf
    refine rh_Ex.stp (s' := ((36, [some (.ref 13), some (.ref 17), some (.int u2), some (.int s18.1)], [.int (s18.2 17 ((u2 + (2 : Int32)) + s18.1).toNatClampNeg), .int s18.1, .ref 14]), (s18.2, g, cw_R sv))) rfl (st_iald (n := 22) rfl q5) ?_
    obtain ⟨q6, hf⟩ := rh_gq hf
    refine rh_Ex.stp (s' := ((37, [some (.ref 13), some (.ref 17), some (.int u2), some (.int s18.1)], []), (rh_up s18.2 14 s18.1.toNatClampNeg (s18.2 17 ((u2 + (2 : Int32)) + s18.1).toNatClampNeg), g, cw_R sv))) rfl (st_iast (n := 9) rfl q6) ?_
    refine rh_Ex.blk 2 (s' := ((18, [some (.ref 13), some (.ref 17), some (.int u2), some (.int (s18.1 + (1 : Int32)))], []), (rh_up s18.2 14 s18.1.toNatClampNeg (s18.2 17 ((u2 + (2 : Int32)) + s18.1).toNatClampNeg), g, cw_R sv))) rfl ?_
    obtain rfl := Option.some.inj hf
    refine rh_Ex.fgt [some (.ref 13), some (.ref 17), some (.int u2), some (.int (s18.1 + (1 : Int32)))] ⟨rfl, rfl, rfl, rfl, trivial⟩ ?_
    exact hk
set_option maxRecDepth 20000 in
set_option maxHeartbeats 4000000 in
theorem R_De_copyFrom_17 (d : Nat) (xx : rh_L) (sv : Option Nat) (h : Nat → Nat → Int32) (g : Nat → Nat → Int64) (p0 : Int32) {z9 : (Nat → Nat → Int32)} (hf : f_De_copyFrom_17 h p0 = some z9) : rh_M rh_PT (cw_L ++ xx) (d + 1) 22 [.ref 13, .ref 17, .int p0] (h, g, cw_R sv) none (z9, g, cw_R sv) := by
  unfold f_De_copyFrom_17 at hf
  refine rh_go pt_22 (Nat.le_of_ble_eq_true rfl) (lv := [some (.ref 13), some (.ref 17), some (.int p0), none]) rfl ?_
  refine rh_Ex.blk 3 (s' := ((3, [some (.ref 13), some (.ref 17), some (.int p0), none], [.int p0, .ref 17, .ref 13]), (h, g, cw_R sv))) rfl ?_
  obtain ⟨q1, hf⟩ := rh_gq hf
  refine rh_Ex.stp (s' := ((4, [some (.ref 13), some (.ref 17), some (.int p0), none], [.int (h 17 p0.toNatClampNeg), .ref 13]), (h, g, cw_R sv))) rfl (st_iald (n := 22) rfl q1) ?_
  refine rh_Ex.blk 6 (s' := ((12, [some (.ref 13), some (.ref 17), some (.int p0), none], [.int (p0 + (1 : Int32)), .ref 17, .ref 13]), (rh_up h 13 1 (h 17 p0.toNatClampNeg), g, cw_R sv))) rfl ?_
  obtain ⟨q2, hf⟩ := rh_gq hf
  refine rh_Ex.stp (s' := ((13, [some (.ref 13), some (.ref 17), some (.int p0), none], [.int ((rh_up h 13 1 (h 17 p0.toNatClampNeg)) 17 (p0 + (1 : Int32)).toNatClampNeg), .ref 13]), (rh_up h 13 1 (h 17 p0.toNatClampNeg), g, cw_R sv))) rfl (st_iald (n := 22) rfl q2) ?_
  refine rh_Ex.blk 3 (s' := ((18, [some (.ref 13), some (.ref 17), some (.int p0), some (.int (0 : Int32))], []), (rh_up (rh_up h 13 1 (h 17 p0.toNatClampNeg)) 13 2 ((rh_up h 13 1 (h 17 p0.toNatClampNeg)) 17 (p0 + (1 : Int32)).toNatClampNeg), g, cw_R sv))) rfl ?_
  obtain ⟨r7, hr7, hf⟩ := rh_bq hf
  refine rh_Ex.fgt [some (.ref 13), some (.ref 17), some (.int p0), some (.int (0 : Int32))] ⟨rfl, rfl, rfl, rfl, trivial⟩ ?_
  refine rh_Ex.loop _ _ _ (lb_De_copyFrom_17_18 d xx sv p0  g _ _) rh_N _ r7 hr7 ?_
  obtain rfl := Option.some.inj hf
  exact rh_Ex.ret rfl trivial
def f_De_restore (h : Nat → Nat → Int32) (p0 : Int32) : Option ((Nat → Nat → Int32)) :=
  (f_De_copyFrom_17 h (p0 * (11 : Int32))).bind (fun x1 =>
    some (x1)
  )
set_option maxRecDepth 20000 in
set_option maxHeartbeats 4000000 in
theorem R_De_restore (d : Nat) (xx : rh_L) (sv : Option Nat) (h : Nat → Nat → Int32) (g : Nat → Nat → Int64) (p0 : Int32) {z9 : (Nat → Nat → Int32)} (hf : f_De_restore h p0 = some z9) : rh_M rh_PT (cw_L ++ xx) (d + 2) 28 [.ref 13, .int p0] (h, g, cw_R sv) none (z9, g, cw_R sv) := by
  unfold f_De_restore at hf
  refine rh_go pt_28 (Nat.le_of_ble_eq_true rfl) (lv := [some (.ref 13), some (.int p0)]) rfl ?_
  refine rh_Ex.blk 6 (s' := ((9, [some (.ref 13), some (.int p0)], [.int (p0 * (11 : Int32)), .ref 17, .ref 13]), (h, g, cw_R sv))) rfl ?_
  obtain ⟨x1, hx1, hf⟩ := rh_bq hf
  refine rh_Ex.call (j := 22) (rc := some 2) [.ref 13, .ref 17, .int (p0 * (11 : Int32))] [] none rfl rfl rfl (Nat.le_of_ble_eq_true rfl) (R_De_copyFrom_17 d xx sv h g (p0 * (11 : Int32)) hx1) ?_
  show rh_Ex _ _ _ ((12, [some (.ref 13), some (.int p0)], []), (x1, g, cw_R sv)) _ _
  obtain rfl := Option.some.inj hf
  exact rh_Ex.ret rfl trivial
def f_De_forgetKept (h : Nat → Nat → Int32) : (Nat → Nat → Int32) :=
  (rh_up (rh_up h 18 (0 : Int32).toNatClampNeg ((0 : Int32) &&& 1)) 18 (1 : Int32).toNatClampNeg ((0 : Int32) &&& 1))
set_option maxRecDepth 20000 in
set_option maxHeartbeats 4000000 in
theorem R_De_forgetKept (d : Nat) (xx : rh_L) (sv : Option Nat) (h : Nat → Nat → Int32) (g : Nat → Nat → Int64)  {z9 : (Nat → Nat → Int32)} (hf : f_De_forgetKept h = z9) : rh_M rh_PT (cw_L ++ xx) (d + 1) 29 [.ref 13] (h, g, cw_R sv) none (z9, g, cw_R sv) := by
  unfold f_De_forgetKept at hf
  refine rh_go pt_29 (Nat.le_of_ble_eq_true rfl) (lv := [some (.ref 13)]) rfl ?_
  refine rh_Ex.blk 4 (s' := ((6, [some (.ref 13)], [.int (0 : Int32), .int (0 : Int32), .ref 18]), (h, g, cw_R sv))) rfl ?_
  refine rh_Ex.stp (s' := ((7, [some (.ref 13)], []), (rh_up h 18 (0 : Int32).toNatClampNeg ((0 : Int32) &&& 1), g, cw_R sv))) rfl (st_zast (n := 2) rfl (by decide)) ?_
  refine rh_Ex.blk 4 (s' := ((13, [some (.ref 13)], [.int (0 : Int32), .int (1 : Int32), .ref 18]), (rh_up h 18 (0 : Int32).toNatClampNeg ((0 : Int32) &&& 1), g, cw_R sv))) rfl ?_
  refine rh_Ex.stp (s' := ((14, [some (.ref 13)], []), (rh_up (rh_up h 18 (0 : Int32).toNatClampNeg ((0 : Int32) &&& 1)) 18 (1 : Int32).toNatClampNeg ((0 : Int32) &&& 1), g, cw_R sv))) rfl (st_zast (n := 2) rfl (by decide)) ?_
  subst hf
  exact rh_Ex.ret rfl trivial
def f_Fr_isPerson (h : Nat → Nat → Int32) (p0 : Int32) : Int32 :=
  if (((h 19 3) >>> (p0 &&& 31)) &&& (1 : Int32)) = 0 then
    (0 : Int32)
  else
    (1 : Int32)
set_option maxRecDepth 20000 in
set_option maxHeartbeats 4000000 in
theorem R_Fr_isPerson (d : Nat) (xx : rh_L) (sv : Option Nat) (h : Nat → Nat → Int32) (g : Nat → Nat → Int64) (p0 : Int32) {z9 : Int32} (hf : f_Fr_isPerson h p0 = z9) : rh_M rh_PT (cw_L ++ xx) (d + 1) 30 [.ref 19, .int p0] (h, g, cw_R sv) (some (.int z9)) (h, g, cw_R sv) := by
  unfold f_Fr_isPerson at hf
  refine rh_go pt_30 (Nat.le_of_ble_eq_true rfl) (lv := [some (.ref 19), some (.int p0)]) rfl ?_
  refine rh_Ex.blk 6 (s' := ((8, [some (.ref 19), some (.int p0)], [.int (((h 19 3) >>> (p0 &&& 31)) &&& (1 : Int32))]), (h, g, cw_R sv))) rfl ?_
  by_cases q1 : (((h 19 3) >>> (p0 &&& 31)) &&& (1 : Int32)) = 0
  · rw [if_pos q1] at hf
    refine rh_Ex.stp (s' := ((15, [some (.ref 19), some (.int p0)], []), (h, g, cw_R sv))) rfl (st_ifeq_p q1) ?_
    refine rh_Ex.blk 1 (s' := ((16, [some (.ref 19), some (.int p0)], [.int (0 : Int32)]), (h, g, cw_R sv))) rfl ?_
    subst hf
    exact rh_Ex.ret rfl ⟨rfl, Or.inl rfl⟩
  · rw [if_neg q1] at hf
    refine rh_Ex.stp (s' := ((11, [some (.ref 19), some (.int p0)], []), (h, g, cw_R sv))) rfl (st_ifeq_n q1) ?_
    refine rh_Ex.blk 2 (s' := ((16, [some (.ref 19), some (.int p0)], [.int (1 : Int32)]), (h, g, cw_R sv))) rfl ?_
    subst hf
    exact rh_Ex.ret rfl ⟨rfl, Or.inr rfl⟩
def f_Fr_begin (h : Nat → Nat → Int32) : (Nat → Nat → Int32) :=
  (rh_up (rh_up (rh_up (rh_up h 19 2 (0 : Int32)) 19 3 (0 : Int32)) 19 4 (0 : Int32)) 19 5 (0 : Int32))
set_option maxRecDepth 20000 in
set_option maxHeartbeats 4000000 in
theorem R_Fr_begin (d : Nat) (xx : rh_L) (sv : Option Nat) (h : Nat → Nat → Int32) (g : Nat → Nat → Int64)  {z9 : (Nat → Nat → Int32)} (hf : f_Fr_begin h = z9) : rh_M rh_PT (cw_L ++ xx) (d + 1) 31 [.ref 19] (h, g, cw_R sv) none (z9, g, cw_R sv) := by
  unfold f_Fr_begin at hf
  refine rh_go pt_31 (Nat.le_of_ble_eq_true rfl) (lv := [some (.ref 19)]) rfl ?_
  refine rh_Ex.blk 11 (s' := ((17, [some (.ref 19)], [.int (0 : Int32), .ref 19]), (rh_up (rh_up (rh_up h 19 2 (0 : Int32)) 19 3 (0 : Int32)) 19 4 (0 : Int32), g, cw_R sv))) rfl ?_
  refine rh_Ex.stp (s' := ((20, [some (.ref 19)], []), (rh_up (rh_up (rh_up (rh_up h 19 2 (0 : Int32)) 19 3 (0 : Int32)) 19 4 (0 : Int32)) 19 5 (0 : Int32), g, cw_R sv))) rfl (st_putZ rfl (Or.inl rfl)) ?_
  subst hf
  exact rh_Ex.ret rfl trivial
def j_Fr_takesKind_12 (h : Nat → Nat → Int32) (p0 : Int32) : Option (Int32 × (Nat → Nat → Int32)) :=
  if (h 19 1) ≤ (h 19 2) then
    some (((0 : Int32), h))
  else
    if (h 19 2) < (9 : Int32) then
      if p0 = (112 : Int32) then
        rh_g (0 ≤ (h 19 2).toInt ∧ (h 19 2).toInt < ((9 : Nat) : Int)) (
          some (((1 : Int32), rh_up (rh_up (rh_up (rh_up h 19 3 ((h 19 3) ||| ((1 : Int32) <<< ((h 19 2) &&& 31)))) 20 (h 19 2).toNatClampNeg (0 : Int32)) 19 2 ((h 19 2) + (1 : Int32))) 19 5 (1 : Int32)))
        )
      else
        rh_g (0 ≤ (h 19 2).toInt ∧ (h 19 2).toInt < ((9 : Nat) : Int)) (
          some (((1 : Int32), rh_up (rh_up (rh_up h 20 (h 19 2).toNatClampNeg (0 : Int32)) 19 2 ((h 19 2) + (1 : Int32))) 19 5 (1 : Int32)))
        )
    else
      some (((0 : Int32), h))
def f_Fr_takesKind (h : Nat → Nat → Int32) (p0 : Int32) : Option (Int32 × (Nat → Nat → Int32)) :=
  if p0 = (112 : Int32) then
    j_Fr_takesKind_12 h p0
  else
    if p0 = (116 : Int32) then
      j_Fr_takesKind_12 h p0
    else
      some (((0 : Int32), h))
set_option maxRecDepth 20000 in
set_option maxHeartbeats 4000000 in
theorem lj_Fr_takesKind_12 (d : Nat) (xx : rh_L) (sv : Option Nat) (h : Nat → Nat → Int32) (p0 : Int32) (g : Nat → Nat → Int64) {z9 : Int32 × (Nat → Nat → Int32)} (hf : j_Fr_takesKind_12 h p0 = some z9) : rh_Ex (rh_M rh_PT (cw_L ++ xx) (d + 0)) (cw_L ++ xx) pg_X3_takesKind ((12, [some (.ref 19), some (.int p0)], []), (h, g, cw_R sv)) (some (.int z9.1)) (z9.2, g, cw_R sv) := by
  unfold j_Fr_takesKind_12 at hf
  refine rh_Ex.blk 4 (s' := ((20, [some (.ref 19), some (.int p0)], [.int (h 19 1), .int (h 19 2)]), (h, g, cw_R sv))) rfl ?_
  by_cases q2 : (h 19 1) ≤ (h 19 2)
  · rw [if_pos q2] at hf
    refine rh_Ex.stp (s' := ((32, [some (.ref 19), some (.int p0)], []), (h, g, cw_R sv))) rfl (st_icge_p q2) ?_
    refine rh_Ex.blk 1 (s' := ((33, [some (.ref 19), some (.int p0)], [.int (0 : Int32)]), (h, g, cw_R sv))) rfl ?_
    obtain rfl := Option.some.inj hf
    exact rh_Ex.ret rfl ⟨rfl, Or.inl rfl⟩
  · rw [if_neg q2] at hf
    refine rh_Ex.stp (s' := ((23, [some (.ref 19), some (.int p0)], []), (h, g, cw_R sv))) rfl (st_icge_n q2) ?_
    refine rh_Ex.blk 3 (s' := ((29, [some (.ref 19), some (.int p0)], [.int (9 : Int32), .int (h 19 2)]), (h, g, cw_R sv))) rfl ?_
    by_cases q3 : (h 19 2) < (9 : Int32)
    · rw [if_pos q3] at hf
      refine rh_Ex.stp (s' := ((34, [some (.ref 19), some (.int p0)], []), (h, g, cw_R sv))) rfl (st_iclt_p q3) ?_
      refine rh_Ex.blk 2 (s' := ((37, [some (.ref 19), some (.int p0)], [.int (112 : Int32), .int p0]), (h, g, cw_R sv))) rfl ?_
      by_cases q4 : p0 = (112 : Int32)
      · rw [if_pos q4] at hf
        refine rh_Ex.stp (s' := ((40, [some (.ref 19), some (.int p0)], []), (h, g, cw_R sv))) rfl (st_icne_p q4) ?_
        refine rh_Ex.blk 14 (s' := ((64, [some (.ref 19), some (.int p0)], [.int (0 : Int32), .int (h 19 2), .ref 20]), (rh_up h 19 3 ((h 19 3) ||| ((1 : Int32) <<< ((h 19 2) &&& 31))), g, cw_R sv))) rfl ?_
        obtain ⟨q5, hf⟩ := rh_gq hf
        refine rh_Ex.stp (s' := ((65, [some (.ref 19), some (.int p0)], []), (rh_up (rh_up h 19 3 ((h 19 3) ||| ((1 : Int32) <<< ((h 19 2) &&& 31)))) 20 (h 19 2).toNatClampNeg (0 : Int32), g, cw_R sv))) rfl (st_iast (n := 9) rfl q5) ?_
        refine rh_Ex.blk 8 (s' := ((77, [some (.ref 19), some (.int p0)], [.int (1 : Int32), .ref 19]), (rh_up (rh_up (rh_up h 19 3 ((h 19 3) ||| ((1 : Int32) <<< ((h 19 2) &&& 31)))) 20 (h 19 2).toNatClampNeg (0 : Int32)) 19 2 ((h 19 2) + (1 : Int32)), g, cw_R sv))) rfl ?_
        refine rh_Ex.stp (s' := ((80, [some (.ref 19), some (.int p0)], []), (rh_up (rh_up (rh_up (rh_up h 19 3 ((h 19 3) ||| ((1 : Int32) <<< ((h 19 2) &&& 31)))) 20 (h 19 2).toNatClampNeg (0 : Int32)) 19 2 ((h 19 2) + (1 : Int32))) 19 5 (1 : Int32), g, cw_R sv))) rfl (st_putZ rfl (Or.inr rfl)) ?_
        refine rh_Ex.blk 1 (s' := ((81, [some (.ref 19), some (.int p0)], [.int (1 : Int32)]), (rh_up (rh_up (rh_up (rh_up h 19 3 ((h 19 3) ||| ((1 : Int32) <<< ((h 19 2) &&& 31)))) 20 (h 19 2).toNatClampNeg (0 : Int32)) 19 2 ((h 19 2) + (1 : Int32))) 19 5 (1 : Int32), g, cw_R sv))) rfl ?_
        obtain rfl := Option.some.inj hf
        exact rh_Ex.ret rfl ⟨rfl, Or.inr rfl⟩
      · rw [if_neg q4] at hf
        refine rh_Ex.stp (s' := ((55, [some (.ref 19), some (.int p0)], []), (h, g, cw_R sv))) rfl (st_icne_n q4) ?_
        refine rh_Ex.blk 5 (s' := ((64, [some (.ref 19), some (.int p0)], [.int (0 : Int32), .int (h 19 2), .ref 20]), (h, g, cw_R sv))) rfl ?_
        obtain ⟨q6, hf⟩ := rh_gq hf
        refine rh_Ex.stp (s' := ((65, [some (.ref 19), some (.int p0)], []), (rh_up h 20 (h 19 2).toNatClampNeg (0 : Int32), g, cw_R sv))) rfl (st_iast (n := 9) rfl q6) ?_
        refine rh_Ex.blk 8 (s' := ((77, [some (.ref 19), some (.int p0)], [.int (1 : Int32), .ref 19]), (rh_up (rh_up h 20 (h 19 2).toNatClampNeg (0 : Int32)) 19 2 ((h 19 2) + (1 : Int32)), g, cw_R sv))) rfl ?_
        refine rh_Ex.stp (s' := ((80, [some (.ref 19), some (.int p0)], []), (rh_up (rh_up (rh_up h 20 (h 19 2).toNatClampNeg (0 : Int32)) 19 2 ((h 19 2) + (1 : Int32))) 19 5 (1 : Int32), g, cw_R sv))) rfl (st_putZ rfl (Or.inr rfl)) ?_
        refine rh_Ex.blk 1 (s' := ((81, [some (.ref 19), some (.int p0)], [.int (1 : Int32)]), (rh_up (rh_up (rh_up h 20 (h 19 2).toNatClampNeg (0 : Int32)) 19 2 ((h 19 2) + (1 : Int32))) 19 5 (1 : Int32), g, cw_R sv))) rfl ?_
        obtain rfl := Option.some.inj hf
        exact rh_Ex.ret rfl ⟨rfl, Or.inr rfl⟩
    · rw [if_neg q3] at hf
      refine rh_Ex.stp (s' := ((32, [some (.ref 19), some (.int p0)], []), (h, g, cw_R sv))) rfl (st_iclt_n q3) ?_
      refine rh_Ex.blk 1 (s' := ((33, [some (.ref 19), some (.int p0)], [.int (0 : Int32)]), (h, g, cw_R sv))) rfl ?_
      obtain rfl := Option.some.inj hf
      exact rh_Ex.ret rfl ⟨rfl, Or.inl rfl⟩
set_option maxRecDepth 20000 in
set_option maxHeartbeats 4000000 in
theorem R_Fr_takesKind (d : Nat) (xx : rh_L) (sv : Option Nat) (h : Nat → Nat → Int32) (g : Nat → Nat → Int64) (p0 : Int32) {z9 : Int32 × (Nat → Nat → Int32)} (hf : f_Fr_takesKind h p0 = some z9) : rh_M rh_PT (cw_L ++ xx) (d + 1) 33 [.ref 19, .int p0] (h, g, cw_R sv) (some (.int z9.1)) (z9.2, g, cw_R sv) := by
  unfold f_Fr_takesKind at hf
  refine rh_go pt_33 (Nat.le_of_ble_eq_true rfl) (lv := [some (.ref 19), some (.int p0)]) rfl ?_
  refine rh_Ex.blk 2 (s' := ((3, [some (.ref 19), some (.int p0)], [.int (112 : Int32), .int p0]), (h, g, cw_R sv))) rfl ?_
  by_cases q1 : p0 = (112 : Int32)
  · rw [if_pos q1] at hf
    refine rh_Ex.stp (s' := ((12, [some (.ref 19), some (.int p0)], []), (h, g, cw_R sv))) rfl (st_iceq_p q1) ?_
    refine rh_Ex.fgt [some (.ref 19), some (.int p0)] ⟨rfl, rfl, trivial⟩ ?_
    exact lj_Fr_takesKind_12 d xx sv h p0 g hf
  · rw [if_neg q1] at hf
    refine rh_Ex.stp (s' := ((6, [some (.ref 19), some (.int p0)], []), (h, g, cw_R sv))) rfl (st_iceq_n q1) ?_
    refine rh_Ex.blk 2 (s' := ((9, [some (.ref 19), some (.int p0)], [.int (116 : Int32), .int p0]), (h, g, cw_R sv))) rfl ?_
    by_cases q7 : p0 = (116 : Int32)
    · rw [if_pos q7] at hf
      refine rh_Ex.stp (s' := ((12, [some (.ref 19), some (.int p0)], []), (h, g, cw_R sv))) rfl (st_icne_p q7) ?_
      refine rh_Ex.fgt [some (.ref 19), some (.int p0)] ⟨rfl, rfl, trivial⟩ ?_
      exact lj_Fr_takesKind_12 d xx sv h p0 g hf
    · rw [if_neg q7] at hf
      refine rh_Ex.stp (s' := ((32, [some (.ref 19), some (.int p0)], []), (h, g, cw_R sv))) rfl (st_icne_n q7) ?_
      refine rh_Ex.blk 1 (s' := ((33, [some (.ref 19), some (.int p0)], [.int (0 : Int32)]), (h, g, cw_R sv))) rfl ?_
      obtain rfl := Option.some.inj hf
      exact rh_Ex.ret rfl ⟨rfl, Or.inl rfl⟩
def f_Fr_canEnd (h : Nat → Nat → Int32) : Option (Int32) :=
  if (h 19 5) = 0 then
    some ((0 : Int32))
  else
    if (h 19 4) ≤ 0 then
      some ((0 : Int32))
    else
      rh_g (0 ≤ ((h 19 2) - (1 : Int32)).toInt ∧ ((h 19 2) - (1 : Int32)).toInt < ((9 : Nat) : Int)) (
        if (h 20 ((h 19 2) - (1 : Int32)).toNatClampNeg) ≤ 0 then
          some ((0 : Int32))
        else
          some ((1 : Int32))
      )
set_option maxRecDepth 20000 in
set_option maxHeartbeats 4000000 in
theorem R_Fr_canEnd (d : Nat) (xx : rh_L) (sv : Option Nat) (h : Nat → Nat → Int32) (g : Nat → Nat → Int64)  {z9 : Int32} (hf : f_Fr_canEnd h = some z9) : rh_M rh_PT (cw_L ++ xx) (d + 1) 34 [.ref 19] (h, g, cw_R sv) (some (.int z9)) (h, g, cw_R sv) := by
  unfold f_Fr_canEnd at hf
  refine rh_go pt_34 (Nat.le_of_ble_eq_true rfl) (lv := [some (.ref 19)]) rfl ?_
  refine rh_Ex.blk 2 (s' := ((4, [some (.ref 19)], [.int (h 19 5)]), (h, g, cw_R sv))) rfl ?_
  by_cases q1 : (h 19 5) = 0
  · rw [if_pos q1] at hf
    refine rh_Ex.stp (s' := ((32, [some (.ref 19)], []), (h, g, cw_R sv))) rfl (st_ifeq_p q1) ?_
    refine rh_Ex.blk 1 (s' := ((33, [some (.ref 19)], [.int (0 : Int32)]), (h, g, cw_R sv))) rfl ?_
    obtain rfl := Option.some.inj hf
    exact rh_Ex.ret rfl ⟨rfl, Or.inl rfl⟩
  · rw [if_neg q1] at hf
    refine rh_Ex.stp (s' := ((7, [some (.ref 19)], []), (h, g, cw_R sv))) rfl (st_ifeq_n q1) ?_
    refine rh_Ex.blk 2 (s' := ((11, [some (.ref 19)], [.int (h 19 4)]), (h, g, cw_R sv))) rfl ?_
    by_cases q2 : (h 19 4) ≤ 0
    · rw [if_pos q2] at hf
      refine rh_Ex.stp (s' := ((32, [some (.ref 19)], []), (h, g, cw_R sv))) rfl (st_ifle_p q2) ?_
      refine rh_Ex.blk 1 (s' := ((33, [some (.ref 19)], [.int (0 : Int32)]), (h, g, cw_R sv))) rfl ?_
      obtain rfl := Option.some.inj hf
      exact rh_Ex.ret rfl ⟨rfl, Or.inl rfl⟩
    · rw [if_neg q2] at hf
      refine rh_Ex.stp (s' := ((14, [some (.ref 19)], []), (h, g, cw_R sv))) rfl (st_ifle_n q2) ?_
      refine rh_Ex.blk 6 (s' := ((24, [some (.ref 19)], [.int ((h 19 2) - (1 : Int32)), .ref 20]), (h, g, cw_R sv))) rfl ?_
      obtain ⟨q3, hf⟩ := rh_gq hf
      refine rh_Ex.stp (s' := ((25, [some (.ref 19)], [.int (h 20 ((h 19 2) - (1 : Int32)).toNatClampNeg)]), (h, g, cw_R sv))) rfl (st_iald (n := 9) rfl q3) ?_
      by_cases q4 : (h 20 ((h 19 2) - (1 : Int32)).toNatClampNeg) ≤ 0
      · rw [if_pos q4] at hf
        refine rh_Ex.stp (s' := ((32, [some (.ref 19)], []), (h, g, cw_R sv))) rfl (st_ifle_p q4) ?_
        refine rh_Ex.blk 1 (s' := ((33, [some (.ref 19)], [.int (0 : Int32)]), (h, g, cw_R sv))) rfl ?_
        obtain rfl := Option.some.inj hf
        exact rh_Ex.ret rfl ⟨rfl, Or.inl rfl⟩
      · rw [if_neg q4] at hf
        refine rh_Ex.stp (s' := ((28, [some (.ref 19)], []), (h, g, cw_R sv))) rfl (st_ifle_n q4) ?_
        refine rh_Ex.blk 2 (s' := ((33, [some (.ref 19)], [.int (1 : Int32)]), (h, g, cw_R sv))) rfl ?_
        obtain rfl := Option.some.inj hf
        exact rh_Ex.ret rfl ⟨rfl, Or.inr rfl⟩
def j_Fr_takes_70 (h : Nat → Nat → Int32) (p0 : Int32) : Option (Int32 × (Nat → Nat → Int32)) :=
  if p0 = (59 : Int32) then
    (f_Fr_canEnd h).bind (fun x6 =>
      if x6 = 0 then
        some (((0 : Int32), h))
      else
        some (((1 : Int32), rh_up (rh_up h 19 5 (0 : Int32)) 19 4 (0 : Int32)))
    )
  else
    some (((0 : Int32), h))
def f_Fr_takes (h : Nat → Nat → Int32) (p0 : Int32) : Option (Int32 × (Nat → Nat → Int32)) :=
  if (h 19 5) = 0 then
    (f_Fr_takesKind h p0).bind (fun x2 =>
      rh_g (x2.1 = 0 ∨ x2.1 = 1) (
        some ((x2.1, x2.2))
      )
    )
  else
    if (f_Re_isDigit p0) = 0 then
      j_Fr_takes_70 h p0
    else
      if (3 : Int32) ≤ (h 19 4) then
        j_Fr_takes_70 h p0
      else
        rh_g (0 ≤ ((h 19 2) - (1 : Int32)).toInt ∧ ((h 19 2) - (1 : Int32)).toInt < ((9 : Nat) : Int)) (
          rh_g (0 ≤ ((h 19 2) - (1 : Int32)).toInt ∧ ((h 19 2) - (1 : Int32)).toInt < ((9 : Nat) : Int)) (
            some (((1 : Int32), rh_up (rh_up h 20 ((h 19 2) - (1 : Int32)).toNatClampNeg ((((h 20 ((h 19 2) - (1 : Int32)).toNatClampNeg) * (10 : Int32)) + p0) - (48 : Int32))) 19 4 ((h 19 4) + (1 : Int32))))
          )
        )
set_option maxRecDepth 20000 in
set_option maxHeartbeats 4000000 in
theorem lj_Fr_takes_70 (d : Nat) (xx : rh_L) (sv : Option Nat) (h : Nat → Nat → Int32) (p0 : Int32) (g : Nat → Nat → Int64) {z9 : Int32 × (Nat → Nat → Int32)} (hf : j_Fr_takes_70 h p0 = some z9) : rh_Ex (rh_M rh_PT (cw_L ++ xx) (d + 1)) (cw_L ++ xx) pg_X3_takes ((70, [some (.ref 19), some (.int p0)], []), (h, g, cw_R sv)) (some (.int z9.1)) (z9.2, g, cw_R sv) := by
  unfold j_Fr_takes_70 at hf
  refine rh_Ex.blk 2 (s' := ((73, [some (.ref 19), some (.int p0)], [.int (59 : Int32), .int p0]), (h, g, cw_R sv))) rfl ?_
  by_cases q5 : p0 = (59 : Int32)
  · rw [if_pos q5] at hf
    refine rh_Ex.stp (s' := ((76, [some (.ref 19), some (.int p0)], []), (h, g, cw_R sv))) rfl (st_icne_p q5) ?_
    refine rh_Ex.blk 1 (s' := ((77, [some (.ref 19), some (.int p0)], [.ref 19]), (h, g, cw_R sv))) rfl ?_
    obtain ⟨x6, hx6, hf⟩ := rh_bq hf
    refine rh_Ex.call (j := 34) (rc := some 3) [.ref 19] [] (some (.int x6)) rfl rfl rfl (Nat.le_of_ble_eq_true rfl) (R_Fr_canEnd d xx sv h g  hx6) ?_
    show rh_Ex _ _ _ ((80, [some (.ref 19), some (.int p0)], [.int x6]), (h, g, cw_R sv)) _ _
    by_cases q7 : x6 = 0
    · rw [if_pos q7] at hf
      refine rh_Ex.stp (s' := ((95, [some (.ref 19), some (.int p0)], []), (h, g, cw_R sv))) rfl (st_ifeq_p q7) ?_
      refine rh_Ex.blk 1 (s' := ((96, [some (.ref 19), some (.int p0)], [.int (0 : Int32)]), (h, g, cw_R sv))) rfl ?_
      obtain rfl := Option.some.inj hf
      exact rh_Ex.ret rfl ⟨rfl, Or.inl rfl⟩
    · rw [if_neg q7] at hf
      refine rh_Ex.stp (s' := ((83, [some (.ref 19), some (.int p0)], []), (h, g, cw_R sv))) rfl (st_ifeq_n q7) ?_
      refine rh_Ex.blk 2 (s' := ((85, [some (.ref 19), some (.int p0)], [.int (0 : Int32), .ref 19]), (h, g, cw_R sv))) rfl ?_
      refine rh_Ex.stp (s' := ((88, [some (.ref 19), some (.int p0)], []), (rh_up h 19 5 (0 : Int32), g, cw_R sv))) rfl (st_putZ rfl (Or.inl rfl)) ?_
      refine rh_Ex.blk 4 (s' := ((94, [some (.ref 19), some (.int p0)], [.int (1 : Int32)]), (rh_up (rh_up h 19 5 (0 : Int32)) 19 4 (0 : Int32), g, cw_R sv))) rfl ?_
      obtain rfl := Option.some.inj hf
      exact rh_Ex.ret rfl ⟨rfl, Or.inr rfl⟩
  · rw [if_neg q5] at hf
    refine rh_Ex.stp (s' := ((95, [some (.ref 19), some (.int p0)], []), (h, g, cw_R sv))) rfl (st_icne_n q5) ?_
    refine rh_Ex.blk 1 (s' := ((96, [some (.ref 19), some (.int p0)], [.int (0 : Int32)]), (h, g, cw_R sv))) rfl ?_
    obtain rfl := Option.some.inj hf
    exact rh_Ex.ret rfl ⟨rfl, Or.inl rfl⟩
set_option maxRecDepth 20000 in
set_option maxHeartbeats 4000000 in
theorem R_Fr_takes (d : Nat) (xx : rh_L) (sv : Option Nat) (h : Nat → Nat → Int32) (g : Nat → Nat → Int64) (p0 : Int32) {z9 : Int32 × (Nat → Nat → Int32)} (hf : f_Fr_takes h p0 = some z9) : rh_M rh_PT (cw_L ++ xx) (d + 2) 32 [.ref 19, .int p0] (h, g, cw_R sv) (some (.int z9.1)) (z9.2, g, cw_R sv) := by
  unfold f_Fr_takes at hf
  refine rh_go pt_32 (Nat.le_of_ble_eq_true rfl) (lv := [some (.ref 19), some (.int p0)]) rfl ?_
  refine rh_Ex.blk 2 (s' := ((4, [some (.ref 19), some (.int p0)], [.int (h 19 5)]), (h, g, cw_R sv))) rfl ?_
  by_cases q1 : (h 19 5) = 0
  · rw [if_pos q1] at hf
    refine rh_Ex.stp (s' := ((7, [some (.ref 19), some (.int p0)], []), (h, g, cw_R sv))) rfl (st_ifne_p q1) ?_
    refine rh_Ex.blk 2 (s' := ((9, [some (.ref 19), some (.int p0)], [.int p0, .ref 19]), (h, g, cw_R sv))) rfl ?_
    obtain ⟨x2, hx2, hf⟩ := rh_bq hf
    refine rh_Ex.call (j := 33) (rc := some 3) [.ref 19, .int p0] [] (some (.int x2.1)) rfl rfl rfl (Nat.le_of_ble_eq_true rfl) (R_Fr_takesKind d xx sv h g p0 hx2) ?_
    show rh_Ex _ _ _ ((12, [some (.ref 19), some (.int p0)], [.int x2.1]), (x2.2, g, cw_R sv)) _ _
    obtain ⟨q3, hf⟩ := rh_gq hf
    obtain rfl := Option.some.inj hf
    exact rh_Ex.ret rfl ⟨rfl, q3⟩
  · rw [if_neg q1] at hf
    refine rh_Ex.stp (s' := ((13, [some (.ref 19), some (.int p0)], []), (h, g, cw_R sv))) rfl (st_ifne_n q1) ?_
    refine rh_Ex.blk 1 (s' := ((14, [some (.ref 19), some (.int p0)], [.int p0]), (h, g, cw_R sv))) rfl ?_
    refine rh_Ex.call (j := 55) (rc := none) [.int p0] [] (some (.int (f_Re_isDigit p0))) rfl rfl trivial (Nat.le_of_ble_eq_true rfl) (R_Re_isDigit d (cw_L ++ xx) (cw_R sv) h g p0 rfl) ?_
    show rh_Ex _ _ _ ((17, [some (.ref 19), some (.int p0)], [.int (f_Re_isDigit p0)]), (h, g, cw_R sv)) _ _
    by_cases q4 : (f_Re_isDigit p0) = 0
    · rw [if_pos q4] at hf
      refine rh_Ex.stp (s' := ((70, [some (.ref 19), some (.int p0)], []), (h, g, cw_R sv))) rfl (st_ifeq_p q4) ?_
      refine rh_Ex.fgt [some (.ref 19), some (.int p0)] ⟨rfl, rfl, trivial⟩ ?_
      exact lj_Fr_takes_70 d xx sv h p0 g hf
    · rw [if_neg q4] at hf
      refine rh_Ex.stp (s' := ((20, [some (.ref 19), some (.int p0)], []), (h, g, cw_R sv))) rfl (st_ifeq_n q4) ?_
      refine rh_Ex.blk 3 (s' := ((25, [some (.ref 19), some (.int p0)], [.int (3 : Int32), .int (h 19 4)]), (h, g, cw_R sv))) rfl ?_
      by_cases q8 : (3 : Int32) ≤ (h 19 4)
      · rw [if_pos q8] at hf
        refine rh_Ex.stp (s' := ((70, [some (.ref 19), some (.int p0)], []), (h, g, cw_R sv))) rfl (st_icge_p q8) ?_
        refine rh_Ex.fgt [some (.ref 19), some (.int p0)] ⟨rfl, rfl, trivial⟩ ?_
        exact lj_Fr_takes_70 d xx sv h p0 g hf
      · rw [if_neg q8] at hf
        refine rh_Ex.stp (s' := ((28, [some (.ref 19), some (.int p0)], []), (h, g, cw_R sv))) rfl (st_icge_n q8) ?_
        refine rh_Ex.blk 12 (s' := ((48, [some (.ref 19), some (.int p0)], [.int ((h 19 2) - (1 : Int32)), .ref 20, .int ((h 19 2) - (1 : Int32)), .ref 20]), (h, g, cw_R sv))) rfl ?_
        obtain ⟨q9, hf⟩ := rh_gq hf
        refine rh_Ex.stp (s' := ((49, [some (.ref 19), some (.int p0)], [.int (h 20 ((h 19 2) - (1 : Int32)).toNatClampNeg), .int ((h 19 2) - (1 : Int32)), .ref 20]), (h, g, cw_R sv))) rfl (st_iald (n := 9) rfl q9) ?_
        refine rh_Ex.blk 6 (s' := ((57, [some (.ref 19), some (.int p0)], [.int ((((h 20 ((h 19 2) - (1 : Int32)).toNatClampNeg) * (10 : Int32)) + p0) - (48 : Int32)), .int ((h 19 2) - (1 : Int32)), .ref 20]), (h, g, cw_R sv))) rfl ?_
        obtain ⟨q10, hf⟩ := rh_gq hf
        refine rh_Ex.stp (s' := ((58, [some (.ref 19), some (.int p0)], []), (rh_up h 20 ((h 19 2) - (1 : Int32)).toNatClampNeg ((((h 20 ((h 19 2) - (1 : Int32)).toNatClampNeg) * (10 : Int32)) + p0) - (48 : Int32)), g, cw_R sv))) rfl (st_iast (n := 9) rfl q10) ?_
        refine rh_Ex.blk 7 (s' := ((69, [some (.ref 19), some (.int p0)], [.int (1 : Int32)]), (rh_up (rh_up h 20 ((h 19 2) - (1 : Int32)).toNatClampNeg ((((h 20 ((h 19 2) - (1 : Int32)).toNatClampNeg) * (10 : Int32)) + p0) - (48 : Int32))) 19 4 ((h 19 4) + (1 : Int32)), g, cw_R sv))) rfl ?_
        obtain rfl := Option.some.inj hf
        exact rh_Ex.ret rfl ⟨rfl, Or.inr rfl⟩
def f_Fr_faultAt (h : Nat → Nat → Int32) (p0 : Int32) : Option (Int32) :=
  if (h 19 5) = 0 then
    some (p0)
  else
    if (h 19 4) ≤ 0 then
      some (p0)
    else
      rh_g (0 ≤ ((h 19 2) - (1 : Int32)).toInt ∧ ((h 19 2) - (1 : Int32)).toInt < ((9 : Nat) : Int)) (
        if (h 20 ((h 19 2) - (1 : Int32)).toNatClampNeg) = 0 then
          some ((p0 - (1 : Int32)))
        else
          some (p0)
      )
set_option maxRecDepth 20000 in
set_option maxHeartbeats 4000000 in
theorem R_Fr_faultAt (d : Nat) (xx : rh_L) (sv : Option Nat) (h : Nat → Nat → Int32) (g : Nat → Nat → Int64) (p0 : Int32) {z9 : Int32} (hf : f_Fr_faultAt h p0 = some z9) : rh_M rh_PT (cw_L ++ xx) (d + 1) 35 [.ref 19, .int p0] (h, g, cw_R sv) (some (.int z9)) (h, g, cw_R sv) := by
  unfold f_Fr_faultAt at hf
  refine rh_go pt_35 (Nat.le_of_ble_eq_true rfl) (lv := [some (.ref 19), some (.int p0)]) rfl ?_
  refine rh_Ex.blk 2 (s' := ((4, [some (.ref 19), some (.int p0)], [.int (h 19 5)]), (h, g, cw_R sv))) rfl ?_
  by_cases q1 : (h 19 5) = 0
  · rw [if_pos q1] at hf
    refine rh_Ex.stp (s' := ((34, [some (.ref 19), some (.int p0)], []), (h, g, cw_R sv))) rfl (st_ifeq_p q1) ?_
    refine rh_Ex.blk 1 (s' := ((35, [some (.ref 19), some (.int p0)], [.int p0]), (h, g, cw_R sv))) rfl ?_
    obtain rfl := Option.some.inj hf
    exact rh_Ex.ret rfl rfl
  · rw [if_neg q1] at hf
    refine rh_Ex.stp (s' := ((7, [some (.ref 19), some (.int p0)], []), (h, g, cw_R sv))) rfl (st_ifeq_n q1) ?_
    refine rh_Ex.blk 2 (s' := ((11, [some (.ref 19), some (.int p0)], [.int (h 19 4)]), (h, g, cw_R sv))) rfl ?_
    by_cases q2 : (h 19 4) ≤ 0
    · rw [if_pos q2] at hf
      refine rh_Ex.stp (s' := ((34, [some (.ref 19), some (.int p0)], []), (h, g, cw_R sv))) rfl (st_ifle_p q2) ?_
      refine rh_Ex.blk 1 (s' := ((35, [some (.ref 19), some (.int p0)], [.int p0]), (h, g, cw_R sv))) rfl ?_
      obtain rfl := Option.some.inj hf
      exact rh_Ex.ret rfl rfl
    · rw [if_neg q2] at hf
      refine rh_Ex.stp (s' := ((14, [some (.ref 19), some (.int p0)], []), (h, g, cw_R sv))) rfl (st_ifle_n q2) ?_
      refine rh_Ex.blk 6 (s' := ((24, [some (.ref 19), some (.int p0)], [.int ((h 19 2) - (1 : Int32)), .ref 20]), (h, g, cw_R sv))) rfl ?_
      obtain ⟨q3, hf⟩ := rh_gq hf
      refine rh_Ex.stp (s' := ((25, [some (.ref 19), some (.int p0)], [.int (h 20 ((h 19 2) - (1 : Int32)).toNatClampNeg)]), (h, g, cw_R sv))) rfl (st_iald (n := 9) rfl q3) ?_
      by_cases q4 : (h 20 ((h 19 2) - (1 : Int32)).toNatClampNeg) = 0
      · rw [if_pos q4] at hf
        refine rh_Ex.stp (s' := ((28, [some (.ref 19), some (.int p0)], []), (h, g, cw_R sv))) rfl (st_ifne_p q4) ?_
        refine rh_Ex.blk 4 (s' := ((35, [some (.ref 19), some (.int p0)], [.int (p0 - (1 : Int32))]), (h, g, cw_R sv))) rfl ?_
        obtain rfl := Option.some.inj hf
        exact rh_Ex.ret rfl rfl
      · rw [if_neg q4] at hf
        refine rh_Ex.stp (s' := ((34, [some (.ref 19), some (.int p0)], []), (h, g, cw_R sv))) rfl (st_ifne_n q4) ?_
        refine rh_Ex.blk 1 (s' := ((35, [some (.ref 19), some (.int p0)], [.int p0]), (h, g, cw_R sv))) rfl ?_
        obtain rfl := Option.some.inj hf
        exact rh_Ex.ret rfl rfl
def f_Ha_drop (h : Nat → Nat → Int32) : (Nat → Nat → Int32) :=
  (rh_up h 6 1 (0 : Int32))
set_option maxRecDepth 20000 in
set_option maxHeartbeats 4000000 in
theorem R_Ha_drop (d : Nat) (xx : rh_L) (sv : Option Nat) (h : Nat → Nat → Int32) (g : Nat → Nat → Int64)  {z9 : (Nat → Nat → Int32)} (hf : f_Ha_drop h = z9) : rh_M rh_PT (cw_L ++ xx) (d + 1) 36 [.ref 6] (h, g, cw_R sv) none (z9, g, cw_R sv) := by
  unfold f_Ha_drop at hf
  refine rh_go pt_36 (Nat.le_of_ble_eq_true rfl) (lv := [some (.ref 6)]) rfl ?_
  refine rh_Ex.blk 3 (s' := ((5, [some (.ref 6)], []), (rh_up h 6 1 (0 : Int32), g, cw_R sv))) rfl ?_
  subst hf
  exact rh_Ex.ret rfl trivial
def f_Ha_put (h : Nat → Nat → Int32) (p0 : Int32) : Option ((Nat → Nat → Int32)) :=
  if (48 : Int32) ≤ (h 6 4) then
    some (h)
  else
    rh_g (0 ≤ (h 6 4).toInt ∧ (h 6 4).toInt < ((48 : Nat) : Int)) (
      some ((rh_up (rh_up h 9 (h 6 4).toNatClampNeg p0) 6 4 ((h 6 4) + (1 : Int32))))
    )
set_option maxRecDepth 20000 in
set_option maxHeartbeats 4000000 in
theorem R_Ha_put (d : Nat) (xx : rh_L) (sv : Option Nat) (h : Nat → Nat → Int32) (g : Nat → Nat → Int64) (p0 : Int32) {z9 : (Nat → Nat → Int32)} (hf : f_Ha_put h p0 = some z9) : rh_M rh_PT (cw_L ++ xx) (d + 1) 49 [.ref 6, .int p0] (h, g, cw_R sv) none (z9, g, cw_R sv) := by
  unfold f_Ha_put at hf
  refine rh_go pt_49 (Nat.le_of_ble_eq_true rfl) (lv := [some (.ref 6), some (.int p0)]) rfl ?_
  refine rh_Ex.blk 3 (s' := ((6, [some (.ref 6), some (.int p0)], [.int (48 : Int32), .int (h 6 4)]), (h, g, cw_R sv))) rfl ?_
  by_cases q1 : (48 : Int32) ≤ (h 6 4)
  · rw [if_pos q1] at hf
    refine rh_Ex.stp (s' := ((29, [some (.ref 6), some (.int p0)], []), (h, g, cw_R sv))) rfl (st_icge_p q1) ?_
    obtain rfl := Option.some.inj hf
    exact rh_Ex.ret rfl trivial
  · rw [if_neg q1] at hf
    refine rh_Ex.stp (s' := ((9, [some (.ref 6), some (.int p0)], []), (h, g, cw_R sv))) rfl (st_icge_n q1) ?_
    refine rh_Ex.blk 5 (s' := ((18, [some (.ref 6), some (.int p0)], [.int p0, .int (h 6 4), .ref 9]), (h, g, cw_R sv))) rfl ?_
    obtain ⟨q2, hf⟩ := rh_gq hf
    refine rh_Ex.stp (s' := ((19, [some (.ref 6), some (.int p0)], []), (rh_up h 9 (h 6 4).toNatClampNeg p0, g, cw_R sv))) rfl (st_iast (n := 48) rfl q2) ?_
    refine rh_Ex.blk 6 (s' := ((29, [some (.ref 6), some (.int p0)], []), (rh_up (rh_up h 9 (h 6 4).toNatClampNeg p0) 6 4 ((h 6 4) + (1 : Int32)), g, cw_R sv))) rfl ?_
    obtain rfl := Option.some.inj hf
    exact rh_Ex.ret rfl trivial
def b_Ha_adopt_0  : ((Nat → Nat → Int32)) → Option (((Nat → Nat → Int32)) ⊕ ((Nat → Nat → Int32))) := fun s0 =>
  if (s0 6 6) ≤ 0 then
    some (.inr s0)
  else
    rh_g (0 ≤ ((s0 6 6) - (1 : Int32)).toInt ∧ ((s0 6 6) - (1 : Int32)).toInt < ((48 : Nat) : Int)) (
      (f_Ha_put (rh_up s0 6 6 ((s0 6 6) - (1 : Int32))) (-((rh_up s0 6 6 ((s0 6 6) - (1 : Int32))) 10 ((s0 6 6) - (1 : Int32)).toNatClampNeg))).bind (fun x4 =>
        some (.inl x4)
      )
    )
def f_Ha_adopt (h : Nat → Nat → Int32) : Option ((Nat → Nat → Int32)) :=
  (rh_loop (b_Ha_adopt_0 ) rh_N h).bind (fun r5 =>
    some ((rh_upA (rh_up r5 6 1 (r5 6 4)) 7 (va_cpy ((rh_up r5 6 1 (r5 6 4)) 9) ((rh_up r5 6 1 (r5 6 4)) 7) (0 : Int32).toNatClampNeg (0 : Int32).toNatClampNeg (48 : Int32).toNatClampNeg)))
  )
set_option maxRecDepth 20000 in
set_option maxHeartbeats 4000000 in
theorem lb_Ha_adopt_0 (d : Nat) (xx : rh_L) (sv : Option Nat)  (g : Nat → Nat → Int64) (v9 : Option Value) (h9 : rh_H) : ∀ s0 x9, b_Ha_adopt_0  s0 = some x9 → Sum.elim (fun s0 => rh_Ex (rh_M rh_PT (cw_L ++ xx) (d + 1)) (cw_L ++ xx) pg_X4_adopt ((0, [some (.ref 6)], []), (s0, g, cw_R sv)) v9 h9) (fun e9 => rh_Ex (rh_M rh_PT (cw_L ++ xx) (d + 1)) (cw_L ++ xx) pg_X4_adopt ((34, [some (.ref 6)], []), (e9, g, cw_R sv)) v9 h9) x9 → rh_Ex (rh_M rh_PT (cw_L ++ xx) (d + 1)) (cw_L ++ xx) pg_X4_adopt ((0, [some (.ref 6)], []), (s0, g, cw_R sv)) v9 h9 := by
  intro s0 x9 hf hk
  unfold b_Ha_adopt_0 at hf
  refine rh_Ex.blk 2 (s' := ((4, [some (.ref 6)], [.int (s0 6 6)]), (s0, g, cw_R sv))) rfl ?_
  by_cases q2 : (s0 6 6) ≤ 0
  · rw [if_pos q2] at hf
    refine rh_Ex.stp (s' := ((34, [some (.ref 6)], []), (s0, g, cw_R sv))) rfl (st_ifle_p q2) ?_
    obtain rfl := Option.some.inj hf
    refine rh_Ex.fgt [some (.ref 6)] ⟨rfl, trivial⟩ ?_
    exact hk
  · rw [if_neg q2] at hf
    refine rh_Ex.stp (s' := ((7, [some (.ref 6)], []), (s0, g, cw_R sv))) rfl (st_ifle_n q2) ?_
    refine rh_Ex.blk 11 (s' := ((26, [some (.ref 6)], [.int ((s0 6 6) - (1 : Int32)), .ref 10, .ref 6]), (rh_up s0 6 6 ((s0 6 6) - (1 : Int32)), g, cw_R sv))) rfl ?_
    obtain ⟨q3, hf⟩ := rh_gq hf
    refine rh_Ex.stp (s' := ((27, [some (.ref 6)], [.int ((rh_up s0 6 6 ((s0 6 6) - (1 : Int32))) 10 ((s0 6 6) - (1 : Int32)).toNatClampNeg), .ref 6]), (rh_up s0 6 6 ((s0 6 6) - (1 : Int32)), g, cw_R sv))) rfl (st_iald (n := 48) rfl q3) ?_
    refine rh_Ex.blk 1 (s' := ((28, [some (.ref 6)], [.int (-((rh_up s0 6 6 ((s0 6 6) - (1 : Int32))) 10 ((s0 6 6) - (1 : Int32)).toNatClampNeg)), .ref 6]), (rh_up s0 6 6 ((s0 6 6) - (1 : Int32)), g, cw_R sv))) rfl ?_
    obtain ⟨x4, hx4, hf⟩ := rh_bq hf
    refine rh_Ex.call (j := 49) (rc := some 4) [.ref 6, .int (-((rh_up s0 6 6 ((s0 6 6) - (1 : Int32))) 10 ((s0 6 6) - (1 : Int32)).toNatClampNeg))] [] none rfl rfl rfl (Nat.le_of_ble_eq_true rfl) (R_Ha_put d xx sv (rh_up s0 6 6 ((s0 6 6) - (1 : Int32))) g (-((rh_up s0 6 6 ((s0 6 6) - (1 : Int32))) 10 ((s0 6 6) - (1 : Int32)).toNatClampNeg)) hx4) ?_
    show rh_Ex _ _ _ ((31, [some (.ref 6)], []), (x4, g, cw_R sv)) _ _
    refine rh_Ex.blk 1 (s' := ((0, [some (.ref 6)], []), (x4, g, cw_R sv))) rfl ?_
    obtain rfl := Option.some.inj hf
    refine rh_Ex.fgt [some (.ref 6)] ⟨rfl, trivial⟩ ?_
    exact hk
set_option maxRecDepth 20000 in
set_option maxHeartbeats 4000000 in
theorem R_Ha_adopt (d : Nat) (xx : rh_L) (sv : Option Nat) (h : Nat → Nat → Int32) (g : Nat → Nat → Int64)  {z9 : (Nat → Nat → Int32)} (hf : f_Ha_adopt h = some z9) : rh_M rh_PT (cw_L ++ xx) (d + 2) 37 [.ref 6] (h, g, cw_R sv) none (z9, g, cw_R sv) := by
  unfold f_Ha_adopt at hf
  refine rh_go pt_37 (Nat.le_of_ble_eq_true rfl) (lv := [some (.ref 6)]) rfl ?_
  obtain ⟨r5, hr5, hf⟩ := rh_bq hf
  refine rh_Ex.fgt [some (.ref 6)] ⟨rfl, trivial⟩ ?_
  refine rh_Ex.loop _ _ _ (lb_Ha_adopt_0 d xx sv   g _ _) rh_N _ r5 hr5 ?_
  refine rh_Ex.blk 11 (s' := ((54, [some (.ref 6)], [.int (48 : Int32), .int (0 : Int32), .ref 7, .int (0 : Int32), .ref 9]), (rh_up r5 6 1 (r5 6 4), g, cw_R sv))) rfl ?_
  refine rh_Ex.stp (s' := ((57, [some (.ref 6)], []), (rh_upA (rh_up r5 6 1 (r5 6 4)) 7 (va_cpy ((rh_up r5 6 1 (r5 6 4)) 9) ((rh_up r5 6 1 (r5 6 4)) 7) (0 : Int32).toNatClampNeg (0 : Int32).toNatClampNeg (48 : Int32).toNatClampNeg), g, cw_R sv))) rfl (st_cpy (n0 := 48) (n1 := 48) rfl rfl (by decide)) ?_
  obtain rfl := Option.some.inj hf
  exact rh_Ex.ret rfl trivial
def f_Ha_isLetter (p0 : Int32) : Int32 :=
  if p0 = (119 : Int32) then
    (1 : Int32)
  else
    if p0 = (98 : Int32) then
      (1 : Int32)
    else
      if p0 = (100 : Int32) then
        (1 : Int32)
      else
        if p0 = (105 : Int32) then
          (1 : Int32)
        else
          (0 : Int32)
set_option maxRecDepth 20000 in
set_option maxHeartbeats 4000000 in
theorem R_Ha_isLetter (d : Nat) (LL : rh_L) (rr : Nat → Nat → Option Nat) (h : Nat → Nat → Int32) (g : Nat → Nat → Int64) (p0 : Int32) {z9 : Int32} (hf : f_Ha_isLetter p0 = z9) : rh_M rh_PT LL (d + 1) 40 [.int p0] (h, g, rr) (some (.int z9)) (h, g, rr) := by
  unfold f_Ha_isLetter at hf
  refine rh_go pt_40 (Nat.le_of_ble_eq_true rfl) (lv := [some (.int p0)]) rfl ?_
  refine rh_Ex.blk 2 (s' := ((3, [some (.int p0)], [.int (119 : Int32), .int p0]), (h, g, rr))) rfl ?_
  by_cases q1 : p0 = (119 : Int32)
  · rw [if_pos q1] at hf
    refine rh_Ex.stp (s' := ((24, [some (.int p0)], []), (h, g, rr))) rfl (st_iceq_p q1) ?_
    refine rh_Ex.blk 2 (s' := ((29, [some (.int p0)], [.int (1 : Int32)]), (h, g, rr))) rfl ?_
    subst hf
    exact rh_Ex.ret rfl ⟨rfl, Or.inr rfl⟩
  · rw [if_neg q1] at hf
    refine rh_Ex.stp (s' := ((6, [some (.int p0)], []), (h, g, rr))) rfl (st_iceq_n q1) ?_
    refine rh_Ex.blk 2 (s' := ((9, [some (.int p0)], [.int (98 : Int32), .int p0]), (h, g, rr))) rfl ?_
    by_cases q2 : p0 = (98 : Int32)
    · rw [if_pos q2] at hf
      refine rh_Ex.stp (s' := ((24, [some (.int p0)], []), (h, g, rr))) rfl (st_iceq_p q2) ?_
      refine rh_Ex.blk 2 (s' := ((29, [some (.int p0)], [.int (1 : Int32)]), (h, g, rr))) rfl ?_
      subst hf
      exact rh_Ex.ret rfl ⟨rfl, Or.inr rfl⟩
    · rw [if_neg q2] at hf
      refine rh_Ex.stp (s' := ((12, [some (.int p0)], []), (h, g, rr))) rfl (st_iceq_n q2) ?_
      refine rh_Ex.blk 2 (s' := ((15, [some (.int p0)], [.int (100 : Int32), .int p0]), (h, g, rr))) rfl ?_
      by_cases q3 : p0 = (100 : Int32)
      · rw [if_pos q3] at hf
        refine rh_Ex.stp (s' := ((24, [some (.int p0)], []), (h, g, rr))) rfl (st_iceq_p q3) ?_
        refine rh_Ex.blk 2 (s' := ((29, [some (.int p0)], [.int (1 : Int32)]), (h, g, rr))) rfl ?_
        subst hf
        exact rh_Ex.ret rfl ⟨rfl, Or.inr rfl⟩
      · rw [if_neg q3] at hf
        refine rh_Ex.stp (s' := ((18, [some (.int p0)], []), (h, g, rr))) rfl (st_iceq_n q3) ?_
        refine rh_Ex.blk 2 (s' := ((21, [some (.int p0)], [.int (105 : Int32), .int p0]), (h, g, rr))) rfl ?_
        by_cases q4 : p0 = (105 : Int32)
        · rw [if_pos q4] at hf
          refine rh_Ex.stp (s' := ((24, [some (.int p0)], []), (h, g, rr))) rfl (st_icne_p q4) ?_
          refine rh_Ex.blk 2 (s' := ((29, [some (.int p0)], [.int (1 : Int32)]), (h, g, rr))) rfl ?_
          subst hf
          exact rh_Ex.ret rfl ⟨rfl, Or.inr rfl⟩
        · rw [if_neg q4] at hf
          refine rh_Ex.stp (s' := ((28, [some (.int p0)], []), (h, g, rr))) rfl (st_icne_n q4) ?_
          refine rh_Ex.blk 1 (s' := ((29, [some (.int p0)], [.int (0 : Int32)]), (h, g, rr))) rfl ?_
          subst hf
          exact rh_Ex.ret rfl ⟨rfl, Or.inl rfl⟩
def f_Ha_bond (p0 : Int32) : Int32 :=
  if ((42 : Int) = p0.toInt) then
    (3 : Int32)
  else
    if ((43 : Int) = p0.toInt) then
      (2 : Int32)
    else
      if ((45 : Int) = p0.toInt) then
        (2 : Int32)
      else
        if ((47 : Int) = p0.toInt) then
          (3 : Int32)
        else
          if ((60 : Int) = p0.toInt) then
            (1 : Int32)
          else
            if ((61 : Int) = p0.toInt) then
              (1 : Int32)
            else
              if ((62 : Int) = p0.toInt) then
                (1 : Int32)
              else
                if ((126 : Int) = p0.toInt) then
                  (4 : Int32)
                else
                  (0 : Int32)
set_option maxRecDepth 20000 in
set_option maxHeartbeats 4000000 in
theorem R_Ha_bond (d : Nat) (LL : rh_L) (rr : Nat → Nat → Option Nat) (h : Nat → Nat → Int32) (g : Nat → Nat → Int64) (p0 : Int32) {z9 : Int32} (hf : f_Ha_bond p0 = z9) : rh_M rh_PT LL (d + 1) 41 [.int p0] (h, g, rr) (some (.int z9)) (h, g, rr) := by
  unfold f_Ha_bond at hf
  refine rh_go pt_41 (Nat.le_of_ble_eq_true rfl) (lv := [some (.int p0)]) rfl ?_
  refine rh_Ex.blk 1 (s' := ((1, [some (.int p0)], [.int p0]), (h, g, rr))) rfl ?_
  refine rh_Ex.stp (s' := ((rh_sw [(42, 80), (43, 78), (45, 78), (47, 80), (60, 76), (61, 76), (62, 76), (126, 82)] 84 p0, [some (.int p0)], []), (h, g, rr))) rfl rfl ?_
  by_cases q1 : ((42 : Int) = p0.toInt)
  · rw [if_pos q1] at hf
    rw [rh_sw, if_pos (show (42 : Int) = p0.toInt from q1)]
    refine rh_Ex.blk 1 (s' := ((81, [some (.int p0)], [.int (3 : Int32)]), (h, g, rr))) rfl ?_
    subst hf
    exact rh_Ex.ret rfl rfl
  · rw [if_neg q1] at hf
    rw [rh_sw, if_neg (show ¬ (42 : Int) = p0.toInt from q1)]
    by_cases q2 : ((43 : Int) = p0.toInt)
    · rw [if_pos q2] at hf
      rw [rh_sw, if_pos (show (43 : Int) = p0.toInt from q2)]
      refine rh_Ex.blk 1 (s' := ((79, [some (.int p0)], [.int (2 : Int32)]), (h, g, rr))) rfl ?_
      subst hf
      exact rh_Ex.ret rfl rfl
    · rw [if_neg q2] at hf
      rw [rh_sw, if_neg (show ¬ (43 : Int) = p0.toInt from q2)]
      by_cases q3 : ((45 : Int) = p0.toInt)
      · rw [if_pos q3] at hf
        rw [rh_sw, if_pos (show (45 : Int) = p0.toInt from q3)]
        refine rh_Ex.blk 1 (s' := ((79, [some (.int p0)], [.int (2 : Int32)]), (h, g, rr))) rfl ?_
        subst hf
        exact rh_Ex.ret rfl rfl
      · rw [if_neg q3] at hf
        rw [rh_sw, if_neg (show ¬ (45 : Int) = p0.toInt from q3)]
        by_cases q4 : ((47 : Int) = p0.toInt)
        · rw [if_pos q4] at hf
          rw [rh_sw, if_pos (show (47 : Int) = p0.toInt from q4)]
          refine rh_Ex.blk 1 (s' := ((81, [some (.int p0)], [.int (3 : Int32)]), (h, g, rr))) rfl ?_
          subst hf
          exact rh_Ex.ret rfl rfl
        · rw [if_neg q4] at hf
          rw [rh_sw, if_neg (show ¬ (47 : Int) = p0.toInt from q4)]
          by_cases q5 : ((60 : Int) = p0.toInt)
          · rw [if_pos q5] at hf
            rw [rh_sw, if_pos (show (60 : Int) = p0.toInt from q5)]
            refine rh_Ex.blk 1 (s' := ((77, [some (.int p0)], [.int (1 : Int32)]), (h, g, rr))) rfl ?_
            subst hf
            exact rh_Ex.ret rfl rfl
          · rw [if_neg q5] at hf
            rw [rh_sw, if_neg (show ¬ (60 : Int) = p0.toInt from q5)]
            by_cases q6 : ((61 : Int) = p0.toInt)
            · rw [if_pos q6] at hf
              rw [rh_sw, if_pos (show (61 : Int) = p0.toInt from q6)]
              refine rh_Ex.blk 1 (s' := ((77, [some (.int p0)], [.int (1 : Int32)]), (h, g, rr))) rfl ?_
              subst hf
              exact rh_Ex.ret rfl rfl
            · rw [if_neg q6] at hf
              rw [rh_sw, if_neg (show ¬ (61 : Int) = p0.toInt from q6)]
              by_cases q7 : ((62 : Int) = p0.toInt)
              · rw [if_pos q7] at hf
                rw [rh_sw, if_pos (show (62 : Int) = p0.toInt from q7)]
                refine rh_Ex.blk 1 (s' := ((77, [some (.int p0)], [.int (1 : Int32)]), (h, g, rr))) rfl ?_
                subst hf
                exact rh_Ex.ret rfl rfl
              · rw [if_neg q7] at hf
                rw [rh_sw, if_neg (show ¬ (62 : Int) = p0.toInt from q7)]
                by_cases q8 : ((126 : Int) = p0.toInt)
                · rw [if_pos q8] at hf
                  rw [rh_sw, if_pos (show (126 : Int) = p0.toInt from q8)]
                  refine rh_Ex.blk 1 (s' := ((83, [some (.int p0)], [.int (4 : Int32)]), (h, g, rr))) rfl ?_
                  subst hf
                  exact rh_Ex.ret rfl rfl
                · rw [if_neg q8] at hf
                  rw [rh_sw, if_neg (show ¬ (126 : Int) = p0.toInt from q8)]
                  rw [rh_sw]
                  refine rh_Ex.blk 1 (s' := ((85, [some (.int p0)], [.int (0 : Int32)]), (h, g, rr))) rfl ?_
                  subst hf
                  exact rh_Ex.ret rfl rfl
def f_Ha_begin (h : Nat → Nat → Int32) : (Nat → Nat → Int32) :=
  (rh_up (rh_up (rh_up (rh_up (rh_up (rh_up h 6 4 (0 : Int32)) 6 6 (0 : Int32)) 6 8 (0 : Int32)) 11 (0 : Int32).toNatClampNeg ((0 : Int32) &&& 1)) 6 9 (0 : Int32)) 6 10 (0 : Int32))
set_option maxRecDepth 20000 in
set_option maxHeartbeats 4000000 in
theorem R_Ha_begin (d : Nat) (xx : rh_L) (sv : Option Nat) (h : Nat → Nat → Int32) (g : Nat → Nat → Int64)  {z9 : (Nat → Nat → Int32)} (hf : f_Ha_begin h = z9) : rh_M rh_PT (cw_L ++ xx) (d + 1) 42 [.ref 6] (h, g, cw_R sv) none (z9, g, cw_R sv) := by
  unfold f_Ha_begin at hf
  refine rh_go pt_42 (Nat.le_of_ble_eq_true rfl) (lv := [some (.ref 6)]) rfl ?_
  refine rh_Ex.blk 13 (s' := ((21, [some (.ref 6)], [.int (0 : Int32), .int (0 : Int32), .ref 11]), (rh_up (rh_up (rh_up h 6 4 (0 : Int32)) 6 6 (0 : Int32)) 6 8 (0 : Int32), g, cw_R sv))) rfl ?_
  refine rh_Ex.stp (s' := ((22, [some (.ref 6)], []), (rh_up (rh_up (rh_up (rh_up h 6 4 (0 : Int32)) 6 6 (0 : Int32)) 6 8 (0 : Int32)) 11 (0 : Int32).toNatClampNeg ((0 : Int32) &&& 1), g, cw_R sv))) rfl (st_zast (n := 5) rfl (by decide)) ?_
  refine rh_Ex.blk 5 (s' := ((29, [some (.ref 6)], [.int (0 : Int32), .ref 6]), (rh_up (rh_up (rh_up (rh_up (rh_up h 6 4 (0 : Int32)) 6 6 (0 : Int32)) 6 8 (0 : Int32)) 11 (0 : Int32).toNatClampNeg ((0 : Int32) &&& 1)) 6 9 (0 : Int32), g, cw_R sv))) rfl ?_
  refine rh_Ex.stp (s' := ((32, [some (.ref 6)], []), (rh_up (rh_up (rh_up (rh_up (rh_up (rh_up h 6 4 (0 : Int32)) 6 6 (0 : Int32)) 6 8 (0 : Int32)) 11 (0 : Int32).toNatClampNeg ((0 : Int32) &&& 1)) 6 9 (0 : Int32)) 6 10 (0 : Int32), g, cw_R sv))) rfl (st_putZ rfl (Or.inl rfl)) ?_
  subst hf
  exact rh_Ex.ret rfl trivial
def f_Ha_canEnd (h : Nat → Nat → Int32) : Int32 :=
  if (h 6 10) = 0 then
    (0 : Int32)
  else
    if (h 6 8) = 0 then
      (1 : Int32)
    else
      (0 : Int32)
set_option maxRecDepth 20000 in
set_option maxHeartbeats 4000000 in
theorem R_Ha_canEnd (d : Nat) (xx : rh_L) (sv : Option Nat) (h : Nat → Nat → Int32) (g : Nat → Nat → Int64)  {z9 : Int32} (hf : f_Ha_canEnd h = z9) : rh_M rh_PT (cw_L ++ xx) (d + 1) 43 [.ref 6] (h, g, cw_R sv) (some (.int z9)) (h, g, cw_R sv) := by
  unfold f_Ha_canEnd at hf
  refine rh_go pt_43 (Nat.le_of_ble_eq_true rfl) (lv := [some (.ref 6)]) rfl ?_
  refine rh_Ex.blk 2 (s' := ((4, [some (.ref 6)], [.int (h 6 10)]), (h, g, cw_R sv))) rfl ?_
  by_cases q1 : (h 6 10) = 0
  · rw [if_pos q1] at hf
    refine rh_Ex.stp (s' := ((18, [some (.ref 6)], []), (h, g, cw_R sv))) rfl (st_ifeq_p q1) ?_
    refine rh_Ex.blk 1 (s' := ((19, [some (.ref 6)], [.int (0 : Int32)]), (h, g, cw_R sv))) rfl ?_
    subst hf
    exact rh_Ex.ret rfl ⟨rfl, Or.inl rfl⟩
  · rw [if_neg q1] at hf
    refine rh_Ex.stp (s' := ((7, [some (.ref 6)], []), (h, g, cw_R sv))) rfl (st_ifeq_n q1) ?_
    refine rh_Ex.blk 2 (s' := ((11, [some (.ref 6)], [.int (h 6 8)]), (h, g, cw_R sv))) rfl ?_
    by_cases q2 : (h 6 8) = 0
    · rw [if_pos q2] at hf
      refine rh_Ex.stp (s' := ((14, [some (.ref 6)], []), (h, g, cw_R sv))) rfl (st_ifne_p q2) ?_
      refine rh_Ex.blk 2 (s' := ((19, [some (.ref 6)], [.int (1 : Int32)]), (h, g, cw_R sv))) rfl ?_
      subst hf
      exact rh_Ex.ret rfl ⟨rfl, Or.inr rfl⟩
    · rw [if_neg q2] at hf
      refine rh_Ex.stp (s' := ((18, [some (.ref 6)], []), (h, g, cw_R sv))) rfl (st_ifne_n q2) ?_
      refine rh_Ex.blk 1 (s' := ((19, [some (.ref 6)], [.int (0 : Int32)]), (h, g, cw_R sv))) rfl ?_
      subst hf
      exact rh_Ex.ret rfl ⟨rfl, Or.inl rfl⟩
def f_Ha_putOff (h : Nat → Nat → Int32) (p0 : Int32) : Option ((Nat → Nat → Int32)) :=
  if (48 : Int32) ≤ (h 6 6) then
    some (h)
  else
    rh_g (0 ≤ (h 6 6).toInt ∧ (h 6 6).toInt < ((48 : Nat) : Int)) (
      some ((rh_up (rh_up h 10 (h 6 6).toNatClampNeg p0) 6 6 ((h 6 6) + (1 : Int32))))
    )
set_option maxRecDepth 20000 in
set_option maxHeartbeats 4000000 in
theorem R_Ha_putOff (d : Nat) (xx : rh_L) (sv : Option Nat) (h : Nat → Nat → Int32) (g : Nat → Nat → Int64) (p0 : Int32) {z9 : (Nat → Nat → Int32)} (hf : f_Ha_putOff h p0 = some z9) : rh_M rh_PT (cw_L ++ xx) (d + 1) 50 [.ref 6, .int p0] (h, g, cw_R sv) none (z9, g, cw_R sv) := by
  unfold f_Ha_putOff at hf
  refine rh_go pt_50 (Nat.le_of_ble_eq_true rfl) (lv := [some (.ref 6), some (.int p0)]) rfl ?_
  refine rh_Ex.blk 3 (s' := ((6, [some (.ref 6), some (.int p0)], [.int (48 : Int32), .int (h 6 6)]), (h, g, cw_R sv))) rfl ?_
  by_cases q1 : (48 : Int32) ≤ (h 6 6)
  · rw [if_pos q1] at hf
    refine rh_Ex.stp (s' := ((29, [some (.ref 6), some (.int p0)], []), (h, g, cw_R sv))) rfl (st_icge_p q1) ?_
    obtain rfl := Option.some.inj hf
    exact rh_Ex.ret rfl trivial
  · rw [if_neg q1] at hf
    refine rh_Ex.stp (s' := ((9, [some (.ref 6), some (.int p0)], []), (h, g, cw_R sv))) rfl (st_icge_n q1) ?_
    refine rh_Ex.blk 5 (s' := ((18, [some (.ref 6), some (.int p0)], [.int p0, .int (h 6 6), .ref 10]), (h, g, cw_R sv))) rfl ?_
    obtain ⟨q2, hf⟩ := rh_gq hf
    refine rh_Ex.stp (s' := ((19, [some (.ref 6), some (.int p0)], []), (rh_up h 10 (h 6 6).toNatClampNeg p0, g, cw_R sv))) rfl (st_iast (n := 48) rfl q2) ?_
    refine rh_Ex.blk 6 (s' := ((29, [some (.ref 6), some (.int p0)], []), (rh_up (rh_up h 10 (h 6 6).toNatClampNeg p0) 6 6 ((h 6 6) + (1 : Int32)), g, cw_R sv))) rfl ?_
    obtain rfl := Option.some.inj hf
    exact rh_Ex.ret rfl trivial
def f_Ha_takesAhead (h : Nat → Nat → Int32) (p0 : Int32) : Option (Int32 × (Nat → Nat → Int32)) :=
  if (f_Ha_isLetter p0) = 0 then
    if p0 = (45 : Int32) then
      (f_Ha_putOff h (126 : Int32)).bind (fun x3 =>
        some (((1 : Int32), x3))
      )
    else
      if p0 = (40 : Int32) then
        if (4 : Int32) ≤ (h 6 8) then
          some (((0 : Int32), h))
        else
          rh_g (0 ≤ ((h 6 8) + (1 : Int32)).toInt ∧ ((h 6 8) + (1 : Int32)).toInt < ((5 : Nat) : Int)) (
            (f_Ha_putOff (rh_up (rh_up h 6 8 ((h 6 8) + (1 : Int32))) 11 ((h 6 8) + (1 : Int32)).toNatClampNeg ((0 : Int32) &&& 1)) p0).bind (fun x7 =>
              some (((1 : Int32), x7))
            )
          )
      else
        some (((0 : Int32), h))
  else
    (f_Ha_put h (-p0)).bind (fun x8 =>
      some (((1 : Int32), rh_up x8 6 10 (1 : Int32)))
    )
set_option maxRecDepth 20000 in
set_option maxHeartbeats 4000000 in
theorem R_Ha_takesAhead (d : Nat) (xx : rh_L) (sv : Option Nat) (h : Nat → Nat → Int32) (g : Nat → Nat → Int64) (p0 : Int32) {z9 : Int32 × (Nat → Nat → Int32)} (hf : f_Ha_takesAhead h p0 = some z9) : rh_M rh_PT (cw_L ++ xx) (d + 2) 46 [.ref 6, .int p0] (h, g, cw_R sv) (some (.int z9.1)) (z9.2, g, cw_R sv) := by
  unfold f_Ha_takesAhead at hf
  refine rh_go pt_46 (Nat.le_of_ble_eq_true rfl) (lv := [some (.ref 6), some (.int p0)]) rfl ?_
  refine rh_Ex.blk 1 (s' := ((1, [some (.ref 6), some (.int p0)], [.int p0]), (h, g, cw_R sv))) rfl ?_
  refine rh_Ex.call (j := 40) (rc := none) [.int p0] [] (some (.int (f_Ha_isLetter p0))) rfl rfl trivial (Nat.le_of_ble_eq_true rfl) (R_Ha_isLetter d (cw_L ++ xx) (cw_R sv) h g p0 rfl) ?_
  show rh_Ex _ _ _ ((4, [some (.ref 6), some (.int p0)], [.int (f_Ha_isLetter p0)]), (h, g, cw_R sv)) _ _
  by_cases q1 : (f_Ha_isLetter p0) = 0
  · rw [if_pos q1] at hf
    refine rh_Ex.stp (s' := ((20, [some (.ref 6), some (.int p0)], []), (h, g, cw_R sv))) rfl (st_ifeq_p q1) ?_
    refine rh_Ex.blk 2 (s' := ((23, [some (.ref 6), some (.int p0)], [.int (45 : Int32), .int p0]), (h, g, cw_R sv))) rfl ?_
    by_cases q2 : p0 = (45 : Int32)
    · rw [if_pos q2] at hf
      refine rh_Ex.stp (s' := ((26, [some (.ref 6), some (.int p0)], []), (h, g, cw_R sv))) rfl (st_icne_p q2) ?_
      refine rh_Ex.blk 2 (s' := ((29, [some (.ref 6), some (.int p0)], [.int (126 : Int32), .ref 6]), (h, g, cw_R sv))) rfl ?_
      obtain ⟨x3, hx3, hf⟩ := rh_bq hf
      refine rh_Ex.call (j := 50) (rc := some 4) [.ref 6, .int (126 : Int32)] [] none rfl rfl rfl (Nat.le_of_ble_eq_true rfl) (R_Ha_putOff d xx sv h g (126 : Int32) hx3) ?_
      show rh_Ex _ _ _ ((32, [some (.ref 6), some (.int p0)], []), (x3, g, cw_R sv)) _ _
      refine rh_Ex.blk 1 (s' := ((33, [some (.ref 6), some (.int p0)], [.int (1 : Int32)]), (x3, g, cw_R sv))) rfl ?_
      obtain rfl := Option.some.inj hf
      exact rh_Ex.ret rfl ⟨rfl, Or.inr rfl⟩
    · rw [if_neg q2] at hf
      refine rh_Ex.stp (s' := ((34, [some (.ref 6), some (.int p0)], []), (h, g, cw_R sv))) rfl (st_icne_n q2) ?_
      refine rh_Ex.blk 2 (s' := ((37, [some (.ref 6), some (.int p0)], [.int (40 : Int32), .int p0]), (h, g, cw_R sv))) rfl ?_
      by_cases q4 : p0 = (40 : Int32)
      · rw [if_pos q4] at hf
        refine rh_Ex.stp (s' := ((40, [some (.ref 6), some (.int p0)], []), (h, g, cw_R sv))) rfl (st_icne_p q4) ?_
        refine rh_Ex.blk 3 (s' := ((45, [some (.ref 6), some (.int p0)], [.int (4 : Int32), .int (h 6 8)]), (h, g, cw_R sv))) rfl ?_
        by_cases q5 : (4 : Int32) ≤ (h 6 8)
        · rw [if_pos q5] at hf
          refine rh_Ex.stp (s' := ((75, [some (.ref 6), some (.int p0)], []), (h, g, cw_R sv))) rfl (st_icge_p q5) ?_
          refine rh_Ex.blk 1 (s' := ((76, [some (.ref 6), some (.int p0)], [.int (0 : Int32)]), (h, g, cw_R sv))) rfl ?_
          obtain rfl := Option.some.inj hf
          exact rh_Ex.ret rfl ⟨rfl, Or.inl rfl⟩
        · rw [if_neg q5] at hf
          refine rh_Ex.stp (s' := ((48, [some (.ref 6), some (.int p0)], []), (h, g, cw_R sv))) rfl (st_icge_n q5) ?_
          refine rh_Ex.blk 11 (s' := ((67, [some (.ref 6), some (.int p0)], [.int (0 : Int32), .int ((h 6 8) + (1 : Int32)), .ref 11]), (rh_up h 6 8 ((h 6 8) + (1 : Int32)), g, cw_R sv))) rfl ?_
          obtain ⟨q6, hf⟩ := rh_gq hf
          refine rh_Ex.stp (s' := ((68, [some (.ref 6), some (.int p0)], []), (rh_up (rh_up h 6 8 ((h 6 8) + (1 : Int32))) 11 ((h 6 8) + (1 : Int32)).toNatClampNeg ((0 : Int32) &&& 1), g, cw_R sv))) rfl (st_zast (n := 5) rfl q6) ?_
          refine rh_Ex.blk 2 (s' := ((70, [some (.ref 6), some (.int p0)], [.int p0, .ref 6]), (rh_up (rh_up h 6 8 ((h 6 8) + (1 : Int32))) 11 ((h 6 8) + (1 : Int32)).toNatClampNeg ((0 : Int32) &&& 1), g, cw_R sv))) rfl ?_
          obtain ⟨x7, hx7, hf⟩ := rh_bq hf
          refine rh_Ex.call (j := 50) (rc := some 4) [.ref 6, .int p0] [] none rfl rfl rfl (Nat.le_of_ble_eq_true rfl) (R_Ha_putOff d xx sv (rh_up (rh_up h 6 8 ((h 6 8) + (1 : Int32))) 11 ((h 6 8) + (1 : Int32)).toNatClampNeg ((0 : Int32) &&& 1)) g p0 hx7) ?_
          show rh_Ex _ _ _ ((73, [some (.ref 6), some (.int p0)], []), (x7, g, cw_R sv)) _ _
          refine rh_Ex.blk 1 (s' := ((74, [some (.ref 6), some (.int p0)], [.int (1 : Int32)]), (x7, g, cw_R sv))) rfl ?_
          obtain rfl := Option.some.inj hf
          exact rh_Ex.ret rfl ⟨rfl, Or.inr rfl⟩
      · rw [if_neg q4] at hf
        refine rh_Ex.stp (s' := ((75, [some (.ref 6), some (.int p0)], []), (h, g, cw_R sv))) rfl (st_icne_n q4) ?_
        refine rh_Ex.blk 1 (s' := ((76, [some (.ref 6), some (.int p0)], [.int (0 : Int32)]), (h, g, cw_R sv))) rfl ?_
        obtain rfl := Option.some.inj hf
        exact rh_Ex.ret rfl ⟨rfl, Or.inl rfl⟩
  · rw [if_neg q1] at hf
    refine rh_Ex.stp (s' := ((7, [some (.ref 6), some (.int p0)], []), (h, g, cw_R sv))) rfl (st_ifeq_n q1) ?_
    refine rh_Ex.blk 3 (s' := ((10, [some (.ref 6), some (.int p0)], [.int (-p0), .ref 6]), (h, g, cw_R sv))) rfl ?_
    obtain ⟨x8, hx8, hf⟩ := rh_bq hf
    refine rh_Ex.call (j := 49) (rc := some 4) [.ref 6, .int (-p0)] [] none rfl rfl rfl (Nat.le_of_ble_eq_true rfl) (R_Ha_put d xx sv h g (-p0) hx8) ?_
    show rh_Ex _ _ _ ((13, [some (.ref 6), some (.int p0)], []), (x8, g, cw_R sv)) _ _
    refine rh_Ex.blk 2 (s' := ((15, [some (.ref 6), some (.int p0)], [.int (1 : Int32), .ref 6]), (x8, g, cw_R sv))) rfl ?_
    refine rh_Ex.stp (s' := ((18, [some (.ref 6), some (.int p0)], []), (rh_up x8 6 10 (1 : Int32), g, cw_R sv))) rfl (st_putZ rfl (Or.inr rfl)) ?_
    refine rh_Ex.blk 1 (s' := ((19, [some (.ref 6), some (.int p0)], [.int (1 : Int32)]), (rh_up x8 6 10 (1 : Int32), g, cw_R sv))) rfl ?_
    obtain rfl := Option.some.inj hf
    exact rh_Ex.ret rfl ⟨rfl, Or.inr rfl⟩
def b_Ha_closes_9  : ((Nat → Nat → Int32)) → Option (((Nat → Nat → Int32)) ⊕ ((Nat → Nat → Int32))) := fun s9 =>
  if (s9 6 6) ≤ 0 then
    some (.inr s9)
  else
    rh_g (0 ≤ ((s9 6 6) - (1 : Int32)).toInt ∧ ((s9 6 6) - (1 : Int32)).toInt < ((48 : Nat) : Int)) (
      if (s9 10 ((s9 6 6) - (1 : Int32)).toNatClampNeg) = (40 : Int32) then
        some (.inr s9)
      else
        rh_g (0 ≤ ((s9 6 6) - (1 : Int32)).toInt ∧ ((s9 6 6) - (1 : Int32)).toInt < ((48 : Nat) : Int)) (
          (f_Ha_put (rh_up s9 6 6 ((s9 6 6) - (1 : Int32))) (-((rh_up s9 6 6 ((s9 6 6) - (1 : Int32))) 10 ((s9 6 6) - (1 : Int32)).toNatClampNeg))).bind (fun x7 =>
            some (.inl x7)
          )
        )
    )
def f_Ha_closes (h : Nat → Nat → Int32) : Option (Int32 × (Nat → Nat → Int32)) :=
  if (h 6 8) = 0 then
    some (((0 : Int32), h))
  else
    (rh_loop (b_Ha_closes_9 ) rh_N h).bind (fun r8 =>
      if (r8 6 6) ≤ 0 then
        some (((1 : Int32), rh_up r8 6 8 ((r8 6 8) - (1 : Int32))))
      else
        some (((1 : Int32), rh_up (rh_up r8 6 6 ((r8 6 6) - (1 : Int32))) 6 8 ((r8 6 8) - (1 : Int32))))
    )
set_option maxRecDepth 20000 in
set_option maxHeartbeats 4000000 in
theorem lb_Ha_closes_9 (d : Nat) (xx : rh_L) (sv : Option Nat)  (g : Nat → Nat → Int64) (v9 : Option Value) (h9 : rh_H) : ∀ s9 x9, b_Ha_closes_9  s9 = some x9 → Sum.elim (fun s9 => rh_Ex (rh_M rh_PT (cw_L ++ xx) (d + 1)) (cw_L ++ xx) pg_X4_closes ((9, [some (.ref 6)], []), (s9, g, cw_R sv)) v9 h9) (fun e9 => rh_Ex (rh_M rh_PT (cw_L ++ xx) (d + 1)) (cw_L ++ xx) pg_X4_closes ((59, [some (.ref 6)], []), (e9, g, cw_R sv)) v9 h9) x9 → rh_Ex (rh_M rh_PT (cw_L ++ xx) (d + 1)) (cw_L ++ xx) pg_X4_closes ((9, [some (.ref 6)], []), (s9, g, cw_R sv)) v9 h9 := by
  intro s9 x9 hf hk
  unfold b_Ha_closes_9 at hf
  refine rh_Ex.blk 2 (s' := ((13, [some (.ref 6)], [.int (s9 6 6)]), (s9, g, cw_R sv))) rfl ?_
  by_cases q3 : (s9 6 6) ≤ 0
  · rw [if_pos q3] at hf
    refine rh_Ex.stp (s' := ((59, [some (.ref 6)], []), (s9, g, cw_R sv))) rfl (st_ifle_p q3) ?_
    obtain rfl := Option.some.inj hf
    refine rh_Ex.fgt [some (.ref 6)] ⟨rfl, trivial⟩ ?_
    exact hk
  · rw [if_neg q3] at hf
    refine rh_Ex.stp (s' := ((16, [some (.ref 6)], []), (s9, g, cw_R sv))) rfl (st_ifle_n q3) ?_
    refine rh_Ex.blk 6 (s' := ((26, [some (.ref 6)], [.int ((s9 6 6) - (1 : Int32)), .ref 10]), (s9, g, cw_R sv))) rfl ?_
    obtain ⟨q4, hf⟩ := rh_gq hf
    refine rh_Ex.stp (s' := ((27, [some (.ref 6)], [.int (s9 10 ((s9 6 6) - (1 : Int32)).toNatClampNeg)]), (s9, g, cw_R sv))) rfl (st_iald (n := 48) rfl q4) ?_
    refine rh_Ex.blk 1 (s' := ((29, [some (.ref 6)], [.int (40 : Int32), .int (s9 10 ((s9 6 6) - (1 : Int32)).toNatClampNeg)]), (s9, g, cw_R sv))) rfl ?_
    by_cases q5 : (s9 10 ((s9 6 6) - (1 : Int32)).toNatClampNeg) = (40 : Int32)
    · rw [if_pos q5] at hf
      refine rh_Ex.stp (s' := ((59, [some (.ref 6)], []), (s9, g, cw_R sv))) rfl (st_iceq_p q5) ?_
      obtain rfl := Option.some.inj hf
      refine rh_Ex.fgt [some (.ref 6)] ⟨rfl, trivial⟩ ?_
      exact hk
    · rw [if_neg q5] at hf
      refine rh_Ex.stp (s' := ((32, [some (.ref 6)], []), (s9, g, cw_R sv))) rfl (st_iceq_n q5) ?_
      refine rh_Ex.blk 11 (s' := ((51, [some (.ref 6)], [.int ((s9 6 6) - (1 : Int32)), .ref 10, .ref 6]), (rh_up s9 6 6 ((s9 6 6) - (1 : Int32)), g, cw_R sv))) rfl ?_
      obtain ⟨q6, hf⟩ := rh_gq hf
      refine rh_Ex.stp (s' := ((52, [some (.ref 6)], [.int ((rh_up s9 6 6 ((s9 6 6) - (1 : Int32))) 10 ((s9 6 6) - (1 : Int32)).toNatClampNeg), .ref 6]), (rh_up s9 6 6 ((s9 6 6) - (1 : Int32)), g, cw_R sv))) rfl (st_iald (n := 48) rfl q6) ?_
      refine rh_Ex.blk 1 (s' := ((53, [some (.ref 6)], [.int (-((rh_up s9 6 6 ((s9 6 6) - (1 : Int32))) 10 ((s9 6 6) - (1 : Int32)).toNatClampNeg)), .ref 6]), (rh_up s9 6 6 ((s9 6 6) - (1 : Int32)), g, cw_R sv))) rfl ?_
      obtain ⟨x7, hx7, hf⟩ := rh_bq hf
      refine rh_Ex.call (j := 49) (rc := some 4) [.ref 6, .int (-((rh_up s9 6 6 ((s9 6 6) - (1 : Int32))) 10 ((s9 6 6) - (1 : Int32)).toNatClampNeg))] [] none rfl rfl rfl (Nat.le_of_ble_eq_true rfl) (R_Ha_put d xx sv (rh_up s9 6 6 ((s9 6 6) - (1 : Int32))) g (-((rh_up s9 6 6 ((s9 6 6) - (1 : Int32))) 10 ((s9 6 6) - (1 : Int32)).toNatClampNeg)) hx7) ?_
      show rh_Ex _ _ _ ((56, [some (.ref 6)], []), (x7, g, cw_R sv)) _ _
      refine rh_Ex.blk 1 (s' := ((9, [some (.ref 6)], []), (x7, g, cw_R sv))) rfl ?_
      obtain rfl := Option.some.inj hf
      refine rh_Ex.fgt [some (.ref 6)] ⟨rfl, trivial⟩ ?_
      exact hk
set_option maxRecDepth 20000 in
set_option maxHeartbeats 4000000 in
theorem R_Ha_closes (d : Nat) (xx : rh_L) (sv : Option Nat) (h : Nat → Nat → Int32) (g : Nat → Nat → Int64)  {z9 : Int32 × (Nat → Nat → Int32)} (hf : f_Ha_closes h = some z9) : rh_M rh_PT (cw_L ++ xx) (d + 2) 48 [.ref 6] (h, g, cw_R sv) (some (.int z9.1)) (z9.2, g, cw_R sv) := by
  unfold f_Ha_closes at hf
  refine rh_go pt_48 (Nat.le_of_ble_eq_true rfl) (lv := [some (.ref 6)]) rfl ?_
  refine rh_Ex.blk 2 (s' := ((4, [some (.ref 6)], [.int (h 6 8)]), (h, g, cw_R sv))) rfl ?_
  by_cases q1 : (h 6 8) = 0
  · rw [if_pos q1] at hf
    refine rh_Ex.stp (s' := ((7, [some (.ref 6)], []), (h, g, cw_R sv))) rfl (st_ifne_p q1) ?_
    refine rh_Ex.blk 1 (s' := ((8, [some (.ref 6)], [.int (0 : Int32)]), (h, g, cw_R sv))) rfl ?_
    obtain rfl := Option.some.inj hf
    exact rh_Ex.ret rfl ⟨rfl, Or.inl rfl⟩
  · rw [if_neg q1] at hf
    refine rh_Ex.stp (s' := ((9, [some (.ref 6)], []), (h, g, cw_R sv))) rfl (st_ifne_n q1) ?_
    obtain ⟨r8, hr8, hf⟩ := rh_bq hf
    refine rh_Ex.fgt [some (.ref 6)] ⟨rfl, trivial⟩ ?_
    refine rh_Ex.loop _ _ _ (lb_Ha_closes_9 d xx sv   g _ _) rh_N _ r8 hr8 ?_
    refine rh_Ex.blk 2 (s' := ((63, [some (.ref 6)], [.int (r8 6 6)]), (r8, g, cw_R sv))) rfl ?_
    by_cases q9 : (r8 6 6) ≤ 0
    · rw [if_pos q9] at hf
      refine rh_Ex.stp (s' := ((76, [some (.ref 6)], []), (r8, g, cw_R sv))) rfl (st_ifle_p q9) ?_
      refine rh_Ex.blk 7 (s' := ((87, [some (.ref 6)], [.int (1 : Int32)]), (rh_up r8 6 8 ((r8 6 8) - (1 : Int32)), g, cw_R sv))) rfl ?_
      obtain rfl := Option.some.inj hf
      exact rh_Ex.ret rfl ⟨rfl, Or.inr rfl⟩
    · rw [if_neg q9] at hf
      refine rh_Ex.stp (s' := ((66, [some (.ref 6)], []), (r8, g, cw_R sv))) rfl (st_ifle_n q9) ?_
      refine rh_Ex.blk 13 (s' := ((87, [some (.ref 6)], [.int (1 : Int32)]), (rh_up (rh_up r8 6 6 ((r8 6 6) - (1 : Int32))) 6 8 ((r8 6 8) - (1 : Int32)), g, cw_R sv))) rfl ?_
      obtain rfl := Option.some.inj hf
      exact rh_Ex.ret rfl ⟨rfl, Or.inr rfl⟩
def b_Ha_takesBehind_71 (u1 : Int32) (u2 : Int32) : ((Nat → Nat → Int32)) → Option (((Nat → Nat → Int32)) ⊕ ((Nat → Nat → Int32))) := fun s71 =>
  if (s71 6 6) ≤ 0 then
    some (.inr s71)
  else
    rh_g (0 ≤ ((s71 6 6) - (1 : Int32)).toInt ∧ ((s71 6 6) - (1 : Int32)).toInt < ((48 : Nat) : Int)) (
      if (f_Ha_bond (s71 10 ((s71 6 6) - (1 : Int32)).toNatClampNeg)) < u2 then
        some (.inr s71)
      else
        rh_g (0 ≤ ((s71 6 6) - (1 : Int32)).toInt ∧ ((s71 6 6) - (1 : Int32)).toInt < ((48 : Nat) : Int)) (
          (f_Ha_put (rh_up s71 6 6 ((s71 6 6) - (1 : Int32))) (-((rh_up s71 6 6 ((s71 6 6) - (1 : Int32))) 10 ((s71 6 6) - (1 : Int32)).toNatClampNeg))).bind (fun x17 =>
            some (.inl x17)
          )
        )
    )
def j_Ha_takesBehind_69 (h : Nat → Nat → Int32) (p0 : Int32) (j2 : Int32) (k1 : Int32) (k2 : Int32) (k3 : Int32) : Option (Int32 × (Nat → Nat → Int32)) :=
  rh_g (0 ≤ k1.toInt ∧ k1.toInt < ((5 : Nat) : Int)) (
    (rh_loop (b_Ha_takesBehind_71 p0 j2) rh_N (rh_up h 11 k1.toNatClampNeg ((k2 ||| k3) &&& 1))).bind (fun r18 =>
      (f_Ha_putOff r18 p0).bind (fun x19 =>
        some (((1 : Int32), rh_up x19 6 10 (0 : Int32)))
      )
    )
  )
def j_Ha_takesBehind_49 (h : Nat → Nat → Int32) (p0 : Int32) (j2 : Int32) : Option (Int32 × (Nat → Nat → Int32)) :=
  rh_g (0 ≤ (h 6 8).toInt ∧ (h 6 8).toInt < ((5 : Nat) : Int)) (
    if j2 = (1 : Int32) then
      j_Ha_takesBehind_69 h p0 j2 (h 6 8) (h 11 (h 6 8).toNatClampNeg) (1 : Int32)
    else
      j_Ha_takesBehind_69 h p0 j2 (h 6 8) (h 11 (h 6 8).toNatClampNeg) (0 : Int32)
  )
def j_Ha_takesBehind_25 (h : Nat → Nat → Int32) (p0 : Int32) (k0 : Int32) : Option (Int32 × (Nat → Nat → Int32)) :=
  if k0 = 0 then
    some (((0 : Int32), h))
  else
    if k0 = (1 : Int32) then
      rh_g (0 ≤ (h 6 8).toInt ∧ (h 6 8).toInt < ((5 : Nat) : Int)) (
        if (h 11 (h 6 8).toNatClampNeg) = 0 then
          j_Ha_takesBehind_49 h p0 k0
        else
          some (((0 : Int32), h))
      )
    else
      j_Ha_takesBehind_49 h p0 k0
def f_Ha_takesBehind (h : Nat → Nat → Int32) (p0 : Int32) : Option (Int32 × (Nat → Nat → Int32)) :=
  if p0 = (41 : Int32) then
    (f_Ha_closes h).bind (fun x2 =>
      rh_g (x2.1 = 0 ∨ x2.1 = 1) (
        some ((x2.1, x2.2))
      )
    )
  else
    if p0 = (126 : Int32) then
      j_Ha_takesBehind_25 h p0 (0 : Int32)
    else
      j_Ha_takesBehind_25 h p0 (f_Ha_bond p0)
set_option maxRecDepth 20000 in
set_option maxHeartbeats 4000000 in
theorem lb_Ha_takesBehind_71 (d : Nat) (xx : rh_L) (sv : Option Nat) (u1 : Int32) (u2 : Int32) (g : Nat → Nat → Int64) (v9 : Option Value) (h9 : rh_H) : ∀ s71 x9, b_Ha_takesBehind_71 u1 u2 s71 = some x9 → Sum.elim (fun s71 => rh_Ex (rh_M rh_PT (cw_L ++ xx) (d + 2)) (cw_L ++ xx) pg_X4_takesBehind ((71, [some (.ref 6), some (.int u1), some (.int u2)], []), (s71, g, cw_R sv)) v9 h9) (fun e9 => rh_Ex (rh_M rh_PT (cw_L ++ xx) (d + 2)) (cw_L ++ xx) pg_X4_takesBehind ((123, [some (.ref 6), some (.int u1), none], []), (e9, g, cw_R sv)) v9 h9) x9 → rh_Ex (rh_M rh_PT (cw_L ++ xx) (d + 2)) (cw_L ++ xx) pg_X4_takesBehind ((71, [some (.ref 6), some (.int u1), some (.int u2)], []), (s71, g, cw_R sv)) v9 h9 := by
  intro s71 x9 hf hk
  unfold b_Ha_takesBehind_71 at hf
  refine rh_Ex.blk 2 (s' := ((75, [some (.ref 6), some (.int u1), some (.int u2)], [.int (s71 6 6)]), (s71, g, cw_R sv))) rfl ?_
  by_cases q13 : (s71 6 6) ≤ 0
  · rw [if_pos q13] at hf
    refine rh_Ex.stp (s' := ((123, [some (.ref 6), some (.int u1), some (.int u2)], []), (s71, g, cw_R sv))) rfl (st_ifle_p q13) ?_
    obtain rfl := Option.some.inj hf
    refine rh_Ex.fgt [some (.ref 6), some (.int u1), none] ⟨rfl, rfl, trivial⟩ ?_
    exact hk
  · rw [if_neg q13] at hf
    refine rh_Ex.stp (s' := ((78, [some (.ref 6), some (.int u1), some (.int u2)], []), (s71, g, cw_R sv))) rfl (st_ifle_n q13) ?_
    refine rh_Ex.blk 6 (s' := ((88, [some (.ref 6), some (.int u1), some (.int u2)], [.int ((s71 6 6) - (1 : Int32)), .ref 10]), (s71, g, cw_R sv))) rfl ?_
    obtain ⟨q14, hf⟩ := rh_gq hf
    refine rh_Ex.stp (s' := ((89, [some (.ref 6), some (.int u1), some (.int u2)], [.int (s71 10 ((s71 6 6) - (1 : Int32)).toNatClampNeg)]), (s71, g, cw_R sv))) rfl (st_iald (n := 48) rfl q14) ?_
    refine rh_Ex.call (j := 41) (rc := none) [.int (s71 10 ((s71 6 6) - (1 : Int32)).toNatClampNeg)] [] (some (.int (f_Ha_bond (s71 10 ((s71 6 6) - (1 : Int32)).toNatClampNeg)))) rfl rfl trivial (Nat.le_of_ble_eq_true rfl) (R_Ha_bond (d + 1) (cw_L ++ xx) (cw_R sv) s71 g (s71 10 ((s71 6 6) - (1 : Int32)).toNatClampNeg) rfl) ?_
    show rh_Ex _ _ _ ((92, [some (.ref 6), some (.int u1), some (.int u2)], [.int (f_Ha_bond (s71 10 ((s71 6 6) - (1 : Int32)).toNatClampNeg))]), (s71, g, cw_R sv)) _ _
    refine rh_Ex.blk 1 (s' := ((93, [some (.ref 6), some (.int u1), some (.int u2)], [.int u2, .int (f_Ha_bond (s71 10 ((s71 6 6) - (1 : Int32)).toNatClampNeg))]), (s71, g, cw_R sv))) rfl ?_
    by_cases q15 : (f_Ha_bond (s71 10 ((s71 6 6) - (1 : Int32)).toNatClampNeg)) < u2
    · rw [if_pos q15] at hf
      refine rh_Ex.stp (s' := ((123, [some (.ref 6), some (.int u1), some (.int u2)], []), (s71, g, cw_R sv))) rfl (st_iclt_p q15) ?_
      obtain rfl := Option.some.inj hf
      refine rh_Ex.fgt [some (.ref 6), some (.int u1), none] ⟨rfl, rfl, trivial⟩ ?_
      exact hk
    · rw [if_neg q15] at hf
      refine rh_Ex.stp (s' := ((96, [some (.ref 6), some (.int u1), some (.int u2)], []), (s71, g, cw_R sv))) rfl (st_iclt_n q15) ?_
      refine rh_Ex.blk 11 (s' := ((115, [some (.ref 6), some (.int u1), some (.int u2)], [.int ((s71 6 6) - (1 : Int32)), .ref 10, .ref 6]), (rh_up s71 6 6 ((s71 6 6) - (1 : Int32)), g, cw_R sv))) rfl ?_
      obtain ⟨q16, hf⟩ := rh_gq hf
      refine rh_Ex.stp (s' := ((116, [some (.ref 6), some (.int u1), some (.int u2)], [.int ((rh_up s71 6 6 ((s71 6 6) - (1 : Int32))) 10 ((s71 6 6) - (1 : Int32)).toNatClampNeg), .ref 6]), (rh_up s71 6 6 ((s71 6 6) - (1 : Int32)), g, cw_R sv))) rfl (st_iald (n := 48) rfl q16) ?_
      refine rh_Ex.blk 1 (s' := ((117, [some (.ref 6), some (.int u1), some (.int u2)], [.int (-((rh_up s71 6 6 ((s71 6 6) - (1 : Int32))) 10 ((s71 6 6) - (1 : Int32)).toNatClampNeg)), .ref 6]), (rh_up s71 6 6 ((s71 6 6) - (1 : Int32)), g, cw_R sv))) rfl ?_
      obtain ⟨x17, hx17, hf⟩ := rh_bq hf
      refine rh_Ex.call (j := 49) (rc := some 4) [.ref 6, .int (-((rh_up s71 6 6 ((s71 6 6) - (1 : Int32))) 10 ((s71 6 6) - (1 : Int32)).toNatClampNeg))] [] none rfl rfl rfl (Nat.le_of_ble_eq_true rfl) (R_Ha_put (d + 1) xx sv (rh_up s71 6 6 ((s71 6 6) - (1 : Int32))) g (-((rh_up s71 6 6 ((s71 6 6) - (1 : Int32))) 10 ((s71 6 6) - (1 : Int32)).toNatClampNeg)) hx17) ?_
      show rh_Ex _ _ _ ((120, [some (.ref 6), some (.int u1), some (.int u2)], []), (x17, g, cw_R sv)) _ _
      refine rh_Ex.blk 1 (s' := ((71, [some (.ref 6), some (.int u1), some (.int u2)], []), (x17, g, cw_R sv))) rfl ?_
      obtain rfl := Option.some.inj hf
      refine rh_Ex.fgt [some (.ref 6), some (.int u1), some (.int u2)] ⟨rfl, rfl, rfl, trivial⟩ ?_
      exact hk
set_option maxRecDepth 20000 in
set_option maxHeartbeats 4000000 in
theorem lj_Ha_takesBehind_69 (d : Nat) (xx : rh_L) (sv : Option Nat) (h : Nat → Nat → Int32) (p0 : Int32) (j2 : Int32) (k1 : Int32) (k2 : Int32) (k3 : Int32) (g : Nat → Nat → Int64) {z9 : Int32 × (Nat → Nat → Int32)} (hf : j_Ha_takesBehind_69 h p0 j2 k1 k2 k3 = some z9) : rh_Ex (rh_M rh_PT (cw_L ++ xx) (d + 2)) (cw_L ++ xx) pg_X4_takesBehind ((69, [some (.ref 6), some (.int p0), some (.int j2)], [.int k3, .int k2, .int k1, .ref 11]), (h, g, cw_R sv)) (some (.int z9.1)) (z9.2, g, cw_R sv) := by
  unfold j_Ha_takesBehind_69 at hf
  refine rh_Ex.blk 1 (s' := ((70, [some (.ref 6), some (.int p0), some (.int j2)], [.int (k2 ||| k3), .int k1, .ref 11]), (h, g, cw_R sv))) rfl ?_
  obtain ⟨q11, hf⟩ := rh_gq hf
  refine rh_Ex.stp (s' := ((71, [some (.ref 6), some (.int p0), some (.int j2)], []), (rh_up h 11 k1.toNatClampNeg ((k2 ||| k3) &&& 1), g, cw_R sv))) rfl (st_zast (n := 5) rfl q11) ?_
  obtain ⟨r18, hr18, hf⟩ := rh_bq hf
  refine rh_Ex.fgt [some (.ref 6), some (.int p0), some (.int j2)] ⟨rfl, rfl, rfl, trivial⟩ ?_
  refine rh_Ex.loop _ _ _ (lb_Ha_takesBehind_71 d xx sv p0 j2  g _ _) rh_N _ r18 hr18 ?_
  refine rh_Ex.blk 2 (s' := ((125, [some (.ref 6), some (.int p0), none], [.int p0, .ref 6]), (r18, g, cw_R sv))) rfl ?_
  obtain ⟨x19, hx19, hf⟩ := rh_bq hf
  refine rh_Ex.call (j := 50) (rc := some 4) [.ref 6, .int p0] [] none rfl rfl rfl (Nat.le_of_ble_eq_true rfl) (R_Ha_putOff (d + 1) xx sv r18 g p0 hx19) ?_
  show rh_Ex _ _ _ ((128, [some (.ref 6), some (.int p0), none], []), (x19, g, cw_R sv)) _ _
  refine rh_Ex.blk 2 (s' := ((130, [some (.ref 6), some (.int p0), none], [.int (0 : Int32), .ref 6]), (x19, g, cw_R sv))) rfl ?_
  refine rh_Ex.stp (s' := ((133, [some (.ref 6), some (.int p0), none], []), (rh_up x19 6 10 (0 : Int32), g, cw_R sv))) rfl (st_putZ rfl (Or.inl rfl)) ?_
  refine rh_Ex.blk 1 (s' := ((134, [some (.ref 6), some (.int p0), none], [.int (1 : Int32)]), (rh_up x19 6 10 (0 : Int32), g, cw_R sv))) rfl ?_
  obtain rfl := Option.some.inj hf
  exact rh_Ex.ret rfl ⟨rfl, Or.inr rfl⟩
set_option maxRecDepth 20000 in
set_option maxHeartbeats 4000000 in
theorem lj_Ha_takesBehind_49 (d : Nat) (xx : rh_L) (sv : Option Nat) (h : Nat → Nat → Int32) (p0 : Int32) (j2 : Int32) (g : Nat → Nat → Int64) {z9 : Int32 × (Nat → Nat → Int32)} (hf : j_Ha_takesBehind_49 h p0 j2 = some z9) : rh_Ex (rh_M rh_PT (cw_L ++ xx) (d + 2)) (cw_L ++ xx) pg_X4_takesBehind ((49, [some (.ref 6), some (.int p0), some (.int j2)], []), (h, g, cw_R sv)) (some (.int z9.1)) (z9.2, g, cw_R sv) := by
  unfold j_Ha_takesBehind_49 at hf
  refine rh_Ex.blk 5 (s' := ((58, [some (.ref 6), some (.int p0), some (.int j2)], [.int (h 6 8), .ref 11, .int (h 6 8), .ref 11]), (h, g, cw_R sv))) rfl ?_
  obtain ⟨q9, hf⟩ := rh_gq hf
  refine rh_Ex.stp (s' := ((59, [some (.ref 6), some (.int p0), some (.int j2)], [.int (h 11 (h 6 8).toNatClampNeg), .int (h 6 8), .ref 11]), (h, g, cw_R sv))) rfl (st_zald (n := 5) rfl q9) ?_
  refine rh_Ex.blk 2 (s' := ((61, [some (.ref 6), some (.int p0), some (.int j2)], [.int (1 : Int32), .int j2, .int (h 11 (h 6 8).toNatClampNeg), .int (h 6 8), .ref 11]), (h, g, cw_R sv))) rfl ?_
  by_cases q10 : j2 = (1 : Int32)
  · rw [if_pos q10] at hf
    refine rh_Ex.stp (s' := ((64, [some (.ref 6), some (.int p0), some (.int j2)], [.int (h 11 (h 6 8).toNatClampNeg), .int (h 6 8), .ref 11]), (h, g, cw_R sv))) rfl (st_icne_p q10) ?_
    refine rh_Ex.blk 2 (s' := ((69, [some (.ref 6), some (.int p0), some (.int j2)], [.int (1 : Int32), .int (h 11 (h 6 8).toNatClampNeg), .int (h 6 8), .ref 11]), (h, g, cw_R sv))) rfl ?_
    refine rh_Ex.fgt [some (.ref 6), some (.int p0), some (.int j2)] ⟨rfl, rfl, rfl, trivial⟩ ?_
    exact lj_Ha_takesBehind_69 d xx sv h p0 j2 (h 6 8) (h 11 (h 6 8).toNatClampNeg) (1 : Int32) g hf
  · rw [if_neg q10] at hf
    refine rh_Ex.stp (s' := ((68, [some (.ref 6), some (.int p0), some (.int j2)], [.int (h 11 (h 6 8).toNatClampNeg), .int (h 6 8), .ref 11]), (h, g, cw_R sv))) rfl (st_icne_n q10) ?_
    refine rh_Ex.blk 1 (s' := ((69, [some (.ref 6), some (.int p0), some (.int j2)], [.int (0 : Int32), .int (h 11 (h 6 8).toNatClampNeg), .int (h 6 8), .ref 11]), (h, g, cw_R sv))) rfl ?_
    refine rh_Ex.fgt [some (.ref 6), some (.int p0), some (.int j2)] ⟨rfl, rfl, rfl, trivial⟩ ?_
    exact lj_Ha_takesBehind_69 d xx sv h p0 j2 (h 6 8) (h 11 (h 6 8).toNatClampNeg) (0 : Int32) g hf
set_option maxRecDepth 20000 in
set_option maxHeartbeats 4000000 in
theorem lj_Ha_takesBehind_25 (d : Nat) (xx : rh_L) (sv : Option Nat) (h : Nat → Nat → Int32) (p0 : Int32) (k0 : Int32) (g : Nat → Nat → Int64) {z9 : Int32 × (Nat → Nat → Int32)} (hf : j_Ha_takesBehind_25 h p0 k0 = some z9) : rh_Ex (rh_M rh_PT (cw_L ++ xx) (d + 2)) (cw_L ++ xx) pg_X4_takesBehind ((25, [some (.ref 6), some (.int p0), none], [.int k0]), (h, g, cw_R sv)) (some (.int z9.1)) (z9.2, g, cw_R sv) := by
  unfold j_Ha_takesBehind_25 at hf
  refine rh_Ex.blk 2 (s' := ((27, [some (.ref 6), some (.int p0), some (.int k0)], [.int k0]), (h, g, cw_R sv))) rfl ?_
  by_cases q5 : k0 = 0
  · rw [if_pos q5] at hf
    refine rh_Ex.stp (s' := ((47, [some (.ref 6), some (.int p0), some (.int k0)], []), (h, g, cw_R sv))) rfl (st_ifeq_p q5) ?_
    refine rh_Ex.blk 1 (s' := ((48, [some (.ref 6), some (.int p0), some (.int k0)], [.int (0 : Int32)]), (h, g, cw_R sv))) rfl ?_
    obtain rfl := Option.some.inj hf
    exact rh_Ex.ret rfl ⟨rfl, Or.inl rfl⟩
  · rw [if_neg q5] at hf
    refine rh_Ex.stp (s' := ((30, [some (.ref 6), some (.int p0), some (.int k0)], []), (h, g, cw_R sv))) rfl (st_ifeq_n q5) ?_
    refine rh_Ex.blk 2 (s' := ((32, [some (.ref 6), some (.int p0), some (.int k0)], [.int (1 : Int32), .int k0]), (h, g, cw_R sv))) rfl ?_
    by_cases q6 : k0 = (1 : Int32)
    · rw [if_pos q6] at hf
      refine rh_Ex.stp (s' := ((35, [some (.ref 6), some (.int p0), some (.int k0)], []), (h, g, cw_R sv))) rfl (st_icne_p q6) ?_
      refine rh_Ex.blk 4 (s' := ((43, [some (.ref 6), some (.int p0), some (.int k0)], [.int (h 6 8), .ref 11]), (h, g, cw_R sv))) rfl ?_
      obtain ⟨q7, hf⟩ := rh_gq hf
      refine rh_Ex.stp (s' := ((44, [some (.ref 6), some (.int p0), some (.int k0)], [.int (h 11 (h 6 8).toNatClampNeg)]), (h, g, cw_R sv))) rfl (st_zald (n := 5) rfl q7) ?_
      by_cases q8 : (h 11 (h 6 8).toNatClampNeg) = 0
      · rw [if_pos q8] at hf
        refine rh_Ex.stp (s' := ((49, [some (.ref 6), some (.int p0), some (.int k0)], []), (h, g, cw_R sv))) rfl (st_ifeq_p q8) ?_
        refine rh_Ex.fgt [some (.ref 6), some (.int p0), some (.int k0)] ⟨rfl, rfl, rfl, trivial⟩ ?_
        exact lj_Ha_takesBehind_49 d xx sv h p0 k0 g hf
      · rw [if_neg q8] at hf
        refine rh_Ex.stp (s' := ((47, [some (.ref 6), some (.int p0), some (.int k0)], []), (h, g, cw_R sv))) rfl (st_ifeq_n q8) ?_
        refine rh_Ex.blk 1 (s' := ((48, [some (.ref 6), some (.int p0), some (.int k0)], [.int (0 : Int32)]), (h, g, cw_R sv))) rfl ?_
        obtain rfl := Option.some.inj hf
        exact rh_Ex.ret rfl ⟨rfl, Or.inl rfl⟩
    · rw [if_neg q6] at hf
      refine rh_Ex.stp (s' := ((49, [some (.ref 6), some (.int p0), some (.int k0)], []), (h, g, cw_R sv))) rfl (st_icne_n q6) ?_
      refine rh_Ex.fgt [some (.ref 6), some (.int p0), some (.int k0)] ⟨rfl, rfl, rfl, trivial⟩ ?_
      exact lj_Ha_takesBehind_49 d xx sv h p0 k0 g hf
set_option maxRecDepth 20000 in
set_option maxHeartbeats 4000000 in
theorem R_Ha_takesBehind (d : Nat) (xx : rh_L) (sv : Option Nat) (h : Nat → Nat → Int32) (g : Nat → Nat → Int64) (p0 : Int32) {z9 : Int32 × (Nat → Nat → Int32)} (hf : f_Ha_takesBehind h p0 = some z9) : rh_M rh_PT (cw_L ++ xx) (d + 3) 47 [.ref 6, .int p0] (h, g, cw_R sv) (some (.int z9.1)) (z9.2, g, cw_R sv) := by
  unfold f_Ha_takesBehind at hf
  refine rh_go pt_47 (Nat.le_of_ble_eq_true rfl) (lv := [some (.ref 6), some (.int p0), none]) rfl ?_
  refine rh_Ex.blk 2 (s' := ((3, [some (.ref 6), some (.int p0), none], [.int (41 : Int32), .int p0]), (h, g, cw_R sv))) rfl ?_
  by_cases q1 : p0 = (41 : Int32)
  · rw [if_pos q1] at hf
    refine rh_Ex.stp (s' := ((6, [some (.ref 6), some (.int p0), none], []), (h, g, cw_R sv))) rfl (st_icne_p q1) ?_
    refine rh_Ex.blk 1 (s' := ((7, [some (.ref 6), some (.int p0), none], [.ref 6]), (h, g, cw_R sv))) rfl ?_
    obtain ⟨x2, hx2, hf⟩ := rh_bq hf
    refine rh_Ex.call (j := 48) (rc := some 4) [.ref 6] [] (some (.int x2.1)) rfl rfl rfl (Nat.le_of_ble_eq_true rfl) (R_Ha_closes d xx sv h g  hx2) ?_
    show rh_Ex _ _ _ ((10, [some (.ref 6), some (.int p0), none], [.int x2.1]), (x2.2, g, cw_R sv)) _ _
    obtain ⟨q3, hf⟩ := rh_gq hf
    obtain rfl := Option.some.inj hf
    exact rh_Ex.ret rfl ⟨rfl, q3⟩
  · rw [if_neg q1] at hf
    refine rh_Ex.stp (s' := ((11, [some (.ref 6), some (.int p0), none], []), (h, g, cw_R sv))) rfl (st_icne_n q1) ?_
    refine rh_Ex.blk 2 (s' := ((14, [some (.ref 6), some (.int p0), none], [.int (126 : Int32), .int p0]), (h, g, cw_R sv))) rfl ?_
    by_cases q4 : p0 = (126 : Int32)
    · rw [if_pos q4] at hf
      refine rh_Ex.stp (s' := ((17, [some (.ref 6), some (.int p0), none], []), (h, g, cw_R sv))) rfl (st_icne_p q4) ?_
      refine rh_Ex.blk 2 (s' := ((25, [some (.ref 6), some (.int p0), none], [.int (0 : Int32)]), (h, g, cw_R sv))) rfl ?_
      refine rh_Ex.fgt [some (.ref 6), some (.int p0), none] ⟨rfl, rfl, trivial⟩ ?_
      exact lj_Ha_takesBehind_25 d xx sv h p0 (0 : Int32) g hf
    · rw [if_neg q4] at hf
      refine rh_Ex.stp (s' := ((21, [some (.ref 6), some (.int p0), none], []), (h, g, cw_R sv))) rfl (st_icne_n q4) ?_
      refine rh_Ex.blk 1 (s' := ((22, [some (.ref 6), some (.int p0), none], [.int p0]), (h, g, cw_R sv))) rfl ?_
      refine rh_Ex.call (j := 41) (rc := none) [.int p0] [] (some (.int (f_Ha_bond p0))) rfl rfl trivial (Nat.le_of_ble_eq_true rfl) (R_Ha_bond (d + 1) (cw_L ++ xx) (cw_R sv) h g p0 rfl) ?_
      show rh_Ex _ _ _ ((25, [some (.ref 6), some (.int p0), none], [.int (f_Ha_bond p0)]), (h, g, cw_R sv)) _ _
      refine rh_Ex.fgt [some (.ref 6), some (.int p0), none] ⟨rfl, rfl, trivial⟩ ?_
      exact lj_Ha_takesBehind_25 d xx sv h p0 (f_Ha_bond p0) g hf
def j_Ha_takesDigit_27 (h : Nat → Nat → Int32) (p0 : Int32) : Option (Int32 × (Nat → Nat → Int32)) :=
  if (h 6 9) ≤ 0 then
    some (((0 : Int32), h))
  else
    if (3 : Int32) ≤ (h 6 9) then
      some (((0 : Int32), h))
    else
      rh_g (0 ≤ ((h 6 4) - (1 : Int32)).toInt ∧ ((h 6 4) - (1 : Int32)).toInt < ((48 : Nat) : Int)) (
        rh_g (0 ≤ ((h 6 4) - (1 : Int32)).toInt ∧ ((h 6 4) - (1 : Int32)).toInt < ((48 : Nat) : Int)) (
          some (((1 : Int32), rh_up (rh_up h 9 ((h 6 4) - (1 : Int32)).toNatClampNeg (((h 9 ((h 6 4) - (1 : Int32)).toNatClampNeg) * (10 : Int32)) + p0)) 6 9 ((h 6 9) + (1 : Int32))))
        )
      )
def f_Ha_takesDigit (h : Nat → Nat → Int32) (p0 : Int32) : Option (Int32 × (Nat → Nat → Int32)) :=
  if (h 6 9) = 0 then
    if (h 6 10) = 0 then
      (f_Ha_put h p0).bind (fun x3 =>
        some (((1 : Int32), rh_up (rh_up x3 6 10 (1 : Int32)) 6 9 ((x3 6 9) + (1 : Int32))))
      )
    else
      j_Ha_takesDigit_27 h p0
  else
    j_Ha_takesDigit_27 h p0
set_option maxRecDepth 20000 in
set_option maxHeartbeats 4000000 in
theorem lj_Ha_takesDigit_27 (d : Nat) (xx : rh_L) (sv : Option Nat) (h : Nat → Nat → Int32) (p0 : Int32) (g : Nat → Nat → Int64) {z9 : Int32 × (Nat → Nat → Int32)} (hf : j_Ha_takesDigit_27 h p0 = some z9) : rh_Ex (rh_M rh_PT (cw_L ++ xx) (d + 1)) (cw_L ++ xx) pg_X4_takesDigit ((27, [some (.ref 6), some (.int p0)], []), (h, g, cw_R sv)) (some (.int z9.1)) (z9.2, g, cw_R sv) := by
  unfold j_Ha_takesDigit_27 at hf
  refine rh_Ex.blk 2 (s' := ((31, [some (.ref 6), some (.int p0)], [.int (h 6 9)]), (h, g, cw_R sv))) rfl ?_
  by_cases q4 : (h 6 9) ≤ 0
  · rw [if_pos q4] at hf
    refine rh_Ex.stp (s' := ((72, [some (.ref 6), some (.int p0)], []), (h, g, cw_R sv))) rfl (st_ifle_p q4) ?_
    refine rh_Ex.blk 1 (s' := ((73, [some (.ref 6), some (.int p0)], [.int (0 : Int32)]), (h, g, cw_R sv))) rfl ?_
    obtain rfl := Option.some.inj hf
    exact rh_Ex.ret rfl ⟨rfl, Or.inl rfl⟩
  · rw [if_neg q4] at hf
    refine rh_Ex.stp (s' := ((34, [some (.ref 6), some (.int p0)], []), (h, g, cw_R sv))) rfl (st_ifle_n q4) ?_
    refine rh_Ex.blk 3 (s' := ((39, [some (.ref 6), some (.int p0)], [.int (3 : Int32), .int (h 6 9)]), (h, g, cw_R sv))) rfl ?_
    by_cases q5 : (3 : Int32) ≤ (h 6 9)
    · rw [if_pos q5] at hf
      refine rh_Ex.stp (s' := ((72, [some (.ref 6), some (.int p0)], []), (h, g, cw_R sv))) rfl (st_icge_p q5) ?_
      refine rh_Ex.blk 1 (s' := ((73, [some (.ref 6), some (.int p0)], [.int (0 : Int32)]), (h, g, cw_R sv))) rfl ?_
      obtain rfl := Option.some.inj hf
      exact rh_Ex.ret rfl ⟨rfl, Or.inl rfl⟩
    · rw [if_neg q5] at hf
      refine rh_Ex.stp (s' := ((42, [some (.ref 6), some (.int p0)], []), (h, g, cw_R sv))) rfl (st_icge_n q5) ?_
      refine rh_Ex.blk 12 (s' := ((62, [some (.ref 6), some (.int p0)], [.int ((h 6 4) - (1 : Int32)), .ref 9, .int ((h 6 4) - (1 : Int32)), .ref 9]), (h, g, cw_R sv))) rfl ?_
      obtain ⟨q6, hf⟩ := rh_gq hf
      refine rh_Ex.stp (s' := ((63, [some (.ref 6), some (.int p0)], [.int (h 9 ((h 6 4) - (1 : Int32)).toNatClampNeg), .int ((h 6 4) - (1 : Int32)), .ref 9]), (h, g, cw_R sv))) rfl (st_iald (n := 48) rfl q6) ?_
      refine rh_Ex.blk 4 (s' := ((68, [some (.ref 6), some (.int p0)], [.int (((h 9 ((h 6 4) - (1 : Int32)).toNatClampNeg) * (10 : Int32)) + p0), .int ((h 6 4) - (1 : Int32)), .ref 9]), (h, g, cw_R sv))) rfl ?_
      obtain ⟨q7, hf⟩ := rh_gq hf
      refine rh_Ex.stp (s' := ((69, [some (.ref 6), some (.int p0)], []), (rh_up h 9 ((h 6 4) - (1 : Int32)).toNatClampNeg (((h 9 ((h 6 4) - (1 : Int32)).toNatClampNeg) * (10 : Int32)) + p0), g, cw_R sv))) rfl (st_iast (n := 48) rfl q7) ?_
      refine rh_Ex.blk 8 (s' := ((85, [some (.ref 6), some (.int p0)], [.int (1 : Int32)]), (rh_up (rh_up h 9 ((h 6 4) - (1 : Int32)).toNatClampNeg (((h 9 ((h 6 4) - (1 : Int32)).toNatClampNeg) * (10 : Int32)) + p0)) 6 9 ((h 6 9) + (1 : Int32)), g, cw_R sv))) rfl ?_
      obtain rfl := Option.some.inj hf
      exact rh_Ex.ret rfl ⟨rfl, Or.inr rfl⟩
set_option maxRecDepth 20000 in
set_option maxHeartbeats 4000000 in
theorem R_Ha_takesDigit (d : Nat) (xx : rh_L) (sv : Option Nat) (h : Nat → Nat → Int32) (g : Nat → Nat → Int64) (p0 : Int32) {z9 : Int32 × (Nat → Nat → Int32)} (hf : f_Ha_takesDigit h p0 = some z9) : rh_M rh_PT (cw_L ++ xx) (d + 2) 45 [.ref 6, .int p0] (h, g, cw_R sv) (some (.int z9.1)) (z9.2, g, cw_R sv) := by
  unfold f_Ha_takesDigit at hf
  refine rh_go pt_45 (Nat.le_of_ble_eq_true rfl) (lv := [some (.ref 6), some (.int p0)]) rfl ?_
  refine rh_Ex.blk 2 (s' := ((4, [some (.ref 6), some (.int p0)], [.int (h 6 9)]), (h, g, cw_R sv))) rfl ?_
  by_cases q1 : (h 6 9) = 0
  · rw [if_pos q1] at hf
    refine rh_Ex.stp (s' := ((7, [some (.ref 6), some (.int p0)], []), (h, g, cw_R sv))) rfl (st_ifne_p q1) ?_
    refine rh_Ex.blk 2 (s' := ((11, [some (.ref 6), some (.int p0)], [.int (h 6 10)]), (h, g, cw_R sv))) rfl ?_
    by_cases q2 : (h 6 10) = 0
    · rw [if_pos q2] at hf
      refine rh_Ex.stp (s' := ((14, [some (.ref 6), some (.int p0)], []), (h, g, cw_R sv))) rfl (st_ifne_p q2) ?_
      refine rh_Ex.blk 2 (s' := ((16, [some (.ref 6), some (.int p0)], [.int p0, .ref 6]), (h, g, cw_R sv))) rfl ?_
      obtain ⟨x3, hx3, hf⟩ := rh_bq hf
      refine rh_Ex.call (j := 49) (rc := some 4) [.ref 6, .int p0] [] none rfl rfl rfl (Nat.le_of_ble_eq_true rfl) (R_Ha_put d xx sv h g p0 hx3) ?_
      show rh_Ex _ _ _ ((19, [some (.ref 6), some (.int p0)], []), (x3, g, cw_R sv)) _ _
      refine rh_Ex.blk 2 (s' := ((21, [some (.ref 6), some (.int p0)], [.int (1 : Int32), .ref 6]), (x3, g, cw_R sv))) rfl ?_
      refine rh_Ex.stp (s' := ((24, [some (.ref 6), some (.int p0)], []), (rh_up x3 6 10 (1 : Int32), g, cw_R sv))) rfl (st_putZ rfl (Or.inr rfl)) ?_
      refine rh_Ex.blk 8 (s' := ((85, [some (.ref 6), some (.int p0)], [.int (1 : Int32)]), (rh_up (rh_up x3 6 10 (1 : Int32)) 6 9 ((x3 6 9) + (1 : Int32)), g, cw_R sv))) rfl ?_
      obtain rfl := Option.some.inj hf
      exact rh_Ex.ret rfl ⟨rfl, Or.inr rfl⟩
    · rw [if_neg q2] at hf
      refine rh_Ex.stp (s' := ((27, [some (.ref 6), some (.int p0)], []), (h, g, cw_R sv))) rfl (st_ifne_n q2) ?_
      refine rh_Ex.fgt [some (.ref 6), some (.int p0)] ⟨rfl, rfl, trivial⟩ ?_
      exact lj_Ha_takesDigit_27 d xx sv h p0 g hf
  · rw [if_neg q1] at hf
    refine rh_Ex.stp (s' := ((27, [some (.ref 6), some (.int p0)], []), (h, g, cw_R sv))) rfl (st_ifne_n q1) ?_
    refine rh_Ex.fgt [some (.ref 6), some (.int p0)] ⟨rfl, rfl, trivial⟩ ?_
    exact lj_Ha_takesDigit_27 d xx sv h p0 g hf
def f_Ha_takes (h : Nat → Nat → Int32) (p0 : Int32) : Option (Int32 × (Nat → Nat → Int32)) :=
  if (48 : Int32) ≤ (h 6 4) then
    some (((0 : Int32), h))
  else
    if (h 6 6) < (48 : Int32) then
      if (f_Re_isDigit p0) = 0 then
        if (h 6 10) = 0 then
          (f_Ha_takesAhead (rh_up h 6 9 (0 : Int32)) p0).bind (fun x5 =>
            rh_g (x5.1 = 0 ∨ x5.1 = 1) (
              some ((x5.1, x5.2))
            )
          )
        else
          (f_Ha_takesBehind (rh_up h 6 9 (0 : Int32)) p0).bind (fun x7 =>
            rh_g (x7.1 = 0 ∨ x7.1 = 1) (
              some ((x7.1, x7.2))
            )
          )
      else
        (f_Ha_takesDigit h (p0 - (48 : Int32))).bind (fun x9 =>
          rh_g (x9.1 = 0 ∨ x9.1 = 1) (
            some ((x9.1, x9.2))
          )
        )
    else
      some (((0 : Int32), h))
set_option maxRecDepth 20000 in
set_option maxHeartbeats 4000000 in
theorem R_Ha_takes (d : Nat) (xx : rh_L) (sv : Option Nat) (h : Nat → Nat → Int32) (g : Nat → Nat → Int64) (p0 : Int32) {z9 : Int32 × (Nat → Nat → Int32)} (hf : f_Ha_takes h p0 = some z9) : rh_M rh_PT (cw_L ++ xx) (d + 4) 44 [.ref 6, .int p0] (h, g, cw_R sv) (some (.int z9.1)) (z9.2, g, cw_R sv) := by
  unfold f_Ha_takes at hf
  refine rh_go pt_44 (Nat.le_of_ble_eq_true rfl) (lv := [some (.ref 6), some (.int p0)]) rfl ?_
  refine rh_Ex.blk 3 (s' := ((6, [some (.ref 6), some (.int p0)], [.int (48 : Int32), .int (h 6 4)]), (h, g, cw_R sv))) rfl ?_
  by_cases q1 : (48 : Int32) ≤ (h 6 4)
  · rw [if_pos q1] at hf
    refine rh_Ex.stp (s' := ((18, [some (.ref 6), some (.int p0)], []), (h, g, cw_R sv))) rfl (st_icge_p q1) ?_
    refine rh_Ex.blk 1 (s' := ((19, [some (.ref 6), some (.int p0)], [.int (0 : Int32)]), (h, g, cw_R sv))) rfl ?_
    obtain rfl := Option.some.inj hf
    exact rh_Ex.ret rfl ⟨rfl, Or.inl rfl⟩
  · rw [if_neg q1] at hf
    refine rh_Ex.stp (s' := ((9, [some (.ref 6), some (.int p0)], []), (h, g, cw_R sv))) rfl (st_icge_n q1) ?_
    refine rh_Ex.blk 3 (s' := ((15, [some (.ref 6), some (.int p0)], [.int (48 : Int32), .int (h 6 6)]), (h, g, cw_R sv))) rfl ?_
    by_cases q2 : (h 6 6) < (48 : Int32)
    · rw [if_pos q2] at hf
      refine rh_Ex.stp (s' := ((20, [some (.ref 6), some (.int p0)], []), (h, g, cw_R sv))) rfl (st_iclt_p q2) ?_
      refine rh_Ex.blk 1 (s' := ((21, [some (.ref 6), some (.int p0)], [.int p0]), (h, g, cw_R sv))) rfl ?_
      refine rh_Ex.call (j := 55) (rc := none) [.int p0] [] (some (.int (f_Re_isDigit p0))) rfl rfl trivial (Nat.le_of_ble_eq_true rfl) (R_Re_isDigit (d + 2) (cw_L ++ xx) (cw_R sv) h g p0 rfl) ?_
      show rh_Ex _ _ _ ((24, [some (.ref 6), some (.int p0)], [.int (f_Re_isDigit p0)]), (h, g, cw_R sv)) _ _
      by_cases q3 : (f_Re_isDigit p0) = 0
      · rw [if_pos q3] at hf
        refine rh_Ex.stp (s' := ((36, [some (.ref 6), some (.int p0)], []), (h, g, cw_R sv))) rfl (st_ifeq_p q3) ?_
        refine rh_Ex.blk 5 (s' := ((45, [some (.ref 6), some (.int p0)], [.int (h 6 10)]), (rh_up h 6 9 (0 : Int32), g, cw_R sv))) rfl ?_
        by_cases q4 : (h 6 10) = 0
        · rw [if_pos q4] at hf
          refine rh_Ex.stp (s' := ((56, [some (.ref 6), some (.int p0)], []), (rh_up h 6 9 (0 : Int32), g, cw_R sv))) rfl (st_ifeq_p q4) ?_
          refine rh_Ex.blk 2 (s' := ((58, [some (.ref 6), some (.int p0)], [.int p0, .ref 6]), (rh_up h 6 9 (0 : Int32), g, cw_R sv))) rfl ?_
          obtain ⟨x5, hx5, hf⟩ := rh_bq hf
          refine rh_Ex.call (j := 46) (rc := some 4) [.ref 6, .int p0] [] (some (.int x5.1)) rfl rfl rfl (Nat.le_of_ble_eq_true rfl) (R_Ha_takesAhead (d + 1) xx sv (rh_up h 6 9 (0 : Int32)) g p0 hx5) ?_
          show rh_Ex _ _ _ ((61, [some (.ref 6), some (.int p0)], [.int x5.1]), (x5.2, g, cw_R sv)) _ _
          obtain ⟨q6, hf⟩ := rh_gq hf
          obtain rfl := Option.some.inj hf
          exact rh_Ex.ret rfl ⟨rfl, q6⟩
        · rw [if_neg q4] at hf
          refine rh_Ex.stp (s' := ((48, [some (.ref 6), some (.int p0)], []), (rh_up h 6 9 (0 : Int32), g, cw_R sv))) rfl (st_ifeq_n q4) ?_
          refine rh_Ex.blk 2 (s' := ((50, [some (.ref 6), some (.int p0)], [.int p0, .ref 6]), (rh_up h 6 9 (0 : Int32), g, cw_R sv))) rfl ?_
          obtain ⟨x7, hx7, hf⟩ := rh_bq hf
          refine rh_Ex.call (j := 47) (rc := some 4) [.ref 6, .int p0] [] (some (.int x7.1)) rfl rfl rfl (Nat.le_of_ble_eq_true rfl) (R_Ha_takesBehind d xx sv (rh_up h 6 9 (0 : Int32)) g p0 hx7) ?_
          show rh_Ex _ _ _ ((53, [some (.ref 6), some (.int p0)], [.int x7.1]), (x7.2, g, cw_R sv)) _ _
          refine rh_Ex.blk 1 (s' := ((61, [some (.ref 6), some (.int p0)], [.int x7.1]), (x7.2, g, cw_R sv))) rfl ?_
          obtain ⟨q8, hf⟩ := rh_gq hf
          obtain rfl := Option.some.inj hf
          exact rh_Ex.ret rfl ⟨rfl, q8⟩
      · rw [if_neg q3] at hf
        refine rh_Ex.stp (s' := ((27, [some (.ref 6), some (.int p0)], []), (h, g, cw_R sv))) rfl (st_ifeq_n q3) ?_
        refine rh_Ex.blk 4 (s' := ((32, [some (.ref 6), some (.int p0)], [.int (p0 - (48 : Int32)), .ref 6]), (h, g, cw_R sv))) rfl ?_
        obtain ⟨x9, hx9, hf⟩ := rh_bq hf
        refine rh_Ex.call (j := 45) (rc := some 4) [.ref 6, .int (p0 - (48 : Int32))] [] (some (.int x9.1)) rfl rfl rfl (Nat.le_of_ble_eq_true rfl) (R_Ha_takesDigit (d + 1) xx sv h g (p0 - (48 : Int32)) hx9) ?_
        show rh_Ex _ _ _ ((35, [some (.ref 6), some (.int p0)], [.int x9.1]), (x9.2, g, cw_R sv)) _ _
        obtain ⟨q10, hf⟩ := rh_gq hf
        obtain rfl := Option.some.inj hf
        exact rh_Ex.ret rfl ⟨rfl, q10⟩
    · rw [if_neg q2] at hf
      refine rh_Ex.stp (s' := ((18, [some (.ref 6), some (.int p0)], []), (h, g, cw_R sv))) rfl (st_iclt_n q2) ?_
      refine rh_Ex.blk 1 (s' := ((19, [some (.ref 6), some (.int p0)], [.int (0 : Int32)]), (h, g, cw_R sv))) rfl ?_
      obtain rfl := Option.some.inj hf
      exact rh_Ex.ret rfl ⟨rfl, Or.inl rfl⟩
def f_Ri_begin (h : Nat → Nat → Int32) (p0 : Int32) (p1 : Int32) (p2 : Int32) : (Nat → Nat → Int32) :=
  (rh_up (rh_up (rh_up h 32 2 p0) 32 3 p1) 32 4 p2)
set_option maxRecDepth 20000 in
set_option maxHeartbeats 4000000 in
theorem R_Ri_begin (d : Nat) (xx : rh_L) (sv : Option Nat) (h : Nat → Nat → Int32) (g : Nat → Nat → Int64) (p0 : Int32) (p1 : Int32) (p2 : Int32) {z9 : (Nat → Nat → Int32)} (hf : f_Ri_begin h p0 p1 p2 = z9) : rh_M rh_PT (cw_L ++ xx) (d + 1) 56 [.ref 32, .int p0, .int p1, .int p2] (h, g, cw_R sv) none (z9, g, cw_R sv) := by
  unfold f_Ri_begin at hf
  refine rh_go pt_56 (Nat.le_of_ble_eq_true rfl) (lv := [some (.ref 32), some (.int p0), some (.int p1), some (.int p2)]) rfl ?_
  refine rh_Ex.blk 9 (s' := ((15, [some (.ref 32), some (.int p0), some (.int p1), some (.int p2)], []), (rh_up (rh_up (rh_up h 32 2 p0) 32 3 p1) 32 4 p2, g, cw_R sv))) rfl ?_
  subst hf
  exact rh_Ex.ret rfl trivial
def f_Ri_isReached (g : Nat → Nat → Int64) (p0 : Int32) (p1 : Int32) : Option (Int32) :=
  rh_g (0 ≤ ((p0 * (8 : Int32)) + (p1 >>> ((6 : Int32) &&& 31))).toInt ∧ ((p0 * (8 : Int32)) + (p1 >>> ((6 : Int32) &&& 31))).toInt < ((160 : Nat) : Int)) (
    if (lg_cmp ((((g 33 ((p0 * (8 : Int32)) + (p1 >>> ((6 : Int32) &&& 31))).toNatClampNeg).toUInt64 >>> ((p1 &&& (63 : Int32)).toInt64.toUInt64 &&& Int64.toUInt64 63)).toInt64) &&& (1 : Int64)) (0 : Int64)) = 0 then
      some ((0 : Int32))
    else
      some ((1 : Int32))
  )
set_option maxRecDepth 20000 in
set_option maxHeartbeats 4000000 in
theorem R_Ri_isReached (d : Nat) (xx : rh_L) (sv : Option Nat) (h : Nat → Nat → Int32) (g : Nat → Nat → Int64) (p0 : Int32) (p1 : Int32) {z9 : Int32} (hf : f_Ri_isReached g p0 p1 = some z9) : rh_M rh_PT (cw_L ++ xx) (d + 1) 57 [.ref 32, .int p0, .int p1] (h, g, cw_R sv) (some (.int z9)) (h, g, cw_R sv) := by
  unfold f_Ri_isReached at hf
  refine rh_go pt_57 (Nat.le_of_ble_eq_true rfl) (lv := [some (.ref 32), some (.int p0), some (.int p1)]) rfl ?_
  refine rh_Ex.blk 9 (s' := ((13, [some (.ref 32), some (.int p0), some (.int p1)], [.int ((p0 * (8 : Int32)) + (p1 >>> ((6 : Int32) &&& 31))), .ref 33]), (h, g, cw_R sv))) rfl ?_
  obtain ⟨q1, hf⟩ := rh_gq hf
  refine rh_Ex.stp (s' := ((14, [some (.ref 32), some (.int p0), some (.int p1)], [.long (g 33 ((p0 * (8 : Int32)) + (p1 >>> ((6 : Int32) &&& 31))).toNatClampNeg)]), (h, g, cw_R sv))) rfl (st_lald (n := 160) rfl q1) ?_
  refine rh_Ex.blk 8 (s' := ((23, [some (.ref 32), some (.int p0), some (.int p1)], [.int (lg_cmp ((((g 33 ((p0 * (8 : Int32)) + (p1 >>> ((6 : Int32) &&& 31))).toNatClampNeg).toUInt64 >>> ((p1 &&& (63 : Int32)).toInt64.toUInt64 &&& Int64.toUInt64 63)).toInt64) &&& (1 : Int64)) (0 : Int64))]), (h, g, cw_R sv))) rfl ?_
  by_cases q2 : (lg_cmp ((((g 33 ((p0 * (8 : Int32)) + (p1 >>> ((6 : Int32) &&& 31))).toNatClampNeg).toUInt64 >>> ((p1 &&& (63 : Int32)).toInt64.toUInt64 &&& Int64.toUInt64 63)).toInt64) &&& (1 : Int64)) (0 : Int64)) = 0
  · rw [if_pos q2] at hf
    refine rh_Ex.stp (s' := ((30, [some (.ref 32), some (.int p0), some (.int p1)], []), (h, g, cw_R sv))) rfl (st_ifeq_p q2) ?_
    refine rh_Ex.blk 1 (s' := ((31, [some (.ref 32), some (.int p0), some (.int p1)], [.int (0 : Int32)]), (h, g, cw_R sv))) rfl ?_
    obtain rfl := Option.some.inj hf
    exact rh_Ex.ret rfl ⟨rfl, Or.inl rfl⟩
  · rw [if_neg q2] at hf
    refine rh_Ex.stp (s' := ((26, [some (.ref 32), some (.int p0), some (.int p1)], []), (h, g, cw_R sv))) rfl (st_ifeq_n q2) ?_
    refine rh_Ex.blk 2 (s' := ((31, [some (.ref 32), some (.int p0), some (.int p1)], [.int (1 : Int32)]), (h, g, cw_R sv))) rfl ?_
    obtain rfl := Option.some.inj hf
    exact rh_Ex.ret rfl ⟨rfl, Or.inr rfl⟩
def f_Ri_reach (g : Nat → Nat → Int64) (p0 : Int32) (p1 : Int32) : Option ((Nat → Nat → Int64)) :=
  rh_g (0 ≤ ((p0 * (8 : Int32)) + (p1 >>> ((6 : Int32) &&& 31))).toInt ∧ ((p0 * (8 : Int32)) + (p1 >>> ((6 : Int32) &&& 31))).toInt < ((160 : Nat) : Int)) (
    rh_g (0 ≤ ((p0 * (8 : Int32)) + (p1 >>> ((6 : Int32) &&& 31))).toInt ∧ ((p0 * (8 : Int32)) + (p1 >>> ((6 : Int32) &&& 31))).toInt < ((160 : Nat) : Int)) (
      some ((rh_up g 33 ((p0 * (8 : Int32)) + (p1 >>> ((6 : Int32) &&& 31))).toNatClampNeg ((g 33 ((p0 * (8 : Int32)) + (p1 >>> ((6 : Int32) &&& 31))).toNatClampNeg) ||| ((1 : Int64) <<< ((p1 &&& (63 : Int32)).toInt64 &&& 63)))))
    )
  )
set_option maxRecDepth 20000 in
set_option maxHeartbeats 4000000 in
theorem R_Ri_reach (d : Nat) (xx : rh_L) (sv : Option Nat) (h : Nat → Nat → Int32) (g : Nat → Nat → Int64) (p0 : Int32) (p1 : Int32) {z9 : (Nat → Nat → Int64)} (hf : f_Ri_reach g p0 p1 = some z9) : rh_M rh_PT (cw_L ++ xx) (d + 1) 58 [.ref 32, .int p0, .int p1] (h, g, cw_R sv) none (h, z9, cw_R sv) := by
  unfold f_Ri_reach at hf
  refine rh_go pt_58 (Nat.le_of_ble_eq_true rfl) (lv := [some (.ref 32), some (.int p0), some (.int p1)]) rfl ?_
  refine rh_Ex.blk 10 (s' := ((14, [some (.ref 32), some (.int p0), some (.int p1)], [.int ((p0 * (8 : Int32)) + (p1 >>> ((6 : Int32) &&& 31))), .ref 33, .int ((p0 * (8 : Int32)) + (p1 >>> ((6 : Int32) &&& 31))), .ref 33]), (h, g, cw_R sv))) rfl ?_
  obtain ⟨q1, hf⟩ := rh_gq hf
  refine rh_Ex.stp (s' := ((15, [some (.ref 32), some (.int p0), some (.int p1)], [.long (g 33 ((p0 * (8 : Int32)) + (p1 >>> ((6 : Int32) &&& 31))).toNatClampNeg), .int ((p0 * (8 : Int32)) + (p1 >>> ((6 : Int32) &&& 31))), .ref 33]), (h, g, cw_R sv))) rfl (st_lald (n := 160) rfl q1) ?_
  refine rh_Ex.blk 6 (s' := ((22, [some (.ref 32), some (.int p0), some (.int p1)], [.long ((g 33 ((p0 * (8 : Int32)) + (p1 >>> ((6 : Int32) &&& 31))).toNatClampNeg) ||| ((1 : Int64) <<< ((p1 &&& (63 : Int32)).toInt64 &&& 63))), .int ((p0 * (8 : Int32)) + (p1 >>> ((6 : Int32) &&& 31))), .ref 33]), (h, g, cw_R sv))) rfl ?_
  obtain ⟨q2, hf⟩ := rh_gq hf
  refine rh_Ex.stp (s' := ((23, [some (.ref 32), some (.int p0), some (.int p1)], []), (h, rh_up g 33 ((p0 * (8 : Int32)) + (p1 >>> ((6 : Int32) &&& 31))).toNatClampNeg ((g 33 ((p0 * (8 : Int32)) + (p1 >>> ((6 : Int32) &&& 31))).toNatClampNeg) ||| ((1 : Int64) <<< ((p1 &&& (63 : Int32)).toInt64 &&& 63))), cw_R sv))) rfl (st_last (n := 160) rfl q2) ?_
  obtain rfl := Option.some.inj hf
  exact rh_Ex.ret rfl trivial
def f_Ri_leave (g : Nat → Nat → Int64) (p0 : Int32) (p1 : Int32) : Option ((Nat → Nat → Int64)) :=
  rh_g (0 ≤ ((p0 * (8 : Int32)) + (p1 >>> ((6 : Int32) &&& 31))).toInt ∧ ((p0 * (8 : Int32)) + (p1 >>> ((6 : Int32) &&& 31))).toInt < ((160 : Nat) : Int)) (
    rh_g (0 ≤ ((p0 * (8 : Int32)) + (p1 >>> ((6 : Int32) &&& 31))).toInt ∧ ((p0 * (8 : Int32)) + (p1 >>> ((6 : Int32) &&& 31))).toInt < ((160 : Nat) : Int)) (
      some ((rh_up g 33 ((p0 * (8 : Int32)) + (p1 >>> ((6 : Int32) &&& 31))).toNatClampNeg ((g 33 ((p0 * (8 : Int32)) + (p1 >>> ((6 : Int32) &&& 31))).toNatClampNeg) &&& (((1 : Int64) <<< ((p1 &&& (63 : Int32)).toInt64 &&& 63)) ^^^ (-1 : Int64)))))
    )
  )
set_option maxRecDepth 20000 in
set_option maxHeartbeats 4000000 in
theorem R_Ri_leave (d : Nat) (xx : rh_L) (sv : Option Nat) (h : Nat → Nat → Int32) (g : Nat → Nat → Int64) (p0 : Int32) (p1 : Int32) {z9 : (Nat → Nat → Int64)} (hf : f_Ri_leave g p0 p1 = some z9) : rh_M rh_PT (cw_L ++ xx) (d + 1) 59 [.ref 32, .int p0, .int p1] (h, g, cw_R sv) none (h, z9, cw_R sv) := by
  unfold f_Ri_leave at hf
  refine rh_go pt_59 (Nat.le_of_ble_eq_true rfl) (lv := [some (.ref 32), some (.int p0), some (.int p1)]) rfl ?_
  refine rh_Ex.blk 10 (s' := ((14, [some (.ref 32), some (.int p0), some (.int p1)], [.int ((p0 * (8 : Int32)) + (p1 >>> ((6 : Int32) &&& 31))), .ref 33, .int ((p0 * (8 : Int32)) + (p1 >>> ((6 : Int32) &&& 31))), .ref 33]), (h, g, cw_R sv))) rfl ?_
  obtain ⟨q1, hf⟩ := rh_gq hf
  refine rh_Ex.stp (s' := ((15, [some (.ref 32), some (.int p0), some (.int p1)], [.long (g 33 ((p0 * (8 : Int32)) + (p1 >>> ((6 : Int32) &&& 31))).toNatClampNeg), .int ((p0 * (8 : Int32)) + (p1 >>> ((6 : Int32) &&& 31))), .ref 33]), (h, g, cw_R sv))) rfl (st_lald (n := 160) rfl q1) ?_
  refine rh_Ex.blk 8 (s' := ((26, [some (.ref 32), some (.int p0), some (.int p1)], [.long ((g 33 ((p0 * (8 : Int32)) + (p1 >>> ((6 : Int32) &&& 31))).toNatClampNeg) &&& (((1 : Int64) <<< ((p1 &&& (63 : Int32)).toInt64 &&& 63)) ^^^ (-1 : Int64))), .int ((p0 * (8 : Int32)) + (p1 >>> ((6 : Int32) &&& 31))), .ref 33]), (h, g, cw_R sv))) rfl ?_
  obtain ⟨q2, hf⟩ := rh_gq hf
  refine rh_Ex.stp (s' := ((27, [some (.ref 32), some (.int p0), some (.int p1)], []), (h, rh_up g 33 ((p0 * (8 : Int32)) + (p1 >>> ((6 : Int32) &&& 31))).toNatClampNeg ((g 33 ((p0 * (8 : Int32)) + (p1 >>> ((6 : Int32) &&& 31))).toNatClampNeg) &&& (((1 : Int64) <<< ((p1 &&& (63 : Int32)).toInt64 &&& 63)) ^^^ (-1 : Int64))), cw_R sv))) rfl (st_last (n := 160) rfl q2) ?_
  obtain rfl := Option.some.inj hf
  exact rh_Ex.ret rfl trivial
def f_Ri_carries (h : Nat → Nat → Int32) (p0 : Int32) : Option (Int32) :=
  if (p0 &&& (h 4 1)) = 0 then
    some ((0 : Int32))
  else
    rh_g (0 ≤ p0.toInt ∧ p0.toInt < ((512 : Nat) : Int)) (
      if (h 32 3) < (h 12 p0.toNatClampNeg) then
        some ((0 : Int32))
      else
        some ((1 : Int32))
    )
set_option maxRecDepth 20000 in
set_option maxHeartbeats 4000000 in
theorem R_Ri_carries (d : Nat) (xx : rh_L) (sv : Option Nat) (h : Nat → Nat → Int32) (g : Nat → Nat → Int64) (p0 : Int32) {z9 : Int32} (hf : f_Ri_carries h p0 = some z9) : rh_M rh_PT (cw_L ++ xx) (d + 1) 60 [.ref 32, .int p0] (h, g, cw_R sv) (some (.int z9)) (h, g, cw_R sv) := by
  unfold f_Ri_carries at hf
  refine rh_go pt_60 (Nat.le_of_ble_eq_true rfl) (lv := [some (.ref 32), some (.int p0)]) rfl ?_
  refine rh_Ex.blk 5 (s' := ((9, [some (.ref 32), some (.int p0)], [.int (p0 &&& (h 4 1))]), (h, g, cw_R sv))) rfl ?_
  by_cases q1 : (p0 &&& (h 4 1)) = 0
  · rw [if_pos q1] at hf
    refine rh_Ex.stp (s' := ((32, [some (.ref 32), some (.int p0)], []), (h, g, cw_R sv))) rfl (st_ifeq_p q1) ?_
    refine rh_Ex.blk 1 (s' := ((33, [some (.ref 32), some (.int p0)], [.int (0 : Int32)]), (h, g, cw_R sv))) rfl ?_
    obtain rfl := Option.some.inj hf
    exact rh_Ex.ret rfl ⟨rfl, Or.inl rfl⟩
  · rw [if_neg q1] at hf
    refine rh_Ex.stp (s' := ((12, [some (.ref 32), some (.int p0)], []), (h, g, cw_R sv))) rfl (st_ifeq_n q1) ?_
    refine rh_Ex.blk 4 (s' := ((20, [some (.ref 32), some (.int p0)], [.int p0, .ref 12]), (h, g, cw_R sv))) rfl ?_
    obtain ⟨q2, hf⟩ := rh_gq hf
    refine rh_Ex.stp (s' := ((21, [some (.ref 32), some (.int p0)], [.int (h 12 p0.toNatClampNeg)]), (h, g, cw_R sv))) rfl (st_iald (n := 512) rfl q2) ?_
    refine rh_Ex.blk 2 (s' := ((25, [some (.ref 32), some (.int p0)], [.int (h 32 3), .int (h 12 p0.toNatClampNeg)]), (h, g, cw_R sv))) rfl ?_
    by_cases q3 : (h 32 3) < (h 12 p0.toNatClampNeg)
    · rw [if_pos q3] at hf
      refine rh_Ex.stp (s' := ((32, [some (.ref 32), some (.int p0)], []), (h, g, cw_R sv))) rfl (st_icgt_p q3) ?_
      refine rh_Ex.blk 1 (s' := ((33, [some (.ref 32), some (.int p0)], [.int (0 : Int32)]), (h, g, cw_R sv))) rfl ?_
      obtain rfl := Option.some.inj hf
      exact rh_Ex.ret rfl ⟨rfl, Or.inl rfl⟩
    · rw [if_neg q3] at hf
      refine rh_Ex.stp (s' := ((28, [some (.ref 32), some (.int p0)], []), (h, g, cw_R sv))) rfl (st_icgt_n q3) ?_
      refine rh_Ex.blk 2 (s' := ((33, [some (.ref 32), some (.int p0)], [.int (1 : Int32)]), (h, g, cw_R sv))) rfl ?_
      obtain rfl := Option.some.inj hf
      exact rh_Ex.ret rfl ⟨rfl, Or.inr rfl⟩
def f_Ri_bankOf (h : Nat → Nat → Int32) (p0 : Int32) (p1 : Int32) : Int32 :=
  if (p0 - p0 / (2 : Int32) * (2 : Int32)) = 0 then
    ((h 32 2) &&& (p1 ^^^ (-1 : Int32)))
  else
    p1
set_option maxRecDepth 20000 in
set_option maxHeartbeats 4000000 in
theorem R_Ri_bankOf (d : Nat) (xx : rh_L) (sv : Option Nat) (h : Nat → Nat → Int32) (g : Nat → Nat → Int64) (p0 : Int32) (p1 : Int32) {z9 : Int32} (hf : f_Ri_bankOf h p0 p1 = z9) : rh_M rh_PT (cw_L ++ xx) (d + 1) 61 [.ref 32, .int p0, .int p1] (h, g, cw_R sv) (some (.int z9)) (h, g, cw_R sv) := by
  unfold f_Ri_bankOf at hf
  refine rh_go pt_61 (Nat.le_of_ble_eq_true rfl) (lv := [some (.ref 32), some (.int p0), some (.int p1)]) rfl ?_
  refine rh_Ex.blk 2 (s' := ((2, [some (.ref 32), some (.int p0), some (.int p1)], [.int (2 : Int32), .int p0]), (h, g, cw_R sv))) rfl ?_
  refine rh_Ex.stp (s' := ((3, [some (.ref 32), some (.int p0), some (.int p1)], [.int (p0 - p0 / (2 : Int32) * (2 : Int32))]), (h, g, cw_R sv))) rfl (st_irem (by decide)) ?_
  by_cases q1 : (p0 - p0 / (2 : Int32) * (2 : Int32)) = 0
  · rw [if_pos q1] at hf
    refine rh_Ex.stp (s' := ((6, [some (.ref 32), some (.int p0), some (.int p1)], []), (h, g, cw_R sv))) rfl (st_ifne_p q1) ?_
    refine rh_Ex.blk 7 (s' := ((18, [some (.ref 32), some (.int p0), some (.int p1)], [.int ((h 32 2) &&& (p1 ^^^ (-1 : Int32)))]), (h, g, cw_R sv))) rfl ?_
    subst hf
    exact rh_Ex.ret rfl rfl
  · rw [if_neg q1] at hf
    refine rh_Ex.stp (s' := ((17, [some (.ref 32), some (.int p0), some (.int p1)], []), (h, g, cw_R sv))) rfl (st_ifne_n q1) ?_
    refine rh_Ex.blk 1 (s' := ((18, [some (.ref 32), some (.int p0), some (.int p1)], [.int p1]), (h, g, cw_R sv))) rfl ?_
    subst hf
    exact rh_Ex.ret rfl rfl
def b_Ar_fillJ_33_6 (u1 : Int64) (u4 : Int32) : (Int32 × (Nat → Nat → Int64)) → Option ((Int32 × (Nat → Nat → Int64)) ⊕ ((Nat → Nat → Int64))) := fun s6 =>
  if u4 ≤ s6.1 then
    some (.inr s6.2)
  else
    rh_g (0 ≤ s6.1.toInt ∧ s6.1.toInt < ((160 : Nat) : Int)) (
      some (.inl (s6.1 + (1 : Int32), rh_up s6.2 33 s6.1.toNatClampNeg u1))
    )
def f_Ar_fillJ_33 (g : Nat → Nat → Int64) (p0 : Int64) : Option ((Nat → Nat → Int64)) :=
  (rh_loop (b_Ar_fillJ_33_6 p0 (160 : Int32)) rh_N ((0 : Int32), g)).bind (fun r4 =>
    some (r4)
  )
set_option maxRecDepth 20000 in
set_option maxHeartbeats 4000000 in
theorem lb_Ar_fillJ_33_6 (d : Nat) (xx : rh_L) (sv : Option Nat) (u1 : Int64) (u4 : Int32) (h : Nat → Nat → Int32) (v9 : Option Value) (h9 : rh_H) : ∀ s6 x9, b_Ar_fillJ_33_6 u1 u4 s6 = some x9 → Sum.elim (fun s6 => rh_Ex (rh_M rh_PT (cw_L ++ xx) (d + 0)) (cw_L ++ xx) pg_J7_fill_d0a16 ((6, [some (.ref 33), some (.long u1), none, some (.int s6.1), some (.int u4)], []), (h, s6.2, cw_R sv)) v9 h9) (fun e9 => rh_Ex (rh_M rh_PT (cw_L ++ xx) (d + 0)) (cw_L ++ xx) pg_J7_fill_d0a16 ((22, [none, none, none, none, none], []), (h, e9, cw_R sv)) v9 h9) x9 → rh_Ex (rh_M rh_PT (cw_L ++ xx) (d + 0)) (cw_L ++ xx) pg_J7_fill_d0a16 ((6, [some (.ref 33), some (.long u1), none, some (.int s6.1), some (.int u4)], []), (h, s6.2, cw_R sv)) v9 h9 := by
  intro s6 x9 hf hk
  unfold b_Ar_fillJ_33_6 at hf
  refine rh_Ex.blk 2 (s' := ((9, [some (.ref 33), some (.long u1), none, some (.int s6.1), some (.int u4)], [.int u4, .int s6.1]), (h, s6.2, cw_R sv))) rfl ?_
  by_cases q2 : u4 ≤ s6.1
  · rw [if_pos q2] at hf
    refine rh_Ex.stp (s' := ((22, [some (.ref 33), some (.long u1), none, some (.int s6.1), some (.int u4)], []), (h, s6.2, cw_R sv))) rfl (st_icge_p q2) ?_
    obtain rfl := Option.some.inj hf
    refine rh_Ex.fgt [none, none, none, none, none] trivial ?_
    exact hk
  · rw [if_neg q2] at hf
    refine rh_Ex.stp (s' := ((12, [some (.ref 33), some (.long u1), none, some (.int s6.1), some (.int u4)], []), (h, s6.2, cw_R sv))) rfl (st_icge_n q2) ?_
    refine rh_Ex.blk 3 (s' := ((15, [some (.ref 33), some (.long u1), none, some (.int s6.1), some (.int u4)], [.long u1, .int s6.1, .ref 33]), (h, s6.2, cw_R sv))) rfl ?_
    obtain ⟨q3, hf⟩ := rh_gq hf
    refine rh_Ex.stp (s' := ((16, [some (.ref 33), some (.long u1), none, some (.int s6.1), some (.int u4)], []), (h, rh_up s6.2 33 s6.1.toNatClampNeg u1, cw_R sv))) rfl (st_last (n := 160) rfl q3) ?_
    refine rh_Ex.blk 2 (s' := ((6, [some (.ref 33), some (.long u1), none, some (.int (s6.1 + (1 : Int32))), some (.int u4)], []), (h, rh_up s6.2 33 s6.1.toNatClampNeg u1, cw_R sv))) rfl ?_
    obtain rfl := Option.some.inj hf
    refine rh_Ex.fgt [some (.ref 33), some (.long u1), none, some (.int (s6.1 + (1 : Int32))), some (.int u4)] ⟨rfl, rfl, rfl, rfl, trivial⟩ ?_
    exact hk
set_option maxRecDepth 20000 in
set_option maxHeartbeats 4000000 in
theorem R_Ar_fillJ_33 (d : Nat) (xx : rh_L) (sv : Option Nat) (h : Nat → Nat → Int32) (g : Nat → Nat → Int64) (p0 : Int64) {z9 : (Nat → Nat → Int64)} (hf : f_Ar_fillJ_33 g p0 = some z9) : rh_M rh_PT (cw_L ++ xx) (d + 1) 300 [.ref 33, .long p0] (h, g, cw_R sv) none (h, z9, cw_R sv) := by
  unfold f_Ar_fillJ_33 at hf
  refine rh_go pt_300 (Nat.le_of_ble_eq_true rfl) (lv := [some (.ref 33), some (.long p0), none, none, none]) rfl ?_
  refine rh_Ex.blk 5 (s' := ((6, [some (.ref 33), some (.long p0), none, some (.int (0 : Int32)), some (.int (160 : Int32))], []), (h, g, cw_R sv))) rfl ?_
  obtain ⟨r4, hr4, hf⟩ := rh_bq hf
  refine rh_Ex.fgt [some (.ref 33), some (.long p0), none, some (.int (0 : Int32)), some (.int (160 : Int32))] ⟨rfl, rfl, rfl, rfl, trivial⟩ ?_
  refine rh_Ex.loop _ _ _ (lb_Ar_fillJ_33_6 d xx sv p0 (160 : Int32) h  _ _) rh_N _ r4 hr4 ?_
  obtain rfl := Option.some.inj hf
  exact rh_Ex.ret rfl trivial
