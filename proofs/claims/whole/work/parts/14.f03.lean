def b_St_widenFrom_27 (u1 : Int32) (u2 : Int32) (u3 : Int32) : (Int32 × Int32 × (Nat → Nat → Int32)) → Option ((Int32 × Int32 × (Nat → Nat → Int32)) ⊕ (Int32 × (Nat → Nat → Int32))) := fun s27 =>
  if (s27.2.2 42 3) ≤ s27.2.1 then
    some (.inr (s27.1, s27.2.2))
  else
    if s27.1 = 0 then
      some (.inr (s27.1, s27.2.2))
    else
      (f_St_stepped s27.2.2 u2 u3 s27.2.1 (-1 : Int32)).bind (fun x7 =>
        (f_St_addWay s27.2.2 u1 x7).bind (fun x8 =>
          if x8.1 = 0 then
            some (.inl ((0 : Int32), s27.2.1 + (1 : Int32), x8.2))
          else
            (f_St_stepped x8.2 u2 u3 s27.2.1 (1 : Int32)).bind (fun x10 =>
              (f_St_addWay x8.2 u1 x10).bind (fun x11 =>
                if x11.1 = 0 then
                  some (.inl ((0 : Int32), s27.2.1 + (1 : Int32), x11.2))
                else
                  some (.inl ((1 : Int32), s27.2.1 + (1 : Int32), x11.2))
              )
            )
        )
      )
def f_St_widenFrom (h : Nat → Nat → Int32) (p0 : Int32) (p1 : Int32) : Option (Int32 × (Nat → Nat → Int32)) :=
  (f_St_leanOf h p1).bind (fun x1 =>
    if (f_St_bearsLean h x1) = 0 then
      some (((1 : Int32), h))
    else
      (f_St_addWay h p0 p1).bind (fun x3 =>
        (rh_loop (b_St_widenFrom_27 p0 p1 x1) rh_N (x3.1, (0 : Int32), x3.2)).bind (fun r13 =>
          rh_g (r13.1 = 0 ∨ r13.1 = 1) (
            some ((r13.1, r13.2))
          )
        )
      )
  )
set_option maxRecDepth 20000 in
set_option maxHeartbeats 4000000 in
theorem lb_St_widenFrom_27 (d : Nat) (sv : Option Nat) (u1 : Int32) (u2 : Int32) (u3 : Int32) (g : Nat → Nat → Int64) (v9 : Option Value) (h9 : rh_H) : ∀ s27 x9, b_St_widenFrom_27 u1 u2 u3 s27 = some x9 → Sum.elim (fun s27 => rh_Ex (rh_M rh_PT (cw_L ++ cw_X) (d + 2)) (cw_L ++ cw_X) pg_X9_widenFrom ((27, [some (.ref 42), some (.int u1), some (.int u2), some (.int u3), some (.int s27.1), some (.int s27.2.1)], []), (s27.2.2, g, cw_R sv)) v9 h9) (fun e9 => rh_Ex (rh_M rh_PT (cw_L ++ cw_X) (d + 2)) (cw_L ++ cw_X) pg_X9_widenFrom ((88, [none, none, none, none, some (.int e9.1), none], []), (e9.2, g, cw_R sv)) v9 h9) x9 → rh_Ex (rh_M rh_PT (cw_L ++ cw_X) (d + 2)) (cw_L ++ cw_X) pg_X9_widenFrom ((27, [some (.ref 42), some (.int u1), some (.int u2), some (.int u3), some (.int s27.1), some (.int s27.2.1)], []), (s27.2.2, g, cw_R sv)) v9 h9 := by
  intro s27 x9 hf hk
  unfold b_St_widenFrom_27 at hf
  refine rh_Ex.blk 3 (s' := ((33, [some (.ref 42), some (.int u1), some (.int u2), some (.int u3), some (.int s27.1), some (.int s27.2.1)], [.int (s27.2.2 42 3), .int s27.2.1]), (s27.2.2, g, cw_R sv))) rfl ?_
  by_cases q5 : (s27.2.2 42 3) ≤ s27.2.1
  · rw [if_pos q5] at hf
    refine rh_Ex.stp (s' := ((88, [some (.ref 42), some (.int u1), some (.int u2), some (.int u3), some (.int s27.1), some (.int s27.2.1)], []), (s27.2.2, g, cw_R sv))) rfl (st_icge_p q5) ?_
    obtain rfl := Option.some.inj hf
    refine rh_Ex.fgt [none, none, none, none, some (.int s27.1), none] ⟨rfl, trivial⟩ ?_
    exact hk
  · rw [if_neg q5] at hf
    refine rh_Ex.stp (s' := ((36, [some (.ref 42), some (.int u1), some (.int u2), some (.int u3), some (.int s27.1), some (.int s27.2.1)], []), (s27.2.2, g, cw_R sv))) rfl (st_icge_n q5) ?_
    refine rh_Ex.blk 1 (s' := ((38, [some (.ref 42), some (.int u1), some (.int u2), some (.int u3), some (.int s27.1), some (.int s27.2.1)], [.int s27.1]), (s27.2.2, g, cw_R sv))) rfl ?_
    by_cases q6 : s27.1 = 0
    · rw [if_pos q6] at hf
      refine rh_Ex.stp (s' := ((88, [some (.ref 42), some (.int u1), some (.int u2), some (.int u3), some (.int s27.1), some (.int s27.2.1)], []), (s27.2.2, g, cw_R sv))) rfl (st_ifeq_p q6) ?_
      obtain rfl := Option.some.inj hf
      refine rh_Ex.fgt [none, none, none, none, some (.int s27.1), none] ⟨rfl, trivial⟩ ?_
      exact hk
    · rw [if_neg q6] at hf
      refine rh_Ex.stp (s' := ((41, [some (.ref 42), some (.int u1), some (.int u2), some (.int u3), some (.int s27.1), some (.int s27.2.1)], []), (s27.2.2, g, cw_R sv))) rfl (st_ifeq_n q6) ?_
      refine rh_Ex.blk 7 (s' := ((49, [some (.ref 42), some (.int u1), some (.int u2), some (.int u3), some (.int s27.1), some (.int s27.2.1)], [.int (-1 : Int32), .int s27.2.1, .int u3, .int u2, .ref 42, .int u1, .ref 42]), (s27.2.2, g, cw_R sv))) rfl ?_
      obtain ⟨x7, hx7, hf⟩ := rh_bq hf
      refine rh_Ex.call (j := 79) (rc := some 8) [.ref 42, .int u2, .int u3, .int s27.2.1, .int (-1 : Int32)] [.int u1, .ref 42] (some (.int x7)) rfl rfl rfl (Nat.le_of_ble_eq_true rfl) (R_St_stepped d sv s27.2.2 g u2 u3 s27.2.1 (-1 : Int32) hx7) ?_
      show rh_Ex _ _ _ ((52, [some (.ref 42), some (.int u1), some (.int u2), some (.int u3), some (.int s27.1), some (.int s27.2.1)], [.int x7, .int u1, .ref 42]), (s27.2.2, g, cw_R sv)) _ _
      obtain ⟨x8, hx8, hf⟩ := rh_bq hf
      refine rh_Ex.call (j := 81) (rc := some 8) [.ref 42, .int u1, .int x7] [] (some (.int x8.1)) rfl rfl rfl (Nat.le_of_ble_eq_true rfl) (R_St_addWay d sv s27.2.2 g u1 x7 hx8) ?_
      show rh_Ex _ _ _ ((55, [some (.ref 42), some (.int u1), some (.int u2), some (.int u3), some (.int s27.1), some (.int s27.2.1)], [.int x8.1]), (x8.2, g, cw_R sv)) _ _
      by_cases q9 : x8.1 = 0
      · rw [if_pos q9] at hf
        refine rh_Ex.stp (s' := ((79, [some (.ref 42), some (.int u1), some (.int u2), some (.int u3), some (.int s27.1), some (.int s27.2.1)], []), (x8.2, g, cw_R sv))) rfl (st_ifeq_p q9) ?_
        refine rh_Ex.blk 4 (s' := ((27, [some (.ref 42), some (.int u1), some (.int u2), some (.int u3), some (.int (0 : Int32)), some (.int (s27.2.1 + (1 : Int32)))], []), (x8.2, g, cw_R sv))) rfl ?_
        obtain rfl := Option.some.inj hf
        refine rh_Ex.fgt [some (.ref 42), some (.int u1), some (.int u2), some (.int u3), some (.int (0 : Int32)), some (.int (s27.2.1 + (1 : Int32)))] ⟨rfl, rfl, rfl, rfl, rfl, rfl, trivial⟩ ?_
        exact hk
      · rw [if_neg q9] at hf
        refine rh_Ex.stp (s' := ((58, [some (.ref 42), some (.int u1), some (.int u2), some (.int u3), some (.int s27.1), some (.int s27.2.1)], []), (x8.2, g, cw_R sv))) rfl (st_ifeq_n q9) ?_
        refine rh_Ex.blk 7 (s' := ((66, [some (.ref 42), some (.int u1), some (.int u2), some (.int u3), some (.int s27.1), some (.int s27.2.1)], [.int (1 : Int32), .int s27.2.1, .int u3, .int u2, .ref 42, .int u1, .ref 42]), (x8.2, g, cw_R sv))) rfl ?_
        obtain ⟨x10, hx10, hf⟩ := rh_bq hf
        refine rh_Ex.call (j := 79) (rc := some 8) [.ref 42, .int u2, .int u3, .int s27.2.1, .int (1 : Int32)] [.int u1, .ref 42] (some (.int x10)) rfl rfl rfl (Nat.le_of_ble_eq_true rfl) (R_St_stepped d sv x8.2 g u2 u3 s27.2.1 (1 : Int32) hx10) ?_
        show rh_Ex _ _ _ ((69, [some (.ref 42), some (.int u1), some (.int u2), some (.int u3), some (.int s27.1), some (.int s27.2.1)], [.int x10, .int u1, .ref 42]), (x8.2, g, cw_R sv)) _ _
        obtain ⟨x11, hx11, hf⟩ := rh_bq hf
        refine rh_Ex.call (j := 81) (rc := some 8) [.ref 42, .int u1, .int x10] [] (some (.int x11.1)) rfl rfl rfl (Nat.le_of_ble_eq_true rfl) (R_St_addWay d sv x8.2 g u1 x10 hx11) ?_
        show rh_Ex _ _ _ ((72, [some (.ref 42), some (.int u1), some (.int u2), some (.int u3), some (.int s27.1), some (.int s27.2.1)], [.int x11.1]), (x11.2, g, cw_R sv)) _ _
        by_cases q12 : x11.1 = 0
        · rw [if_pos q12] at hf
          refine rh_Ex.stp (s' := ((79, [some (.ref 42), some (.int u1), some (.int u2), some (.int u3), some (.int s27.1), some (.int s27.2.1)], []), (x11.2, g, cw_R sv))) rfl (st_ifeq_p q12) ?_
          refine rh_Ex.blk 4 (s' := ((27, [some (.ref 42), some (.int u1), some (.int u2), some (.int u3), some (.int (0 : Int32)), some (.int (s27.2.1 + (1 : Int32)))], []), (x11.2, g, cw_R sv))) rfl ?_
          obtain rfl := Option.some.inj hf
          refine rh_Ex.fgt [some (.ref 42), some (.int u1), some (.int u2), some (.int u3), some (.int (0 : Int32)), some (.int (s27.2.1 + (1 : Int32)))] ⟨rfl, rfl, rfl, rfl, rfl, rfl, trivial⟩ ?_
          exact hk
        · rw [if_neg q12] at hf
          refine rh_Ex.stp (s' := ((75, [some (.ref 42), some (.int u1), some (.int u2), some (.int u3), some (.int s27.1), some (.int s27.2.1)], []), (x11.2, g, cw_R sv))) rfl (st_ifeq_n q12) ?_
          refine rh_Ex.blk 5 (s' := ((27, [some (.ref 42), some (.int u1), some (.int u2), some (.int u3), some (.int (1 : Int32)), some (.int (s27.2.1 + (1 : Int32)))], []), (x11.2, g, cw_R sv))) rfl ?_
          obtain rfl := Option.some.inj hf
          refine rh_Ex.fgt [some (.ref 42), some (.int u1), some (.int u2), some (.int u3), some (.int (1 : Int32)), some (.int (s27.2.1 + (1 : Int32)))] ⟨rfl, rfl, rfl, rfl, rfl, rfl, trivial⟩ ?_
          exact hk
set_option maxRecDepth 20000 in
set_option maxHeartbeats 4000000 in
theorem R_St_widenFrom (d : Nat) (sv : Option Nat) (h : Nat → Nat → Int32) (g : Nat → Nat → Int64) (p0 : Int32) (p1 : Int32) {z9 : Int32 × (Nat → Nat → Int32)} (hf : f_St_widenFrom h p0 p1 = some z9) : rh_M rh_PT (cw_L ++ cw_X) (d + 3) 83 [.ref 42, .int p0, .int p1] (h, g, cw_R sv) (some (.int z9.1)) (z9.2, g, cw_R sv) := by
  unfold f_St_widenFrom at hf
  refine rh_go pt_83 (Nat.le_of_ble_eq_true rfl) (lv := [some (.ref 42), some (.int p0), some (.int p1), none, none, none]) rfl ?_
  refine rh_Ex.blk 2 (s' := ((2, [some (.ref 42), some (.int p0), some (.int p1), none, none, none], [.int p1, .ref 42]), (h, g, cw_R sv))) rfl ?_
  obtain ⟨x1, hx1, hf⟩ := rh_bq hf
  refine rh_Ex.call (j := 77) (rc := some 8) [.ref 42, .int p1] [] (some (.int x1)) rfl rfl rfl (Nat.le_of_ble_eq_true rfl) (R_St_leanOf (d + 1) sv h g p1 hx1) ?_
  show rh_Ex _ _ _ ((5, [some (.ref 42), some (.int p0), some (.int p1), none, none, none], [.int x1]), (h, g, cw_R sv)) _ _
  refine rh_Ex.blk 3 (s' := ((8, [some (.ref 42), some (.int p0), some (.int p1), some (.int x1), none, none], [.int x1, .ref 42]), (h, g, cw_R sv))) rfl ?_
  refine rh_Ex.call (j := 78) (rc := some 8) [.ref 42, .int x1] [] (some (.int (f_St_bearsLean h x1))) rfl rfl rfl (Nat.le_of_ble_eq_true rfl) (R_St_bearsLean (d + 1) sv h g x1 rfl) ?_
  show rh_Ex _ _ _ ((11, [some (.ref 42), some (.int p0), some (.int p1), some (.int x1), none, none], [.int (f_St_bearsLean h x1)]), (h, g, cw_R sv)) _ _
  by_cases q2 : (f_St_bearsLean h x1) = 0
  · rw [if_pos q2] at hf
    refine rh_Ex.stp (s' := ((14, [some (.ref 42), some (.int p0), some (.int p1), some (.int x1), none, none], []), (h, g, cw_R sv))) rfl (st_ifne_p q2) ?_
    refine rh_Ex.blk 1 (s' := ((15, [some (.ref 42), some (.int p0), some (.int p1), some (.int x1), none, none], [.int (1 : Int32)]), (h, g, cw_R sv))) rfl ?_
    obtain rfl := Option.some.inj hf
    exact rh_Ex.ret rfl ⟨rfl, Or.inr rfl⟩
  · rw [if_neg q2] at hf
    refine rh_Ex.stp (s' := ((16, [some (.ref 42), some (.int p0), some (.int p1), some (.int x1), none, none], []), (h, g, cw_R sv))) rfl (st_ifne_n q2) ?_
    refine rh_Ex.blk 3 (s' := ((19, [some (.ref 42), some (.int p0), some (.int p1), some (.int x1), none, none], [.int p1, .int p0, .ref 42]), (h, g, cw_R sv))) rfl ?_
    obtain ⟨x3, hx3, hf⟩ := rh_bq hf
    refine rh_Ex.call (j := 81) (rc := some 8) [.ref 42, .int p0, .int p1] [] (some (.int x3.1)) rfl rfl rfl (Nat.le_of_ble_eq_true rfl) (R_St_addWay d sv h g p0 p1 hx3) ?_
    show rh_Ex _ _ _ ((22, [some (.ref 42), some (.int p0), some (.int p1), some (.int x1), none, none], [.int x3.1]), (x3.2, g, cw_R sv)) _ _
    refine rh_Ex.blk 3 (s' := ((27, [some (.ref 42), some (.int p0), some (.int p1), some (.int x1), some (.int x3.1), some (.int (0 : Int32))], []), (x3.2, g, cw_R sv))) rfl ?_
    obtain ⟨r13, hr13, hf⟩ := rh_bq hf
    refine rh_Ex.fgt [some (.ref 42), some (.int p0), some (.int p1), some (.int x1), some (.int x3.1), some (.int (0 : Int32))] ⟨rfl, rfl, rfl, rfl, rfl, rfl, trivial⟩ ?_
    refine rh_Ex.loop _ _ _ (lb_St_widenFrom_27 d sv p0 p1 x1  g _ _) rh_N _ r13 hr13 ?_
    refine rh_Ex.blk 1 (s' := ((90, [none, none, none, none, some (.int r13.1), none], [.int r13.1]), (r13.2, g, cw_R sv))) rfl ?_
    obtain ⟨q14, hf⟩ := rh_gq hf
    obtain rfl := Option.some.inj hf
    exact rh_Ex.ret rfl ⟨rfl, q14⟩
def b_St_widen_35 (u1 : Int32) (u3 : Int32) : (Int32 × (Nat → Nat → Int32)) → Option ((Int32 × (Nat → Nat → Int32)) ⊕ (((Nat → Nat → Int32)) ⊕ (Int32 × (Nat → Nat → Int32)))) := fun s35 =>
  rh_g (0 ≤ (u3 - (1 : Int32)).toInt ∧ (u3 - (1 : Int32)).toInt < ((21 : Nat) : Int)) (
    if (s35.2 46 (u3 - (1 : Int32)).toNatClampNeg) ≤ s35.1 then
      some (.inr (.inl s35.2))
    else
      rh_g (0 ≤ (((u3 - (1 : Int32)) * (500 : Int32)) + s35.1).toInt ∧ (((u3 - (1 : Int32)) * (500 : Int32)) + s35.1).toInt < ((10500 : Nat) : Int)) (
        (f_St_widenFrom s35.2 u3 (s35.2 45 (((u3 - (1 : Int32)) * (500 : Int32)) + s35.1).toNatClampNeg)).bind (fun x11 =>
          if x11.1 = 0 then
            some (.inr (.inr ((-3 : Int32), x11.2)))
          else
            some (.inl (s35.1 + (1 : Int32), x11.2))
        )
      )
  )
def b_St_widen_7 (u1 : Int32) : (Int32 × (Nat → Nat → Int32)) → Option ((Int32 × (Nat → Nat → Int32)) ⊕ (((Nat → Nat → Int32)) ⊕ (Int32 × (Nat → Nat → Int32)))) := fun s7 =>
  if u1 < s7.1 then
    some (.inr (.inl s7.2))
  else
    (f_St_weighAt s7.2 s7.1).bind (fun x4 =>
      (f_Ar_fill_48 x4 (0 : Int32)).bind (fun x5 =>
        rh_g (0 ≤ s7.1.toInt ∧ s7.1.toInt < ((21 : Nat) : Int)) (
          (rh_loop (b_St_widen_35 u1 s7.1) rh_N ((0 : Int32), rh_up x5 46 s7.1.toNatClampNeg (0 : Int32))).bind (fun r13 => match r13 with
            | .inl e14 =>
              rh_g (0 ≤ s7.1.toInt ∧ s7.1.toInt < ((21 : Nat) : Int)) (
                if (e14 46 s7.1.toNatClampNeg) = 0 then
                  some (.inr (.inr ((0 : Int32), e14)))
                else
                  some (.inl (s7.1 + (1 : Int32), e14))
              )
            | .inr t15 => some (.inr (.inr t15)))
        )
      )
    )
def f_St_widen (h : Nat → Nat → Int32) (p0 : Int32) (p1 : Int32) : Option (Int32 × (Nat → Nat → Int32)) :=
  (f_St_begin h p1).bind (fun x1 =>
    (rh_loop (b_St_widen_7 p0) rh_N ((1 : Int32), x1)).bind (fun r18 => match r18 with
      | .inl e19 =>
        some (((1 : Int32), e19))
      | .inr t20 => some t20)
  )
set_option maxRecDepth 20000 in
set_option maxHeartbeats 4000000 in
theorem lb_St_widen_35 (d : Nat) (sv : Option Nat) (u1 : Int32) (u3 : Int32) (g : Nat → Nat → Int64) (v9 : Option Value) (h9 : rh_H) : ∀ s35 x9, b_St_widen_35 u1 u3 s35 = some x9 → Sum.elim (fun s35 => rh_Ex (rh_M rh_PT (cw_L ++ cw_X) (d + 4)) (cw_L ++ cw_X) pg_X9_widen ((35, [some (.ref 42), some (.int u1), none, some (.int u3), some (.int s35.1)], []), (s35.2, g, cw_R sv)) v9 h9) (Sum.elim (fun e9 => rh_Ex (rh_M rh_PT (cw_L ++ cw_X) (d + 4)) (cw_L ++ cw_X) pg_X9_widen ((80, [some (.ref 42), some (.int u1), none, some (.int u3), none], []), (e9, g, cw_R sv)) v9 h9) (fun t9 => v9 = (some (.int t9.1)) ∧ h9 = (t9.2, g, cw_R sv))) x9 → rh_Ex (rh_M rh_PT (cw_L ++ cw_X) (d + 4)) (cw_L ++ cw_X) pg_X9_widen ((35, [some (.ref 42), some (.int u1), none, some (.int u3), some (.int s35.1)], []), (s35.2, g, cw_R sv)) v9 h9 := by
  intro s35 x9 hf hk
  unfold b_St_widen_35 at hf
  refine rh_Ex.blk 6 (s' := ((44, [some (.ref 42), some (.int u1), none, some (.int u3), some (.int s35.1)], [.int (u3 - (1 : Int32)), .ref 46, .int s35.1]), (s35.2, g, cw_R sv))) rfl ?_
  obtain ⟨q8, hf⟩ := rh_gq hf
  refine rh_Ex.stp (s' := ((45, [some (.ref 42), some (.int u1), none, some (.int u3), some (.int s35.1)], [.int (s35.2 46 (u3 - (1 : Int32)).toNatClampNeg), .int s35.1]), (s35.2, g, cw_R sv))) rfl (st_iald (n := 21) rfl q8) ?_
  by_cases q9 : (s35.2 46 (u3 - (1 : Int32)).toNatClampNeg) ≤ s35.1
  · rw [if_pos q9] at hf
    refine rh_Ex.stp (s' := ((80, [some (.ref 42), some (.int u1), none, some (.int u3), some (.int s35.1)], []), (s35.2, g, cw_R sv))) rfl (st_icge_p q9) ?_
    obtain rfl := Option.some.inj hf
    refine rh_Ex.fgt [some (.ref 42), some (.int u1), none, some (.int u3), none] ⟨rfl, rfl, rfl, trivial⟩ ?_
    exact hk
  · rw [if_neg q9] at hf
    refine rh_Ex.stp (s' := ((48, [some (.ref 42), some (.int u1), none, some (.int u3), some (.int s35.1)], []), (s35.2, g, cw_R sv))) rfl (st_icge_n q9) ?_
    refine rh_Ex.blk 11 (s' := ((64, [some (.ref 42), some (.int u1), none, some (.int u3), some (.int s35.1)], [.int (((u3 - (1 : Int32)) * (500 : Int32)) + s35.1), .ref 45, .int u3, .ref 42]), (s35.2, g, cw_R sv))) rfl ?_
    obtain ⟨q10, hf⟩ := rh_gq hf
    refine rh_Ex.stp (s' := ((65, [some (.ref 42), some (.int u1), none, some (.int u3), some (.int s35.1)], [.int (s35.2 45 (((u3 - (1 : Int32)) * (500 : Int32)) + s35.1).toNatClampNeg), .int u3, .ref 42]), (s35.2, g, cw_R sv))) rfl (st_iald (n := 10500) rfl q10) ?_
    obtain ⟨x11, hx11, hf⟩ := rh_bq hf
    refine rh_Ex.call (j := 83) (rc := some 8) [.ref 42, .int u3, .int (s35.2 45 (((u3 - (1 : Int32)) * (500 : Int32)) + s35.1).toNatClampNeg)] [] (some (.int x11.1)) rfl rfl rfl (Nat.le_of_ble_eq_true rfl) (R_St_widenFrom (d + 1) sv s35.2 g u3 (s35.2 45 (((u3 - (1 : Int32)) * (500 : Int32)) + s35.1).toNatClampNeg) hx11) ?_
    show rh_Ex _ _ _ ((68, [some (.ref 42), some (.int u1), none, some (.int u3), some (.int s35.1)], [.int x11.1]), (x11.2, g, cw_R sv)) _ _
    by_cases q12 : x11.1 = 0
    · rw [if_pos q12] at hf
      refine rh_Ex.stp (s' := ((71, [some (.ref 42), some (.int u1), none, some (.int u3), some (.int s35.1)], []), (x11.2, g, cw_R sv))) rfl (st_ifne_p q12) ?_
      refine rh_Ex.blk 1 (s' := ((73, [some (.ref 42), some (.int u1), none, some (.int u3), some (.int s35.1)], [.int (-3 : Int32)]), (x11.2, g, cw_R sv))) rfl ?_
      obtain rfl := Option.some.inj hf
      obtain ⟨rfl, rfl⟩ := hk
      exact rh_Ex.ret rfl rfl
    · rw [if_neg q12] at hf
      refine rh_Ex.stp (s' := ((74, [some (.ref 42), some (.int u1), none, some (.int u3), some (.int s35.1)], []), (x11.2, g, cw_R sv))) rfl (st_ifne_n q12) ?_
      refine rh_Ex.blk 2 (s' := ((35, [some (.ref 42), some (.int u1), none, some (.int u3), some (.int (s35.1 + (1 : Int32)))], []), (x11.2, g, cw_R sv))) rfl ?_
      obtain rfl := Option.some.inj hf
      refine rh_Ex.fgt [some (.ref 42), some (.int u1), none, some (.int u3), some (.int (s35.1 + (1 : Int32)))] ⟨rfl, rfl, rfl, rfl, trivial⟩ ?_
      exact hk
set_option maxRecDepth 20000 in
set_option maxHeartbeats 4000000 in
theorem lb_St_widen_7 (d : Nat) (sv : Option Nat) (u1 : Int32) (g : Nat → Nat → Int64) (v9 : Option Value) (h9 : rh_H) : ∀ s7 x9, b_St_widen_7 u1 s7 = some x9 → Sum.elim (fun s7 => rh_Ex (rh_M rh_PT (cw_L ++ cw_X) (d + 4)) (cw_L ++ cw_X) pg_X9_widen ((7, [some (.ref 42), some (.int u1), none, some (.int s7.1), none], []), (s7.2, g, cw_R sv)) v9 h9) (Sum.elim (fun e9 => rh_Ex (rh_M rh_PT (cw_L ++ cw_X) (d + 4)) (cw_L ++ cw_X) pg_X9_widen ((97, [none, none, none, none, none], []), (e9, g, cw_R sv)) v9 h9) (fun t9 => v9 = (some (.int t9.1)) ∧ h9 = (t9.2, g, cw_R sv))) x9 → rh_Ex (rh_M rh_PT (cw_L ++ cw_X) (d + 4)) (cw_L ++ cw_X) pg_X9_widen ((7, [some (.ref 42), some (.int u1), none, some (.int s7.1), none], []), (s7.2, g, cw_R sv)) v9 h9 := by
  intro s7 x9 hf hk
  unfold b_St_widen_7 at hf
  refine rh_Ex.blk 2 (s' := ((9, [some (.ref 42), some (.int u1), none, some (.int s7.1), none], [.int u1, .int s7.1]), (s7.2, g, cw_R sv))) rfl ?_
  by_cases q3 : u1 < s7.1
  · rw [if_pos q3] at hf
    refine rh_Ex.stp (s' := ((97, [some (.ref 42), some (.int u1), none, some (.int s7.1), none], []), (s7.2, g, cw_R sv))) rfl (st_icgt_p q3) ?_
    obtain rfl := Option.some.inj hf
    refine rh_Ex.fgt [none, none, none, none, none] trivial ?_
    exact hk
  · rw [if_neg q3] at hf
    refine rh_Ex.stp (s' := ((12, [some (.ref 42), some (.int u1), none, some (.int s7.1), none], []), (s7.2, g, cw_R sv))) rfl (st_icgt_n q3) ?_
    refine rh_Ex.blk 2 (s' := ((14, [some (.ref 42), some (.int u1), none, some (.int s7.1), none], [.int s7.1, .ref 42]), (s7.2, g, cw_R sv))) rfl ?_
    obtain ⟨x4, hx4, hf⟩ := rh_bq hf
    refine rh_Ex.call (j := 76) (rc := some 8) [.ref 42, .int s7.1] [] none rfl rfl rfl (Nat.le_of_ble_eq_true rfl) (R_St_weighAt d sv s7.2 g s7.1 hx4) ?_
    show rh_Ex _ _ _ ((17, [some (.ref 42), some (.int u1), none, some (.int s7.1), none], []), (x4, g, cw_R sv)) _ _
    refine rh_Ex.blk 3 (s' := ((22, [some (.ref 42), some (.int u1), none, some (.int s7.1), none], [.int (0 : Int32), .ref 48]), (x4, g, cw_R sv))) rfl ?_
    obtain ⟨x5, hx5, hf⟩ := rh_bq hf
    refine rh_Ex.call (j := 301) (rc := none) [.ref 48, .int (0 : Int32)] [] none rfl rfl trivial (Nat.le_of_ble_eq_true rfl) (R_Ar_fill_48 (d + 3) sv x4 g (0 : Int32) hx5) ?_
    show rh_Ex _ _ _ ((25, [some (.ref 42), some (.int u1), none, some (.int s7.1), none], []), (x5, g, cw_R sv)) _ _
    refine rh_Ex.blk 4 (s' := ((31, [some (.ref 42), some (.int u1), none, some (.int s7.1), none], [.int (0 : Int32), .int s7.1, .ref 46]), (x5, g, cw_R sv))) rfl ?_
    obtain ⟨q6, hf⟩ := rh_gq hf
    refine rh_Ex.stp (s' := ((32, [some (.ref 42), some (.int u1), none, some (.int s7.1), none], []), (rh_up x5 46 s7.1.toNatClampNeg (0 : Int32), g, cw_R sv))) rfl (st_iast (n := 21) rfl q6) ?_
    refine rh_Ex.blk 2 (s' := ((35, [some (.ref 42), some (.int u1), none, some (.int s7.1), some (.int (0 : Int32))], []), (rh_up x5 46 s7.1.toNatClampNeg (0 : Int32), g, cw_R sv))) rfl ?_
    obtain ⟨r13, hr13, hf⟩ := rh_bq hf
    refine rh_Ex.fgt [some (.ref 42), some (.int u1), none, some (.int s7.1), some (.int (0 : Int32))] ⟨rfl, rfl, rfl, rfl, trivial⟩ ?_
    refine rh_Ex.loop _ _ _ (lb_St_widen_35 d sv u1 s7.1  g _ _) rh_N _ r13 hr13 ?_
    rcases r13 with e14 | t15
    · dsimp only at hf
      refine rh_Ex.blk 3 (s' := ((85, [some (.ref 42), some (.int u1), none, some (.int s7.1), none], [.int s7.1, .ref 46]), (e14, g, cw_R sv))) rfl ?_
      obtain ⟨q16, hf⟩ := rh_gq hf
      refine rh_Ex.stp (s' := ((86, [some (.ref 42), some (.int u1), none, some (.int s7.1), none], [.int (e14 46 s7.1.toNatClampNeg)]), (e14, g, cw_R sv))) rfl (st_iald (n := 21) rfl q16) ?_
      by_cases q17 : (e14 46 s7.1.toNatClampNeg) = 0
      · rw [if_pos q17] at hf
        refine rh_Ex.stp (s' := ((89, [some (.ref 42), some (.int u1), none, some (.int s7.1), none], []), (e14, g, cw_R sv))) rfl (st_ifne_p q17) ?_
        refine rh_Ex.blk 1 (s' := ((90, [some (.ref 42), some (.int u1), none, some (.int s7.1), none], [.int (0 : Int32)]), (e14, g, cw_R sv))) rfl ?_
        obtain rfl := Option.some.inj hf
        obtain ⟨rfl, rfl⟩ := hk
        exact rh_Ex.ret rfl rfl
      · rw [if_neg q17] at hf
        refine rh_Ex.stp (s' := ((91, [some (.ref 42), some (.int u1), none, some (.int s7.1), none], []), (e14, g, cw_R sv))) rfl (st_ifne_n q17) ?_
        refine rh_Ex.blk 2 (s' := ((7, [some (.ref 42), some (.int u1), none, some (.int (s7.1 + (1 : Int32))), none], []), (e14, g, cw_R sv))) rfl ?_
        obtain rfl := Option.some.inj hf
        refine rh_Ex.fgt [some (.ref 42), some (.int u1), none, some (.int (s7.1 + (1 : Int32))), none] ⟨rfl, rfl, rfl, trivial⟩ ?_
        exact hk
    · dsimp only at hf
      obtain rfl := Option.some.inj hf
      exact hk
set_option maxRecDepth 20000 in
set_option maxHeartbeats 4000000 in
theorem R_St_widen (d : Nat) (sv : Option Nat) (h : Nat → Nat → Int32) (g : Nat → Nat → Int64) (p0 : Int32) (p1 : Int32) {z9 : Int32 × (Nat → Nat → Int32)} (hf : f_St_widen h p0 p1 = some z9) : rh_M rh_PT (cw_L ++ cw_X) (d + 5) 82 [.ref 42, .int p0, .int p1] (h, g, cw_R sv) (some (.int z9.1)) (z9.2, g, cw_R sv) := by
  unfold f_St_widen at hf
  refine rh_go pt_82 (Nat.le_of_ble_eq_true rfl) (lv := [some (.ref 42), some (.int p0), some (.int p1), none, none]) rfl ?_
  refine rh_Ex.blk 2 (s' := ((2, [some (.ref 42), some (.int p0), some (.int p1), none, none], [.int p1, .ref 42]), (h, g, cw_R sv))) rfl ?_
  obtain ⟨x1, hx1, hf⟩ := rh_bq hf
  refine rh_Ex.call (j := 75) (rc := some 8) [.ref 42, .int p1] [] none rfl rfl rfl (Nat.le_of_ble_eq_true rfl) (R_St_begin (d + 2) sv h g p1 hx1) ?_
  show rh_Ex _ _ _ ((5, [some (.ref 42), some (.int p0), some (.int p1), none, none], []), (x1, g, cw_R sv)) _ _
  refine rh_Ex.blk 2 (s' := ((7, [some (.ref 42), some (.int p0), some (.int p1), some (.int (1 : Int32)), none], []), (x1, g, cw_R sv))) rfl ?_
  obtain ⟨r18, hr18, hf⟩ := rh_bq hf
  refine rh_Ex.fgt [some (.ref 42), some (.int p0), none, some (.int (1 : Int32)), none] ⟨rfl, rfl, rfl, trivial⟩ ?_
  refine rh_Ex.loop _ _ _ (lb_St_widen_7 d sv p0  g _ _) rh_N _ r18 hr18 ?_
  rcases r18 with e19 | t20
  · dsimp only at hf
    refine rh_Ex.blk 1 (s' := ((98, [none, none, none, none, none], [.int (1 : Int32)]), (e19, g, cw_R sv))) rfl ?_
    obtain rfl := Option.some.inj hf
    exact rh_Ex.ret rfl rfl
  · dsimp only at hf
    obtain rfl := Option.some.inj hf
    exact ⟨rfl, rfl⟩
def j_St_bestBy_20 (h : Nat → Nat → Int32) (p0 : Int32) (p2 : Int32) (p3 : Int32) (k0 : Int32) : Option (Int32) :=
  if k0 = 0 then
    if (1000000000 : Int32) = (1000000000 : Int32) then
      some ((1000000000 : Int32))
    else
      some ((((((1000000000 : Int32) / (32 : Int32)) + p2) * (32 : Int32)) + p3))
  else
    rh_g (0 ≤ (((p0 * (500 : Int32)) + k0) - (1 : Int32)).toInt ∧ (((p0 * (500 : Int32)) + k0) - (1 : Int32)).toInt < ((10500 : Nat) : Int)) (
      if (h 47 (((p0 * (500 : Int32)) + k0) - (1 : Int32)).toNatClampNeg) = (1000000000 : Int32) then
        some ((1000000000 : Int32))
      else
        some ((((((h 47 (((p0 * (500 : Int32)) + k0) - (1 : Int32)).toNatClampNeg) / (32 : Int32)) + p2) * (32 : Int32)) + p3))
    )
def f_St_bestBy (h : Nat → Nat → Int32) (p0 : Int32) (p1 : Int32) (p2 : Int32) (p3 : Int32) : Option (Int32) :=
  if p1 = (-1 : Int32) then
    j_St_bestBy_20 h p0 p2 p3 (0 : Int32)
  else
    (f_St_slotOf h p0 p1).bind (fun x6 =>
      rh_g (0 ≤ x6.toInt ∧ x6.toInt < ((1024 : Nat) : Int)) (
        j_St_bestBy_20 h p0 p2 p3 (h 48 x6.toNatClampNeg)
      )
    )
set_option maxRecDepth 20000 in
set_option maxHeartbeats 4000000 in
theorem lj_St_bestBy_20 (d : Nat) (sv : Option Nat) (h : Nat → Nat → Int32) (p0 : Int32) (p2 : Int32) (p3 : Int32) (k0 : Int32) (g : Nat → Nat → Int64) {z9 : Int32} (hf : j_St_bestBy_20 h p0 p2 p3 k0 = some z9) : rh_Ex (rh_M rh_PT (cw_L ++ cw_X) (d + 1)) (cw_L ++ cw_X) pg_X9_bestBy ((20, [some (.ref 42), some (.int p0), none, some (.int p2), some (.int p3), none, none], [.int k0]), (h, g, cw_R sv)) (some (.int z9)) (h, g, cw_R sv) := by
  unfold j_St_bestBy_20 at hf
  refine rh_Ex.blk 2 (s' := ((24, [some (.ref 42), some (.int p0), none, some (.int p2), some (.int p3), some (.int k0), none], [.int k0]), (h, g, cw_R sv))) rfl ?_
  by_cases q2 : k0 = 0
  · rw [if_pos q2] at hf
    refine rh_Ex.stp (s' := ((27, [some (.ref 42), some (.int p0), none, some (.int p2), some (.int p3), some (.int k0), none], []), (h, g, cw_R sv))) rfl (st_ifne_p q2) ?_
    refine rh_Ex.blk 5 (s' := ((53, [some (.ref 42), some (.int p0), none, some (.int p2), some (.int p3), some (.int k0), some (.int (1000000000 : Int32))], [.int (1000000000 : Int32), .int (1000000000 : Int32)]), (h, g, cw_R sv))) rfl ?_
    by_cases q3 : (1000000000 : Int32) = (1000000000 : Int32)
    · rw [if_pos q3] at hf
      refine rh_Ex.stp (s' := ((56, [some (.ref 42), some (.int p0), none, some (.int p2), some (.int p3), some (.int k0), some (.int (1000000000 : Int32))], []), (h, g, cw_R sv))) rfl (st_icne_p q3) ?_
      refine rh_Ex.blk 2 (s' := ((74, [some (.ref 42), some (.int p0), none, some (.int p2), some (.int p3), some (.int k0), some (.int (1000000000 : Int32))], [.int (1000000000 : Int32)]), (h, g, cw_R sv))) rfl ?_
      obtain rfl := Option.some.inj hf
      exact rh_Ex.ret rfl rfl
    · rw [if_neg q3] at hf
      refine rh_Ex.stp (s' := ((61, [some (.ref 42), some (.int p0), none, some (.int p2), some (.int p3), some (.int k0), some (.int (1000000000 : Int32))], []), (h, g, cw_R sv))) rfl (st_icne_n q3) ?_
      refine rh_Ex.blk 2 (s' := ((65, [some (.ref 42), some (.int p0), none, some (.int p2), some (.int p3), some (.int k0), some (.int (1000000000 : Int32))], [.int (32 : Int32), .int (1000000000 : Int32)]), (h, g, cw_R sv))) rfl ?_
      refine rh_Ex.stp (s' := ((66, [some (.ref 42), some (.int p0), none, some (.int p2), some (.int p3), some (.int k0), some (.int (1000000000 : Int32))], [.int ((1000000000 : Int32) / (32 : Int32))]), (h, g, cw_R sv))) rfl (st_idiv (by decide)) ?_
      refine rh_Ex.blk 6 (s' := ((74, [some (.ref 42), some (.int p0), none, some (.int p2), some (.int p3), some (.int k0), some (.int (1000000000 : Int32))], [.int (((((1000000000 : Int32) / (32 : Int32)) + p2) * (32 : Int32)) + p3)]), (h, g, cw_R sv))) rfl ?_
      obtain rfl := Option.some.inj hf
      exact rh_Ex.ret rfl rfl
  · rw [if_neg q2] at hf
    refine rh_Ex.stp (s' := ((32, [some (.ref 42), some (.int p0), none, some (.int p2), some (.int p3), some (.int k0), none], []), (h, g, cw_R sv))) rfl (st_ifne_n q2) ?_
    refine rh_Ex.blk 9 (s' := ((46, [some (.ref 42), some (.int p0), none, some (.int p2), some (.int p3), some (.int k0), none], [.int (((p0 * (500 : Int32)) + k0) - (1 : Int32)), .ref 47]), (h, g, cw_R sv))) rfl ?_
    obtain ⟨q4, hf⟩ := rh_gq hf
    refine rh_Ex.stp (s' := ((47, [some (.ref 42), some (.int p0), none, some (.int p2), some (.int p3), some (.int k0), none], [.int (h 47 (((p0 * (500 : Int32)) + k0) - (1 : Int32)).toNatClampNeg)]), (h, g, cw_R sv))) rfl (st_iald (n := 10500) rfl q4) ?_
    refine rh_Ex.blk 3 (s' := ((53, [some (.ref 42), some (.int p0), none, some (.int p2), some (.int p3), some (.int k0), some (.int (h 47 (((p0 * (500 : Int32)) + k0) - (1 : Int32)).toNatClampNeg))], [.int (1000000000 : Int32), .int (h 47 (((p0 * (500 : Int32)) + k0) - (1 : Int32)).toNatClampNeg)]), (h, g, cw_R sv))) rfl ?_
    by_cases q5 : (h 47 (((p0 * (500 : Int32)) + k0) - (1 : Int32)).toNatClampNeg) = (1000000000 : Int32)
    · rw [if_pos q5] at hf
      refine rh_Ex.stp (s' := ((56, [some (.ref 42), some (.int p0), none, some (.int p2), some (.int p3), some (.int k0), some (.int (h 47 (((p0 * (500 : Int32)) + k0) - (1 : Int32)).toNatClampNeg))], []), (h, g, cw_R sv))) rfl (st_icne_p q5) ?_
      refine rh_Ex.blk 2 (s' := ((74, [some (.ref 42), some (.int p0), none, some (.int p2), some (.int p3), some (.int k0), some (.int (h 47 (((p0 * (500 : Int32)) + k0) - (1 : Int32)).toNatClampNeg))], [.int (1000000000 : Int32)]), (h, g, cw_R sv))) rfl ?_
      obtain rfl := Option.some.inj hf
      exact rh_Ex.ret rfl rfl
    · rw [if_neg q5] at hf
      refine rh_Ex.stp (s' := ((61, [some (.ref 42), some (.int p0), none, some (.int p2), some (.int p3), some (.int k0), some (.int (h 47 (((p0 * (500 : Int32)) + k0) - (1 : Int32)).toNatClampNeg))], []), (h, g, cw_R sv))) rfl (st_icne_n q5) ?_
      refine rh_Ex.blk 2 (s' := ((65, [some (.ref 42), some (.int p0), none, some (.int p2), some (.int p3), some (.int k0), some (.int (h 47 (((p0 * (500 : Int32)) + k0) - (1 : Int32)).toNatClampNeg))], [.int (32 : Int32), .int (h 47 (((p0 * (500 : Int32)) + k0) - (1 : Int32)).toNatClampNeg)]), (h, g, cw_R sv))) rfl ?_
      refine rh_Ex.stp (s' := ((66, [some (.ref 42), some (.int p0), none, some (.int p2), some (.int p3), some (.int k0), some (.int (h 47 (((p0 * (500 : Int32)) + k0) - (1 : Int32)).toNatClampNeg))], [.int ((h 47 (((p0 * (500 : Int32)) + k0) - (1 : Int32)).toNatClampNeg) / (32 : Int32))]), (h, g, cw_R sv))) rfl (st_idiv (by decide)) ?_
      refine rh_Ex.blk 6 (s' := ((74, [some (.ref 42), some (.int p0), none, some (.int p2), some (.int p3), some (.int k0), some (.int (h 47 (((p0 * (500 : Int32)) + k0) - (1 : Int32)).toNatClampNeg))], [.int (((((h 47 (((p0 * (500 : Int32)) + k0) - (1 : Int32)).toNatClampNeg) / (32 : Int32)) + p2) * (32 : Int32)) + p3)]), (h, g, cw_R sv))) rfl ?_
      obtain rfl := Option.some.inj hf
      exact rh_Ex.ret rfl rfl
set_option maxRecDepth 20000 in
set_option maxHeartbeats 4000000 in
theorem R_St_bestBy (d : Nat) (sv : Option Nat) (h : Nat → Nat → Int32) (g : Nat → Nat → Int64) (p0 : Int32) (p1 : Int32) (p2 : Int32) (p3 : Int32) {z9 : Int32} (hf : f_St_bestBy h p0 p1 p2 p3 = some z9) : rh_M rh_PT (cw_L ++ cw_X) (d + 2) 86 [.ref 42, .int p0, .int p1, .int p2, .int p3] (h, g, cw_R sv) (some (.int z9)) (h, g, cw_R sv) := by
  unfold f_St_bestBy at hf
  refine rh_go pt_86 (Nat.le_of_ble_eq_true rfl) (lv := [some (.ref 42), some (.int p0), some (.int p1), some (.int p2), some (.int p3), none, none]) rfl ?_
  refine rh_Ex.blk 2 (s' := ((2, [some (.ref 42), some (.int p0), some (.int p1), some (.int p2), some (.int p3), none, none], [.int (-1 : Int32), .int p1]), (h, g, cw_R sv))) rfl ?_
  by_cases q1 : p1 = (-1 : Int32)
  · rw [if_pos q1] at hf
    refine rh_Ex.stp (s' := ((5, [some (.ref 42), some (.int p0), some (.int p1), some (.int p2), some (.int p3), none, none], []), (h, g, cw_R sv))) rfl (st_icne_p q1) ?_
    refine rh_Ex.blk 2 (s' := ((20, [some (.ref 42), some (.int p0), some (.int p1), some (.int p2), some (.int p3), none, none], [.int (0 : Int32)]), (h, g, cw_R sv))) rfl ?_
    refine rh_Ex.fgt [some (.ref 42), some (.int p0), none, some (.int p2), some (.int p3), none, none] ⟨rfl, rfl, rfl, rfl, trivial⟩ ?_
    exact lj_St_bestBy_20 d sv h p0 p2 p3 (0 : Int32) g hf
  · rw [if_neg q1] at hf
    refine rh_Ex.stp (s' := ((9, [some (.ref 42), some (.int p0), some (.int p1), some (.int p2), some (.int p3), none, none], []), (h, g, cw_R sv))) rfl (st_icne_n q1) ?_
    refine rh_Ex.blk 5 (s' := ((16, [some (.ref 42), some (.int p0), some (.int p1), some (.int p2), some (.int p3), none, none], [.int p1, .int p0, .ref 42, .ref 48]), (h, g, cw_R sv))) rfl ?_
    obtain ⟨x6, hx6, hf⟩ := rh_bq hf
    refine rh_Ex.call (j := 80) (rc := some 8) [.ref 42, .int p0, .int p1] [.ref 48] (some (.int x6)) rfl rfl rfl (Nat.le_of_ble_eq_true rfl) (R_St_slotOf d sv h g p0 p1 hx6) ?_
    show rh_Ex _ _ _ ((19, [some (.ref 42), some (.int p0), some (.int p1), some (.int p2), some (.int p3), none, none], [.int x6, .ref 48]), (h, g, cw_R sv)) _ _
    obtain ⟨q7, hf⟩ := rh_gq hf
    refine rh_Ex.stp (s' := ((20, [some (.ref 42), some (.int p0), some (.int p1), some (.int p2), some (.int p3), none, none], [.int (h 48 x6.toNatClampNeg)]), (h, g, cw_R sv))) rfl (st_iald (n := 1024) rfl q7) ?_
    refine rh_Ex.fgt [some (.ref 42), some (.int p0), none, some (.int p2), some (.int p3), none, none] ⟨rfl, rfl, rfl, rfl, trivial⟩ ?_
    exact lj_St_bestBy_20 d sv h p0 p2 p3 (h 48 x6.toNatClampNeg) g hf
def b_St_bestFrom_31 (u1 : Int32) (u2 : Int32) (u3 : Int32) (h : Nat → Nat → Int32) : (Int32 × Int32) → Option ((Int32 × Int32) ⊕ (Int32)) := fun s31 =>
  if (h 42 3) ≤ s31.2 then
    some (.inr s31.1)
  else
    rh_g (0 ≤ s31.2.toInt ∧ s31.2.toInt < ((9 : Nat) : Int)) (
      (f_St_stepped h u2 u3 s31.2 (-1 : Int32)).bind (fun x7 =>
        (f_St_bestBy h u1 x7 (1 : Int32) ((2 : Int32) * (h 43 s31.2.toNatClampNeg))).bind (fun x8 =>
          (f_St_stepped h u2 u3 s31.2 (1 : Int32)).bind (fun x9 =>
            (f_St_bestBy h u1 x9 (1 : Int32) (((2 : Int32) * (h 43 s31.2.toNatClampNeg)) + (1 : Int32))).bind (fun x10 =>
              some (.inl ((if x10 < (if x8 < s31.1 then x8 else s31.1) then x10 else (if x8 < s31.1 then x8 else s31.1)), s31.2 + (1 : Int32)))
            )
          )
        )
      )
    )
def f_St_bestFrom (h : Nat → Nat → Int32) (p0 : Int32) (p1 : Int32) : Option (Int32) :=
  (f_St_leanOf h p1).bind (fun x1 =>
    if (f_St_bearsLean h x1) = 0 then
      some ((1000000000 : Int32))
    else
      (f_St_bestBy h p0 p1 (0 : Int32) (18 : Int32)).bind (fun x3 =>
        (rh_loop (b_St_bestFrom_31 p0 p1 x1 h) rh_N (x3, (0 : Int32))).bind (fun r11 =>
          some (r11)
        )
      )
  )
set_option maxRecDepth 20000 in
set_option maxHeartbeats 4000000 in
theorem lb_St_bestFrom_31 (d : Nat) (sv : Option Nat) (u1 : Int32) (u2 : Int32) (u3 : Int32) (h : Nat → Nat → Int32) (g : Nat → Nat → Int64) (v9 : Option Value) (h9 : rh_H) : ∀ s31 x9, b_St_bestFrom_31 u1 u2 u3 h s31 = some x9 → Sum.elim (fun s31 => rh_Ex (rh_M rh_PT (cw_L ++ cw_X) (d + 2)) (cw_L ++ cw_X) pg_X9_bestFrom ((31, [some (.ref 42), some (.int u1), some (.int u2), some (.int u3), some (.int s31.1), some (.int s31.2), none], []), (h, g, cw_R sv)) v9 h9) (fun e9 => rh_Ex (rh_M rh_PT (cw_L ++ cw_X) (d + 2)) (cw_L ++ cw_X) pg_X9_bestFrom ((107, [none, none, none, none, some (.int e9), none, none], []), (h, g, cw_R sv)) v9 h9) x9 → rh_Ex (rh_M rh_PT (cw_L ++ cw_X) (d + 2)) (cw_L ++ cw_X) pg_X9_bestFrom ((31, [some (.ref 42), some (.int u1), some (.int u2), some (.int u3), some (.int s31.1), some (.int s31.2), none], []), (h, g, cw_R sv)) v9 h9 := by
  intro s31 x9 hf hk
  unfold b_St_bestFrom_31 at hf
  refine rh_Ex.blk 3 (s' := ((37, [some (.ref 42), some (.int u1), some (.int u2), some (.int u3), some (.int s31.1), some (.int s31.2), none], [.int (h 42 3), .int s31.2]), (h, g, cw_R sv))) rfl ?_
  by_cases q5 : (h 42 3) ≤ s31.2
  · rw [if_pos q5] at hf
    refine rh_Ex.stp (s' := ((107, [some (.ref 42), some (.int u1), some (.int u2), some (.int u3), some (.int s31.1), some (.int s31.2), none], []), (h, g, cw_R sv))) rfl (st_icge_p q5) ?_
    obtain rfl := Option.some.inj hf
    refine rh_Ex.fgt [none, none, none, none, some (.int s31.1), none, none] ⟨rfl, trivial⟩ ?_
    exact hk
  · rw [if_neg q5] at hf
    refine rh_Ex.stp (s' := ((40, [some (.ref 42), some (.int u1), some (.int u2), some (.int u3), some (.int s31.1), some (.int s31.2), none], []), (h, g, cw_R sv))) rfl (st_icge_n q5) ?_
    refine rh_Ex.blk 4 (s' := ((47, [some (.ref 42), some (.int u1), some (.int u2), some (.int u3), some (.int s31.1), some (.int s31.2), none], [.int s31.2, .ref 43, .int (2 : Int32)]), (h, g, cw_R sv))) rfl ?_
    obtain ⟨q6, hf⟩ := rh_gq hf
    refine rh_Ex.stp (s' := ((48, [some (.ref 42), some (.int u1), some (.int u2), some (.int u3), some (.int s31.1), some (.int s31.2), none], [.int (h 43 s31.2.toNatClampNeg), .int (2 : Int32)]), (h, g, cw_R sv))) rfl (st_iald (n := 9) rfl q6) ?_
    refine rh_Ex.blk 10 (s' := ((61, [some (.ref 42), some (.int u1), some (.int u2), some (.int u3), some (.int s31.1), some (.int s31.2), some (.int ((2 : Int32) * (h 43 s31.2.toNatClampNeg)))], [.int (-1 : Int32), .int s31.2, .int u3, .int u2, .ref 42, .int u1, .ref 42, .int s31.1]), (h, g, cw_R sv))) rfl ?_
    obtain ⟨x7, hx7, hf⟩ := rh_bq hf
    refine rh_Ex.call (j := 79) (rc := some 8) [.ref 42, .int u2, .int u3, .int s31.2, .int (-1 : Int32)] [.int u1, .ref 42, .int s31.1] (some (.int x7)) rfl rfl rfl (Nat.le_of_ble_eq_true rfl) (R_St_stepped d sv h g u2 u3 s31.2 (-1 : Int32) hx7) ?_
    show rh_Ex _ _ _ ((64, [some (.ref 42), some (.int u1), some (.int u2), some (.int u3), some (.int s31.1), some (.int s31.2), some (.int ((2 : Int32) * (h 43 s31.2.toNatClampNeg)))], [.int x7, .int u1, .ref 42, .int s31.1]), (h, g, cw_R sv)) _ _
    refine rh_Ex.blk 2 (s' := ((67, [some (.ref 42), some (.int u1), some (.int u2), some (.int u3), some (.int s31.1), some (.int s31.2), some (.int ((2 : Int32) * (h 43 s31.2.toNatClampNeg)))], [.int ((2 : Int32) * (h 43 s31.2.toNatClampNeg)), .int (1 : Int32), .int x7, .int u1, .ref 42, .int s31.1]), (h, g, cw_R sv))) rfl ?_
    obtain ⟨x8, hx8, hf⟩ := rh_bq hf
    refine rh_Ex.call (j := 86) (rc := some 8) [.ref 42, .int u1, .int x7, .int (1 : Int32), .int ((2 : Int32) * (h 43 s31.2.toNatClampNeg))] [.int s31.1] (some (.int x8)) rfl rfl rfl (Nat.le_of_ble_eq_true rfl) (R_St_bestBy d sv h g u1 x7 (1 : Int32) ((2 : Int32) * (h 43 s31.2.toNatClampNeg)) hx8) ?_
    show rh_Ex _ _ _ ((70, [some (.ref 42), some (.int u1), some (.int u2), some (.int u3), some (.int s31.1), some (.int s31.2), some (.int ((2 : Int32) * (h 43 s31.2.toNatClampNeg)))], [.int x8, .int s31.1]), (h, g, cw_R sv)) _ _
    refine rh_Ex.stp (s' := ((73, [some (.ref 42), some (.int u1), some (.int u2), some (.int u3), some (.int s31.1), some (.int s31.2), some (.int ((2 : Int32) * (h 43 s31.2.toNatClampNeg)))], [.int (if x8 < s31.1 then x8 else s31.1)]), (h, g, cw_R sv))) rfl (st_mmin (Nat.le_of_ble_eq_true rfl)) ?_
    refine rh_Ex.blk 9 (s' := ((85, [some (.ref 42), some (.int u1), some (.int u2), some (.int u3), some (.int (if x8 < s31.1 then x8 else s31.1)), some (.int s31.2), some (.int ((2 : Int32) * (h 43 s31.2.toNatClampNeg)))], [.int (1 : Int32), .int s31.2, .int u3, .int u2, .ref 42, .int u1, .ref 42, .int (if x8 < s31.1 then x8 else s31.1)]), (h, g, cw_R sv))) rfl ?_
    obtain ⟨x9, hx9, hf⟩ := rh_bq hf
    refine rh_Ex.call (j := 79) (rc := some 8) [.ref 42, .int u2, .int u3, .int s31.2, .int (1 : Int32)] [.int u1, .ref 42, .int (if x8 < s31.1 then x8 else s31.1)] (some (.int x9)) rfl rfl rfl (Nat.le_of_ble_eq_true rfl) (R_St_stepped d sv h g u2 u3 s31.2 (1 : Int32) hx9) ?_
    show rh_Ex _ _ _ ((88, [some (.ref 42), some (.int u1), some (.int u2), some (.int u3), some (.int (if x8 < s31.1 then x8 else s31.1)), some (.int s31.2), some (.int ((2 : Int32) * (h 43 s31.2.toNatClampNeg)))], [.int x9, .int u1, .ref 42, .int (if x8 < s31.1 then x8 else s31.1)]), (h, g, cw_R sv)) _ _
    refine rh_Ex.blk 4 (s' := ((93, [some (.ref 42), some (.int u1), some (.int u2), some (.int u3), some (.int (if x8 < s31.1 then x8 else s31.1)), some (.int s31.2), some (.int ((2 : Int32) * (h 43 s31.2.toNatClampNeg)))], [.int (((2 : Int32) * (h 43 s31.2.toNatClampNeg)) + (1 : Int32)), .int (1 : Int32), .int x9, .int u1, .ref 42, .int (if x8 < s31.1 then x8 else s31.1)]), (h, g, cw_R sv))) rfl ?_
    obtain ⟨x10, hx10, hf⟩ := rh_bq hf
    refine rh_Ex.call (j := 86) (rc := some 8) [.ref 42, .int u1, .int x9, .int (1 : Int32), .int (((2 : Int32) * (h 43 s31.2.toNatClampNeg)) + (1 : Int32))] [.int (if x8 < s31.1 then x8 else s31.1)] (some (.int x10)) rfl rfl rfl (Nat.le_of_ble_eq_true rfl) (R_St_bestBy d sv h g u1 x9 (1 : Int32) (((2 : Int32) * (h 43 s31.2.toNatClampNeg)) + (1 : Int32)) hx10) ?_
    show rh_Ex _ _ _ ((96, [some (.ref 42), some (.int u1), some (.int u2), some (.int u3), some (.int (if x8 < s31.1 then x8 else s31.1)), some (.int s31.2), some (.int ((2 : Int32) * (h 43 s31.2.toNatClampNeg)))], [.int x10, .int (if x8 < s31.1 then x8 else s31.1)]), (h, g, cw_R sv)) _ _
    refine rh_Ex.stp (s' := ((99, [some (.ref 42), some (.int u1), some (.int u2), some (.int u3), some (.int (if x8 < s31.1 then x8 else s31.1)), some (.int s31.2), some (.int ((2 : Int32) * (h 43 s31.2.toNatClampNeg)))], [.int (if x10 < (if x8 < s31.1 then x8 else s31.1) then x10 else (if x8 < s31.1 then x8 else s31.1))]), (h, g, cw_R sv))) rfl (st_mmin (Nat.le_of_ble_eq_true rfl)) ?_
    refine rh_Ex.blk 3 (s' := ((31, [some (.ref 42), some (.int u1), some (.int u2), some (.int u3), some (.int (if x10 < (if x8 < s31.1 then x8 else s31.1) then x10 else (if x8 < s31.1 then x8 else s31.1))), some (.int (s31.2 + (1 : Int32))), some (.int ((2 : Int32) * (h 43 s31.2.toNatClampNeg)))], []), (h, g, cw_R sv))) rfl ?_
    obtain rfl := Option.some.inj hf
    refine rh_Ex.fgt [some (.ref 42), some (.int u1), some (.int u2), some (.int u3), some (.int (if x10 < (if x8 < s31.1 then x8 else s31.1) then x10 else (if x8 < s31.1 then x8 else s31.1))), some (.int (s31.2 + (1 : Int32))), none] ⟨rfl, rfl, rfl, rfl, rfl, rfl, trivial⟩ ?_
    exact hk
set_option maxRecDepth 20000 in
set_option maxHeartbeats 4000000 in
theorem R_St_bestFrom (d : Nat) (sv : Option Nat) (h : Nat → Nat → Int32) (g : Nat → Nat → Int64) (p0 : Int32) (p1 : Int32) {z9 : Int32} (hf : f_St_bestFrom h p0 p1 = some z9) : rh_M rh_PT (cw_L ++ cw_X) (d + 3) 85 [.ref 42, .int p0, .int p1] (h, g, cw_R sv) (some (.int z9)) (h, g, cw_R sv) := by
  unfold f_St_bestFrom at hf
  refine rh_go pt_85 (Nat.le_of_ble_eq_true rfl) (lv := [some (.ref 42), some (.int p0), some (.int p1), none, none, none, none]) rfl ?_
  refine rh_Ex.blk 2 (s' := ((2, [some (.ref 42), some (.int p0), some (.int p1), none, none, none, none], [.int p1, .ref 42]), (h, g, cw_R sv))) rfl ?_
  obtain ⟨x1, hx1, hf⟩ := rh_bq hf
  refine rh_Ex.call (j := 77) (rc := some 8) [.ref 42, .int p1] [] (some (.int x1)) rfl rfl rfl (Nat.le_of_ble_eq_true rfl) (R_St_leanOf (d + 1) sv h g p1 hx1) ?_
  show rh_Ex _ _ _ ((5, [some (.ref 42), some (.int p0), some (.int p1), none, none, none, none], [.int x1]), (h, g, cw_R sv)) _ _
  refine rh_Ex.blk 3 (s' := ((8, [some (.ref 42), some (.int p0), some (.int p1), some (.int x1), none, none, none], [.int x1, .ref 42]), (h, g, cw_R sv))) rfl ?_
  refine rh_Ex.call (j := 78) (rc := some 8) [.ref 42, .int x1] [] (some (.int (f_St_bearsLean h x1))) rfl rfl rfl (Nat.le_of_ble_eq_true rfl) (R_St_bearsLean (d + 1) sv h g x1 rfl) ?_
  show rh_Ex _ _ _ ((11, [some (.ref 42), some (.int p0), some (.int p1), some (.int x1), none, none, none], [.int (f_St_bearsLean h x1)]), (h, g, cw_R sv)) _ _
  by_cases q2 : (f_St_bearsLean h x1) = 0
  · rw [if_pos q2] at hf
    refine rh_Ex.stp (s' := ((14, [some (.ref 42), some (.int p0), some (.int p1), some (.int x1), none, none, none], []), (h, g, cw_R sv))) rfl (st_ifne_p q2) ?_
    refine rh_Ex.blk 1 (s' := ((16, [some (.ref 42), some (.int p0), some (.int p1), some (.int x1), none, none, none], [.int (1000000000 : Int32)]), (h, g, cw_R sv))) rfl ?_
    obtain rfl := Option.some.inj hf
    exact rh_Ex.ret rfl rfl
  · rw [if_neg q2] at hf
    refine rh_Ex.stp (s' := ((17, [some (.ref 42), some (.int p0), some (.int p1), some (.int x1), none, none, none], []), (h, g, cw_R sv))) rfl (st_ifne_n q2) ?_
    refine rh_Ex.blk 5 (s' := ((23, [some (.ref 42), some (.int p0), some (.int p1), some (.int x1), none, none, none], [.int (18 : Int32), .int (0 : Int32), .int p1, .int p0, .ref 42]), (h, g, cw_R sv))) rfl ?_
    obtain ⟨x3, hx3, hf⟩ := rh_bq hf
    refine rh_Ex.call (j := 86) (rc := some 8) [.ref 42, .int p0, .int p1, .int (0 : Int32), .int (18 : Int32)] [] (some (.int x3)) rfl rfl rfl (Nat.le_of_ble_eq_true rfl) (R_St_bestBy d sv h g p0 p1 (0 : Int32) (18 : Int32) hx3) ?_
    show rh_Ex _ _ _ ((26, [some (.ref 42), some (.int p0), some (.int p1), some (.int x1), none, none, none], [.int x3]), (h, g, cw_R sv)) _ _
    refine rh_Ex.blk 3 (s' := ((31, [some (.ref 42), some (.int p0), some (.int p1), some (.int x1), some (.int x3), some (.int (0 : Int32)), none], []), (h, g, cw_R sv))) rfl ?_
    obtain ⟨r11, hr11, hf⟩ := rh_bq hf
    refine rh_Ex.fgt [some (.ref 42), some (.int p0), some (.int p1), some (.int x1), some (.int x3), some (.int (0 : Int32)), none] ⟨rfl, rfl, rfl, rfl, rfl, rfl, trivial⟩ ?_
    refine rh_Ex.loop _ _ _ (lb_St_bestFrom_31 d sv p0 p1 x1 h  g _ _) rh_N _ r11 hr11 ?_
    refine rh_Ex.blk 1 (s' := ((109, [none, none, none, none, some (.int r11), none, none], [.int r11]), (h, g, cw_R sv))) rfl ?_
    obtain rfl := Option.some.inj hf
    exact rh_Ex.ret rfl rfl
def b_St_narrow_2 (u1 : Int32) : (Int32 × (Nat → Nat → Int32)) → Option ((Int32 × (Nat → Nat → Int32)) ⊕ ((Nat → Nat → Int32))) := fun s2 =>
  rh_g (0 ≤ u1.toInt ∧ u1.toInt < ((21 : Nat) : Int)) (
    if (s2.2 46 u1.toNatClampNeg) ≤ s2.1 then
      some (.inr s2.2)
    else
      rh_g (0 ≤ ((u1 * (500 : Int32)) + s2.1).toInt ∧ ((u1 * (500 : Int32)) + s2.1).toInt < ((10500 : Nat) : Int)) (
        some (.inl (s2.1 + (1 : Int32), rh_up s2.2 47 ((u1 * (500 : Int32)) + s2.1).toNatClampNeg (0 : Int32)))
      )
  )
def b_St_narrow_52 (u2 : Int32) : (Int32 × (Nat → Nat → Int32)) → Option ((Int32 × (Nat → Nat → Int32)) ⊕ ((Nat → Nat → Int32))) := fun s52 =>
  rh_g (0 ≤ u2.toInt ∧ u2.toInt < ((21 : Nat) : Int)) (
    if (s52.2 46 u2.toNatClampNeg) ≤ s52.1 then
      some (.inr s52.2)
    else
      rh_g (0 ≤ ((u2 * (500 : Int32)) + s52.1).toInt ∧ ((u2 * (500 : Int32)) + s52.1).toInt < ((10500 : Nat) : Int)) (
        (f_St_slotOf s52.2 u2 (s52.2 45 ((u2 * (500 : Int32)) + s52.1).toNatClampNeg)).bind (fun x14 =>
          rh_g (0 ≤ x14.toInt ∧ x14.toInt < ((1024 : Nat) : Int)) (
            some (.inl (s52.1 + (1 : Int32), rh_up s52.2 48 x14.toNatClampNeg (s52.1 + (1 : Int32))))
          )
        )
      )
  )
def b_St_narrow_95 (u2 : Int32) : (Int32 × (Nat → Nat → Int32)) → Option ((Int32 × (Nat → Nat → Int32)) ⊕ ((Nat → Nat → Int32))) := fun s95 =>
  rh_g (0 ≤ (u2 - (1 : Int32)).toInt ∧ (u2 - (1 : Int32)).toInt < ((21 : Nat) : Int)) (
    if (s95.2 46 (u2 - (1 : Int32)).toNatClampNeg) ≤ s95.1 then
      some (.inr s95.2)
    else
      rh_g (0 ≤ (((u2 - (1 : Int32)) * (500 : Int32)) + s95.1).toInt ∧ (((u2 - (1 : Int32)) * (500 : Int32)) + s95.1).toInt < ((10500 : Nat) : Int)) (
        (f_St_bestFrom s95.2 u2 (s95.2 45 (((u2 - (1 : Int32)) * (500 : Int32)) + s95.1).toNatClampNeg)).bind (fun x21 =>
          rh_g (0 ≤ (((u2 - (1 : Int32)) * (500 : Int32)) + s95.1).toInt ∧ (((u2 - (1 : Int32)) * (500 : Int32)) + s95.1).toInt < ((10500 : Nat) : Int)) (
            some (.inl (s95.1 + (1 : Int32), rh_up s95.2 47 (((u2 - (1 : Int32)) * (500 : Int32)) + s95.1).toNatClampNeg x21))
          )
        )
      )
  )
def b_St_narrow_33  : (Int32 × (Nat → Nat → Int32)) → Option ((Int32 × (Nat → Nat → Int32)) ⊕ ((Nat → Nat → Int32))) := fun s33 =>
  if s33.1 ≤ 0 then
    some (.inr s33.2)
  else
    (f_St_weighAt s33.2 s33.1).bind (fun x8 =>
      (f_Ar_fill_48 x8 (0 : Int32)).bind (fun x9 =>
        (rh_loop (b_St_narrow_52 s33.1) rh_N ((0 : Int32), x9)).bind (fun r16 =>
          (rh_loop (b_St_narrow_95 s33.1) rh_N ((0 : Int32), r16)).bind (fun r23 =>
            some (.inl (s33.1 + (-1 : Int32), r23))
          )
        )
      )
    )
def f_St_narrow (h : Nat → Nat → Int32) (p0 : Int32) : Option ((Nat → Nat → Int32)) :=
  (rh_loop (b_St_narrow_2 p0) rh_N ((0 : Int32), h)).bind (fun r5 =>
    (rh_loop (b_St_narrow_33 ) rh_N (p0, r5)).bind (fun r24 =>
      some (r24)
    )
  )
set_option maxRecDepth 20000 in
set_option maxHeartbeats 4000000 in
theorem lb_St_narrow_2 (d : Nat) (sv : Option Nat) (u1 : Int32) (g : Nat → Nat → Int64) (v9 : Option Value) (h9 : rh_H) : ∀ s2 x9, b_St_narrow_2 u1 s2 = some x9 → Sum.elim (fun s2 => rh_Ex (rh_M rh_PT (cw_L ++ cw_X) (d + 4)) (cw_L ++ cw_X) pg_X9_narrow ((2, [some (.ref 42), some (.int u1), some (.int s2.1), none, none], []), (s2.2, g, cw_R sv)) v9 h9) (fun e9 => rh_Ex (rh_M rh_PT (cw_L ++ cw_X) (d + 4)) (cw_L ++ cw_X) pg_X9_narrow ((31, [some (.ref 42), some (.int u1), none, none, none], []), (e9, g, cw_R sv)) v9 h9) x9 → rh_Ex (rh_M rh_PT (cw_L ++ cw_X) (d + 4)) (cw_L ++ cw_X) pg_X9_narrow ((2, [some (.ref 42), some (.int u1), some (.int s2.1), none, none], []), (s2.2, g, cw_R sv)) v9 h9 := by
  intro s2 x9 hf hk
  unfold b_St_narrow_2 at hf
  refine rh_Ex.blk 4 (s' := ((8, [some (.ref 42), some (.int u1), some (.int s2.1), none, none], [.int u1, .ref 46, .int s2.1]), (s2.2, g, cw_R sv))) rfl ?_
  obtain ⟨q2, hf⟩ := rh_gq hf
  refine rh_Ex.stp (s' := ((9, [some (.ref 42), some (.int u1), some (.int s2.1), none, none], [.int (s2.2 46 u1.toNatClampNeg), .int s2.1]), (s2.2, g, cw_R sv))) rfl (st_iald (n := 21) rfl q2) ?_
  by_cases q3 : (s2.2 46 u1.toNatClampNeg) ≤ s2.1
  · rw [if_pos q3] at hf
    refine rh_Ex.stp (s' := ((31, [some (.ref 42), some (.int u1), some (.int s2.1), none, none], []), (s2.2, g, cw_R sv))) rfl (st_icge_p q3) ?_
    obtain rfl := Option.some.inj hf
    refine rh_Ex.fgt [some (.ref 42), some (.int u1), none, none, none] ⟨rfl, rfl, trivial⟩ ?_
    exact hk
  · rw [if_neg q3] at hf
    refine rh_Ex.stp (s' := ((12, [some (.ref 42), some (.int u1), some (.int s2.1), none, none], []), (s2.2, g, cw_R sv))) rfl (st_icge_n q3) ?_
    refine rh_Ex.blk 8 (s' := ((24, [some (.ref 42), some (.int u1), some (.int s2.1), none, none], [.int (0 : Int32), .int ((u1 * (500 : Int32)) + s2.1), .ref 47]), (s2.2, g, cw_R sv))) rfl ?_
    obtain ⟨q4, hf⟩ := rh_gq hf
    refine rh_Ex.stp (s' := ((25, [some (.ref 42), some (.int u1), some (.int s2.1), none, none], []), (rh_up s2.2 47 ((u1 * (500 : Int32)) + s2.1).toNatClampNeg (0 : Int32), g, cw_R sv))) rfl (st_iast (n := 10500) rfl q4) ?_
    refine rh_Ex.blk 2 (s' := ((2, [some (.ref 42), some (.int u1), some (.int (s2.1 + (1 : Int32))), none, none], []), (rh_up s2.2 47 ((u1 * (500 : Int32)) + s2.1).toNatClampNeg (0 : Int32), g, cw_R sv))) rfl ?_
    obtain rfl := Option.some.inj hf
    refine rh_Ex.fgt [some (.ref 42), some (.int u1), some (.int (s2.1 + (1 : Int32))), none, none] ⟨rfl, rfl, rfl, trivial⟩ ?_
    exact hk
set_option maxRecDepth 20000 in
set_option maxHeartbeats 4000000 in
theorem lb_St_narrow_52 (d : Nat) (sv : Option Nat) (u2 : Int32) (g : Nat → Nat → Int64) (v9 : Option Value) (h9 : rh_H) : ∀ s52 x9, b_St_narrow_52 u2 s52 = some x9 → Sum.elim (fun s52 => rh_Ex (rh_M rh_PT (cw_L ++ cw_X) (d + 4)) (cw_L ++ cw_X) pg_X9_narrow ((52, [some (.ref 42), none, some (.int u2), some (.int s52.1), none], []), (s52.2, g, cw_R sv)) v9 h9) (fun e9 => rh_Ex (rh_M rh_PT (cw_L ++ cw_X) (d + 4)) (cw_L ++ cw_X) pg_X9_narrow ((93, [some (.ref 42), none, some (.int u2), none, none], []), (e9, g, cw_R sv)) v9 h9) x9 → rh_Ex (rh_M rh_PT (cw_L ++ cw_X) (d + 4)) (cw_L ++ cw_X) pg_X9_narrow ((52, [some (.ref 42), none, some (.int u2), some (.int s52.1), none], []), (s52.2, g, cw_R sv)) v9 h9 := by
  intro s52 x9 hf hk
  unfold b_St_narrow_52 at hf
  refine rh_Ex.blk 4 (s' := ((58, [some (.ref 42), none, some (.int u2), some (.int s52.1), none], [.int u2, .ref 46, .int s52.1]), (s52.2, g, cw_R sv))) rfl ?_
  obtain ⟨q11, hf⟩ := rh_gq hf
  refine rh_Ex.stp (s' := ((59, [some (.ref 42), none, some (.int u2), some (.int s52.1), none], [.int (s52.2 46 u2.toNatClampNeg), .int s52.1]), (s52.2, g, cw_R sv))) rfl (st_iald (n := 21) rfl q11) ?_
  by_cases q12 : (s52.2 46 u2.toNatClampNeg) ≤ s52.1
  · rw [if_pos q12] at hf
    refine rh_Ex.stp (s' := ((93, [some (.ref 42), none, some (.int u2), some (.int s52.1), none], []), (s52.2, g, cw_R sv))) rfl (st_icge_p q12) ?_
    obtain rfl := Option.some.inj hf
    refine rh_Ex.fgt [some (.ref 42), none, some (.int u2), none, none] ⟨rfl, rfl, trivial⟩ ?_
    exact hk
  · rw [if_neg q12] at hf
    refine rh_Ex.stp (s' := ((62, [some (.ref 42), none, some (.int u2), some (.int s52.1), none], []), (s52.2, g, cw_R sv))) rfl (st_icge_n q12) ?_
    refine rh_Ex.blk 11 (s' := ((79, [some (.ref 42), none, some (.int u2), some (.int s52.1), none], [.int ((u2 * (500 : Int32)) + s52.1), .ref 45, .int u2, .ref 42, .ref 48]), (s52.2, g, cw_R sv))) rfl ?_
    obtain ⟨q13, hf⟩ := rh_gq hf
    refine rh_Ex.stp (s' := ((80, [some (.ref 42), none, some (.int u2), some (.int s52.1), none], [.int (s52.2 45 ((u2 * (500 : Int32)) + s52.1).toNatClampNeg), .int u2, .ref 42, .ref 48]), (s52.2, g, cw_R sv))) rfl (st_iald (n := 10500) rfl q13) ?_
    obtain ⟨x14, hx14, hf⟩ := rh_bq hf
    refine rh_Ex.call (j := 80) (rc := some 8) [.ref 42, .int u2, .int (s52.2 45 ((u2 * (500 : Int32)) + s52.1).toNatClampNeg)] [.ref 48] (some (.int x14)) rfl rfl rfl (Nat.le_of_ble_eq_true rfl) (R_St_slotOf (d + 3) sv s52.2 g u2 (s52.2 45 ((u2 * (500 : Int32)) + s52.1).toNatClampNeg) hx14) ?_
    show rh_Ex _ _ _ ((83, [some (.ref 42), none, some (.int u2), some (.int s52.1), none], [.int x14, .ref 48]), (s52.2, g, cw_R sv)) _ _
    refine rh_Ex.blk 3 (s' := ((86, [some (.ref 42), none, some (.int u2), some (.int s52.1), none], [.int (s52.1 + (1 : Int32)), .int x14, .ref 48]), (s52.2, g, cw_R sv))) rfl ?_
    obtain ⟨q15, hf⟩ := rh_gq hf
    refine rh_Ex.stp (s' := ((87, [some (.ref 42), none, some (.int u2), some (.int s52.1), none], []), (rh_up s52.2 48 x14.toNatClampNeg (s52.1 + (1 : Int32)), g, cw_R sv))) rfl (st_iast (n := 1024) rfl q15) ?_
    refine rh_Ex.blk 2 (s' := ((52, [some (.ref 42), none, some (.int u2), some (.int (s52.1 + (1 : Int32))), none], []), (rh_up s52.2 48 x14.toNatClampNeg (s52.1 + (1 : Int32)), g, cw_R sv))) rfl ?_
    obtain rfl := Option.some.inj hf
    refine rh_Ex.fgt [some (.ref 42), none, some (.int u2), some (.int (s52.1 + (1 : Int32))), none] ⟨rfl, rfl, rfl, trivial⟩ ?_
    exact hk
set_option maxRecDepth 20000 in
set_option maxHeartbeats 4000000 in
theorem lb_St_narrow_95 (d : Nat) (sv : Option Nat) (u2 : Int32) (g : Nat → Nat → Int64) (v9 : Option Value) (h9 : rh_H) : ∀ s95 x9, b_St_narrow_95 u2 s95 = some x9 → Sum.elim (fun s95 => rh_Ex (rh_M rh_PT (cw_L ++ cw_X) (d + 4)) (cw_L ++ cw_X) pg_X9_narrow ((95, [some (.ref 42), none, some (.int u2), some (.int s95.1), none], []), (s95.2, g, cw_R sv)) v9 h9) (fun e9 => rh_Ex (rh_M rh_PT (cw_L ++ cw_X) (d + 4)) (cw_L ++ cw_X) pg_X9_narrow ((143, [some (.ref 42), none, some (.int u2), none, none], []), (e9, g, cw_R sv)) v9 h9) x9 → rh_Ex (rh_M rh_PT (cw_L ++ cw_X) (d + 4)) (cw_L ++ cw_X) pg_X9_narrow ((95, [some (.ref 42), none, some (.int u2), some (.int s95.1), none], []), (s95.2, g, cw_R sv)) v9 h9 := by
  intro s95 x9 hf hk
  unfold b_St_narrow_95 at hf
  refine rh_Ex.blk 6 (s' := ((103, [some (.ref 42), none, some (.int u2), some (.int s95.1), none], [.int (u2 - (1 : Int32)), .ref 46, .int s95.1]), (s95.2, g, cw_R sv))) rfl ?_
  obtain ⟨q18, hf⟩ := rh_gq hf
  refine rh_Ex.stp (s' := ((104, [some (.ref 42), none, some (.int u2), some (.int s95.1), none], [.int (s95.2 46 (u2 - (1 : Int32)).toNatClampNeg), .int s95.1]), (s95.2, g, cw_R sv))) rfl (st_iald (n := 21) rfl q18) ?_
  by_cases q19 : (s95.2 46 (u2 - (1 : Int32)).toNatClampNeg) ≤ s95.1
  · rw [if_pos q19] at hf
    refine rh_Ex.stp (s' := ((143, [some (.ref 42), none, some (.int u2), some (.int s95.1), none], []), (s95.2, g, cw_R sv))) rfl (st_icge_p q19) ?_
    obtain rfl := Option.some.inj hf
    refine rh_Ex.fgt [some (.ref 42), none, some (.int u2), none, none] ⟨rfl, rfl, trivial⟩ ?_
    exact hk
  · rw [if_neg q19] at hf
    refine rh_Ex.stp (s' := ((107, [some (.ref 42), none, some (.int u2), some (.int s95.1), none], []), (s95.2, g, cw_R sv))) rfl (st_icge_n q19) ?_
    refine rh_Ex.blk 16 (s' := ((132, [some (.ref 42), none, some (.int u2), some (.int s95.1), some (.int (((u2 - (1 : Int32)) * (500 : Int32)) + s95.1))], [.int (((u2 - (1 : Int32)) * (500 : Int32)) + s95.1), .ref 45, .int u2, .ref 42, .int (((u2 - (1 : Int32)) * (500 : Int32)) + s95.1), .ref 47]), (s95.2, g, cw_R sv))) rfl ?_
    obtain ⟨q20, hf⟩ := rh_gq hf
    refine rh_Ex.stp (s' := ((133, [some (.ref 42), none, some (.int u2), some (.int s95.1), some (.int (((u2 - (1 : Int32)) * (500 : Int32)) + s95.1))], [.int (s95.2 45 (((u2 - (1 : Int32)) * (500 : Int32)) + s95.1).toNatClampNeg), .int u2, .ref 42, .int (((u2 - (1 : Int32)) * (500 : Int32)) + s95.1), .ref 47]), (s95.2, g, cw_R sv))) rfl (st_iald (n := 10500) rfl q20) ?_
    obtain ⟨x21, hx21, hf⟩ := rh_bq hf
    refine rh_Ex.call (j := 85) (rc := some 8) [.ref 42, .int u2, .int (s95.2 45 (((u2 - (1 : Int32)) * (500 : Int32)) + s95.1).toNatClampNeg)] [.int (((u2 - (1 : Int32)) * (500 : Int32)) + s95.1), .ref 47] (some (.int x21)) rfl rfl rfl (Nat.le_of_ble_eq_true rfl) (R_St_bestFrom (d + 1) sv s95.2 g u2 (s95.2 45 (((u2 - (1 : Int32)) * (500 : Int32)) + s95.1).toNatClampNeg) hx21) ?_
    show rh_Ex _ _ _ ((136, [some (.ref 42), none, some (.int u2), some (.int s95.1), some (.int (((u2 - (1 : Int32)) * (500 : Int32)) + s95.1))], [.int x21, .int (((u2 - (1 : Int32)) * (500 : Int32)) + s95.1), .ref 47]), (s95.2, g, cw_R sv)) _ _
    obtain ⟨q22, hf⟩ := rh_gq hf
    refine rh_Ex.stp (s' := ((137, [some (.ref 42), none, some (.int u2), some (.int s95.1), some (.int (((u2 - (1 : Int32)) * (500 : Int32)) + s95.1))], []), (rh_up s95.2 47 (((u2 - (1 : Int32)) * (500 : Int32)) + s95.1).toNatClampNeg x21, g, cw_R sv))) rfl (st_iast (n := 10500) rfl q22) ?_
    refine rh_Ex.blk 2 (s' := ((95, [some (.ref 42), none, some (.int u2), some (.int (s95.1 + (1 : Int32))), some (.int (((u2 - (1 : Int32)) * (500 : Int32)) + s95.1))], []), (rh_up s95.2 47 (((u2 - (1 : Int32)) * (500 : Int32)) + s95.1).toNatClampNeg x21, g, cw_R sv))) rfl ?_
    obtain rfl := Option.some.inj hf
    refine rh_Ex.fgt [some (.ref 42), none, some (.int u2), some (.int (s95.1 + (1 : Int32))), none] ⟨rfl, rfl, rfl, trivial⟩ ?_
    exact hk
set_option maxRecDepth 20000 in
set_option maxHeartbeats 4000000 in
theorem lb_St_narrow_33 (d : Nat) (sv : Option Nat)  (g : Nat → Nat → Int64) (v9 : Option Value) (h9 : rh_H) : ∀ s33 x9, b_St_narrow_33  s33 = some x9 → Sum.elim (fun s33 => rh_Ex (rh_M rh_PT (cw_L ++ cw_X) (d + 4)) (cw_L ++ cw_X) pg_X9_narrow ((33, [some (.ref 42), none, some (.int s33.1), none, none], []), (s33.2, g, cw_R sv)) v9 h9) (fun e9 => rh_Ex (rh_M rh_PT (cw_L ++ cw_X) (d + 4)) (cw_L ++ cw_X) pg_X9_narrow ((149, [none, none, none, none, none], []), (e9, g, cw_R sv)) v9 h9) x9 → rh_Ex (rh_M rh_PT (cw_L ++ cw_X) (d + 4)) (cw_L ++ cw_X) pg_X9_narrow ((33, [some (.ref 42), none, some (.int s33.1), none, none], []), (s33.2, g, cw_R sv)) v9 h9 := by
  intro s33 x9 hf hk
  unfold b_St_narrow_33 at hf
  refine rh_Ex.blk 1 (s' := ((34, [some (.ref 42), none, some (.int s33.1), none, none], [.int s33.1]), (s33.2, g, cw_R sv))) rfl ?_
  by_cases q7 : s33.1 ≤ 0
  · rw [if_pos q7] at hf
    refine rh_Ex.stp (s' := ((149, [some (.ref 42), none, some (.int s33.1), none, none], []), (s33.2, g, cw_R sv))) rfl (st_ifle_p q7) ?_
    obtain rfl := Option.some.inj hf
    refine rh_Ex.fgt [none, none, none, none, none] trivial ?_
    exact hk
  · rw [if_neg q7] at hf
    refine rh_Ex.stp (s' := ((37, [some (.ref 42), none, some (.int s33.1), none, none], []), (s33.2, g, cw_R sv))) rfl (st_ifle_n q7) ?_
    refine rh_Ex.blk 2 (s' := ((39, [some (.ref 42), none, some (.int s33.1), none, none], [.int s33.1, .ref 42]), (s33.2, g, cw_R sv))) rfl ?_
    obtain ⟨x8, hx8, hf⟩ := rh_bq hf
    refine rh_Ex.call (j := 76) (rc := some 8) [.ref 42, .int s33.1] [] none rfl rfl rfl (Nat.le_of_ble_eq_true rfl) (R_St_weighAt d sv s33.2 g s33.1 hx8) ?_
    show rh_Ex _ _ _ ((42, [some (.ref 42), none, some (.int s33.1), none, none], []), (x8, g, cw_R sv)) _ _
    refine rh_Ex.blk 3 (s' := ((47, [some (.ref 42), none, some (.int s33.1), none, none], [.int (0 : Int32), .ref 48]), (x8, g, cw_R sv))) rfl ?_
    obtain ⟨x9, hx9, hf⟩ := rh_bq hf
    refine rh_Ex.call (j := 301) (rc := none) [.ref 48, .int (0 : Int32)] [] none rfl rfl trivial (Nat.le_of_ble_eq_true rfl) (R_Ar_fill_48 (d + 3) sv x8 g (0 : Int32) hx9) ?_
    show rh_Ex _ _ _ ((50, [some (.ref 42), none, some (.int s33.1), none, none], []), (x9, g, cw_R sv)) _ _
    refine rh_Ex.blk 2 (s' := ((52, [some (.ref 42), none, some (.int s33.1), some (.int (0 : Int32)), none], []), (x9, g, cw_R sv))) rfl ?_
    obtain ⟨r16, hr16, hf⟩ := rh_bq hf
    refine rh_Ex.fgt [some (.ref 42), none, some (.int s33.1), some (.int (0 : Int32)), none] ⟨rfl, rfl, rfl, trivial⟩ ?_
    refine rh_Ex.loop _ _ _ (lb_St_narrow_52 d sv s33.1  g _ _) rh_N _ r16 hr16 ?_
    refine rh_Ex.blk 2 (s' := ((95, [some (.ref 42), none, some (.int s33.1), some (.int (0 : Int32)), none], []), (r16, g, cw_R sv))) rfl ?_
    obtain ⟨r23, hr23, hf⟩ := rh_bq hf
    refine rh_Ex.fgt [some (.ref 42), none, some (.int s33.1), some (.int (0 : Int32)), none] ⟨rfl, rfl, rfl, trivial⟩ ?_
    refine rh_Ex.loop _ _ _ (lb_St_narrow_95 d sv s33.1  g _ _) rh_N _ r23 hr23 ?_
    refine rh_Ex.blk 2 (s' := ((33, [some (.ref 42), none, some (.int (s33.1 + (-1 : Int32))), none, none], []), (r23, g, cw_R sv))) rfl ?_
    obtain rfl := Option.some.inj hf
    refine rh_Ex.fgt [some (.ref 42), none, some (.int (s33.1 + (-1 : Int32))), none, none] ⟨rfl, rfl, trivial⟩ ?_
    exact hk
set_option maxRecDepth 20000 in
set_option maxHeartbeats 4000000 in
theorem R_St_narrow (d : Nat) (sv : Option Nat) (h : Nat → Nat → Int32) (g : Nat → Nat → Int64) (p0 : Int32) {z9 : (Nat → Nat → Int32)} (hf : f_St_narrow h p0 = some z9) : rh_M rh_PT (cw_L ++ cw_X) (d + 5) 84 [.ref 42, .int p0] (h, g, cw_R sv) none (z9, g, cw_R sv) := by
  unfold f_St_narrow at hf
  refine rh_go pt_84 (Nat.le_of_ble_eq_true rfl) (lv := [some (.ref 42), some (.int p0), none, none, none]) rfl ?_
  refine rh_Ex.blk 2 (s' := ((2, [some (.ref 42), some (.int p0), some (.int (0 : Int32)), none, none], []), (h, g, cw_R sv))) rfl ?_
  obtain ⟨r5, hr5, hf⟩ := rh_bq hf
  refine rh_Ex.fgt [some (.ref 42), some (.int p0), some (.int (0 : Int32)), none, none] ⟨rfl, rfl, rfl, trivial⟩ ?_
  refine rh_Ex.loop _ _ _ (lb_St_narrow_2 d sv p0  g _ _) rh_N _ r5 hr5 ?_
  refine rh_Ex.blk 2 (s' := ((33, [some (.ref 42), some (.int p0), some (.int p0), none, none], []), (r5, g, cw_R sv))) rfl ?_
  obtain ⟨r24, hr24, hf⟩ := rh_bq hf
  refine rh_Ex.fgt [some (.ref 42), none, some (.int p0), none, none] ⟨rfl, rfl, trivial⟩ ?_
  refine rh_Ex.loop _ _ _ (lb_St_narrow_33 d sv   g _ _) rh_N _ r24 hr24 ?_
  obtain rfl := Option.some.inj hf
  exact rh_Ex.ret rfl trivial
def b_St_indexOf_2 (u1 : Int32) (u2 : Int32) (h : Nat → Nat → Int32) : (Int32) → Option ((Int32) ⊕ ((Unit) ⊕ (Int32))) := fun s2 =>
  rh_g (0 ≤ u1.toInt ∧ u1.toInt < ((21 : Nat) : Int)) (
    if (h 46 u1.toNatClampNeg) ≤ s2 then
      some (.inr (.inl ()))
    else
      rh_g (0 ≤ ((u1 * (500 : Int32)) + s2).toInt ∧ ((u1 * (500 : Int32)) + s2).toInt < ((10500 : Nat) : Int)) (
        if (h 45 ((u1 * (500 : Int32)) + s2).toNatClampNeg) = u2 then
          some (.inr (.inr ((u1 * (500 : Int32)) + s2)))
        else
          some (.inl (s2 + (1 : Int32)))
      )
  )
def f_St_indexOf (h : Nat → Nat → Int32) (p0 : Int32) (p1 : Int32) : Option (Int32) :=
  (rh_loop (b_St_indexOf_2 p0 p1 h) rh_N (0 : Int32)).bind (fun r6 => match r6 with
    | .inl e7 =>
      some ((p0 * (500 : Int32)))
    | .inr t8 => some t8)
set_option maxRecDepth 20000 in
set_option maxHeartbeats 4000000 in
theorem lb_St_indexOf_2 (d : Nat) (sv : Option Nat) (u1 : Int32) (u2 : Int32) (h : Nat → Nat → Int32) (g : Nat → Nat → Int64) (v9 : Option Value) (h9 : rh_H) : ∀ s2 x9, b_St_indexOf_2 u1 u2 h s2 = some x9 → Sum.elim (fun s2 => rh_Ex (rh_M rh_PT (cw_L ++ cw_X) (d + 0)) (cw_L ++ cw_X) pg_X9_indexOf ((2, [some (.ref 42), some (.int u1), some (.int u2), some (.int s2)], []), (h, g, cw_R sv)) v9 h9) (Sum.elim (fun e9 => rh_Ex (rh_M rh_PT (cw_L ++ cw_X) (d + 0)) (cw_L ++ cw_X) pg_X9_indexOf ((42, [none, some (.int u1), none, none], []), (h, g, cw_R sv)) v9 h9) (fun t9 => v9 = (some (.int t9)) ∧ h9 = (h, g, cw_R sv))) x9 → rh_Ex (rh_M rh_PT (cw_L ++ cw_X) (d + 0)) (cw_L ++ cw_X) pg_X9_indexOf ((2, [some (.ref 42), some (.int u1), some (.int u2), some (.int s2)], []), (h, g, cw_R sv)) v9 h9 := by
  intro s2 x9 hf hk
  unfold b_St_indexOf_2 at hf
  refine rh_Ex.blk 4 (s' := ((8, [some (.ref 42), some (.int u1), some (.int u2), some (.int s2)], [.int u1, .ref 46, .int s2]), (h, g, cw_R sv))) rfl ?_
  obtain ⟨q2, hf⟩ := rh_gq hf
  refine rh_Ex.stp (s' := ((9, [some (.ref 42), some (.int u1), some (.int u2), some (.int s2)], [.int (h 46 u1.toNatClampNeg), .int s2]), (h, g, cw_R sv))) rfl (st_iald (n := 21) rfl q2) ?_
  by_cases q3 : (h 46 u1.toNatClampNeg) ≤ s2
  · rw [if_pos q3] at hf
    refine rh_Ex.stp (s' := ((42, [some (.ref 42), some (.int u1), some (.int u2), some (.int s2)], []), (h, g, cw_R sv))) rfl (st_icge_p q3) ?_
    obtain rfl := Option.some.inj hf
    refine rh_Ex.fgt [none, some (.int u1), none, none] ⟨rfl, trivial⟩ ?_
    exact hk
  · rw [if_neg q3] at hf
    refine rh_Ex.stp (s' := ((12, [some (.ref 42), some (.int u1), some (.int u2), some (.int s2)], []), (h, g, cw_R sv))) rfl (st_icge_n q3) ?_
    refine rh_Ex.blk 7 (s' := ((23, [some (.ref 42), some (.int u1), some (.int u2), some (.int s2)], [.int ((u1 * (500 : Int32)) + s2), .ref 45]), (h, g, cw_R sv))) rfl ?_
    obtain ⟨q4, hf⟩ := rh_gq hf
    refine rh_Ex.stp (s' := ((24, [some (.ref 42), some (.int u1), some (.int u2), some (.int s2)], [.int (h 45 ((u1 * (500 : Int32)) + s2).toNatClampNeg)]), (h, g, cw_R sv))) rfl (st_iald (n := 10500) rfl q4) ?_
    refine rh_Ex.blk 1 (s' := ((25, [some (.ref 42), some (.int u1), some (.int u2), some (.int s2)], [.int u2, .int (h 45 ((u1 * (500 : Int32)) + s2).toNatClampNeg)]), (h, g, cw_R sv))) rfl ?_
    by_cases q5 : (h 45 ((u1 * (500 : Int32)) + s2).toNatClampNeg) = u2
    · rw [if_pos q5] at hf
      refine rh_Ex.stp (s' := ((28, [some (.ref 42), some (.int u1), some (.int u2), some (.int s2)], []), (h, g, cw_R sv))) rfl (st_icne_p q5) ?_
      refine rh_Ex.blk 5 (s' := ((35, [some (.ref 42), some (.int u1), some (.int u2), some (.int s2)], [.int ((u1 * (500 : Int32)) + s2)]), (h, g, cw_R sv))) rfl ?_
      obtain rfl := Option.some.inj hf
      obtain ⟨rfl, rfl⟩ := hk
      exact rh_Ex.ret rfl rfl
    · rw [if_neg q5] at hf
      refine rh_Ex.stp (s' := ((36, [some (.ref 42), some (.int u1), some (.int u2), some (.int s2)], []), (h, g, cw_R sv))) rfl (st_icne_n q5) ?_
      refine rh_Ex.blk 2 (s' := ((2, [some (.ref 42), some (.int u1), some (.int u2), some (.int (s2 + (1 : Int32)))], []), (h, g, cw_R sv))) rfl ?_
      obtain rfl := Option.some.inj hf
      refine rh_Ex.fgt [some (.ref 42), some (.int u1), some (.int u2), some (.int (s2 + (1 : Int32)))] ⟨rfl, rfl, rfl, rfl, trivial⟩ ?_
      exact hk
set_option maxRecDepth 20000 in
set_option maxHeartbeats 4000000 in
theorem R_St_indexOf (d : Nat) (sv : Option Nat) (h : Nat → Nat → Int32) (g : Nat → Nat → Int64) (p0 : Int32) (p1 : Int32) {z9 : Int32} (hf : f_St_indexOf h p0 p1 = some z9) : rh_M rh_PT (cw_L ++ cw_X) (d + 1) 87 [.ref 42, .int p0, .int p1] (h, g, cw_R sv) (some (.int z9)) (h, g, cw_R sv) := by
  unfold f_St_indexOf at hf
  refine rh_go pt_87 (Nat.le_of_ble_eq_true rfl) (lv := [some (.ref 42), some (.int p0), some (.int p1), none]) rfl ?_
  refine rh_Ex.blk 2 (s' := ((2, [some (.ref 42), some (.int p0), some (.int p1), some (.int (0 : Int32))], []), (h, g, cw_R sv))) rfl ?_
  obtain ⟨r6, hr6, hf⟩ := rh_bq hf
  refine rh_Ex.fgt [some (.ref 42), some (.int p0), some (.int p1), some (.int (0 : Int32))] ⟨rfl, rfl, rfl, rfl, trivial⟩ ?_
  refine rh_Ex.loop _ _ _ (lb_St_indexOf_2 d sv p0 p1 h  g _ _) rh_N _ r6 hr6 ?_
  rcases r6 with e7 | t8
  · dsimp only at hf
    refine rh_Ex.blk 3 (s' := ((47, [none, some (.int p0), none, none], [.int (p0 * (500 : Int32))]), (h, g, cw_R sv))) rfl ?_
    obtain rfl := Option.some.inj hf
    exact rh_Ex.ret rfl rfl
  · dsimp only at hf
    obtain rfl := Option.some.inj hf
    exact ⟨rfl, rfl⟩
def b_St_behindMove_2 (u1 : Int32) (u2 : Int32) (h : Nat → Nat → Int32) : (Int32) → Option ((Int32) ⊕ ((Unit) ⊕ (Int32))) := fun s2 =>
  if (h 42 3) ≤ s2 then
    some (.inr (.inl ()))
  else
    rh_g (0 ≤ s2.toInt ∧ s2.toInt < ((9 : Nat) : Int)) (
      if (h 43 s2.toNatClampNeg) = (u2 / (2 : Int32)) then
        if (u2 - u2 / (2 : Int32) * (2 : Int32)) = 0 then
          rh_g (0 ≤ s2.toInt ∧ s2.toInt < ((9 : Nat) : Int)) (
            some (.inr (.inr (u1 - (rh_UN s2.toNatClampNeg))))
          )
        else
          rh_g (0 ≤ s2.toInt ∧ s2.toInt < ((9 : Nat) : Int)) (
            some (.inr (.inr (u1 + (rh_UN s2.toNatClampNeg))))
          )
      else
        some (.inl (s2 + (1 : Int32)))
    )
def f_St_behindMove (h : Nat → Nat → Int32) (p0 : Int32) (p1 : Int32) : Option (Int32) :=
  (rh_loop (b_St_behindMove_2 p0 p1 h) rh_N (0 : Int32)).bind (fun r8 => match r8 with
    | .inl e9 =>
      some (p0)
    | .inr t10 => some t10)
set_option maxRecDepth 20000 in
set_option maxHeartbeats 4000000 in
theorem lb_St_behindMove_2 (d : Nat) (sv : Option Nat) (u1 : Int32) (u2 : Int32) (h : Nat → Nat → Int32) (g : Nat → Nat → Int64) (v9 : Option Value) (h9 : rh_H) : ∀ s2 x9, b_St_behindMove_2 u1 u2 h s2 = some x9 → Sum.elim (fun s2 => rh_Ex (rh_M rh_PT (cw_L ++ cw_X) (d + 0)) (cw_L ++ cw_X) pg_X9_behindMove ((2, [some (.ref 42), some (.int u1), some (.int u2), some (.int s2)], []), (h, g, cw_R sv)) v9 h9) (Sum.elim (fun e9 => rh_Ex (rh_M rh_PT (cw_L ++ cw_X) (d + 0)) (cw_L ++ cw_X) pg_X9_behindMove ((52, [none, some (.int u1), none, none], []), (h, g, cw_R sv)) v9 h9) (fun t9 => v9 = (some (.int t9)) ∧ h9 = (h, g, cw_R sv))) x9 → rh_Ex (rh_M rh_PT (cw_L ++ cw_X) (d + 0)) (cw_L ++ cw_X) pg_X9_behindMove ((2, [some (.ref 42), some (.int u1), some (.int u2), some (.int s2)], []), (h, g, cw_R sv)) v9 h9 := by
  intro s2 x9 hf hk
  unfold b_St_behindMove_2 at hf
  refine rh_Ex.blk 3 (s' := ((7, [some (.ref 42), some (.int u1), some (.int u2), some (.int s2)], [.int (h 42 3), .int s2]), (h, g, cw_R sv))) rfl ?_
  by_cases q2 : (h 42 3) ≤ s2
  · rw [if_pos q2] at hf
    refine rh_Ex.stp (s' := ((52, [some (.ref 42), some (.int u1), some (.int u2), some (.int s2)], []), (h, g, cw_R sv))) rfl (st_icge_p q2) ?_
    obtain rfl := Option.some.inj hf
    refine rh_Ex.fgt [none, some (.int u1), none, none] ⟨rfl, trivial⟩ ?_
    exact hk
  · rw [if_neg q2] at hf
    refine rh_Ex.stp (s' := ((10, [some (.ref 42), some (.int u1), some (.int u2), some (.int s2)], []), (h, g, cw_R sv))) rfl (st_icge_n q2) ?_
    refine rh_Ex.blk 3 (s' := ((15, [some (.ref 42), some (.int u1), some (.int u2), some (.int s2)], [.int s2, .ref 43]), (h, g, cw_R sv))) rfl ?_
    obtain ⟨q3, hf⟩ := rh_gq hf
    refine rh_Ex.stp (s' := ((16, [some (.ref 42), some (.int u1), some (.int u2), some (.int s2)], [.int (h 43 s2.toNatClampNeg)]), (h, g, cw_R sv))) rfl (st_iald (n := 9) rfl q3) ?_
    refine rh_Ex.blk 2 (s' := ((18, [some (.ref 42), some (.int u1), some (.int u2), some (.int s2)], [.int (2 : Int32), .int u2, .int (h 43 s2.toNatClampNeg)]), (h, g, cw_R sv))) rfl ?_
    refine rh_Ex.stp (s' := ((19, [some (.ref 42), some (.int u1), some (.int u2), some (.int s2)], [.int (u2 / (2 : Int32)), .int (h 43 s2.toNatClampNeg)]), (h, g, cw_R sv))) rfl (st_idiv (by decide)) ?_
    by_cases q4 : (h 43 s2.toNatClampNeg) = (u2 / (2 : Int32))
    · rw [if_pos q4] at hf
      refine rh_Ex.stp (s' := ((22, [some (.ref 42), some (.int u1), some (.int u2), some (.int s2)], []), (h, g, cw_R sv))) rfl (st_icne_p q4) ?_
      refine rh_Ex.blk 2 (s' := ((24, [some (.ref 42), some (.int u1), some (.int u2), some (.int s2)], [.int (2 : Int32), .int u2]), (h, g, cw_R sv))) rfl ?_
      refine rh_Ex.stp (s' := ((25, [some (.ref 42), some (.int u1), some (.int u2), some (.int s2)], [.int (u2 - u2 / (2 : Int32) * (2 : Int32))]), (h, g, cw_R sv))) rfl (st_irem (by decide)) ?_
      by_cases q5 : (u2 - u2 / (2 : Int32) * (2 : Int32)) = 0
      · rw [if_pos q5] at hf
        refine rh_Ex.stp (s' := ((28, [some (.ref 42), some (.int u1), some (.int u2), some (.int s2)], []), (h, g, cw_R sv))) rfl (st_ifne_p q5) ?_
        refine rh_Ex.blk 3 (s' := ((33, [some (.ref 42), some (.int u1), some (.int u2), some (.int s2)], [.int s2, .ref 1001, .int u1]), (h, g, cw_R sv))) rfl ?_
        obtain ⟨q6, hf⟩ := rh_gq hf
        refine rh_Ex.stp (s' := ((34, [some (.ref 42), some (.int u1), some (.int u2), some (.int s2)], [.int (rh_UN s2.toNatClampNeg), .int u1]), (h, g, cw_R sv))) rfl (st_ials q6) ?_
        refine rh_Ex.blk 2 (s' := ((45, [some (.ref 42), some (.int u1), some (.int u2), some (.int s2)], [.int (u1 - (rh_UN s2.toNatClampNeg))]), (h, g, cw_R sv))) rfl ?_
        obtain rfl := Option.some.inj hf
        obtain ⟨rfl, rfl⟩ := hk
        exact rh_Ex.ret rfl rfl
      · rw [if_neg q5] at hf
        refine rh_Ex.stp (s' := ((38, [some (.ref 42), some (.int u1), some (.int u2), some (.int s2)], []), (h, g, cw_R sv))) rfl (st_ifne_n q5) ?_
        refine rh_Ex.blk 3 (s' := ((43, [some (.ref 42), some (.int u1), some (.int u2), some (.int s2)], [.int s2, .ref 1001, .int u1]), (h, g, cw_R sv))) rfl ?_
        obtain ⟨q7, hf⟩ := rh_gq hf
        refine rh_Ex.stp (s' := ((44, [some (.ref 42), some (.int u1), some (.int u2), some (.int s2)], [.int (rh_UN s2.toNatClampNeg), .int u1]), (h, g, cw_R sv))) rfl (st_ials q7) ?_
        refine rh_Ex.blk 1 (s' := ((45, [some (.ref 42), some (.int u1), some (.int u2), some (.int s2)], [.int (u1 + (rh_UN s2.toNatClampNeg))]), (h, g, cw_R sv))) rfl ?_
        obtain rfl := Option.some.inj hf
        obtain ⟨rfl, rfl⟩ := hk
        exact rh_Ex.ret rfl rfl
    · rw [if_neg q4] at hf
      refine rh_Ex.stp (s' := ((46, [some (.ref 42), some (.int u1), some (.int u2), some (.int s2)], []), (h, g, cw_R sv))) rfl (st_icne_n q4) ?_
      refine rh_Ex.blk 2 (s' := ((2, [some (.ref 42), some (.int u1), some (.int u2), some (.int (s2 + (1 : Int32)))], []), (h, g, cw_R sv))) rfl ?_
      obtain rfl := Option.some.inj hf
      refine rh_Ex.fgt [some (.ref 42), some (.int u1), some (.int u2), some (.int (s2 + (1 : Int32)))] ⟨rfl, rfl, rfl, rfl, trivial⟩ ?_
      exact hk
set_option maxRecDepth 20000 in
set_option maxHeartbeats 4000000 in
theorem R_St_behindMove (d : Nat) (sv : Option Nat) (h : Nat → Nat → Int32) (g : Nat → Nat → Int64) (p0 : Int32) (p1 : Int32) {z9 : Int32} (hf : f_St_behindMove h p0 p1 = some z9) : rh_M rh_PT (cw_L ++ cw_X) (d + 1) 88 [.ref 42, .int p0, .int p1] (h, g, cw_R sv) (some (.int z9)) (h, g, cw_R sv) := by
  unfold f_St_behindMove at hf
  refine rh_go pt_88 (Nat.le_of_ble_eq_true rfl) (lv := [some (.ref 42), some (.int p0), some (.int p1), none]) rfl ?_
  refine rh_Ex.blk 2 (s' := ((2, [some (.ref 42), some (.int p0), some (.int p1), some (.int (0 : Int32))], []), (h, g, cw_R sv))) rfl ?_
  obtain ⟨r8, hr8, hf⟩ := rh_bq hf
  refine rh_Ex.fgt [some (.ref 42), some (.int p0), some (.int p1), some (.int (0 : Int32))] ⟨rfl, rfl, rfl, rfl, trivial⟩ ?_
  refine rh_Ex.loop _ _ _ (lb_St_behindMove_2 d sv p0 p1 h  g _ _) rh_N _ r8 hr8 ?_
  rcases r8 with e9 | t10
  · dsimp only at hf
    refine rh_Ex.blk 1 (s' := ((53, [none, some (.int p0), none, none], [.int p0]), (h, g, cw_R sv))) rfl ?_
    obtain rfl := Option.some.inj hf
    exact rh_Ex.ret rfl rfl
  · dsimp only at hf
    obtain rfl := Option.some.inj hf
    exact ⟨rfl, rfl⟩
def b_St_tellSteps_23 (u1 : Int32) : (Int32 × Int32 × (Nat → Nat → Int32)) → Option ((Int32 × Int32 × (Nat → Nat → Int32)) ⊕ ((Nat → Nat → Int32))) := fun s23 =>
  if u1 ≤ s23.2.1 then
    some (.inr s23.2.2)
  else
    if (10 : Int32) ≤ s23.2.1 then
      some (.inr s23.2.2)
    else
      (f_St_indexOf s23.2.2 s23.2.1 s23.1).bind (fun x5 =>
        rh_g (0 ≤ x5.toInt ∧ x5.toInt < ((10500 : Nat) : Int)) (
          (f_Ro_add s23.2.2 ((s23.2.2 47 x5.toNatClampNeg) - (s23.2.2 47 x5.toNatClampNeg) / (32 : Int32) * (32 : Int32))).bind (fun x7 =>
            (f_St_behindMove x7 s23.1 ((s23.2.2 47 x5.toNatClampNeg) - (s23.2.2 47 x5.toNatClampNeg) / (32 : Int32) * (32 : Int32))).bind (fun x8 =>
              some (.inl (x8, s23.2.1 + (1 : Int32), x7))
            )
          )
        )
      )
def f_St_tellSteps (h : Nat → Nat → Int32) (p0 : Int32) : Option ((Nat → Nat → Int32)) :=
  (f_Ro_tell h ((h 47 (0 : Int32).toNatClampNeg) / (32 : Int32))).bind (fun x1 =>
    (rh_loop (b_St_tellSteps_23 p0) rh_N (x1 45 (0 : Int32).toNatClampNeg, (0 : Int32), x1)).bind (fun r9 =>
      some (r9)
    )
  )
set_option maxRecDepth 20000 in
set_option maxHeartbeats 4000000 in
theorem lb_St_tellSteps_23 (d : Nat) (sv : Option Nat) (u1 : Int32) (g : Nat → Nat → Int64) (v9 : Option Value) (h9 : rh_H) : ∀ s23 x9, b_St_tellSteps_23 u1 s23 = some x9 → Sum.elim (fun s23 => rh_Ex (rh_M rh_PT (cw_L ++ cw_X) (d + 2)) (cw_L ++ cw_X) pg_X9_tellSteps ((23, [some (.ref 42), some (.int u1), some (.ref 2), some (.int s23.1), some (.int s23.2.1), none], []), (s23.2.2, g, cw_R sv)) v9 h9) (fun e9 => rh_Ex (rh_M rh_PT (cw_L ++ cw_X) (d + 2)) (cw_L ++ cw_X) pg_X9_tellSteps ((73, [none, none, none, none, none, none], []), (e9, g, cw_R sv)) v9 h9) x9 → rh_Ex (rh_M rh_PT (cw_L ++ cw_X) (d + 2)) (cw_L ++ cw_X) pg_X9_tellSteps ((23, [some (.ref 42), some (.int u1), some (.ref 2), some (.int s23.1), some (.int s23.2.1), none], []), (s23.2.2, g, cw_R sv)) v9 h9 := by
  intro s23 x9 hf hk
  unfold b_St_tellSteps_23 at hf
  refine rh_Ex.blk 2 (s' := ((26, [some (.ref 42), some (.int u1), some (.ref 2), some (.int s23.1), some (.int s23.2.1), none], [.int u1, .int s23.2.1]), (s23.2.2, g, cw_R sv))) rfl ?_
  by_cases q3 : u1 ≤ s23.2.1
  · rw [if_pos q3] at hf
    refine rh_Ex.stp (s' := ((73, [some (.ref 42), some (.int u1), some (.ref 2), some (.int s23.1), some (.int s23.2.1), none], []), (s23.2.2, g, cw_R sv))) rfl (st_icge_p q3) ?_
    obtain rfl := Option.some.inj hf
    refine rh_Ex.fgt [none, none, none, none, none, none] trivial ?_
    exact hk
  · rw [if_neg q3] at hf
    refine rh_Ex.stp (s' := ((29, [some (.ref 42), some (.int u1), some (.ref 2), some (.int s23.1), some (.int s23.2.1), none], []), (s23.2.2, g, cw_R sv))) rfl (st_icge_n q3) ?_
    refine rh_Ex.blk 2 (s' := ((33, [some (.ref 42), some (.int u1), some (.ref 2), some (.int s23.1), some (.int s23.2.1), none], [.int (10 : Int32), .int s23.2.1]), (s23.2.2, g, cw_R sv))) rfl ?_
    by_cases q4 : (10 : Int32) ≤ s23.2.1
    · rw [if_pos q4] at hf
      refine rh_Ex.stp (s' := ((73, [some (.ref 42), some (.int u1), some (.ref 2), some (.int s23.1), some (.int s23.2.1), none], []), (s23.2.2, g, cw_R sv))) rfl (st_icge_p q4) ?_
      obtain rfl := Option.some.inj hf
      refine rh_Ex.fgt [none, none, none, none, none, none] trivial ?_
      exact hk
    · rw [if_neg q4] at hf
      refine rh_Ex.stp (s' := ((36, [some (.ref 42), some (.int u1), some (.ref 2), some (.int s23.1), some (.int s23.2.1), none], []), (s23.2.2, g, cw_R sv))) rfl (st_icge_n q4) ?_
      refine rh_Ex.blk 5 (s' := ((44, [some (.ref 42), some (.int u1), some (.ref 2), some (.int s23.1), some (.int s23.2.1), none], [.int s23.1, .int s23.2.1, .ref 42, .ref 47]), (s23.2.2, g, cw_R sv))) rfl ?_
      obtain ⟨x5, hx5, hf⟩ := rh_bq hf
      refine rh_Ex.call (j := 87) (rc := some 8) [.ref 42, .int s23.2.1, .int s23.1] [.ref 47] (some (.int x5)) rfl rfl rfl (Nat.le_of_ble_eq_true rfl) (R_St_indexOf (d + 1) sv s23.2.2 g s23.2.1 s23.1 hx5) ?_
      show rh_Ex _ _ _ ((47, [some (.ref 42), some (.int u1), some (.ref 2), some (.int s23.1), some (.int s23.2.1), none], [.int x5, .ref 47]), (s23.2.2, g, cw_R sv)) _ _
      obtain ⟨q6, hf⟩ := rh_gq hf
      refine rh_Ex.stp (s' := ((48, [some (.ref 42), some (.int u1), some (.ref 2), some (.int s23.1), some (.int s23.2.1), none], [.int (s23.2.2 47 x5.toNatClampNeg)]), (s23.2.2, g, cw_R sv))) rfl (st_iald (n := 10500) rfl q6) ?_
      refine rh_Ex.blk 1 (s' := ((50, [some (.ref 42), some (.int u1), some (.ref 2), some (.int s23.1), some (.int s23.2.1), none], [.int (32 : Int32), .int (s23.2.2 47 x5.toNatClampNeg)]), (s23.2.2, g, cw_R sv))) rfl ?_
      refine rh_Ex.stp (s' := ((51, [some (.ref 42), some (.int u1), some (.ref 2), some (.int s23.1), some (.int s23.2.1), none], [.int ((s23.2.2 47 x5.toNatClampNeg) - (s23.2.2 47 x5.toNatClampNeg) / (32 : Int32) * (32 : Int32))]), (s23.2.2, g, cw_R sv))) rfl (st_irem (by decide)) ?_
      refine rh_Ex.blk 3 (s' := ((56, [some (.ref 42), some (.int u1), some (.ref 2), some (.int s23.1), some (.int s23.2.1), some (.int ((s23.2.2 47 x5.toNatClampNeg) - (s23.2.2 47 x5.toNatClampNeg) / (32 : Int32) * (32 : Int32)))], [.int ((s23.2.2 47 x5.toNatClampNeg) - (s23.2.2 47 x5.toNatClampNeg) / (32 : Int32) * (32 : Int32)), .ref 2]), (s23.2.2, g, cw_R sv))) rfl ?_
      obtain ⟨x7, hx7, hf⟩ := rh_bq hf
      refine rh_Ex.call (j := 69) (rc := some 6) [.ref 2, .int ((s23.2.2 47 x5.toNatClampNeg) - (s23.2.2 47 x5.toNatClampNeg) / (32 : Int32) * (32 : Int32))] [] none rfl rfl rfl (Nat.le_of_ble_eq_true rfl) (R_Ro_add (d + 1) cw_X sv s23.2.2 g ((s23.2.2 47 x5.toNatClampNeg) - (s23.2.2 47 x5.toNatClampNeg) / (32 : Int32) * (32 : Int32)) hx7) ?_
      show rh_Ex _ _ _ ((59, [some (.ref 42), some (.int u1), some (.ref 2), some (.int s23.1), some (.int s23.2.1), some (.int ((s23.2.2 47 x5.toNatClampNeg) - (s23.2.2 47 x5.toNatClampNeg) / (32 : Int32) * (32 : Int32)))], []), (x7, g, cw_R sv)) _ _
      refine rh_Ex.blk 3 (s' := ((63, [some (.ref 42), some (.int u1), some (.ref 2), some (.int s23.1), some (.int s23.2.1), some (.int ((s23.2.2 47 x5.toNatClampNeg) - (s23.2.2 47 x5.toNatClampNeg) / (32 : Int32) * (32 : Int32)))], [.int ((s23.2.2 47 x5.toNatClampNeg) - (s23.2.2 47 x5.toNatClampNeg) / (32 : Int32) * (32 : Int32)), .int s23.1, .ref 42]), (x7, g, cw_R sv))) rfl ?_
      obtain ⟨x8, hx8, hf⟩ := rh_bq hf
      refine rh_Ex.call (j := 88) (rc := some 8) [.ref 42, .int s23.1, .int ((s23.2.2 47 x5.toNatClampNeg) - (s23.2.2 47 x5.toNatClampNeg) / (32 : Int32) * (32 : Int32))] [] (some (.int x8)) rfl rfl rfl (Nat.le_of_ble_eq_true rfl) (R_St_behindMove (d + 1) sv x7 g s23.1 ((s23.2.2 47 x5.toNatClampNeg) - (s23.2.2 47 x5.toNatClampNeg) / (32 : Int32) * (32 : Int32)) hx8) ?_
      show rh_Ex _ _ _ ((66, [some (.ref 42), some (.int u1), some (.ref 2), some (.int s23.1), some (.int s23.2.1), some (.int ((s23.2.2 47 x5.toNatClampNeg) - (s23.2.2 47 x5.toNatClampNeg) / (32 : Int32) * (32 : Int32)))], [.int x8]), (x7, g, cw_R sv)) _ _
      refine rh_Ex.blk 3 (s' := ((23, [some (.ref 42), some (.int u1), some (.ref 2), some (.int x8), some (.int (s23.2.1 + (1 : Int32))), some (.int ((s23.2.2 47 x5.toNatClampNeg) - (s23.2.2 47 x5.toNatClampNeg) / (32 : Int32) * (32 : Int32)))], []), (x7, g, cw_R sv))) rfl ?_
      obtain rfl := Option.some.inj hf
      refine rh_Ex.fgt [some (.ref 42), some (.int u1), some (.ref 2), some (.int x8), some (.int (s23.2.1 + (1 : Int32))), none] ⟨rfl, rfl, rfl, rfl, rfl, trivial⟩ ?_
      exact hk
set_option maxRecDepth 20000 in
set_option maxHeartbeats 4000000 in
theorem R_St_tellSteps (d : Nat) (sv : Option Nat) (h : Nat → Nat → Int32) (g : Nat → Nat → Int64) (p0 : Int32) {z9 : (Nat → Nat → Int32)} (hf : f_St_tellSteps h p0 = some z9) : rh_M rh_PT (cw_L ++ cw_X) (d + 3) 89 [.ref 42, .int p0, .ref 2] (h, g, cw_R sv) none (z9, g, cw_R sv) := by
  unfold f_St_tellSteps at hf
  refine rh_go pt_89 (Nat.le_of_ble_eq_true rfl) (lv := [some (.ref 42), some (.int p0), some (.ref 2), none, none, none]) rfl ?_
  refine rh_Ex.blk 4 (s' := ((6, [some (.ref 42), some (.int p0), some (.ref 2), none, none, none], [.int (0 : Int32), .ref 47, .ref 2]), (h, g, cw_R sv))) rfl ?_
  refine rh_Ex.stp (s' := ((7, [some (.ref 42), some (.int p0), some (.ref 2), none, none, none], [.int (h 47 (0 : Int32).toNatClampNeg), .ref 2]), (h, g, cw_R sv))) rfl (st_iald (n := 10500) rfl (by decide)) ?_
  refine rh_Ex.blk 1 (s' := ((9, [some (.ref 42), some (.int p0), some (.ref 2), none, none, none], [.int (32 : Int32), .int (h 47 (0 : Int32).toNatClampNeg), .ref 2]), (h, g, cw_R sv))) rfl ?_
  refine rh_Ex.stp (s' := ((10, [some (.ref 42), some (.int p0), some (.ref 2), none, none, none], [.int ((h 47 (0 : Int32).toNatClampNeg) / (32 : Int32)), .ref 2]), (h, g, cw_R sv))) rfl (st_idiv (by decide)) ?_
  obtain ⟨x1, hx1, hf⟩ := rh_bq hf
  refine rh_Ex.call (j := 70) (rc := some 6) [.ref 2, .int ((h 47 (0 : Int32).toNatClampNeg) / (32 : Int32))] [] none rfl rfl rfl (Nat.le_of_ble_eq_true rfl) (R_Ro_tell d cw_X sv h g ((h 47 (0 : Int32).toNatClampNeg) / (32 : Int32)) hx1) ?_
  show rh_Ex _ _ _ ((13, [some (.ref 42), some (.int p0), some (.ref 2), none, none, none], []), (x1, g, cw_R sv)) _ _
  refine rh_Ex.blk 3 (s' := ((18, [some (.ref 42), some (.int p0), some (.ref 2), none, none, none], [.int (0 : Int32), .ref 45]), (x1, g, cw_R sv))) rfl ?_
  refine rh_Ex.stp (s' := ((19, [some (.ref 42), some (.int p0), some (.ref 2), none, none, none], [.int (x1 45 (0 : Int32).toNatClampNeg)]), (x1, g, cw_R sv))) rfl (st_iald (n := 10500) rfl (by decide)) ?_
  refine rh_Ex.blk 3 (s' := ((23, [some (.ref 42), some (.int p0), some (.ref 2), some (.int (x1 45 (0 : Int32).toNatClampNeg)), some (.int (0 : Int32)), none], []), (x1, g, cw_R sv))) rfl ?_
  obtain ⟨r9, hr9, hf⟩ := rh_bq hf
  refine rh_Ex.fgt [some (.ref 42), some (.int p0), some (.ref 2), some (.int (x1 45 (0 : Int32).toNatClampNeg)), some (.int (0 : Int32)), none] ⟨rfl, rfl, rfl, rfl, rfl, trivial⟩ ?_
  refine rh_Ex.loop _ _ _ (lb_St_tellSteps_23 d sv p0  g _ _) rh_N _ r9 hr9 ?_
  obtain rfl := Option.some.inj hf
  exact rh_Ex.ret rfl trivial
def f_Ta_has (h : Nat → Nat → Int32) (p0 : Int32) : Int32 :=
  if p0 < 0 then
    (0 : Int32)
  else
    if (h 25 0) ≤ p0 then
      (0 : Int32)
    else
      (1 : Int32)
set_option maxRecDepth 20000 in
set_option maxHeartbeats 4000000 in
theorem R_Ta_has (d : Nat) (xx : rh_L) (sv : Option Nat) (h : Nat → Nat → Int32) (g : Nat → Nat → Int64) (p0 : Int32) {z9 : Int32} (hf : f_Ta_has h p0 = z9) : rh_M rh_PT (cw_L ++ xx) (d + 1) 90 [.ref 25, .int p0] (h, g, cw_R sv) (some (.int z9)) (h, g, cw_R sv) := by
  unfold f_Ta_has at hf
  refine rh_go pt_90 (Nat.le_of_ble_eq_true rfl) (lv := [some (.ref 25), some (.int p0)]) rfl ?_
  refine rh_Ex.blk 1 (s' := ((1, [some (.ref 25), some (.int p0)], [.int p0]), (h, g, cw_R sv))) rfl ?_
  by_cases q1 : p0 < 0
  · rw [if_pos q1] at hf
    refine rh_Ex.stp (s' := ((16, [some (.ref 25), some (.int p0)], []), (h, g, cw_R sv))) rfl (st_iflt_p q1) ?_
    refine rh_Ex.blk 1 (s' := ((17, [some (.ref 25), some (.int p0)], [.int (0 : Int32)]), (h, g, cw_R sv))) rfl ?_
    subst hf
    exact rh_Ex.ret rfl ⟨rfl, Or.inl rfl⟩
  · rw [if_neg q1] at hf
    refine rh_Ex.stp (s' := ((4, [some (.ref 25), some (.int p0)], []), (h, g, cw_R sv))) rfl (st_iflt_n q1) ?_
    refine rh_Ex.blk 3 (s' := ((9, [some (.ref 25), some (.int p0)], [.int (h 25 0), .int p0]), (h, g, cw_R sv))) rfl ?_
    by_cases q2 : (h 25 0) ≤ p0
    · rw [if_pos q2] at hf
      refine rh_Ex.stp (s' := ((16, [some (.ref 25), some (.int p0)], []), (h, g, cw_R sv))) rfl (st_icge_p q2) ?_
      refine rh_Ex.blk 1 (s' := ((17, [some (.ref 25), some (.int p0)], [.int (0 : Int32)]), (h, g, cw_R sv))) rfl ?_
      subst hf
      exact rh_Ex.ret rfl ⟨rfl, Or.inl rfl⟩
    · rw [if_neg q2] at hf
      refine rh_Ex.stp (s' := ((12, [some (.ref 25), some (.int p0)], []), (h, g, cw_R sv))) rfl (st_icge_n q2) ?_
      refine rh_Ex.blk 2 (s' := ((17, [some (.ref 25), some (.int p0)], [.int (1 : Int32)]), (h, g, cw_R sv))) rfl ?_
      subst hf
      exact rh_Ex.ret rfl ⟨rfl, Or.inr rfl⟩
def f_Ta_suits (h : Nat → Nat → Int32) (p0 : Int32) (p1 : Int32) : Option (Int32) :=
  rh_g (0 ≤ p0.toInt ∧ p0.toInt < ((6 : Nat) : Int)) (
    if p1 < (h 26 p0.toNatClampNeg) then
      some ((0 : Int32))
    else
      rh_g (0 ≤ p0.toInt ∧ p0.toInt < ((6 : Nat) : Int)) (
        if (h 27 p0.toNatClampNeg) < p1 then
          some ((0 : Int32))
        else
          some ((1 : Int32))
      )
  )
set_option maxRecDepth 20000 in
set_option maxHeartbeats 4000000 in
theorem R_Ta_suits (d : Nat) (xx : rh_L) (sv : Option Nat) (h : Nat → Nat → Int32) (g : Nat → Nat → Int64) (p0 : Int32) (p1 : Int32) {z9 : Int32} (hf : f_Ta_suits h p0 p1 = some z9) : rh_M rh_PT (cw_L ++ xx) (d + 1) 91 [.ref 25, .int p0, .int p1] (h, g, cw_R sv) (some (.int z9)) (h, g, cw_R sv) := by
  unfold f_Ta_suits at hf
  refine rh_go pt_91 (Nat.le_of_ble_eq_true rfl) (lv := [some (.ref 25), some (.int p0), some (.int p1)]) rfl ?_
  refine rh_Ex.blk 4 (s' := ((6, [some (.ref 25), some (.int p0), some (.int p1)], [.int p0, .ref 26, .int p1]), (h, g, cw_R sv))) rfl ?_
  obtain ⟨q1, hf⟩ := rh_gq hf
  refine rh_Ex.stp (s' := ((7, [some (.ref 25), some (.int p0), some (.int p1)], [.int (h 26 p0.toNatClampNeg), .int p1]), (h, g, cw_R sv))) rfl (st_iald (n := 6) rfl q1) ?_
  by_cases q2 : p1 < (h 26 p0.toNatClampNeg)
  · rw [if_pos q2] at hf
    refine rh_Ex.stp (s' := ((24, [some (.ref 25), some (.int p0), some (.int p1)], []), (h, g, cw_R sv))) rfl (st_iclt_p q2) ?_
    refine rh_Ex.blk 1 (s' := ((25, [some (.ref 25), some (.int p0), some (.int p1)], [.int (0 : Int32)]), (h, g, cw_R sv))) rfl ?_
    obtain rfl := Option.some.inj hf
    exact rh_Ex.ret rfl ⟨rfl, Or.inl rfl⟩
  · rw [if_neg q2] at hf
    refine rh_Ex.stp (s' := ((10, [some (.ref 25), some (.int p0), some (.int p1)], []), (h, g, cw_R sv))) rfl (st_iclt_n q2) ?_
    refine rh_Ex.blk 4 (s' := ((16, [some (.ref 25), some (.int p0), some (.int p1)], [.int p0, .ref 27, .int p1]), (h, g, cw_R sv))) rfl ?_
    obtain ⟨q3, hf⟩ := rh_gq hf
    refine rh_Ex.stp (s' := ((17, [some (.ref 25), some (.int p0), some (.int p1)], [.int (h 27 p0.toNatClampNeg), .int p1]), (h, g, cw_R sv))) rfl (st_iald (n := 6) rfl q3) ?_
    by_cases q4 : (h 27 p0.toNatClampNeg) < p1
    · rw [if_pos q4] at hf
      refine rh_Ex.stp (s' := ((24, [some (.ref 25), some (.int p0), some (.int p1)], []), (h, g, cw_R sv))) rfl (st_icgt_p q4) ?_
      refine rh_Ex.blk 1 (s' := ((25, [some (.ref 25), some (.int p0), some (.int p1)], [.int (0 : Int32)]), (h, g, cw_R sv))) rfl ?_
      obtain rfl := Option.some.inj hf
      exact rh_Ex.ret rfl ⟨rfl, Or.inl rfl⟩
    · rw [if_neg q4] at hf
      refine rh_Ex.stp (s' := ((20, [some (.ref 25), some (.int p0), some (.int p1)], []), (h, g, cw_R sv))) rfl (st_icgt_n q4) ?_
      refine rh_Ex.blk 2 (s' := ((25, [some (.ref 25), some (.int p0), some (.int p1)], [.int (1 : Int32)]), (h, g, cw_R sv))) rfl ?_
      obtain rfl := Option.some.inj hf
      exact rh_Ex.ret rfl ⟨rfl, Or.inr rfl⟩
def b_Ta_suitedBy_4 (u1 : Int32) (h : Nat → Nat → Int32) : (Int32 × Int32) → Option ((Int32 × Int32) ⊕ (Int32)) := fun s4 =>
  if (h 25 0) ≤ s4.2 then
    some (.inr s4.1)
  else
    (f_Ta_suits h s4.2 u1).bind (fun x3 =>
      if x3 = 0 then
        some (.inl (s4.1 ||| (0 : Int32), s4.2 + (1 : Int32)))
      else
        some (.inl (s4.1 ||| ((1 : Int32) <<< (s4.2 &&& 31)), s4.2 + (1 : Int32)))
    )
def f_Ta_suitedBy (h : Nat → Nat → Int32) (p0 : Int32) : Option (Int32) :=
  (rh_loop (b_Ta_suitedBy_4 p0 h) rh_N ((0 : Int32), (0 : Int32))).bind (fun r5 =>
    some (r5)
  )
set_option maxRecDepth 20000 in
set_option maxHeartbeats 4000000 in
theorem lb_Ta_suitedBy_4 (d : Nat) (xx : rh_L) (sv : Option Nat) (u1 : Int32) (h : Nat → Nat → Int32) (g : Nat → Nat → Int64) (v9 : Option Value) (h9 : rh_H) : ∀ s4 x9, b_Ta_suitedBy_4 u1 h s4 = some x9 → Sum.elim (fun s4 => rh_Ex (rh_M rh_PT (cw_L ++ xx) (d + 1)) (cw_L ++ xx) pg_X10_suitedBy ((4, [some (.ref 25), some (.int u1), some (.int s4.1), some (.int s4.2)], []), (h, g, cw_R sv)) v9 h9) (fun e9 => rh_Ex (rh_M rh_PT (cw_L ++ xx) (d + 1)) (cw_L ++ xx) pg_X10_suitedBy ((37, [none, none, some (.int e9), none], []), (h, g, cw_R sv)) v9 h9) x9 → rh_Ex (rh_M rh_PT (cw_L ++ xx) (d + 1)) (cw_L ++ xx) pg_X10_suitedBy ((4, [some (.ref 25), some (.int u1), some (.int s4.1), some (.int s4.2)], []), (h, g, cw_R sv)) v9 h9 := by
  intro s4 x9 hf hk
  unfold b_Ta_suitedBy_4 at hf
  refine rh_Ex.blk 3 (s' := ((9, [some (.ref 25), some (.int u1), some (.int s4.1), some (.int s4.2)], [.int (h 25 0), .int s4.2]), (h, g, cw_R sv))) rfl ?_
  by_cases q2 : (h 25 0) ≤ s4.2
  · rw [if_pos q2] at hf
    refine rh_Ex.stp (s' := ((37, [some (.ref 25), some (.int u1), some (.int s4.1), some (.int s4.2)], []), (h, g, cw_R sv))) rfl (st_icge_p q2) ?_
    obtain rfl := Option.some.inj hf
    refine rh_Ex.fgt [none, none, some (.int s4.1), none] ⟨rfl, trivial⟩ ?_
    exact hk
  · rw [if_neg q2] at hf
    refine rh_Ex.stp (s' := ((12, [some (.ref 25), some (.int u1), some (.int s4.1), some (.int s4.2)], []), (h, g, cw_R sv))) rfl (st_icge_n q2) ?_
    refine rh_Ex.blk 4 (s' := ((16, [some (.ref 25), some (.int u1), some (.int s4.1), some (.int s4.2)], [.int u1, .int s4.2, .ref 25, .int s4.1]), (h, g, cw_R sv))) rfl ?_
    obtain ⟨x3, hx3, hf⟩ := rh_bq hf
    refine rh_Ex.call (j := 91) (rc := some 9) [.ref 25, .int s4.2, .int u1] [.int s4.1] (some (.int x3)) rfl rfl rfl (Nat.le_of_ble_eq_true rfl) (R_Ta_suits d xx sv h g s4.2 u1 hx3) ?_
    show rh_Ex _ _ _ ((19, [some (.ref 25), some (.int u1), some (.int s4.1), some (.int s4.2)], [.int x3, .int s4.1]), (h, g, cw_R sv)) _ _
    by_cases q4 : x3 = 0
    · rw [if_pos q4] at hf
      refine rh_Ex.stp (s' := ((28, [some (.ref 25), some (.int u1), some (.int s4.1), some (.int s4.2)], [.int s4.1]), (h, g, cw_R sv))) rfl (st_ifeq_p q4) ?_
      refine rh_Ex.blk 5 (s' := ((4, [some (.ref 25), some (.int u1), some (.int (s4.1 ||| (0 : Int32))), some (.int (s4.2 + (1 : Int32)))], []), (h, g, cw_R sv))) rfl ?_
      obtain rfl := Option.some.inj hf
      refine rh_Ex.fgt [some (.ref 25), some (.int u1), some (.int (s4.1 ||| (0 : Int32))), some (.int (s4.2 + (1 : Int32)))] ⟨rfl, rfl, rfl, rfl, trivial⟩ ?_
      exact hk
    · rw [if_neg q4] at hf
      refine rh_Ex.stp (s' := ((22, [some (.ref 25), some (.int u1), some (.int s4.1), some (.int s4.2)], [.int s4.1]), (h, g, cw_R sv))) rfl (st_ifeq_n q4) ?_
      refine rh_Ex.blk 8 (s' := ((4, [some (.ref 25), some (.int u1), some (.int (s4.1 ||| ((1 : Int32) <<< (s4.2 &&& 31)))), some (.int (s4.2 + (1 : Int32)))], []), (h, g, cw_R sv))) rfl ?_
      obtain rfl := Option.some.inj hf
      refine rh_Ex.fgt [some (.ref 25), some (.int u1), some (.int (s4.1 ||| ((1 : Int32) <<< (s4.2 &&& 31)))), some (.int (s4.2 + (1 : Int32)))] ⟨rfl, rfl, rfl, rfl, trivial⟩ ?_
      exact hk
set_option maxRecDepth 20000 in
set_option maxHeartbeats 4000000 in
theorem R_Ta_suitedBy (d : Nat) (xx : rh_L) (sv : Option Nat) (h : Nat → Nat → Int32) (g : Nat → Nat → Int64) (p0 : Int32) {z9 : Int32} (hf : f_Ta_suitedBy h p0 = some z9) : rh_M rh_PT (cw_L ++ xx) (d + 2) 92 [.ref 25, .int p0] (h, g, cw_R sv) (some (.int z9)) (h, g, cw_R sv) := by
  unfold f_Ta_suitedBy at hf
  refine rh_go pt_92 (Nat.le_of_ble_eq_true rfl) (lv := [some (.ref 25), some (.int p0), none, none]) rfl ?_
  refine rh_Ex.blk 4 (s' := ((4, [some (.ref 25), some (.int p0), some (.int (0 : Int32)), some (.int (0 : Int32))], []), (h, g, cw_R sv))) rfl ?_
  obtain ⟨r5, hr5, hf⟩ := rh_bq hf
  refine rh_Ex.fgt [some (.ref 25), some (.int p0), some (.int (0 : Int32)), some (.int (0 : Int32))] ⟨rfl, rfl, rfl, rfl, trivial⟩ ?_
  refine rh_Ex.loop _ _ _ (lb_Ta_suitedBy_4 d xx sv p0 h  g _ _) rh_N _ r5 hr5 ?_
  refine rh_Ex.blk 1 (s' := ((38, [none, none, some (.int r5), none], [.int r5]), (h, g, cw_R sv))) rfl ?_
  obtain rfl := Option.some.inj hf
  exact rh_Ex.ret rfl rfl
def b_Ta_doable_14 (u3 : Int32) (h : Nat → Nat → Int32) : (Int32 × Int32) → Option ((Int32 × Int32) ⊕ (Int32)) := fun s14 =>
  if (f_Cr_sets h) ≤ s14.2 then
    some (.inr s14.1)
  else
    if s14.1 = u3 then
      some (.inr s14.1)
    else
      rh_g (0 ≤ s14.2.toInt ∧ s14.2.toInt < ((512 : Nat) : Int)) (
        (f_Ta_suitedBy h (h 12 s14.2.toNatClampNeg)).bind (fun x5 =>
          some (.inl (s14.1 ||| x5, s14.2 + (1 : Int32)))
        )
      )
def f_Ta_doable (h : Nat → Nat → Int32) : Option (Int32) :=
  (rh_loop (b_Ta_doable_14 (((1 : Int32) <<< ((h 25 0) &&& 31)) - (1 : Int32)) h) rh_N ((0 : Int32), (1 : Int32))).bind (fun r6 =>
    some (r6)
  )
set_option maxRecDepth 20000 in
set_option maxHeartbeats 4000000 in
theorem lb_Ta_doable_14 (d : Nat) (xx : rh_L) (sv : Option Nat) (u3 : Int32) (h : Nat → Nat → Int32) (g : Nat → Nat → Int64) (v9 : Option Value) (h9 : rh_H) : ∀ s14 x9, b_Ta_doable_14 u3 h s14 = some x9 → Sum.elim (fun s14 => rh_Ex (rh_M rh_PT (cw_L ++ xx) (d + 2)) (cw_L ++ xx) pg_X10_doable ((14, [some (.ref 25), some (.ref 4), some (.int s14.1), some (.int u3), some (.int s14.2)], []), (h, g, cw_R sv)) v9 h9) (fun e9 => rh_Ex (rh_M rh_PT (cw_L ++ xx) (d + 2)) (cw_L ++ xx) pg_X10_doable ((48, [none, none, some (.int e9), none, none], []), (h, g, cw_R sv)) v9 h9) x9 → rh_Ex (rh_M rh_PT (cw_L ++ xx) (d + 2)) (cw_L ++ xx) pg_X10_doable ((14, [some (.ref 25), some (.ref 4), some (.int s14.1), some (.int u3), some (.int s14.2)], []), (h, g, cw_R sv)) v9 h9 := by
  intro s14 x9 hf hk
  unfold b_Ta_doable_14 at hf
  refine rh_Ex.blk 2 (s' := ((17, [some (.ref 25), some (.ref 4), some (.int s14.1), some (.int u3), some (.int s14.2)], [.ref 4, .int s14.2]), (h, g, cw_R sv))) rfl ?_
  refine rh_Ex.call (j := 2) (rc := some 0) [.ref 4] [.int s14.2] (some (.int (f_Cr_sets h))) rfl rfl rfl (Nat.le_of_ble_eq_true rfl) (R_Cr_sets (d + 1) xx sv h g  rfl) ?_
  show rh_Ex _ _ _ ((20, [some (.ref 25), some (.ref 4), some (.int s14.1), some (.int u3), some (.int s14.2)], [.int (f_Cr_sets h), .int s14.2]), (h, g, cw_R sv)) _ _
  by_cases q2 : (f_Cr_sets h) ≤ s14.2
  · rw [if_pos q2] at hf
    refine rh_Ex.stp (s' := ((48, [some (.ref 25), some (.ref 4), some (.int s14.1), some (.int u3), some (.int s14.2)], []), (h, g, cw_R sv))) rfl (st_icge_p q2) ?_
    obtain rfl := Option.some.inj hf
    refine rh_Ex.fgt [none, none, some (.int s14.1), none, none] ⟨rfl, trivial⟩ ?_
    exact hk
  · rw [if_neg q2] at hf
    refine rh_Ex.stp (s' := ((23, [some (.ref 25), some (.ref 4), some (.int s14.1), some (.int u3), some (.int s14.2)], []), (h, g, cw_R sv))) rfl (st_icge_n q2) ?_
    refine rh_Ex.blk 2 (s' := ((25, [some (.ref 25), some (.ref 4), some (.int s14.1), some (.int u3), some (.int s14.2)], [.int u3, .int s14.1]), (h, g, cw_R sv))) rfl ?_
    by_cases q3 : s14.1 = u3
    · rw [if_pos q3] at hf
      refine rh_Ex.stp (s' := ((48, [some (.ref 25), some (.ref 4), some (.int s14.1), some (.int u3), some (.int s14.2)], []), (h, g, cw_R sv))) rfl (st_iceq_p q3) ?_
      obtain rfl := Option.some.inj hf
      refine rh_Ex.fgt [none, none, some (.int s14.1), none, none] ⟨rfl, trivial⟩ ?_
      exact hk
    · rw [if_neg q3] at hf
      refine rh_Ex.stp (s' := ((28, [some (.ref 25), some (.ref 4), some (.int s14.1), some (.int u3), some (.int s14.2)], []), (h, g, cw_R sv))) rfl (st_iceq_n q3) ?_
      refine rh_Ex.blk 5 (s' := ((36, [some (.ref 25), some (.ref 4), some (.int s14.1), some (.int u3), some (.int s14.2)], [.int s14.2, .ref 12, .ref 25, .int s14.1]), (h, g, cw_R sv))) rfl ?_
      obtain ⟨q4, hf⟩ := rh_gq hf
      refine rh_Ex.stp (s' := ((37, [some (.ref 25), some (.ref 4), some (.int s14.1), some (.int u3), some (.int s14.2)], [.int (h 12 s14.2.toNatClampNeg), .ref 25, .int s14.1]), (h, g, cw_R sv))) rfl (st_iald (n := 512) rfl q4) ?_
      obtain ⟨x5, hx5, hf⟩ := rh_bq hf
      refine rh_Ex.call (j := 92) (rc := some 9) [.ref 25, .int (h 12 s14.2.toNatClampNeg)] [.int s14.1] (some (.int x5)) rfl rfl rfl (Nat.le_of_ble_eq_true rfl) (R_Ta_suitedBy d xx sv h g (h 12 s14.2.toNatClampNeg) hx5) ?_
      show rh_Ex _ _ _ ((40, [some (.ref 25), some (.ref 4), some (.int s14.1), some (.int u3), some (.int s14.2)], [.int x5, .int s14.1]), (h, g, cw_R sv)) _ _
      refine rh_Ex.blk 4 (s' := ((14, [some (.ref 25), some (.ref 4), some (.int (s14.1 ||| x5)), some (.int u3), some (.int (s14.2 + (1 : Int32)))], []), (h, g, cw_R sv))) rfl ?_
      obtain rfl := Option.some.inj hf
      refine rh_Ex.fgt [some (.ref 25), some (.ref 4), some (.int (s14.1 ||| x5)), some (.int u3), some (.int (s14.2 + (1 : Int32)))] ⟨rfl, rfl, rfl, rfl, rfl, trivial⟩ ?_
      exact hk
set_option maxRecDepth 20000 in
set_option maxHeartbeats 4000000 in
theorem R_Ta_doable (d : Nat) (xx : rh_L) (sv : Option Nat) (h : Nat → Nat → Int32) (g : Nat → Nat → Int64)  {z9 : Int32} (hf : f_Ta_doable h = some z9) : rh_M rh_PT (cw_L ++ xx) (d + 3) 93 [.ref 25, .ref 4] (h, g, cw_R sv) (some (.int z9)) (h, g, cw_R sv) := by
  unfold f_Ta_doable at hf
  refine rh_go pt_93 (Nat.le_of_ble_eq_true rfl) (lv := [some (.ref 25), some (.ref 4), none, none, none]) rfl ?_
  refine rh_Ex.blk 11 (s' := ((14, [some (.ref 25), some (.ref 4), some (.int (0 : Int32)), some (.int (((1 : Int32) <<< ((h 25 0) &&& 31)) - (1 : Int32))), some (.int (1 : Int32))], []), (h, g, cw_R sv))) rfl ?_
  obtain ⟨r6, hr6, hf⟩ := rh_bq hf
  refine rh_Ex.fgt [some (.ref 25), some (.ref 4), some (.int (0 : Int32)), some (.int (((1 : Int32) <<< ((h 25 0) &&& 31)) - (1 : Int32))), some (.int (1 : Int32))] ⟨rfl, rfl, rfl, rfl, rfl, trivial⟩ ?_
  refine rh_Ex.loop _ _ _ (lb_Ta_doable_14 d xx sv (((1 : Int32) <<< ((h 25 0) &&& 31)) - (1 : Int32)) h  g _ _) rh_N _ r6 hr6 ?_
  refine rh_Ex.blk 1 (s' := ((49, [none, none, some (.int r6), none, none], [.int r6]), (h, g, cw_R sv))) rfl ?_
  obtain rfl := Option.some.inj hf
  exact rh_Ex.ret rfl rfl
def f_Ta_withTask (p0 : Int64) (p1 : Int32) : Option (Int64) :=
  rh_g (0 ≤ p1.toInt ∧ p1.toInt < ((6 : Nat) : Int)) (
    some (((p0 &&& ((rh_GW p1.toNatClampNeg) ^^^ (-1 : Int64))) <<< (((1 : Int32) <<< (p1 &&& 31)).toInt64 &&& 63)))
  )
set_option maxRecDepth 20000 in
set_option maxHeartbeats 4000000 in
theorem R_Ta_withTask (d : Nat) (LL : rh_L) (rr : Nat → Nat → Option Nat) (h : Nat → Nat → Int32) (g : Nat → Nat → Int64) (p0 : Int64) (p1 : Int32) {z9 : Int64} (hf : f_Ta_withTask p0 p1 = some z9) : rh_M rh_PT LL (d + 1) 94 [.long p0, .int p1] (h, g, rr) (some (.long z9)) (h, g, rr) := by
  unfold f_Ta_withTask at hf
  refine rh_go pt_94 (Nat.le_of_ble_eq_true rfl) (lv := [some (.long p0), none, some (.int p1)]) rfl ?_
  refine rh_Ex.blk 3 (s' := ((5, [some (.long p0), none, some (.int p1)], [.int p1, .ref 1000, .long p0]), (h, g, rr))) rfl ?_
  obtain ⟨q1, hf⟩ := rh_gq hf
  refine rh_Ex.stp (s' := ((6, [some (.long p0), none, some (.int p1)], [.long (rh_GW p1.toNatClampNeg), .long p0]), (h, g, rr))) rfl (st_lals q1) ?_
  refine rh_Ex.blk 7 (s' := ((15, [some (.long p0), none, some (.int p1)], [.long ((p0 &&& ((rh_GW p1.toNatClampNeg) ^^^ (-1 : Int64))) <<< (((1 : Int32) <<< (p1 &&& 31)).toInt64 &&& 63))]), (h, g, rr))) rfl ?_
  obtain rfl := Option.some.inj hf
  exact rh_Ex.ret rfl rfl
def f_Ta_canBeLeft (g : Nat → Nat → Int64) (p0 : Int32) (p1 : Int32) : Option (Int32) :=
  rh_g (0 ≤ p0.toInt ∧ p0.toInt < ((10 : Nat) : Int)) (
    if (lg_cmp ((((g 29 p0.toNatClampNeg).toUInt64 >>> (p1.toInt64.toUInt64 &&& Int64.toUInt64 63)).toInt64) &&& (1 : Int64)) (0 : Int64)) = 0 then
      some ((0 : Int32))
    else
      some ((1 : Int32))
  )
set_option maxRecDepth 20000 in
set_option maxHeartbeats 4000000 in
theorem R_Ta_canBeLeft (d : Nat) (xx : rh_L) (sv : Option Nat) (h : Nat → Nat → Int32) (g : Nat → Nat → Int64) (p0 : Int32) (p1 : Int32) {z9 : Int32} (hf : f_Ta_canBeLeft g p0 p1 = some z9) : rh_M rh_PT (cw_L ++ xx) (d + 1) 96 [.ref 25, .int p0, .int p1] (h, g, cw_R sv) (some (.int z9)) (h, g, cw_R sv) := by
  unfold f_Ta_canBeLeft at hf
  refine rh_go pt_96 (Nat.le_of_ble_eq_true rfl) (lv := [some (.ref 25), some (.int p0), some (.int p1)]) rfl ?_
  refine rh_Ex.blk 3 (s' := ((5, [some (.ref 25), some (.int p0), some (.int p1)], [.int p0, .ref 29]), (h, g, cw_R sv))) rfl ?_
  obtain ⟨q1, hf⟩ := rh_gq hf
  refine rh_Ex.stp (s' := ((6, [some (.ref 25), some (.int p0), some (.int p1)], [.long (g 29 p0.toNatClampNeg)]), (h, g, cw_R sv))) rfl (st_lald (n := 10) rfl q1) ?_
  refine rh_Ex.blk 6 (s' := ((12, [some (.ref 25), some (.int p0), some (.int p1)], [.int (lg_cmp ((((g 29 p0.toNatClampNeg).toUInt64 >>> (p1.toInt64.toUInt64 &&& Int64.toUInt64 63)).toInt64) &&& (1 : Int64)) (0 : Int64))]), (h, g, cw_R sv))) rfl ?_
  by_cases q2 : (lg_cmp ((((g 29 p0.toNatClampNeg).toUInt64 >>> (p1.toInt64.toUInt64 &&& Int64.toUInt64 63)).toInt64) &&& (1 : Int64)) (0 : Int64)) = 0
  · rw [if_pos q2] at hf
    refine rh_Ex.stp (s' := ((19, [some (.ref 25), some (.int p0), some (.int p1)], []), (h, g, cw_R sv))) rfl (st_ifeq_p q2) ?_
    refine rh_Ex.blk 1 (s' := ((20, [some (.ref 25), some (.int p0), some (.int p1)], [.int (0 : Int32)]), (h, g, cw_R sv))) rfl ?_
    obtain rfl := Option.some.inj hf
    exact rh_Ex.ret rfl ⟨rfl, Or.inl rfl⟩
  · rw [if_neg q2] at hf
    refine rh_Ex.stp (s' := ((15, [some (.ref 25), some (.int p0), some (.int p1)], []), (h, g, cw_R sv))) rfl (st_ifeq_n q2) ?_
    refine rh_Ex.blk 2 (s' := ((20, [some (.ref 25), some (.int p0), some (.int p1)], [.int (1 : Int32)]), (h, g, cw_R sv))) rfl ?_
    obtain rfl := Option.some.inj hf
    exact rh_Ex.ret rfl ⟨rfl, Or.inr rfl⟩
def b_Ta_plan_31 (u2 : Int32) (h : Nat → Nat → Int32) : (Int32 × (Nat → Nat → Int64)) → Option ((Int32 × (Nat → Nat → Int64)) ⊕ ((Nat → Nat → Int64))) := fun s31 =>
  if (h 25 0) ≤ s31.1 then
    some (.inr s31.2)
  else
    rh_g (0 ≤ u2.toInt ∧ u2.toInt < ((9 : Nat) : Int)) (
      if (((h 28 u2.toNatClampNeg) >>> (s31.1 &&& 31)) &&& (1 : Int32)) = 0 then
        some (.inl (s31.1 + (1 : Int32), s31.2))
      else
        rh_g (0 ≤ u2.toInt ∧ u2.toInt < ((10 : Nat) : Int)) (
          rh_g (0 ≤ (u2 + (1 : Int32)).toInt ∧ (u2 + (1 : Int32)).toInt < ((10 : Nat) : Int)) (
            (f_Ta_withTask (s31.2 29 (u2 + (1 : Int32)).toNatClampNeg) s31.1).bind (fun x12 =>
              rh_g (0 ≤ u2.toInt ∧ u2.toInt < ((10 : Nat) : Int)) (
                some (.inl (s31.1 + (1 : Int32), rh_up s31.2 29 u2.toNatClampNeg ((s31.2 29 u2.toNatClampNeg) ||| x12)))
              )
            )
          )
        )
    )
def b_Ta_plan_11 (h : Nat → Nat → Int32) : (Int32 × (Nat → Nat → Int64)) → Option ((Int32 × (Nat → Nat → Int64)) ⊕ ((Nat → Nat → Int64))) := fun s11 =>
  if s11.1 < 0 then
    some (.inr s11.2)
  else
    rh_g (0 ≤ (s11.1 + (1 : Int32)).toInt ∧ (s11.1 + (1 : Int32)).toInt < ((10 : Nat) : Int)) (
      rh_g (0 ≤ s11.1.toInt ∧ s11.1.toInt < ((10 : Nat) : Int)) (
        (rh_loop (b_Ta_plan_31 s11.1 h) rh_N ((0 : Int32), rh_up s11.2 29 s11.1.toNatClampNeg (s11.2 29 (s11.1 + (1 : Int32)).toNatClampNeg))).bind (fun r14 =>
          some (.inl (s11.1 + (-1 : Int32), r14))
        )
      )
    )
def f_Ta_plan (h : Nat → Nat → Int32) (g : Nat → Nat → Int64) (p0 : Int32) : Option (Int32 × (Nat → Nat → Int64)) :=
  rh_g (0 ≤ (p0 + (1 : Int32)).toInt ∧ (p0 + (1 : Int32)).toInt < ((10 : Nat) : Int)) (
    (rh_loop (b_Ta_plan_11 h) rh_N (p0, rh_up g 29 (p0 + (1 : Int32)).toNatClampNeg (1 : Int64))).bind (fun r15 =>
      (f_Ta_canBeLeft r15 (0 : Int32) (((1 : Int32) <<< ((h 25 0) &&& 31)) - (1 : Int32))).bind (fun x16 =>
        rh_g (x16 = 0 ∨ x16 = 1) (
          some ((x16, r15))
        )
      )
    )
  )
set_option maxRecDepth 20000 in
set_option maxHeartbeats 4000000 in
theorem lb_Ta_plan_31 (d : Nat) (xx : rh_L) (sv : Option Nat) (u2 : Int32) (h : Nat → Nat → Int32) (v9 : Option Value) (h9 : rh_H) : ∀ s31 x9, b_Ta_plan_31 u2 h s31 = some x9 → Sum.elim (fun s31 => rh_Ex (rh_M rh_PT (cw_L ++ xx) (d + 1)) (cw_L ++ xx) pg_X10_plan ((31, [some (.ref 25), none, some (.int u2), some (.int s31.1)], []), (h, s31.2, cw_R sv)) v9 h9) (fun e9 => rh_Ex (rh_M rh_PT (cw_L ++ xx) (d + 1)) (cw_L ++ xx) pg_X10_plan ((79, [some (.ref 25), none, some (.int u2), none], []), (h, e9, cw_R sv)) v9 h9) x9 → rh_Ex (rh_M rh_PT (cw_L ++ xx) (d + 1)) (cw_L ++ xx) pg_X10_plan ((31, [some (.ref 25), none, some (.int u2), some (.int s31.1)], []), (h, s31.2, cw_R sv)) v9 h9 := by
  intro s31 x9 hf hk
  unfold b_Ta_plan_31 at hf
  refine rh_Ex.blk 3 (s' := ((36, [some (.ref 25), none, some (.int u2), some (.int s31.1)], [.int (h 25 0), .int s31.1]), (h, s31.2, cw_R sv))) rfl ?_
  by_cases q7 : (h 25 0) ≤ s31.1
  · rw [if_pos q7] at hf
    refine rh_Ex.stp (s' := ((79, [some (.ref 25), none, some (.int u2), some (.int s31.1)], []), (h, s31.2, cw_R sv))) rfl (st_icge_p q7) ?_
    obtain rfl := Option.some.inj hf
    refine rh_Ex.fgt [some (.ref 25), none, some (.int u2), none] ⟨rfl, rfl, trivial⟩ ?_
    exact hk
  · rw [if_neg q7] at hf
    refine rh_Ex.stp (s' := ((39, [some (.ref 25), none, some (.int u2), some (.int s31.1)], []), (h, s31.2, cw_R sv))) rfl (st_icge_n q7) ?_
    refine rh_Ex.blk 3 (s' := ((44, [some (.ref 25), none, some (.int u2), some (.int s31.1)], [.int u2, .ref 28]), (h, s31.2, cw_R sv))) rfl ?_
    obtain ⟨q8, hf⟩ := rh_gq hf
    refine rh_Ex.stp (s' := ((45, [some (.ref 25), none, some (.int u2), some (.int s31.1)], [.int (h 28 u2.toNatClampNeg)]), (h, s31.2, cw_R sv))) rfl (st_iald (n := 9) rfl q8) ?_
    refine rh_Ex.blk 4 (s' := ((49, [some (.ref 25), none, some (.int u2), some (.int s31.1)], [.int (((h 28 u2.toNatClampNeg) >>> (s31.1 &&& 31)) &&& (1 : Int32))]), (h, s31.2, cw_R sv))) rfl ?_
    by_cases q9 : (((h 28 u2.toNatClampNeg) >>> (s31.1 &&& 31)) &&& (1 : Int32)) = 0
    · rw [if_pos q9] at hf
      refine rh_Ex.stp (s' := ((73, [some (.ref 25), none, some (.int u2), some (.int s31.1)], []), (h, s31.2, cw_R sv))) rfl (st_ifeq_p q9) ?_
      refine rh_Ex.blk 2 (s' := ((31, [some (.ref 25), none, some (.int u2), some (.int (s31.1 + (1 : Int32)))], []), (h, s31.2, cw_R sv))) rfl ?_
      obtain rfl := Option.some.inj hf
      refine rh_Ex.fgt [some (.ref 25), none, some (.int u2), some (.int (s31.1 + (1 : Int32)))] ⟨rfl, rfl, rfl, trivial⟩ ?_
      exact hk
    · rw [if_neg q9] at hf
      refine rh_Ex.stp (s' := ((52, [some (.ref 25), none, some (.int u2), some (.int s31.1)], []), (h, s31.2, cw_R sv))) rfl (st_ifeq_n q9) ?_
      refine rh_Ex.blk 4 (s' := ((58, [some (.ref 25), none, some (.int u2), some (.int s31.1)], [.int u2, .ref 29, .int u2, .ref 29]), (h, s31.2, cw_R sv))) rfl ?_
      obtain ⟨q10, hf⟩ := rh_gq hf
      refine rh_Ex.stp (s' := ((59, [some (.ref 25), none, some (.int u2), some (.int s31.1)], [.long (s31.2 29 u2.toNatClampNeg), .int u2, .ref 29]), (h, s31.2, cw_R sv))) rfl (st_lald (n := 10) rfl q10) ?_
      refine rh_Ex.blk 5 (s' := ((66, [some (.ref 25), none, some (.int u2), some (.int s31.1)], [.int (u2 + (1 : Int32)), .ref 29, .long (s31.2 29 u2.toNatClampNeg), .int u2, .ref 29]), (h, s31.2, cw_R sv))) rfl ?_
      obtain ⟨q11, hf⟩ := rh_gq hf
      refine rh_Ex.stp (s' := ((67, [some (.ref 25), none, some (.int u2), some (.int s31.1)], [.long (s31.2 29 (u2 + (1 : Int32)).toNatClampNeg), .long (s31.2 29 u2.toNatClampNeg), .int u2, .ref 29]), (h, s31.2, cw_R sv))) rfl (st_lald (n := 10) rfl q11) ?_
      refine rh_Ex.blk 1 (s' := ((68, [some (.ref 25), none, some (.int u2), some (.int s31.1)], [.int s31.1, .long (s31.2 29 (u2 + (1 : Int32)).toNatClampNeg), .long (s31.2 29 u2.toNatClampNeg), .int u2, .ref 29]), (h, s31.2, cw_R sv))) rfl ?_
      obtain ⟨x12, hx12, hf⟩ := rh_bq hf
      refine rh_Ex.call (j := 94) (rc := none) [.long (s31.2 29 (u2 + (1 : Int32)).toNatClampNeg), .int s31.1] [.long (s31.2 29 u2.toNatClampNeg), .int u2, .ref 29] (some (.long x12)) rfl rfl trivial (Nat.le_of_ble_eq_true rfl) (R_Ta_withTask d (cw_L ++ xx) (cw_R sv) h s31.2 (s31.2 29 (u2 + (1 : Int32)).toNatClampNeg) s31.1 hx12) ?_
      show rh_Ex _ _ _ ((71, [some (.ref 25), none, some (.int u2), some (.int s31.1)], [.long x12, .long (s31.2 29 u2.toNatClampNeg), .int u2, .ref 29]), (h, s31.2, cw_R sv)) _ _
      refine rh_Ex.blk 1 (s' := ((72, [some (.ref 25), none, some (.int u2), some (.int s31.1)], [.long ((s31.2 29 u2.toNatClampNeg) ||| x12), .int u2, .ref 29]), (h, s31.2, cw_R sv))) rfl ?_
      obtain ⟨q13, hf⟩ := rh_gq hf
      refine rh_Ex.stp (s' := ((73, [some (.ref 25), none, some (.int u2), some (.int s31.1)], []), (h, rh_up s31.2 29 u2.toNatClampNeg ((s31.2 29 u2.toNatClampNeg) ||| x12), cw_R sv))) rfl (st_last (n := 10) rfl q13) ?_
      refine rh_Ex.blk 2 (s' := ((31, [some (.ref 25), none, some (.int u2), some (.int (s31.1 + (1 : Int32)))], []), (h, rh_up s31.2 29 u2.toNatClampNeg ((s31.2 29 u2.toNatClampNeg) ||| x12), cw_R sv))) rfl ?_
      obtain rfl := Option.some.inj hf
      refine rh_Ex.fgt [some (.ref 25), none, some (.int u2), some (.int (s31.1 + (1 : Int32)))] ⟨rfl, rfl, rfl, trivial⟩ ?_
      exact hk
set_option maxRecDepth 20000 in
set_option maxHeartbeats 4000000 in
theorem lb_Ta_plan_11 (d : Nat) (xx : rh_L) (sv : Option Nat) (h : Nat → Nat → Int32) (v9 : Option Value) (h9 : rh_H) : ∀ s11 x9, b_Ta_plan_11 h s11 = some x9 → Sum.elim (fun s11 => rh_Ex (rh_M rh_PT (cw_L ++ xx) (d + 1)) (cw_L ++ xx) pg_X10_plan ((11, [some (.ref 25), none, some (.int s11.1), none], []), (h, s11.2, cw_R sv)) v9 h9) (fun e9 => rh_Ex (rh_M rh_PT (cw_L ++ xx) (d + 1)) (cw_L ++ xx) pg_X10_plan ((85, [some (.ref 25), none, none, none], []), (h, e9, cw_R sv)) v9 h9) x9 → rh_Ex (rh_M rh_PT (cw_L ++ xx) (d + 1)) (cw_L ++ xx) pg_X10_plan ((11, [some (.ref 25), none, some (.int s11.1), none], []), (h, s11.2, cw_R sv)) v9 h9 := by
  intro s11 x9 hf hk
  unfold b_Ta_plan_11 at hf
  refine rh_Ex.blk 1 (s' := ((12, [some (.ref 25), none, some (.int s11.1), none], [.int s11.1]), (h, s11.2, cw_R sv))) rfl ?_
  by_cases q3 : s11.1 < 0
  · rw [if_pos q3] at hf
    refine rh_Ex.stp (s' := ((85, [some (.ref 25), none, some (.int s11.1), none], []), (h, s11.2, cw_R sv))) rfl (st_iflt_p q3) ?_
    obtain rfl := Option.some.inj hf
    refine rh_Ex.fgt [some (.ref 25), none, none, none] ⟨rfl, trivial⟩ ?_
    exact hk
  · rw [if_neg q3] at hf
    refine rh_Ex.stp (s' := ((15, [some (.ref 25), none, some (.int s11.1), none], []), (h, s11.2, cw_R sv))) rfl (st_iflt_n q3) ?_
    refine rh_Ex.blk 8 (s' := ((27, [some (.ref 25), none, some (.int s11.1), none], [.int (s11.1 + (1 : Int32)), .ref 29, .int s11.1, .ref 29]), (h, s11.2, cw_R sv))) rfl ?_
    obtain ⟨q4, hf⟩ := rh_gq hf
    refine rh_Ex.stp (s' := ((28, [some (.ref 25), none, some (.int s11.1), none], [.long (s11.2 29 (s11.1 + (1 : Int32)).toNatClampNeg), .int s11.1, .ref 29]), (h, s11.2, cw_R sv))) rfl (st_lald (n := 10) rfl q4) ?_
    obtain ⟨q5, hf⟩ := rh_gq hf
    refine rh_Ex.stp (s' := ((29, [some (.ref 25), none, some (.int s11.1), none], []), (h, rh_up s11.2 29 s11.1.toNatClampNeg (s11.2 29 (s11.1 + (1 : Int32)).toNatClampNeg), cw_R sv))) rfl (st_last (n := 10) rfl q5) ?_
    refine rh_Ex.blk 2 (s' := ((31, [some (.ref 25), none, some (.int s11.1), some (.int (0 : Int32))], []), (h, rh_up s11.2 29 s11.1.toNatClampNeg (s11.2 29 (s11.1 + (1 : Int32)).toNatClampNeg), cw_R sv))) rfl ?_
    obtain ⟨r14, hr14, hf⟩ := rh_bq hf
    refine rh_Ex.fgt [some (.ref 25), none, some (.int s11.1), some (.int (0 : Int32))] ⟨rfl, rfl, rfl, trivial⟩ ?_
    refine rh_Ex.loop _ _ _ (lb_Ta_plan_31 d xx sv s11.1 h   _ _) rh_N _ r14 hr14 ?_
    refine rh_Ex.blk 2 (s' := ((11, [some (.ref 25), none, some (.int (s11.1 + (-1 : Int32))), none], []), (h, r14, cw_R sv))) rfl ?_
    obtain rfl := Option.some.inj hf
    refine rh_Ex.fgt [some (.ref 25), none, some (.int (s11.1 + (-1 : Int32))), none] ⟨rfl, rfl, trivial⟩ ?_
    exact hk
set_option maxRecDepth 20000 in
set_option maxHeartbeats 4000000 in
theorem R_Ta_plan (d : Nat) (xx : rh_L) (sv : Option Nat) (h : Nat → Nat → Int32) (g : Nat → Nat → Int64) (p0 : Int32) {z9 : Int32 × (Nat → Nat → Int64)} (hf : f_Ta_plan h g p0 = some z9) : rh_M rh_PT (cw_L ++ xx) (d + 2) 95 [.ref 25, .int p0] (h, g, cw_R sv) (some (.int z9.1)) (h, z9.2, cw_R sv) := by
  unfold f_Ta_plan at hf
  refine rh_go pt_95 (Nat.le_of_ble_eq_true rfl) (lv := [some (.ref 25), some (.int p0), none, none]) rfl ?_
  refine rh_Ex.blk 6 (s' := ((8, [some (.ref 25), some (.int p0), none, none], [.long (1 : Int64), .int (p0 + (1 : Int32)), .ref 29]), (h, g, cw_R sv))) rfl ?_
  obtain ⟨q1, hf⟩ := rh_gq hf
  refine rh_Ex.stp (s' := ((9, [some (.ref 25), some (.int p0), none, none], []), (h, rh_up g 29 (p0 + (1 : Int32)).toNatClampNeg (1 : Int64), cw_R sv))) rfl (st_last (n := 10) rfl q1) ?_
  refine rh_Ex.blk 2 (s' := ((11, [some (.ref 25), some (.int p0), some (.int p0), none], []), (h, rh_up g 29 (p0 + (1 : Int32)).toNatClampNeg (1 : Int64), cw_R sv))) rfl ?_
  obtain ⟨r15, hr15, hf⟩ := rh_bq hf
  refine rh_Ex.fgt [some (.ref 25), none, some (.int p0), none] ⟨rfl, rfl, trivial⟩ ?_
  refine rh_Ex.loop _ _ _ (lb_Ta_plan_11 d xx sv h   _ _) rh_N _ r15 hr15 ?_
  refine rh_Ex.blk 8 (s' := ((95, [some (.ref 25), none, none, none], [.int (((1 : Int32) <<< ((h 25 0) &&& 31)) - (1 : Int32)), .int (0 : Int32), .ref 25]), (h, r15, cw_R sv))) rfl ?_
  obtain ⟨x16, hx16, hf⟩ := rh_bq hf
  refine rh_Ex.call (j := 96) (rc := some 9) [.ref 25, .int (0 : Int32), .int (((1 : Int32) <<< ((h 25 0) &&& 31)) - (1 : Int32))] [] (some (.int x16)) rfl rfl rfl (Nat.le_of_ble_eq_true rfl) (R_Ta_canBeLeft d xx sv h r15 (0 : Int32) (((1 : Int32) <<< ((h 25 0) &&& 31)) - (1 : Int32)) hx16) ?_
  show rh_Ex _ _ _ ((98, [some (.ref 25), none, none, none], [.int x16]), (h, r15, cw_R sv)) _ _
  obtain ⟨q17, hf⟩ := rh_gq hf
  obtain rfl := Option.some.inj hf
  exact rh_Ex.ret rfl ⟨rfl, q17⟩
def b_Ta_nextTask_15 (u1 : Int32) (u2 : Int32) (h : Nat → Nat → Int32) (g : Nat → Nat → Int64) : (Int32) → Option ((Int32) ⊕ ((Unit) ⊕ (Int32))) := fun s15 =>
  if (h 25 0) ≤ s15 then
    some (.inr (.inl ()))
  else
    rh_g (0 ≤ u1.toInt ∧ u1.toInt < ((9 : Nat) : Int)) (
      if ((u2 &&& (h 28 u1.toNatClampNeg)) &&& ((1 : Int32) <<< (s15 &&& 31))) = 0 then
        some (.inl (s15 + (1 : Int32)))
      else
        (f_Ta_canBeLeft g (u1 + (1 : Int32)) (u2 &&& (((u2 &&& (h 28 u1.toNatClampNeg)) &&& ((1 : Int32) <<< (s15 &&& 31))) ^^^ (-1 : Int32)))).bind (fun x7 =>
          if x7 = 0 then
            some (.inl (s15 + (1 : Int32)))
          else
            some (.inr (.inr s15))
        )
    )
def f_Ta_nextTask (h : Nat → Nat → Int32) (g : Nat → Nat → Int64) (p0 : Int32) (p1 : Int32) : Option (Int32) :=
  (f_Ta_canBeLeft g (p0 + (1 : Int32)) p1).bind (fun x1 =>
    if x1 = 0 then
      (rh_loop (b_Ta_nextTask_15 p0 p1 h g) rh_N (0 : Int32)).bind (fun r9 => match r9 with
        | .inl e10 =>
          some ((-1 : Int32))
        | .inr t11 => some t11)
    else
      some ((-1 : Int32))
  )
set_option maxRecDepth 20000 in
set_option maxHeartbeats 4000000 in
theorem lb_Ta_nextTask_15 (d : Nat) (xx : rh_L) (sv : Option Nat) (u1 : Int32) (u2 : Int32) (h : Nat → Nat → Int32) (g : Nat → Nat → Int64) (v9 : Option Value) (h9 : rh_H) : ∀ s15 x9, b_Ta_nextTask_15 u1 u2 h g s15 = some x9 → Sum.elim (fun s15 => rh_Ex (rh_M rh_PT (cw_L ++ xx) (d + 1)) (cw_L ++ xx) pg_X10_nextTask ((15, [some (.ref 25), some (.int u1), some (.int u2), some (.int s15), none], []), (h, g, cw_R sv)) v9 h9) (Sum.elim (fun e9 => rh_Ex (rh_M rh_PT (cw_L ++ xx) (d + 1)) (cw_L ++ xx) pg_X10_nextTask ((66, [none, none, none, none, none], []), (h, g, cw_R sv)) v9 h9) (fun t9 => v9 = (some (.int t9)) ∧ h9 = (h, g, cw_R sv))) x9 → rh_Ex (rh_M rh_PT (cw_L ++ xx) (d + 1)) (cw_L ++ xx) pg_X10_nextTask ((15, [some (.ref 25), some (.int u1), some (.int u2), some (.int s15), none], []), (h, g, cw_R sv)) v9 h9 := by
  intro s15 x9 hf hk
  unfold b_Ta_nextTask_15 at hf
  refine rh_Ex.blk 3 (s' := ((20, [some (.ref 25), some (.int u1), some (.int u2), some (.int s15), none], [.int (h 25 0), .int s15]), (h, g, cw_R sv))) rfl ?_
  by_cases q4 : (h 25 0) ≤ s15
  · rw [if_pos q4] at hf
    refine rh_Ex.stp (s' := ((66, [some (.ref 25), some (.int u1), some (.int u2), some (.int s15), none], []), (h, g, cw_R sv))) rfl (st_icge_p q4) ?_
    obtain rfl := Option.some.inj hf
    refine rh_Ex.fgt [none, none, none, none, none] trivial ?_
    exact hk
  · rw [if_neg q4] at hf
    refine rh_Ex.stp (s' := ((23, [some (.ref 25), some (.int u1), some (.int u2), some (.int s15), none], []), (h, g, cw_R sv))) rfl (st_icge_n q4) ?_
    refine rh_Ex.blk 4 (s' := ((29, [some (.ref 25), some (.int u1), some (.int u2), some (.int s15), none], [.int u1, .ref 28, .int u2]), (h, g, cw_R sv))) rfl ?_
    obtain ⟨q5, hf⟩ := rh_gq hf
    refine rh_Ex.stp (s' := ((30, [some (.ref 25), some (.int u1), some (.int u2), some (.int s15), none], [.int (h 28 u1.toNatClampNeg), .int u2]), (h, g, cw_R sv))) rfl (st_iald (n := 9) rfl q5) ?_
    refine rh_Ex.blk 7 (s' := ((39, [some (.ref 25), some (.int u1), some (.int u2), some (.int s15), some (.int ((u2 &&& (h 28 u1.toNatClampNeg)) &&& ((1 : Int32) <<< (s15 &&& 31))))], [.int ((u2 &&& (h 28 u1.toNatClampNeg)) &&& ((1 : Int32) <<< (s15 &&& 31)))]), (h, g, cw_R sv))) rfl ?_
    by_cases q6 : ((u2 &&& (h 28 u1.toNatClampNeg)) &&& ((1 : Int32) <<< (s15 &&& 31))) = 0
    · rw [if_pos q6] at hf
      refine rh_Ex.stp (s' := ((60, [some (.ref 25), some (.int u1), some (.int u2), some (.int s15), some (.int ((u2 &&& (h 28 u1.toNatClampNeg)) &&& ((1 : Int32) <<< (s15 &&& 31))))], []), (h, g, cw_R sv))) rfl (st_ifeq_p q6) ?_
      refine rh_Ex.blk 2 (s' := ((15, [some (.ref 25), some (.int u1), some (.int u2), some (.int (s15 + (1 : Int32))), some (.int ((u2 &&& (h 28 u1.toNatClampNeg)) &&& ((1 : Int32) <<< (s15 &&& 31))))], []), (h, g, cw_R sv))) rfl ?_
      obtain rfl := Option.some.inj hf
      refine rh_Ex.fgt [some (.ref 25), some (.int u1), some (.int u2), some (.int (s15 + (1 : Int32))), none] ⟨rfl, rfl, rfl, rfl, trivial⟩ ?_
      exact hk
    · rw [if_neg q6] at hf
      refine rh_Ex.stp (s' := ((42, [some (.ref 25), some (.int u1), some (.int u2), some (.int s15), some (.int ((u2 &&& (h 28 u1.toNatClampNeg)) &&& ((1 : Int32) <<< (s15 &&& 31))))], []), (h, g, cw_R sv))) rfl (st_ifeq_n q6) ?_
      refine rh_Ex.blk 9 (s' := ((52, [some (.ref 25), some (.int u1), some (.int u2), some (.int s15), some (.int ((u2 &&& (h 28 u1.toNatClampNeg)) &&& ((1 : Int32) <<< (s15 &&& 31))))], [.int (u2 &&& (((u2 &&& (h 28 u1.toNatClampNeg)) &&& ((1 : Int32) <<< (s15 &&& 31))) ^^^ (-1 : Int32))), .int (u1 + (1 : Int32)), .ref 25]), (h, g, cw_R sv))) rfl ?_
      obtain ⟨x7, hx7, hf⟩ := rh_bq hf
      refine rh_Ex.call (j := 96) (rc := some 9) [.ref 25, .int (u1 + (1 : Int32)), .int (u2 &&& (((u2 &&& (h 28 u1.toNatClampNeg)) &&& ((1 : Int32) <<< (s15 &&& 31))) ^^^ (-1 : Int32)))] [] (some (.int x7)) rfl rfl rfl (Nat.le_of_ble_eq_true rfl) (R_Ta_canBeLeft d xx sv h g (u1 + (1 : Int32)) (u2 &&& (((u2 &&& (h 28 u1.toNatClampNeg)) &&& ((1 : Int32) <<< (s15 &&& 31))) ^^^ (-1 : Int32))) hx7) ?_
      show rh_Ex _ _ _ ((55, [some (.ref 25), some (.int u1), some (.int u2), some (.int s15), some (.int ((u2 &&& (h 28 u1.toNatClampNeg)) &&& ((1 : Int32) <<< (s15 &&& 31))))], [.int x7]), (h, g, cw_R sv)) _ _
      by_cases q8 : x7 = 0
      · rw [if_pos q8] at hf
        refine rh_Ex.stp (s' := ((60, [some (.ref 25), some (.int u1), some (.int u2), some (.int s15), some (.int ((u2 &&& (h 28 u1.toNatClampNeg)) &&& ((1 : Int32) <<< (s15 &&& 31))))], []), (h, g, cw_R sv))) rfl (st_ifeq_p q8) ?_
        refine rh_Ex.blk 2 (s' := ((15, [some (.ref 25), some (.int u1), some (.int u2), some (.int (s15 + (1 : Int32))), some (.int ((u2 &&& (h 28 u1.toNatClampNeg)) &&& ((1 : Int32) <<< (s15 &&& 31))))], []), (h, g, cw_R sv))) rfl ?_
        obtain rfl := Option.some.inj hf
        refine rh_Ex.fgt [some (.ref 25), some (.int u1), some (.int u2), some (.int (s15 + (1 : Int32))), none] ⟨rfl, rfl, rfl, rfl, trivial⟩ ?_
        exact hk
      · rw [if_neg q8] at hf
        refine rh_Ex.stp (s' := ((58, [some (.ref 25), some (.int u1), some (.int u2), some (.int s15), some (.int ((u2 &&& (h 28 u1.toNatClampNeg)) &&& ((1 : Int32) <<< (s15 &&& 31))))], []), (h, g, cw_R sv))) rfl (st_ifeq_n q8) ?_
        refine rh_Ex.blk 1 (s' := ((59, [some (.ref 25), some (.int u1), some (.int u2), some (.int s15), some (.int ((u2 &&& (h 28 u1.toNatClampNeg)) &&& ((1 : Int32) <<< (s15 &&& 31))))], [.int s15]), (h, g, cw_R sv))) rfl ?_
        obtain rfl := Option.some.inj hf
        obtain ⟨rfl, rfl⟩ := hk
        exact rh_Ex.ret rfl rfl
set_option maxRecDepth 20000 in
set_option maxHeartbeats 4000000 in
theorem R_Ta_nextTask (d : Nat) (xx : rh_L) (sv : Option Nat) (h : Nat → Nat → Int32) (g : Nat → Nat → Int64) (p0 : Int32) (p1 : Int32) {z9 : Int32} (hf : f_Ta_nextTask h g p0 p1 = some z9) : rh_M rh_PT (cw_L ++ xx) (d + 2) 98 [.ref 25, .int p0, .int p1] (h, g, cw_R sv) (some (.int z9)) (h, g, cw_R sv) := by
  unfold f_Ta_nextTask at hf
  refine rh_go pt_98 (Nat.le_of_ble_eq_true rfl) (lv := [some (.ref 25), some (.int p0), some (.int p1), none, none]) rfl ?_
  refine rh_Ex.blk 5 (s' := ((5, [some (.ref 25), some (.int p0), some (.int p1), none, none], [.int p1, .int (p0 + (1 : Int32)), .ref 25]), (h, g, cw_R sv))) rfl ?_
  obtain ⟨x1, hx1, hf⟩ := rh_bq hf
  refine rh_Ex.call (j := 96) (rc := some 9) [.ref 25, .int (p0 + (1 : Int32)), .int p1] [] (some (.int x1)) rfl rfl rfl (Nat.le_of_ble_eq_true rfl) (R_Ta_canBeLeft d xx sv h g (p0 + (1 : Int32)) p1 hx1) ?_
  show rh_Ex _ _ _ ((8, [some (.ref 25), some (.int p0), some (.int p1), none, none], [.int x1]), (h, g, cw_R sv)) _ _
  by_cases q2 : x1 = 0
  · rw [if_pos q2] at hf
    refine rh_Ex.stp (s' := ((13, [some (.ref 25), some (.int p0), some (.int p1), none, none], []), (h, g, cw_R sv))) rfl (st_ifeq_p q2) ?_
    refine rh_Ex.blk 2 (s' := ((15, [some (.ref 25), some (.int p0), some (.int p1), some (.int (0 : Int32)), none], []), (h, g, cw_R sv))) rfl ?_
    obtain ⟨r9, hr9, hf⟩ := rh_bq hf
    refine rh_Ex.fgt [some (.ref 25), some (.int p0), some (.int p1), some (.int (0 : Int32)), none] ⟨rfl, rfl, rfl, rfl, trivial⟩ ?_
    refine rh_Ex.loop _ _ _ (lb_Ta_nextTask_15 d xx sv p0 p1 h g   _ _) rh_N _ r9 hr9 ?_
    rcases r9 with e10 | t11
    · dsimp only at hf
      refine rh_Ex.blk 1 (s' := ((67, [none, none, none, none, none], [.int (-1 : Int32)]), (h, g, cw_R sv))) rfl ?_
      obtain rfl := Option.some.inj hf
      exact rh_Ex.ret rfl rfl
    · dsimp only at hf
      obtain rfl := Option.some.inj hf
      exact ⟨rfl, rfl⟩
  · rw [if_neg q2] at hf
    refine rh_Ex.stp (s' := ((11, [some (.ref 25), some (.int p0), some (.int p1), none, none], []), (h, g, cw_R sv))) rfl (st_ifeq_n q2) ?_
    refine rh_Ex.blk 1 (s' := ((12, [some (.ref 25), some (.int p0), some (.int p1), none, none], [.int (-1 : Int32)]), (h, g, cw_R sv))) rfl ?_
    obtain rfl := Option.some.inj hf
    exact rh_Ex.ret rfl rfl
def b_Ta_tellPlan_16 (u1 : Int32) (g : Nat → Nat → Int64) : (Int32 × Int32 × (Nat → Nat → Int32)) → Option ((Int32 × Int32 × (Nat → Nat → Int32)) ⊕ ((Nat → Nat → Int32))) := fun s16 =>
  if u1 < s16.2.1 then
    some (.inr s16.2.2)
  else
    (f_Ta_nextTask s16.2.2 g s16.2.1 s16.1).bind (fun x3 =>
      (f_Ro_add s16.2.2 x3).bind (fun x4 =>
        if x3 = (-1 : Int32) then
          some (.inl (s16.1 &&& s16.1, s16.2.1 + (1 : Int32), x4))
        else
          some (.inl (s16.1 &&& (((1 : Int32) <<< (x3 &&& 31)) ^^^ (-1 : Int32)), s16.2.1 + (1 : Int32), x4))
      )
    )
def f_Ta_tellPlan (h : Nat → Nat → Int32) (g : Nat → Nat → Int64) (p0 : Int32) : Option ((Nat → Nat → Int32)) :=
  (rh_loop (b_Ta_tellPlan_16 p0 g) rh_N (((1 : Int32) <<< (((f_Ro_begin h) 25 0) &&& 31)) - (1 : Int32), (0 : Int32), (f_Ro_begin h))).bind (fun r6 =>
    some (r6)
  )
set_option maxRecDepth 20000 in
set_option maxHeartbeats 4000000 in
theorem lb_Ta_tellPlan_16 (d : Nat) (xx : rh_L) (sv : Option Nat) (u1 : Int32) (g : Nat → Nat → Int64) (v9 : Option Value) (h9 : rh_H) : ∀ s16 x9, b_Ta_tellPlan_16 u1 g s16 = some x9 → Sum.elim (fun s16 => rh_Ex (rh_M rh_PT (cw_L ++ xx) (d + 2)) (cw_L ++ xx) pg_X10_tellPlan ((16, [some (.ref 25), some (.int u1), some (.ref 2), some (.int s16.1), some (.int s16.2.1), none], []), (s16.2.2, g, cw_R sv)) v9 h9) (fun e9 => rh_Ex (rh_M rh_PT (cw_L ++ xx) (d + 2)) (cw_L ++ xx) pg_X10_tellPlan ((62, [none, none, none, none, none, none], []), (e9, g, cw_R sv)) v9 h9) x9 → rh_Ex (rh_M rh_PT (cw_L ++ xx) (d + 2)) (cw_L ++ xx) pg_X10_tellPlan ((16, [some (.ref 25), some (.int u1), some (.ref 2), some (.int s16.1), some (.int s16.2.1), none], []), (s16.2.2, g, cw_R sv)) v9 h9 := by
  intro s16 x9 hf hk
  unfold b_Ta_tellPlan_16 at hf
  refine rh_Ex.blk 2 (s' := ((19, [some (.ref 25), some (.int u1), some (.ref 2), some (.int s16.1), some (.int s16.2.1), none], [.int u1, .int s16.2.1]), (s16.2.2, g, cw_R sv))) rfl ?_
  by_cases q2 : u1 < s16.2.1
  · rw [if_pos q2] at hf
    refine rh_Ex.stp (s' := ((62, [some (.ref 25), some (.int u1), some (.ref 2), some (.int s16.1), some (.int s16.2.1), none], []), (s16.2.2, g, cw_R sv))) rfl (st_icgt_p q2) ?_
    obtain rfl := Option.some.inj hf
    refine rh_Ex.fgt [none, none, none, none, none, none] trivial ?_
    exact hk
  · rw [if_neg q2] at hf
    refine rh_Ex.stp (s' := ((22, [some (.ref 25), some (.int u1), some (.ref 2), some (.int s16.1), some (.int s16.2.1), none], []), (s16.2.2, g, cw_R sv))) rfl (st_icgt_n q2) ?_
    refine rh_Ex.blk 3 (s' := ((26, [some (.ref 25), some (.int u1), some (.ref 2), some (.int s16.1), some (.int s16.2.1), none], [.int s16.1, .int s16.2.1, .ref 25]), (s16.2.2, g, cw_R sv))) rfl ?_
    obtain ⟨x3, hx3, hf⟩ := rh_bq hf
    refine rh_Ex.call (j := 98) (rc := some 9) [.ref 25, .int s16.2.1, .int s16.1] [] (some (.int x3)) rfl rfl rfl (Nat.le_of_ble_eq_true rfl) (R_Ta_nextTask d xx sv s16.2.2 g s16.2.1 s16.1 hx3) ?_
    show rh_Ex _ _ _ ((29, [some (.ref 25), some (.int u1), some (.ref 2), some (.int s16.1), some (.int s16.2.1), none], [.int x3]), (s16.2.2, g, cw_R sv)) _ _
    refine rh_Ex.blk 3 (s' := ((34, [some (.ref 25), some (.int u1), some (.ref 2), some (.int s16.1), some (.int s16.2.1), some (.int x3)], [.int x3, .ref 2]), (s16.2.2, g, cw_R sv))) rfl ?_
    obtain ⟨x4, hx4, hf⟩ := rh_bq hf
    refine rh_Ex.call (j := 69) (rc := some 6) [.ref 2, .int x3] [] none rfl rfl rfl (Nat.le_of_ble_eq_true rfl) (R_Ro_add (d + 1) xx sv s16.2.2 g x3 hx4) ?_
    show rh_Ex _ _ _ ((37, [some (.ref 25), some (.int u1), some (.ref 2), some (.int s16.1), some (.int s16.2.1), some (.int x3)], []), (x4, g, cw_R sv)) _ _
    refine rh_Ex.blk 3 (s' := ((41, [some (.ref 25), some (.int u1), some (.ref 2), some (.int s16.1), some (.int s16.2.1), some (.int x3)], [.int (-1 : Int32), .int x3, .int s16.1]), (x4, g, cw_R sv))) rfl ?_
    by_cases q5 : x3 = (-1 : Int32)
    · rw [if_pos q5] at hf
      refine rh_Ex.stp (s' := ((44, [some (.ref 25), some (.int u1), some (.ref 2), some (.int s16.1), some (.int s16.2.1), some (.int x3)], [.int s16.1]), (x4, g, cw_R sv))) rfl (st_icne_p q5) ?_
      refine rh_Ex.blk 6 (s' := ((16, [some (.ref 25), some (.int u1), some (.ref 2), some (.int (s16.1 &&& s16.1)), some (.int (s16.2.1 + (1 : Int32))), some (.int x3)], []), (x4, g, cw_R sv))) rfl ?_
      obtain rfl := Option.some.inj hf
      refine rh_Ex.fgt [some (.ref 25), some (.int u1), some (.ref 2), some (.int (s16.1 &&& s16.1)), some (.int (s16.2.1 + (1 : Int32))), none] ⟨rfl, rfl, rfl, rfl, rfl, trivial⟩ ?_
      exact hk
    · rw [if_neg q5] at hf
      refine rh_Ex.stp (s' := ((48, [some (.ref 25), some (.int u1), some (.ref 2), some (.int s16.1), some (.int s16.2.1), some (.int x3)], [.int s16.1]), (x4, g, cw_R sv))) rfl (st_icne_n q5) ?_
      refine rh_Ex.blk 9 (s' := ((16, [some (.ref 25), some (.int u1), some (.ref 2), some (.int (s16.1 &&& (((1 : Int32) <<< (x3 &&& 31)) ^^^ (-1 : Int32)))), some (.int (s16.2.1 + (1 : Int32))), some (.int x3)], []), (x4, g, cw_R sv))) rfl ?_
      obtain rfl := Option.some.inj hf
      refine rh_Ex.fgt [some (.ref 25), some (.int u1), some (.ref 2), some (.int (s16.1 &&& (((1 : Int32) <<< (x3 &&& 31)) ^^^ (-1 : Int32)))), some (.int (s16.2.1 + (1 : Int32))), none] ⟨rfl, rfl, rfl, rfl, rfl, trivial⟩ ?_
      exact hk
set_option maxRecDepth 20000 in
set_option maxHeartbeats 4000000 in
theorem R_Ta_tellPlan (d : Nat) (xx : rh_L) (sv : Option Nat) (h : Nat → Nat → Int32) (g : Nat → Nat → Int64) (p0 : Int32) {z9 : (Nat → Nat → Int32)} (hf : f_Ta_tellPlan h g p0 = some z9) : rh_M rh_PT (cw_L ++ xx) (d + 3) 97 [.ref 25, .int p0, .ref 2] (h, g, cw_R sv) none (z9, g, cw_R sv) := by
  unfold f_Ta_tellPlan at hf
  refine rh_go pt_97 (Nat.le_of_ble_eq_true rfl) (lv := [some (.ref 25), some (.int p0), some (.ref 2), none, none, none]) rfl ?_
  refine rh_Ex.blk 1 (s' := ((1, [some (.ref 25), some (.int p0), some (.ref 2), none, none, none], [.ref 2]), (h, g, cw_R sv))) rfl ?_
  refine rh_Ex.call (j := 68) (rc := some 6) [.ref 2] [] none rfl rfl rfl (Nat.le_of_ble_eq_true rfl) (R_Ro_begin (d + 1) xx sv h g  rfl) ?_
  show rh_Ex _ _ _ ((4, [some (.ref 25), some (.int p0), some (.ref 2), none, none, none], []), ((f_Ro_begin h), g, cw_R sv)) _ _
  refine rh_Ex.blk 9 (s' := ((16, [some (.ref 25), some (.int p0), some (.ref 2), some (.int (((1 : Int32) <<< (((f_Ro_begin h) 25 0) &&& 31)) - (1 : Int32))), some (.int (0 : Int32)), none], []), ((f_Ro_begin h), g, cw_R sv))) rfl ?_
  obtain ⟨r6, hr6, hf⟩ := rh_bq hf
  refine rh_Ex.fgt [some (.ref 25), some (.int p0), some (.ref 2), some (.int (((1 : Int32) <<< (((f_Ro_begin h) 25 0) &&& 31)) - (1 : Int32))), some (.int (0 : Int32)), none] ⟨rfl, rfl, rfl, rfl, rfl, trivial⟩ ?_
  refine rh_Ex.loop _ _ _ (lb_Ta_tellPlan_16 d xx sv p0 g   _ _) rh_N _ r6 hr6 ?_
  obtain rfl := Option.some.inj hf
  exact rh_Ex.ret rfl trivial
def b_Ta_groupsOf_45 (u2 : Int32) (u3 : Int32) (u6 : Int32) (u7 : Int32) (u8 : Int32) (h : Nat → Nat → Int32) (g : Nat → Nat → Int64) : (Int64 × Int32) → Option ((Int64 × Int32) ⊕ (Int64)) := fun s45 =>
  if (h 25 0) ≤ s45.2 then
    some (.inr s45.1)
  else
    if (u8 >>> (s45.2 &&& 31)) = 0 then
      some (.inr s45.1)
    else
      if ((u8 >>> (s45.2 &&& 31)) &&& (1 : Int32)) = 0 then
        some (.inl (s45.1, s45.2 + (1 : Int32)))
      else
        rh_g (0 ≤ (u3 ^^^ u6).toInt ∧ (u3 ^^^ u6).toInt < ((512 : Nat) : Int)) (
          (f_Ta_withTask (g 30 (u3 ^^^ u6).toNatClampNeg) s45.2).bind (fun x10 =>
            some (.inl (s45.1 ||| x10, s45.2 + (1 : Int32)))
          )
        )
def b_Ta_groupsOf_23 (u2 : Int32) (u3 : Int32) (h : Nat → Nat → Int32) (g : Nat → Nat → Int64) : (Int64 × Int32 × Int32) → Option ((Int64 × Int32 × Int32) ⊕ (Int64)) := fun s23 =>
  if (512 : Int32) ≤ s23.2.2 then
    some (.inr s23.1)
  else
    rh_g (0 ≤ (s23.2.1 ||| u2).toInt ∧ (s23.2.1 ||| u2).toInt < ((512 : Nat) : Int)) (
      (rh_loop (b_Ta_groupsOf_45 u2 u3 s23.2.1 s23.2.2 (h 31 (s23.2.1 ||| u2).toNatClampNeg) h g) rh_N (s23.1, (0 : Int32))).bind (fun r11 =>
        if s23.2.1 = 0 then
          some (.inr r11)
        else
          some (.inl (r11, (s23.2.1 - (1 : Int32)) &&& u3, s23.2.2 + (1 : Int32)))
      )
    )
def f_Ta_groupsOf (h : Nat → Nat → Int32) (g : Nat → Nat → Int64) (p0 : Int32) : Option (Int64) :=
  rh_g (0 ≤ (p0 ^^^ (p0 &&& (-p0))).toInt ∧ (p0 ^^^ (p0 &&& (-p0))).toInt < ((512 : Nat) : Int)) (
    (rh_loop (b_Ta_groupsOf_23 (p0 &&& (-p0)) (p0 ^^^ (p0 &&& (-p0))) h g) rh_N (g 30 (p0 ^^^ (p0 &&& (-p0))).toNatClampNeg, p0 ^^^ (p0 &&& (-p0)), (0 : Int32))).bind (fun r13 =>
      some (r13)
    )
  )
set_option maxRecDepth 20000 in
set_option maxHeartbeats 4000000 in
theorem lb_Ta_groupsOf_45 (d : Nat) (xx : rh_L) (sv : Option Nat) (u2 : Int32) (u3 : Int32) (u6 : Int32) (u7 : Int32) (u8 : Int32) (h : Nat → Nat → Int32) (g : Nat → Nat → Int64) (v9 : Option Value) (h9 : rh_H) : ∀ s45 x9, b_Ta_groupsOf_45 u2 u3 u6 u7 u8 h g s45 = some x9 → Sum.elim (fun s45 => rh_Ex (rh_M rh_PT (cw_L ++ xx) (d + 1)) (cw_L ++ xx) pg_X10_groupsOf ((45, [some (.ref 25), none, some (.int u2), some (.int u3), some (.long s45.1), none, some (.int u6), some (.int u7), some (.int u8), some (.int s45.2)], []), (h, g, cw_R sv)) v9 h9) (fun e9 => rh_Ex (rh_M rh_PT (cw_L ++ xx) (d + 1)) (cw_L ++ xx) pg_X10_groupsOf ((97, [some (.ref 25), none, some (.int u2), some (.int u3), some (.long e9), none, some (.int u6), some (.int u7), none, none], []), (h, g, cw_R sv)) v9 h9) x9 → rh_Ex (rh_M rh_PT (cw_L ++ xx) (d + 1)) (cw_L ++ xx) pg_X10_groupsOf ((45, [some (.ref 25), none, some (.int u2), some (.int u3), some (.long s45.1), none, some (.int u6), some (.int u7), some (.int u8), some (.int s45.2)], []), (h, g, cw_R sv)) v9 h9 := by
  intro s45 x9 hf hk
  unfold b_Ta_groupsOf_45 at hf
  refine rh_Ex.blk 3 (s' := ((51, [some (.ref 25), none, some (.int u2), some (.int u3), some (.long s45.1), none, some (.int u6), some (.int u7), some (.int u8), some (.int s45.2)], [.int (h 25 0), .int s45.2]), (h, g, cw_R sv))) rfl ?_
  by_cases q6 : (h 25 0) ≤ s45.2
  · rw [if_pos q6] at hf
    refine rh_Ex.stp (s' := ((97, [some (.ref 25), none, some (.int u2), some (.int u3), some (.long s45.1), none, some (.int u6), some (.int u7), some (.int u8), some (.int s45.2)], []), (h, g, cw_R sv))) rfl (st_icge_p q6) ?_
    obtain rfl := Option.some.inj hf
    refine rh_Ex.fgt [some (.ref 25), none, some (.int u2), some (.int u3), some (.long s45.1), none, some (.int u6), some (.int u7), none, none] ⟨rfl, rfl, rfl, rfl, rfl, rfl, trivial⟩ ?_
    exact hk
  · rw [if_neg q6] at hf
    refine rh_Ex.stp (s' := ((54, [some (.ref 25), none, some (.int u2), some (.int u3), some (.long s45.1), none, some (.int u6), some (.int u7), some (.int u8), some (.int s45.2)], []), (h, g, cw_R sv))) rfl (st_icge_n q6) ?_
    refine rh_Ex.blk 3 (s' := ((59, [some (.ref 25), none, some (.int u2), some (.int u3), some (.long s45.1), none, some (.int u6), some (.int u7), some (.int u8), some (.int s45.2)], [.int (u8 >>> (s45.2 &&& 31))]), (h, g, cw_R sv))) rfl ?_
    by_cases q7 : (u8 >>> (s45.2 &&& 31)) = 0
    · rw [if_pos q7] at hf
      refine rh_Ex.stp (s' := ((97, [some (.ref 25), none, some (.int u2), some (.int u3), some (.long s45.1), none, some (.int u6), some (.int u7), some (.int u8), some (.int s45.2)], []), (h, g, cw_R sv))) rfl (st_ifeq_p q7) ?_
      obtain rfl := Option.some.inj hf
      refine rh_Ex.fgt [some (.ref 25), none, some (.int u2), some (.int u3), some (.long s45.1), none, some (.int u6), some (.int u7), none, none] ⟨rfl, rfl, rfl, rfl, rfl, rfl, trivial⟩ ?_
      exact hk
    · rw [if_neg q7] at hf
      refine rh_Ex.stp (s' := ((62, [some (.ref 25), none, some (.int u2), some (.int u3), some (.long s45.1), none, some (.int u6), some (.int u7), some (.int u8), some (.int s45.2)], []), (h, g, cw_R sv))) rfl (st_ifeq_n q7) ?_
      refine rh_Ex.blk 5 (s' := ((69, [some (.ref 25), none, some (.int u2), some (.int u3), some (.long s45.1), none, some (.int u6), some (.int u7), some (.int u8), some (.int s45.2)], [.int ((u8 >>> (s45.2 &&& 31)) &&& (1 : Int32))]), (h, g, cw_R sv))) rfl ?_
      by_cases q8 : ((u8 >>> (s45.2 &&& 31)) &&& (1 : Int32)) = 0
      · rw [if_pos q8] at hf
        refine rh_Ex.stp (s' := ((91, [some (.ref 25), none, some (.int u2), some (.int u3), some (.long s45.1), none, some (.int u6), some (.int u7), some (.int u8), some (.int s45.2)], []), (h, g, cw_R sv))) rfl (st_ifeq_p q8) ?_
        refine rh_Ex.blk 2 (s' := ((45, [some (.ref 25), none, some (.int u2), some (.int u3), some (.long s45.1), none, some (.int u6), some (.int u7), some (.int u8), some (.int (s45.2 + (1 : Int32)))], []), (h, g, cw_R sv))) rfl ?_
        obtain rfl := Option.some.inj hf
        refine rh_Ex.fgt [some (.ref 25), none, some (.int u2), some (.int u3), some (.long s45.1), none, some (.int u6), some (.int u7), some (.int u8), some (.int (s45.2 + (1 : Int32)))] ⟨rfl, rfl, rfl, rfl, rfl, rfl, rfl, rfl, trivial⟩ ?_
        exact hk
      · rw [if_neg q8] at hf
        refine rh_Ex.stp (s' := ((72, [some (.ref 25), none, some (.int u2), some (.int u3), some (.long s45.1), none, some (.int u6), some (.int u7), some (.int u8), some (.int s45.2)], []), (h, g, cw_R sv))) rfl (st_ifeq_n q8) ?_
        refine rh_Ex.blk 6 (s' := ((82, [some (.ref 25), none, some (.int u2), some (.int u3), some (.long s45.1), none, some (.int u6), some (.int u7), some (.int u8), some (.int s45.2)], [.int (u3 ^^^ u6), .ref 30, .long s45.1]), (h, g, cw_R sv))) rfl ?_
        obtain ⟨q9, hf⟩ := rh_gq hf
        refine rh_Ex.stp (s' := ((83, [some (.ref 25), none, some (.int u2), some (.int u3), some (.long s45.1), none, some (.int u6), some (.int u7), some (.int u8), some (.int s45.2)], [.long (g 30 (u3 ^^^ u6).toNatClampNeg), .long s45.1]), (h, g, cw_R sv))) rfl (st_lald (n := 512) rfl q9) ?_
        refine rh_Ex.blk 1 (s' := ((85, [some (.ref 25), none, some (.int u2), some (.int u3), some (.long s45.1), none, some (.int u6), some (.int u7), some (.int u8), some (.int s45.2)], [.int s45.2, .long (g 30 (u3 ^^^ u6).toNatClampNeg), .long s45.1]), (h, g, cw_R sv))) rfl ?_
        obtain ⟨x10, hx10, hf⟩ := rh_bq hf
        refine rh_Ex.call (j := 94) (rc := none) [.long (g 30 (u3 ^^^ u6).toNatClampNeg), .int s45.2] [.long s45.1] (some (.long x10)) rfl rfl trivial (Nat.le_of_ble_eq_true rfl) (R_Ta_withTask d (cw_L ++ xx) (cw_R sv) h g (g 30 (u3 ^^^ u6).toNatClampNeg) s45.2 hx10) ?_
        show rh_Ex _ _ _ ((88, [some (.ref 25), none, some (.int u2), some (.int u3), some (.long s45.1), none, some (.int u6), some (.int u7), some (.int u8), some (.int s45.2)], [.long x10, .long s45.1]), (h, g, cw_R sv)) _ _
        refine rh_Ex.blk 4 (s' := ((45, [some (.ref 25), none, some (.int u2), some (.int u3), some (.long (s45.1 ||| x10)), none, some (.int u6), some (.int u7), some (.int u8), some (.int (s45.2 + (1 : Int32)))], []), (h, g, cw_R sv))) rfl ?_
        obtain rfl := Option.some.inj hf
        refine rh_Ex.fgt [some (.ref 25), none, some (.int u2), some (.int u3), some (.long (s45.1 ||| x10)), none, some (.int u6), some (.int u7), some (.int u8), some (.int (s45.2 + (1 : Int32)))] ⟨rfl, rfl, rfl, rfl, rfl, rfl, rfl, rfl, trivial⟩ ?_
        exact hk
set_option maxRecDepth 20000 in
set_option maxHeartbeats 4000000 in
theorem lb_Ta_groupsOf_23 (d : Nat) (xx : rh_L) (sv : Option Nat) (u2 : Int32) (u3 : Int32) (h : Nat → Nat → Int32) (g : Nat → Nat → Int64) (v9 : Option Value) (h9 : rh_H) : ∀ s23 x9, b_Ta_groupsOf_23 u2 u3 h g s23 = some x9 → Sum.elim (fun s23 => rh_Ex (rh_M rh_PT (cw_L ++ xx) (d + 1)) (cw_L ++ xx) pg_X10_groupsOf ((23, [some (.ref 25), none, some (.int u2), some (.int u3), some (.long s23.1), none, some (.int s23.2.1), some (.int s23.2.2), none, none], []), (h, g, cw_R sv)) v9 h9) (fun e9 => rh_Ex (rh_M rh_PT (cw_L ++ xx) (d + 1)) (cw_L ++ xx) pg_X10_groupsOf ((119, [none, none, none, none, some (.long e9), none, none, none, none, none], []), (h, g, cw_R sv)) v9 h9) x9 → rh_Ex (rh_M rh_PT (cw_L ++ xx) (d + 1)) (cw_L ++ xx) pg_X10_groupsOf ((23, [some (.ref 25), none, some (.int u2), some (.int u3), some (.long s23.1), none, some (.int s23.2.1), some (.int s23.2.2), none, none], []), (h, g, cw_R sv)) v9 h9 := by
  intro s23 x9 hf hk
  unfold b_Ta_groupsOf_23 at hf
  refine rh_Ex.blk 2 (s' := ((28, [some (.ref 25), none, some (.int u2), some (.int u3), some (.long s23.1), none, some (.int s23.2.1), some (.int s23.2.2), none, none], [.int (512 : Int32), .int s23.2.2]), (h, g, cw_R sv))) rfl ?_
  by_cases q3 : (512 : Int32) ≤ s23.2.2
  · rw [if_pos q3] at hf
    refine rh_Ex.stp (s' := ((119, [some (.ref 25), none, some (.int u2), some (.int u3), some (.long s23.1), none, some (.int s23.2.1), some (.int s23.2.2), none, none], []), (h, g, cw_R sv))) rfl (st_icge_p q3) ?_
    obtain rfl := Option.some.inj hf
    refine rh_Ex.fgt [none, none, none, none, some (.long s23.1), none, none, none, none, none] ⟨rfl, trivial⟩ ?_
    exact hk
  · rw [if_neg q3] at hf
    refine rh_Ex.stp (s' := ((31, [some (.ref 25), none, some (.int u2), some (.int u3), some (.long s23.1), none, some (.int s23.2.1), some (.int s23.2.2), none, none], []), (h, g, cw_R sv))) rfl (st_icge_n q3) ?_
    refine rh_Ex.blk 5 (s' := ((39, [some (.ref 25), none, some (.int u2), some (.int u3), some (.long s23.1), none, some (.int s23.2.1), some (.int s23.2.2), none, none], [.int (s23.2.1 ||| u2), .ref 31]), (h, g, cw_R sv))) rfl ?_
    obtain ⟨q4, hf⟩ := rh_gq hf
    refine rh_Ex.stp (s' := ((40, [some (.ref 25), none, some (.int u2), some (.int u3), some (.long s23.1), none, some (.int s23.2.1), some (.int s23.2.2), none, none], [.int (h 31 (s23.2.1 ||| u2).toNatClampNeg)]), (h, g, cw_R sv))) rfl (st_iald (n := 512) rfl q4) ?_
    refine rh_Ex.blk 3 (s' := ((45, [some (.ref 25), none, some (.int u2), some (.int u3), some (.long s23.1), none, some (.int s23.2.1), some (.int s23.2.2), some (.int (h 31 (s23.2.1 ||| u2).toNatClampNeg)), some (.int (0 : Int32))], []), (h, g, cw_R sv))) rfl ?_
    obtain ⟨r11, hr11, hf⟩ := rh_bq hf
    refine rh_Ex.fgt [some (.ref 25), none, some (.int u2), some (.int u3), some (.long s23.1), none, some (.int s23.2.1), some (.int s23.2.2), some (.int (h 31 (s23.2.1 ||| u2).toNatClampNeg)), some (.int (0 : Int32))] ⟨rfl, rfl, rfl, rfl, rfl, rfl, rfl, rfl, trivial⟩ ?_
    refine rh_Ex.loop _ _ _ (lb_Ta_groupsOf_45 d xx sv u2 u3 s23.2.1 s23.2.2 (h 31 (s23.2.1 ||| u2).toNatClampNeg) h g   _ _) rh_N _ r11 hr11 ?_
    refine rh_Ex.blk 1 (s' := ((99, [some (.ref 25), none, some (.int u2), some (.int u3), some (.long r11), none, some (.int s23.2.1), some (.int s23.2.2), none, none], [.int s23.2.1]), (h, g, cw_R sv))) rfl ?_
    by_cases q12 : s23.2.1 = 0
    · rw [if_pos q12] at hf
      refine rh_Ex.stp (s' := ((102, [some (.ref 25), none, some (.int u2), some (.int u3), some (.long r11), none, some (.int s23.2.1), some (.int s23.2.2), none, none], []), (h, g, cw_R sv))) rfl (st_ifne_p q12) ?_
      refine rh_Ex.blk 1 (s' := ((119, [some (.ref 25), none, some (.int u2), some (.int u3), some (.long r11), none, some (.int s23.2.1), some (.int s23.2.2), none, none], []), (h, g, cw_R sv))) rfl ?_
      obtain rfl := Option.some.inj hf
      refine rh_Ex.fgt [none, none, none, none, some (.long r11), none, none, none, none, none] ⟨rfl, trivial⟩ ?_
      exact hk
    · rw [if_neg q12] at hf
      refine rh_Ex.stp (s' := ((105, [some (.ref 25), none, some (.int u2), some (.int u3), some (.long r11), none, some (.int s23.2.1), some (.int s23.2.2), none, none], []), (h, g, cw_R sv))) rfl (st_ifne_n q12) ?_
      refine rh_Ex.blk 8 (s' := ((23, [some (.ref 25), none, some (.int u2), some (.int u3), some (.long r11), none, some (.int ((s23.2.1 - (1 : Int32)) &&& u3)), some (.int (s23.2.2 + (1 : Int32))), none, none], []), (h, g, cw_R sv))) rfl ?_
      obtain rfl := Option.some.inj hf
      refine rh_Ex.fgt [some (.ref 25), none, some (.int u2), some (.int u3), some (.long r11), none, some (.int ((s23.2.1 - (1 : Int32)) &&& u3)), some (.int (s23.2.2 + (1 : Int32))), none, none] ⟨rfl, rfl, rfl, rfl, rfl, rfl, trivial⟩ ?_
      exact hk
set_option maxRecDepth 20000 in
set_option maxHeartbeats 4000000 in
theorem R_Ta_groupsOf (d : Nat) (xx : rh_L) (sv : Option Nat) (h : Nat → Nat → Int32) (g : Nat → Nat → Int64) (p0 : Int32) {z9 : Int64} (hf : f_Ta_groupsOf h g p0 = some z9) : rh_M rh_PT (cw_L ++ xx) (d + 2) 100 [.ref 25, .int p0] (h, g, cw_R sv) (some (.long z9)) (h, g, cw_R sv) := by
  unfold f_Ta_groupsOf at hf
  refine rh_go pt_100 (Nat.le_of_ble_eq_true rfl) (lv := [some (.ref 25), some (.int p0), none, none, none, none, none, none, none, none]) rfl ?_
  refine rh_Ex.blk 12 (s' := ((14, [some (.ref 25), some (.int p0), some (.int (p0 &&& (-p0))), some (.int (p0 ^^^ (p0 &&& (-p0)))), none, none, none, none, none, none], [.int (p0 ^^^ (p0 &&& (-p0))), .ref 30]), (h, g, cw_R sv))) rfl ?_
  obtain ⟨q1, hf⟩ := rh_gq hf
  refine rh_Ex.stp (s' := ((15, [some (.ref 25), some (.int p0), some (.int (p0 &&& (-p0))), some (.int (p0 ^^^ (p0 &&& (-p0)))), none, none, none, none, none, none], [.long (g 30 (p0 ^^^ (p0 &&& (-p0))).toNatClampNeg)]), (h, g, cw_R sv))) rfl (st_lald (n := 512) rfl q1) ?_
  refine rh_Ex.blk 5 (s' := ((23, [some (.ref 25), some (.int p0), some (.int (p0 &&& (-p0))), some (.int (p0 ^^^ (p0 &&& (-p0)))), some (.long (g 30 (p0 ^^^ (p0 &&& (-p0))).toNatClampNeg)), none, some (.int (p0 ^^^ (p0 &&& (-p0)))), some (.int (0 : Int32)), none, none], []), (h, g, cw_R sv))) rfl ?_
  obtain ⟨r13, hr13, hf⟩ := rh_bq hf
  refine rh_Ex.fgt [some (.ref 25), none, some (.int (p0 &&& (-p0))), some (.int (p0 ^^^ (p0 &&& (-p0)))), some (.long (g 30 (p0 ^^^ (p0 &&& (-p0))).toNatClampNeg)), none, some (.int (p0 ^^^ (p0 &&& (-p0)))), some (.int (0 : Int32)), none, none] ⟨rfl, rfl, rfl, rfl, rfl, rfl, trivial⟩ ?_
  refine rh_Ex.loop _ _ _ (lb_Ta_groupsOf_23 d xx sv (p0 &&& (-p0)) (p0 ^^^ (p0 &&& (-p0))) h g   _ _) rh_N _ r13 hr13 ?_
  refine rh_Ex.blk 1 (s' := ((121, [none, none, none, none, some (.long r13), none, none, none, none, none], [.long r13]), (h, g, cw_R sv))) rfl ?_
  obtain rfl := Option.some.inj hf
  exact rh_Ex.ret rfl rfl
