def b_Mo_leanStood_4 (h : Nat → Nat → Int32) : (Int32 × Int32) → Option ((Int32 × Int32) ⊕ (Int32)) := fun s4 =>
  if (h 0 1) ≤ s4.2 then
    some (.inr s4.1)
  else
    if (f_Mo_has (h 1 (9 : Int32).toNatClampNeg) s4.2) = 0 then
      some (.inl (s4.1 + (0 : Int32), s4.2 + (1 : Int32)))
    else
      rh_g (0 ≤ s4.2.toInt ∧ s4.2.toInt < ((11 : Nat) : Int)) (
        rh_g (0 ≤ s4.2.toInt ∧ s4.2.toInt < ((9 : Nat) : Int)) (
          some (.inl (s4.1 + ((h 22 s4.2.toNatClampNeg) * (h 8 s4.2.toNatClampNeg)), s4.2 + (1 : Int32)))
        )
      )
def f_Mo_leanStood (h : Nat → Nat → Int32) : Option (Int32) :=
  (rh_loop (b_Mo_leanStood_4 h) rh_N ((0 : Int32), (0 : Int32))).bind (fun r6 =>
    some (r6)
  )
set_option maxRecDepth 20000 in
set_option maxHeartbeats 4000000 in
theorem lb_Mo_leanStood_4 (d : Nat) (rd : Option Nat) (h : Nat → Nat → Int32) (g : Nat → Nat → Int64) (v9 : Option Value) (h9 : rh_H) : ∀ s4 x9, b_Mo_leanStood_4 h s4 = some x9 → Sum.elim (fun s4 => rh_Ex (rh_M rh_PT mw_L (d + 1)) mw_L pg_X12_leanStood ((4, [some (.ref 0), some (.int s4.1), some (.int s4.2)], []), (h, g, mw_R rd)) v9 h9) (fun e9 => rh_Ex (rh_M rh_PT mw_L (d + 1)) mw_L pg_X12_leanStood ((52, [none, some (.int e9), none], []), (h, g, mw_R rd)) v9 h9) x9 → rh_Ex (rh_M rh_PT mw_L (d + 1)) mw_L pg_X12_leanStood ((4, [some (.ref 0), some (.int s4.1), some (.int s4.2)], []), (h, g, mw_R rd)) v9 h9 := by
  intro s4 x9 hf hk
  unfold b_Mo_leanStood_4 at hf
  refine rh_Ex.blk 3 (s' := ((9, [some (.ref 0), some (.int s4.1), some (.int s4.2)], [.int (h 0 1), .int s4.2]), (h, g, mw_R rd))) rfl ?_
  by_cases q2 : (h 0 1) ≤ s4.2
  · rw [if_pos q2] at hf
    refine rh_Ex.stp (s' := ((52, [some (.ref 0), some (.int s4.1), some (.int s4.2)], []), (h, g, mw_R rd))) rfl (st_icge_p q2) ?_
    obtain rfl := Option.some.inj hf
    refine rh_Ex.fgt [none, some (.int s4.1), none] ⟨rfl, trivial⟩ ?_
    exact hk
  · rw [if_neg q2] at hf
    refine rh_Ex.stp (s' := ((12, [some (.ref 0), some (.int s4.1), some (.int s4.2)], []), (h, g, mw_R rd))) rfl (st_icge_n q2) ?_
    refine rh_Ex.blk 4 (s' := ((19, [some (.ref 0), some (.int s4.1), some (.int s4.2)], [.int (9 : Int32), .ref 1, .int s4.1]), (h, g, mw_R rd))) rfl ?_
    refine rh_Ex.stp (s' := ((20, [some (.ref 0), some (.int s4.1), some (.int s4.2)], [.int (h 1 (9 : Int32).toNatClampNeg), .int s4.1]), (h, g, mw_R rd))) rfl (st_iald (n := 11) rfl (by decide)) ?_
    refine rh_Ex.blk 1 (s' := ((21, [some (.ref 0), some (.int s4.1), some (.int s4.2)], [.int s4.2, .int (h 1 (9 : Int32).toNatClampNeg), .int s4.1]), (h, g, mw_R rd))) rfl ?_
    refine rh_Ex.call (j := 180) (rc := none) [.int (h 1 (9 : Int32).toNatClampNeg), .int s4.2] [.int s4.1] (some (.int (f_Mo_has (h 1 (9 : Int32).toNatClampNeg) s4.2))) rfl rfl trivial (Nat.le_of_ble_eq_true rfl) (R_Mo_has d mw_L (mw_R rd) h g (h 1 (9 : Int32).toNatClampNeg) s4.2 rfl) ?_
    show rh_Ex _ _ _ ((24, [some (.ref 0), some (.int s4.1), some (.int s4.2)], [.int (f_Mo_has (h 1 (9 : Int32).toNatClampNeg) s4.2), .int s4.1]), (h, g, mw_R rd)) _ _
    by_cases q3 : (f_Mo_has (h 1 (9 : Int32).toNatClampNeg) s4.2) = 0
    · rw [if_pos q3] at hf
      refine rh_Ex.stp (s' := ((43, [some (.ref 0), some (.int s4.1), some (.int s4.2)], [.int s4.1]), (h, g, mw_R rd))) rfl (st_ifeq_p q3) ?_
      refine rh_Ex.blk 5 (s' := ((4, [some (.ref 0), some (.int (s4.1 + (0 : Int32))), some (.int (s4.2 + (1 : Int32)))], []), (h, g, mw_R rd))) rfl ?_
      obtain rfl := Option.some.inj hf
      refine rh_Ex.fgt [some (.ref 0), some (.int (s4.1 + (0 : Int32))), some (.int (s4.2 + (1 : Int32)))] ⟨rfl, rfl, rfl, trivial⟩ ?_
      exact hk
    · rw [if_neg q3] at hf
      refine rh_Ex.stp (s' := ((27, [some (.ref 0), some (.int s4.1), some (.int s4.2)], [.int s4.1]), (h, g, mw_R rd))) rfl (st_ifeq_n q3) ?_
      refine rh_Ex.blk 3 (s' := ((32, [some (.ref 0), some (.int s4.1), some (.int s4.2)], [.int s4.2, .ref 22, .int s4.1]), (h, g, mw_R rd))) rfl ?_
      obtain ⟨q4, hf⟩ := rh_gq hf
      refine rh_Ex.stp (s' := ((33, [some (.ref 0), some (.int s4.1), some (.int s4.2)], [.int (h 22 s4.2.toNatClampNeg), .int s4.1]), (h, g, mw_R rd))) rfl (st_iald (n := 11) rfl q4) ?_
      refine rh_Ex.blk 3 (s' := ((38, [some (.ref 0), some (.int s4.1), some (.int s4.2)], [.int s4.2, .ref 8, .int (h 22 s4.2.toNatClampNeg), .int s4.1]), (h, g, mw_R rd))) rfl ?_
      obtain ⟨q5, hf⟩ := rh_gq hf
      refine rh_Ex.stp (s' := ((39, [some (.ref 0), some (.int s4.1), some (.int s4.2)], [.int (h 8 s4.2.toNatClampNeg), .int (h 22 s4.2.toNatClampNeg), .int s4.1]), (h, g, mw_R rd))) rfl (st_iald (n := 9) rfl q5) ?_
      refine rh_Ex.blk 6 (s' := ((4, [some (.ref 0), some (.int (s4.1 + ((h 22 s4.2.toNatClampNeg) * (h 8 s4.2.toNatClampNeg)))), some (.int (s4.2 + (1 : Int32)))], []), (h, g, mw_R rd))) rfl ?_
      obtain rfl := Option.some.inj hf
      refine rh_Ex.fgt [some (.ref 0), some (.int (s4.1 + ((h 22 s4.2.toNatClampNeg) * (h 8 s4.2.toNatClampNeg)))), some (.int (s4.2 + (1 : Int32)))] ⟨rfl, rfl, rfl, trivial⟩ ?_
      exact hk
set_option maxRecDepth 20000 in
set_option maxHeartbeats 4000000 in
theorem R_Mo_leanStood (d : Nat) (rd : Option Nat) (h : Nat → Nat → Int32) (g : Nat → Nat → Int64)  {z9 : Int32} (hf : f_Mo_leanStood h = some z9) : rh_M rh_PT mw_L (d + 2) 265 [.ref 0] (h, g, mw_R rd) (some (.int z9)) (h, g, mw_R rd) := by
  unfold f_Mo_leanStood at hf
  refine rh_go pt_265 (Nat.le_of_ble_eq_true rfl) (lv := [some (.ref 0), none, none]) rfl ?_
  refine rh_Ex.blk 4 (s' := ((4, [some (.ref 0), some (.int (0 : Int32)), some (.int (0 : Int32))], []), (h, g, mw_R rd))) rfl ?_
  obtain ⟨r6, hr6, hf⟩ := rh_bq hf
  refine rh_Ex.fgt [some (.ref 0), some (.int (0 : Int32)), some (.int (0 : Int32))] ⟨rfl, rfl, rfl, trivial⟩ ?_
  refine rh_Ex.loop _ _ _ (lb_Mo_leanStood_4 d rd h  g _ _) rh_N _ r6 hr6 ?_
  refine rh_Ex.blk 1 (s' := ((53, [none, some (.int r6), none], [.int r6]), (h, g, mw_R rd))) rfl ?_
  obtain rfl := Option.some.inj hf
  exact rh_Ex.ret rfl rfl
def b_Mo_codeOf_1_4 (h : Nat → Nat → Int32) : (Int32 × Int32) → Option ((Int32 × Int32) ⊕ (Int32)) := fun s4 =>
  if (h 0 1) ≤ s4.2 then
    some (.inr s4.1)
  else
    rh_g (0 ≤ s4.2.toInt ∧ s4.2.toInt < ((11 : Nat) : Int)) (
      some (.inl ((((9 : Int32) * s4.1) + (h 1 s4.2.toNatClampNeg)) + (4 : Int32), s4.2 + (1 : Int32)))
    )
def f_Mo_codeOf_1 (h : Nat → Nat → Int32) : Option (Int32) :=
  (rh_loop (b_Mo_codeOf_1_4 h) rh_N ((0 : Int32), (0 : Int32))).bind (fun r4 =>
    some (r4)
  )
set_option maxRecDepth 20000 in
set_option maxHeartbeats 4000000 in
theorem lb_Mo_codeOf_1_4 (d : Nat) (rd : Option Nat) (h : Nat → Nat → Int32) (g : Nat → Nat → Int64) (v9 : Option Value) (h9 : rh_H) : ∀ s4 x9, b_Mo_codeOf_1_4 h s4 = some x9 → Sum.elim (fun s4 => rh_Ex (rh_M rh_PT mw_L (d + 0)) mw_L pg_X12_codeOf ((4, [some (.ref 0), some (.ref 1), some (.int s4.1), some (.int s4.2)], []), (h, g, mw_R rd)) v9 h9) (fun e9 => rh_Ex (rh_M rh_PT mw_L (d + 0)) mw_L pg_X12_codeOf ((29, [none, none, some (.int e9), none], []), (h, g, mw_R rd)) v9 h9) x9 → rh_Ex (rh_M rh_PT mw_L (d + 0)) mw_L pg_X12_codeOf ((4, [some (.ref 0), some (.ref 1), some (.int s4.1), some (.int s4.2)], []), (h, g, mw_R rd)) v9 h9 := by
  intro s4 x9 hf hk
  unfold b_Mo_codeOf_1_4 at hf
  refine rh_Ex.blk 3 (s' := ((9, [some (.ref 0), some (.ref 1), some (.int s4.1), some (.int s4.2)], [.int (h 0 1), .int s4.2]), (h, g, mw_R rd))) rfl ?_
  by_cases q2 : (h 0 1) ≤ s4.2
  · rw [if_pos q2] at hf
    refine rh_Ex.stp (s' := ((29, [some (.ref 0), some (.ref 1), some (.int s4.1), some (.int s4.2)], []), (h, g, mw_R rd))) rfl (st_icge_p q2) ?_
    obtain rfl := Option.some.inj hf
    refine rh_Ex.fgt [none, none, some (.int s4.1), none] ⟨rfl, trivial⟩ ?_
    exact hk
  · rw [if_neg q2] at hf
    refine rh_Ex.stp (s' := ((12, [some (.ref 0), some (.ref 1), some (.int s4.1), some (.int s4.2)], []), (h, g, mw_R rd))) rfl (st_icge_n q2) ?_
    refine rh_Ex.blk 5 (s' := ((18, [some (.ref 0), some (.ref 1), some (.int s4.1), some (.int s4.2)], [.int s4.2, .ref 1, .int ((9 : Int32) * s4.1)]), (h, g, mw_R rd))) rfl ?_
    obtain ⟨q3, hf⟩ := rh_gq hf
    refine rh_Ex.stp (s' := ((19, [some (.ref 0), some (.ref 1), some (.int s4.1), some (.int s4.2)], [.int (h 1 s4.2.toNatClampNeg), .int ((9 : Int32) * s4.1)]), (h, g, mw_R rd))) rfl (st_iald (n := 11) rfl q3) ?_
    refine rh_Ex.blk 6 (s' := ((4, [some (.ref 0), some (.ref 1), some (.int ((((9 : Int32) * s4.1) + (h 1 s4.2.toNatClampNeg)) + (4 : Int32))), some (.int (s4.2 + (1 : Int32)))], []), (h, g, mw_R rd))) rfl ?_
    obtain rfl := Option.some.inj hf
    refine rh_Ex.fgt [some (.ref 0), some (.ref 1), some (.int ((((9 : Int32) * s4.1) + (h 1 s4.2.toNatClampNeg)) + (4 : Int32))), some (.int (s4.2 + (1 : Int32)))] ⟨rfl, rfl, rfl, rfl, trivial⟩ ?_
    exact hk
set_option maxRecDepth 20000 in
set_option maxHeartbeats 4000000 in
theorem R_Mo_codeOf_1 (d : Nat) (rd : Option Nat) (h : Nat → Nat → Int32) (g : Nat → Nat → Int64)  {z9 : Int32} (hf : f_Mo_codeOf_1 h = some z9) : rh_M rh_PT mw_L (d + 1) 258 [.ref 0, .ref 1] (h, g, mw_R rd) (some (.int z9)) (h, g, mw_R rd) := by
  unfold f_Mo_codeOf_1 at hf
  refine rh_go pt_258 (Nat.le_of_ble_eq_true rfl) (lv := [some (.ref 0), some (.ref 1), none, none]) rfl ?_
  refine rh_Ex.blk 4 (s' := ((4, [some (.ref 0), some (.ref 1), some (.int (0 : Int32)), some (.int (0 : Int32))], []), (h, g, mw_R rd))) rfl ?_
  obtain ⟨r4, hr4, hf⟩ := rh_bq hf
  refine rh_Ex.fgt [some (.ref 0), some (.ref 1), some (.int (0 : Int32)), some (.int (0 : Int32))] ⟨rfl, rfl, rfl, rfl, trivial⟩ ?_
  refine rh_Ex.loop _ _ _ (lb_Mo_codeOf_1_4 d rd h  g _ _) rh_N _ r4 hr4 ?_
  refine rh_Ex.blk 1 (s' := ((30, [none, none, some (.int r4), none], [.int r4]), (h, g, mw_R rd))) rfl ?_
  obtain rfl := Option.some.inj hf
  exact rh_Ex.ret rfl rfl
def b_Mo_findEach_2 (u1 : Int32) : (Int32 × (Nat → Nat → Int32) × (Option Nat)) → Option ((Int32 × (Nat → Nat → Int32) × (Option Nat)) ⊕ ((Nat → Nat → Int32) × (Option Nat))) := fun s2 =>
  if (s2.2.1 0 1) ≤ s2.1 then
    some (.inr (s2.2.1, s2.2.2))
  else
    (f_Mo_weightOf s2.2.1 s2.2.2 s2.1 ((s2.2.1 1 (10 : Int32).toNatClampNeg) + u1)).bind (fun x3 =>
      rh_g (0 ≤ s2.1.toInt ∧ s2.1.toInt < ((9 : Nat) : Int)) (
        some (.inl (s2.1 + (1 : Int32), rh_up x3.2.1 8 s2.1.toNatClampNeg x3.1, x3.2.2))
      )
    )
def f_Mo_findEach (h : Nat → Nat → Int32) (rd : Option Nat) (p0 : Int32) : Option ((Nat → Nat → Int32) × (Option Nat)) :=
  (rh_loop (b_Mo_findEach_2 p0) rh_N ((0 : Int32), h, rd)).bind (fun r5 =>
    some ((r5.1, r5.2))
  )
set_option maxRecDepth 20000 in
set_option maxHeartbeats 4000000 in
theorem lb_Mo_findEach_2 (d : Nat) (u1 : Int32) (g : Nat → Nat → Int64) (v9 : Option Value) (h9 : rh_H) : ∀ s2 x9, b_Mo_findEach_2 u1 s2 = some x9 → Sum.elim (fun s2 => rh_Ex (rh_M rh_PT mw_L (d + 267)) mw_L pg_X12_findEach ((2, [some (.ref 0), some (.int u1), some (.int s2.1)], []), (s2.2.1, g, mw_R s2.2.2)) v9 h9) (fun e9 => rh_Ex (rh_M rh_PT mw_L (d + 267)) mw_L pg_X12_findEach ((36, [none, none, none], []), (e9.1, g, mw_R e9.2)) v9 h9) x9 → rh_Ex (rh_M rh_PT mw_L (d + 267)) mw_L pg_X12_findEach ((2, [some (.ref 0), some (.int u1), some (.int s2.1)], []), (s2.2.1, g, mw_R s2.2.2)) v9 h9 := by
  intro s2 x9 hf hk
  unfold b_Mo_findEach_2 at hf
  refine rh_Ex.blk 3 (s' := ((7, [some (.ref 0), some (.int u1), some (.int s2.1)], [.int (s2.2.1 0 1), .int s2.1]), (s2.2.1, g, mw_R s2.2.2))) rfl ?_
  by_cases q2 : (s2.2.1 0 1) ≤ s2.1
  · rw [if_pos q2] at hf
    refine rh_Ex.stp (s' := ((36, [some (.ref 0), some (.int u1), some (.int s2.1)], []), (s2.2.1, g, mw_R s2.2.2))) rfl (st_icge_p q2) ?_
    obtain rfl := Option.some.inj hf
    refine rh_Ex.fgt [none, none, none] trivial ?_
    exact hk
  · rw [if_neg q2] at hf
    refine rh_Ex.stp (s' := ((10, [some (.ref 0), some (.int u1), some (.int s2.1)], []), (s2.2.1, g, mw_R s2.2.2))) rfl (st_icge_n q2) ?_
    refine rh_Ex.blk 8 (s' := ((23, [some (.ref 0), some (.int u1), some (.int s2.1)], [.int (10 : Int32), .ref 1, .int s2.1, .ref 0, .int s2.1, .ref 8]), (s2.2.1, g, mw_R s2.2.2))) rfl ?_
    refine rh_Ex.stp (s' := ((24, [some (.ref 0), some (.int u1), some (.int s2.1)], [.int (s2.2.1 1 (10 : Int32).toNatClampNeg), .int s2.1, .ref 0, .int s2.1, .ref 8]), (s2.2.1, g, mw_R s2.2.2))) rfl (st_iald (n := 11) rfl (by decide)) ?_
    refine rh_Ex.blk 2 (s' := ((26, [some (.ref 0), some (.int u1), some (.int s2.1)], [.int ((s2.2.1 1 (10 : Int32).toNatClampNeg) + u1), .int s2.1, .ref 0, .int s2.1, .ref 8]), (s2.2.1, g, mw_R s2.2.2))) rfl ?_
    obtain ⟨x3, hx3, hf⟩ := rh_bq hf
    refine rh_Ex.call (j := 205) (rc := some 11) [.ref 0, .int s2.1, .int ((s2.2.1 1 (10 : Int32).toNatClampNeg) + u1)] [.int s2.1, .ref 8] (some (.int x3.1)) rfl rfl rfl (Nat.le_of_ble_eq_true rfl) (R_Mo_weightOf d s2.2.2 s2.2.1 g s2.1 ((s2.2.1 1 (10 : Int32).toNatClampNeg) + u1) hx3) ?_
    show rh_Ex _ _ _ ((29, [some (.ref 0), some (.int u1), some (.int s2.1)], [.int x3.1, .int s2.1, .ref 8]), (x3.2.1, g, mw_R x3.2.2)) _ _
    obtain ⟨q4, hf⟩ := rh_gq hf
    refine rh_Ex.stp (s' := ((30, [some (.ref 0), some (.int u1), some (.int s2.1)], []), (rh_up x3.2.1 8 s2.1.toNatClampNeg x3.1, g, mw_R x3.2.2))) rfl (st_iast (n := 9) rfl q4) ?_
    refine rh_Ex.blk 2 (s' := ((2, [some (.ref 0), some (.int u1), some (.int (s2.1 + (1 : Int32)))], []), (rh_up x3.2.1 8 s2.1.toNatClampNeg x3.1, g, mw_R x3.2.2))) rfl ?_
    obtain rfl := Option.some.inj hf
    refine rh_Ex.fgt [some (.ref 0), some (.int u1), some (.int (s2.1 + (1 : Int32)))] ⟨rfl, rfl, rfl, trivial⟩ ?_
    exact hk
set_option maxRecDepth 20000 in
set_option maxHeartbeats 4000000 in
theorem R_Mo_findEach (d : Nat) (rd : Option Nat) (h : Nat → Nat → Int32) (g : Nat → Nat → Int64) (p0 : Int32) {z9 : (Nat → Nat → Int32) × (Option Nat)} (hf : f_Mo_findEach h rd p0 = some z9) : rh_M rh_PT mw_L (d + 268) 267 [.ref 0, .int p0] (h, g, mw_R rd) none (z9.1, g, mw_R z9.2) := by
  unfold f_Mo_findEach at hf
  refine rh_go pt_267 (Nat.le_of_ble_eq_true rfl) (lv := [some (.ref 0), some (.int p0), none]) rfl ?_
  refine rh_Ex.blk 2 (s' := ((2, [some (.ref 0), some (.int p0), some (.int (0 : Int32))], []), (h, g, mw_R rd))) rfl ?_
  obtain ⟨r5, hr5, hf⟩ := rh_bq hf
  refine rh_Ex.fgt [some (.ref 0), some (.int p0), some (.int (0 : Int32))] ⟨rfl, rfl, rfl, trivial⟩ ?_
  refine rh_Ex.loop _ _ _ (lb_Mo_findEach_2 d p0  g _ _) rh_N _ r5 hr5 ?_
  obtain rfl := Option.some.inj hf
  exact rh_Ex.ret rfl trivial
def b_Mo_layCode_22_10  : (Int32 × Int32 × (Nat → Nat → Int32)) → Option ((Int32 × Int32 × (Nat → Nat → Int32)) ⊕ ((Nat → Nat → Int32))) := fun s10 =>
  if s10.2.1 < 0 then
    some (.inr s10.2.2)
  else
    rh_g (0 ≤ s10.2.1.toInt ∧ s10.2.1.toInt < ((11 : Nat) : Int)) (
      some (.inl (s10.1 / (9 : Int32), s10.2.1 + (-1 : Int32), rh_up s10.2.2 22 s10.2.1.toNatClampNeg ((s10.1 - s10.1 / (9 : Int32) * (9 : Int32)) - (4 : Int32))))
    )
def f_Mo_layCode_22 (h : Nat → Nat → Int32) (p0 : Int32) : Option ((Nat → Nat → Int32)) :=
  (rh_loop (b_Mo_layCode_22_10 ) rh_N (p0, (h 0 1) - (1 : Int32), h)).bind (fun r4 =>
    some (r4)
  )
set_option maxRecDepth 20000 in
set_option maxHeartbeats 4000000 in
theorem lb_Mo_layCode_22_10 (d : Nat) (rd : Option Nat)  (g : Nat → Nat → Int64) (v9 : Option Value) (h9 : rh_H) : ∀ s10 x9, b_Mo_layCode_22_10  s10 = some x9 → Sum.elim (fun s10 => rh_Ex (rh_M rh_PT mw_L (d + 0)) mw_L pg_X12_layCode ((10, [none, none, some (.ref 22), some (.int s10.1), some (.int s10.2.1)], []), (s10.2.2, g, mw_R rd)) v9 h9) (fun e9 => rh_Ex (rh_M rh_PT mw_L (d + 0)) mw_L pg_X12_layCode ((36, [none, none, none, none, none], []), (e9, g, mw_R rd)) v9 h9) x9 → rh_Ex (rh_M rh_PT mw_L (d + 0)) mw_L pg_X12_layCode ((10, [none, none, some (.ref 22), some (.int s10.1), some (.int s10.2.1)], []), (s10.2.2, g, mw_R rd)) v9 h9 := by
  intro s10 x9 hf hk
  unfold b_Mo_layCode_22_10 at hf
  refine rh_Ex.blk 1 (s' := ((12, [none, none, some (.ref 22), some (.int s10.1), some (.int s10.2.1)], [.int s10.2.1]), (s10.2.2, g, mw_R rd))) rfl ?_
  by_cases q2 : s10.2.1 < 0
  · rw [if_pos q2] at hf
    refine rh_Ex.stp (s' := ((36, [none, none, some (.ref 22), some (.int s10.1), some (.int s10.2.1)], []), (s10.2.2, g, mw_R rd))) rfl (st_iflt_p q2) ?_
    obtain rfl := Option.some.inj hf
    refine rh_Ex.fgt [none, none, none, none, none] trivial ?_
    exact hk
  · rw [if_neg q2] at hf
    refine rh_Ex.stp (s' := ((15, [none, none, some (.ref 22), some (.int s10.1), some (.int s10.2.1)], []), (s10.2.2, g, mw_R rd))) rfl (st_iflt_n q2) ?_
    refine rh_Ex.blk 4 (s' := ((21, [none, none, some (.ref 22), some (.int s10.1), some (.int s10.2.1)], [.int (9 : Int32), .int s10.1, .int s10.2.1, .ref 22]), (s10.2.2, g, mw_R rd))) rfl ?_
    refine rh_Ex.stp (s' := ((22, [none, none, some (.ref 22), some (.int s10.1), some (.int s10.2.1)], [.int (s10.1 - s10.1 / (9 : Int32) * (9 : Int32)), .int s10.2.1, .ref 22]), (s10.2.2, g, mw_R rd))) rfl (st_irem (by decide)) ?_
    refine rh_Ex.blk 2 (s' := ((24, [none, none, some (.ref 22), some (.int s10.1), some (.int s10.2.1)], [.int ((s10.1 - s10.1 / (9 : Int32) * (9 : Int32)) - (4 : Int32)), .int s10.2.1, .ref 22]), (s10.2.2, g, mw_R rd))) rfl ?_
    obtain ⟨q3, hf⟩ := rh_gq hf
    refine rh_Ex.stp (s' := ((25, [none, none, some (.ref 22), some (.int s10.1), some (.int s10.2.1)], []), (rh_up s10.2.2 22 s10.2.1.toNatClampNeg ((s10.1 - s10.1 / (9 : Int32) * (9 : Int32)) - (4 : Int32)), g, mw_R rd))) rfl (st_iast (n := 11) rfl q3) ?_
    refine rh_Ex.blk 2 (s' := ((28, [none, none, some (.ref 22), some (.int s10.1), some (.int s10.2.1)], [.int (9 : Int32), .int s10.1]), (rh_up s10.2.2 22 s10.2.1.toNatClampNeg ((s10.1 - s10.1 / (9 : Int32) * (9 : Int32)) - (4 : Int32)), g, mw_R rd))) rfl ?_
    refine rh_Ex.stp (s' := ((29, [none, none, some (.ref 22), some (.int s10.1), some (.int s10.2.1)], [.int (s10.1 / (9 : Int32))]), (rh_up s10.2.2 22 s10.2.1.toNatClampNeg ((s10.1 - s10.1 / (9 : Int32) * (9 : Int32)) - (4 : Int32)), g, mw_R rd))) rfl (st_idiv (by decide)) ?_
    refine rh_Ex.blk 3 (s' := ((10, [none, none, some (.ref 22), some (.int (s10.1 / (9 : Int32))), some (.int (s10.2.1 + (-1 : Int32)))], []), (rh_up s10.2.2 22 s10.2.1.toNatClampNeg ((s10.1 - s10.1 / (9 : Int32) * (9 : Int32)) - (4 : Int32)), g, mw_R rd))) rfl ?_
    obtain rfl := Option.some.inj hf
    refine rh_Ex.fgt [none, none, some (.ref 22), some (.int (s10.1 / (9 : Int32))), some (.int (s10.2.1 + (-1 : Int32)))] ⟨rfl, rfl, rfl, trivial⟩ ?_
    exact hk
set_option maxRecDepth 20000 in
set_option maxHeartbeats 4000000 in
theorem R_Mo_layCode_22 (d : Nat) (rd : Option Nat) (h : Nat → Nat → Int32) (g : Nat → Nat → Int64) (p0 : Int32) {z9 : (Nat → Nat → Int32)} (hf : f_Mo_layCode_22 h p0 = some z9) : rh_M rh_PT mw_L (d + 1) 259 [.ref 0, .int p0, .ref 22] (h, g, mw_R rd) none (z9, g, mw_R rd) := by
  unfold f_Mo_layCode_22 at hf
  refine rh_go pt_259 (Nat.le_of_ble_eq_true rfl) (lv := [some (.ref 0), some (.int p0), some (.ref 22), none, none]) rfl ?_
  refine rh_Ex.blk 7 (s' := ((10, [some (.ref 0), some (.int p0), some (.ref 22), some (.int p0), some (.int ((h 0 1) - (1 : Int32)))], []), (h, g, mw_R rd))) rfl ?_
  obtain ⟨r4, hr4, hf⟩ := rh_bq hf
  refine rh_Ex.fgt [none, none, some (.ref 22), some (.int p0), some (.int ((h 0 1) - (1 : Int32)))] ⟨rfl, rfl, rfl, trivial⟩ ?_
  refine rh_Ex.loop _ _ _ (lb_Mo_layCode_22_10 d rd   g _ _) rh_N _ r4 hr4 ?_
  obtain rfl := Option.some.inj hf
  exact rh_Ex.ret rfl trivial
def j_Mo_findWays_131 (h : Nat → Nat → Int32) (g : Nat → Nat → Int64) (rd : Option Nat) (u1 : Int32) (u2 : Int32) (u3 : Int32) (u4 : Int32) (u5 : Int32) (j6 : Int32) (k0 : Int32) : Option ((Int32 × (Nat → Nat → Int32) × (Nat → Nat → Int64)) ⊕ (((Nat → Nat → Int32) × (Nat → Nat → Int64)) ⊕ (Int32 × (Nat → Nat → Int32) × (Nat → Nat → Int64) × (Option Nat)))) :=
  if k0 = (-1 : Int32) then
    some (.inl (j6 + (1 : Int32), h, g))
  else
    (f_Mo_add h g u2 k0).bind (fun x19 =>
      if x19.1 = 0 then
        some (.inr (.inr ((0 : Int32), x19.2.1, x19.2.2, rd)))
      else
        some (.inl (j6 + (1 : Int32), x19.2.1, x19.2.2))
    )
def j_Mo_findWays_117 (h : Nat → Nat → Int32) (g : Nat → Nat → Int64) (rd : Option Nat) (u1 : Int32) (u2 : Int32) (u3 : Int32) (u4 : Int32) (u5 : Int32) (j6 : Int32) : Option ((Int32 × (Nat → Nat → Int32) × (Nat → Nat → Int64)) ⊕ (((Nat → Nat → Int32) × (Nat → Nat → Int64)) ⊕ (Int32 × (Nat → Nat → Int32) × (Nat → Nat → Int64) × (Option Nat)))) :=
  (f_Mo_stepTo h u4 j6 u5).bind (fun x17 =>
    j_Mo_findWays_131 h g rd u1 u2 u3 u4 u5 j6 x17
  )
def b_Mo_findWays_83 (u1 : Int32) (u2 : Int32) (u3 : Int32) (u4 : Int32) (u5 : Int32) (rd : Option Nat) : (Int32 × (Nat → Nat → Int32) × (Nat → Nat → Int64)) → Option ((Int32 × (Nat → Nat → Int32) × (Nat → Nat → Int64)) ⊕ (((Nat → Nat → Int32) × (Nat → Nat → Int64)) ⊕ (Int32 × (Nat → Nat → Int32) × (Nat → Nat → Int64) × (Option Nat)))) := fun s83 =>
  if (18 : Int32) < s83.1 then
    some (.inr (.inl (s83.2.1, s83.2.2)))
  else
    if (f_Mo_isTipping s83.2.1 u5) = 0 then
      if (s83.1 / (2 : Int32)) < (s83.2.1 0 1) then
        j_Mo_findWays_117 s83.2.1 s83.2.2 rd u1 u2 u3 u4 u5 s83.1
      else
        if s83.1 = (18 : Int32) then
          j_Mo_findWays_117 s83.2.1 s83.2.2 rd u1 u2 u3 u4 u5 s83.1
        else
          j_Mo_findWays_131 s83.2.1 s83.2.2 rd u1 u2 u3 u4 u5 s83.1 (-1 : Int32)
    else
      some (.inr (.inl (s83.2.1, s83.2.2)))
def b_Mo_findWays_42 (u1 : Int32) (u2 : Int32) (rd : Option Nat) : (Int32 × (Nat → Nat → Int32) × (Nat → Nat → Int64)) → Option ((Int32 × (Nat → Nat → Int32) × (Nat → Nat → Int64)) ⊕ (((Nat → Nat → Int32) × (Nat → Nat → Int64)) ⊕ (Int32 × (Nat → Nat → Int32) × (Nat → Nat → Int64) × (Option Nat)))) := fun s42 =>
  rh_g (0 ≤ (u2 - (1 : Int32)).toInt ∧ (u2 - (1 : Int32)).toInt < ((21 : Nat) : Int)) (
    if (s42.2.1 21 (u2 - (1 : Int32)).toNatClampNeg) ≤ s42.1 then
      some (.inr (.inl (s42.2.1, s42.2.2)))
    else
      (f_Mo_wayOf s42.2.2 (u2 - (1 : Int32)) s42.1).bind (fun x10 =>
        (f_Mo_layCode_22 s42.2.1 x10).bind (fun x11 =>
          (f_Mo_leanStood x11).bind (fun x12 =>
            (rh_loop (b_Mo_findWays_83 u1 u2 s42.1 x10 x12 rd) rh_N ((0 : Int32), x11, s42.2.2)).bind (fun r22 => match r22 with
              | .inl e23 =>
                some (.inl (s42.1 + (1 : Int32), e23.1, e23.2))
              | .inr t24 => some (.inr (.inr t24)))
          )
        )
      )
  )
def b_Mo_findWays_23 (u1 : Int32) : (Int32 × (Nat → Nat → Int32) × (Nat → Nat → Int64) × (Option Nat)) → Option ((Int32 × (Nat → Nat → Int32) × (Nat → Nat → Int64) × (Option Nat)) ⊕ (((Nat → Nat → Int32) × (Nat → Nat → Int64) × (Option Nat)) ⊕ (Int32 × (Nat → Nat → Int32) × (Nat → Nat → Int64) × (Option Nat)))) := fun s23 =>
  if u1 < s23.1 then
    some (.inr (.inl (s23.2.1, s23.2.2.1, s23.2.2.2)))
  else
    (f_Mo_findEach s23.2.1 s23.2.2.2 s23.1).bind (fun x5 =>
      rh_g (0 ≤ s23.1.toInt ∧ s23.1.toInt < ((21 : Nat) : Int)) (
        (rh_loop (b_Mo_findWays_42 u1 s23.1 x5.2) rh_N ((0 : Int32), rh_up x5.1 21 s23.1.toNatClampNeg (0 : Int32), s23.2.2.1)).bind (fun r25 => match r25 with
          | .inl e26 =>
            some (.inl (s23.1 + (1 : Int32), e26.1, e26.2, x5.2))
          | .inr t27 => some (.inr (.inr t27)))
      )
    )
def f_Mo_findWays (h : Nat → Nat → Int32) (g : Nat → Nat → Int64) (rd : Option Nat) (p0 : Int32) : Option (Int32 × (Nat → Nat → Int32) × (Nat → Nat → Int64) × (Option Nat)) :=
  (f_Mo_codeOf_1 (rh_up h 21 (0 : Int32).toNatClampNeg (0 : Int32))).bind (fun x1 =>
    (f_Mo_add (rh_up h 21 (0 : Int32).toNatClampNeg (0 : Int32)) g (0 : Int32) x1).bind (fun x2 =>
      (rh_loop (b_Mo_findWays_23 p0) rh_N ((1 : Int32), x2.2.1, x2.2.2, rd)).bind (fun r28 => match r28 with
        | .inl e29 =>
          some (((1 : Int32), e29.1, e29.2.1, e29.2.2))
        | .inr t30 => some t30)
    )
  )
set_option maxRecDepth 20000 in
set_option maxHeartbeats 4000000 in
theorem lj_Mo_findWays_131 (d : Nat) (h : Nat → Nat → Int32) (g : Nat → Nat → Int64) (rd : Option Nat) (u1 : Int32) (u2 : Int32) (u3 : Int32) (u4 : Int32) (u5 : Int32) (j6 : Int32) (k0 : Int32) (v9 : Option Value) (h9 : rh_H) (x9 : (Int32 × (Nat → Nat → Int32) × (Nat → Nat → Int64)) ⊕ (((Nat → Nat → Int32) × (Nat → Nat → Int64)) ⊕ (Int32 × (Nat → Nat → Int32) × (Nat → Nat → Int64) × (Option Nat)))) (hf : j_Mo_findWays_131 h g rd u1 u2 u3 u4 u5 j6 k0 = some x9) (hk : Sum.elim (fun s83 => rh_Ex (rh_M rh_PT mw_L (d + 268)) mw_L pg_X12_findWays ((83, [some (.ref 0), some (.int u1), some (.int u2), some (.int u3), some (.int u4), some (.int u5), some (.int s83.1), none], []), (s83.2.1, s83.2.2, mw_R rd)) v9 h9) (Sum.elim (fun e9 => rh_Ex (rh_M rh_PT mw_L (d + 268)) mw_L pg_X12_findWays ((157, [some (.ref 0), some (.int u1), some (.int u2), some (.int u3), none, none, none, none], []), (e9.1, e9.2, mw_R rd)) v9 h9) (fun t9 => v9 = (some (.int t9.1)) ∧ h9 = (t9.2.1, t9.2.2.1, mw_R t9.2.2.2))) x9) : rh_Ex (rh_M rh_PT mw_L (d + 268)) mw_L pg_X12_findWays ((131, [some (.ref 0), some (.int u1), some (.int u2), some (.int u3), some (.int u4), some (.int u5), some (.int j6), none], [.int k0]), (h, g, mw_R rd)) v9 h9 := by
  unfold j_Mo_findWays_131 at hf
  refine rh_Ex.blk 3 (s' := ((136, [some (.ref 0), some (.int u1), some (.int u2), some (.int u3), some (.int u4), some (.int u5), some (.int j6), some (.int k0)], [.int (-1 : Int32), .int k0]), (h, g, mw_R rd))) rfl ?_
  by_cases q18 : k0 = (-1 : Int32)
  · rw [if_pos q18] at hf
    refine rh_Ex.stp (s' := ((151, [some (.ref 0), some (.int u1), some (.int u2), some (.int u3), some (.int u4), some (.int u5), some (.int j6), some (.int k0)], []), (h, g, mw_R rd))) rfl (st_iceq_p q18) ?_
    refine rh_Ex.blk 2 (s' := ((83, [some (.ref 0), some (.int u1), some (.int u2), some (.int u3), some (.int u4), some (.int u5), some (.int (j6 + (1 : Int32))), some (.int k0)], []), (h, g, mw_R rd))) rfl ?_
    obtain rfl := Option.some.inj hf
    refine rh_Ex.fgt [some (.ref 0), some (.int u1), some (.int u2), some (.int u3), some (.int u4), some (.int u5), some (.int (j6 + (1 : Int32))), none] ⟨rfl, rfl, rfl, rfl, rfl, rfl, rfl, trivial⟩ ?_
    exact hk
  · rw [if_neg q18] at hf
    refine rh_Ex.stp (s' := ((139, [some (.ref 0), some (.int u1), some (.int u2), some (.int u3), some (.int u4), some (.int u5), some (.int j6), some (.int k0)], []), (h, g, mw_R rd))) rfl (st_iceq_n q18) ?_
    refine rh_Ex.blk 3 (s' := ((143, [some (.ref 0), some (.int u1), some (.int u2), some (.int u3), some (.int u4), some (.int u5), some (.int j6), some (.int k0)], [.int k0, .int u2, .ref 0]), (h, g, mw_R rd))) rfl ?_
    obtain ⟨x19, hx19, hf⟩ := rh_bq hf
    refine rh_Ex.call (j := 263) (rc := some 11) [.ref 0, .int u2, .int k0] [] (some (.int x19.1)) rfl rfl rfl (Nat.le_of_ble_eq_true rfl) (R_Mo_add (d + 265) rd h g u2 k0 hx19) ?_
    show rh_Ex _ _ _ ((146, [some (.ref 0), some (.int u1), some (.int u2), some (.int u3), some (.int u4), some (.int u5), some (.int j6), some (.int k0)], [.int x19.1]), (x19.2.1, x19.2.2, mw_R rd)) _ _
    by_cases q20 : x19.1 = 0
    · rw [if_pos q20] at hf
      refine rh_Ex.stp (s' := ((149, [some (.ref 0), some (.int u1), some (.int u2), some (.int u3), some (.int u4), some (.int u5), some (.int j6), some (.int k0)], []), (x19.2.1, x19.2.2, mw_R rd))) rfl (st_ifne_p q20) ?_
      refine rh_Ex.blk 1 (s' := ((150, [some (.ref 0), some (.int u1), some (.int u2), some (.int u3), some (.int u4), some (.int u5), some (.int j6), some (.int k0)], [.int (0 : Int32)]), (x19.2.1, x19.2.2, mw_R rd))) rfl ?_
      obtain rfl := Option.some.inj hf
      obtain ⟨rfl, rfl⟩ := hk
      exact rh_Ex.ret rfl ⟨rfl, Or.inl rfl⟩
    · rw [if_neg q20] at hf
      refine rh_Ex.stp (s' := ((151, [some (.ref 0), some (.int u1), some (.int u2), some (.int u3), some (.int u4), some (.int u5), some (.int j6), some (.int k0)], []), (x19.2.1, x19.2.2, mw_R rd))) rfl (st_ifne_n q20) ?_
      refine rh_Ex.blk 2 (s' := ((83, [some (.ref 0), some (.int u1), some (.int u2), some (.int u3), some (.int u4), some (.int u5), some (.int (j6 + (1 : Int32))), some (.int k0)], []), (x19.2.1, x19.2.2, mw_R rd))) rfl ?_
      obtain rfl := Option.some.inj hf
      refine rh_Ex.fgt [some (.ref 0), some (.int u1), some (.int u2), some (.int u3), some (.int u4), some (.int u5), some (.int (j6 + (1 : Int32))), none] ⟨rfl, rfl, rfl, rfl, rfl, rfl, rfl, trivial⟩ ?_
      exact hk
set_option maxRecDepth 20000 in
set_option maxHeartbeats 4000000 in
theorem lj_Mo_findWays_117 (d : Nat) (h : Nat → Nat → Int32) (g : Nat → Nat → Int64) (rd : Option Nat) (u1 : Int32) (u2 : Int32) (u3 : Int32) (u4 : Int32) (u5 : Int32) (j6 : Int32) (v9 : Option Value) (h9 : rh_H) (x9 : (Int32 × (Nat → Nat → Int32) × (Nat → Nat → Int64)) ⊕ (((Nat → Nat → Int32) × (Nat → Nat → Int64)) ⊕ (Int32 × (Nat → Nat → Int32) × (Nat → Nat → Int64) × (Option Nat)))) (hf : j_Mo_findWays_117 h g rd u1 u2 u3 u4 u5 j6 = some x9) (hk : Sum.elim (fun s83 => rh_Ex (rh_M rh_PT mw_L (d + 268)) mw_L pg_X12_findWays ((83, [some (.ref 0), some (.int u1), some (.int u2), some (.int u3), some (.int u4), some (.int u5), some (.int s83.1), none], []), (s83.2.1, s83.2.2, mw_R rd)) v9 h9) (Sum.elim (fun e9 => rh_Ex (rh_M rh_PT mw_L (d + 268)) mw_L pg_X12_findWays ((157, [some (.ref 0), some (.int u1), some (.int u2), some (.int u3), none, none, none, none], []), (e9.1, e9.2, mw_R rd)) v9 h9) (fun t9 => v9 = (some (.int t9.1)) ∧ h9 = (t9.2.1, t9.2.2.1, mw_R t9.2.2.2))) x9) : rh_Ex (rh_M rh_PT mw_L (d + 268)) mw_L pg_X12_findWays ((117, [some (.ref 0), some (.int u1), some (.int u2), some (.int u3), some (.int u4), some (.int u5), some (.int j6), none], []), (h, g, mw_R rd)) v9 h9 := by
  unfold j_Mo_findWays_117 at hf
  refine rh_Ex.blk 4 (s' := ((124, [some (.ref 0), some (.int u1), some (.int u2), some (.int u3), some (.int u4), some (.int u5), some (.int j6), none], [.int u5, .int j6, .int u4, .ref 0]), (h, g, mw_R rd))) rfl ?_
  obtain ⟨x17, hx17, hf⟩ := rh_bq hf
  refine rh_Ex.call (j := 264) (rc := some 11) [.ref 0, .int u4, .int j6, .int u5] [] (some (.int x17)) rfl rfl rfl (Nat.le_of_ble_eq_true rfl) (R_Mo_stepTo (d + 266) rd h g u4 j6 u5 hx17) ?_
  show rh_Ex _ _ _ ((127, [some (.ref 0), some (.int u1), some (.int u2), some (.int u3), some (.int u4), some (.int u5), some (.int j6), none], [.int x17]), (h, g, mw_R rd)) _ _
  refine rh_Ex.blk 1 (s' := ((131, [some (.ref 0), some (.int u1), some (.int u2), some (.int u3), some (.int u4), some (.int u5), some (.int j6), none], [.int x17]), (h, g, mw_R rd))) rfl ?_
  refine rh_Ex.fgt [some (.ref 0), some (.int u1), some (.int u2), some (.int u3), some (.int u4), some (.int u5), some (.int j6), none] ⟨rfl, rfl, rfl, rfl, rfl, rfl, rfl, trivial⟩ ?_
  exact lj_Mo_findWays_131 d h g rd u1 u2 u3 u4 u5 j6 x17 _ _ _ hf hk
set_option maxRecDepth 20000 in
set_option maxHeartbeats 4000000 in
theorem lb_Mo_findWays_83 (d : Nat) (u1 : Int32) (u2 : Int32) (u3 : Int32) (u4 : Int32) (u5 : Int32) (rd : Option Nat) (v9 : Option Value) (h9 : rh_H) : ∀ s83 x9, b_Mo_findWays_83 u1 u2 u3 u4 u5 rd s83 = some x9 → Sum.elim (fun s83 => rh_Ex (rh_M rh_PT mw_L (d + 268)) mw_L pg_X12_findWays ((83, [some (.ref 0), some (.int u1), some (.int u2), some (.int u3), some (.int u4), some (.int u5), some (.int s83.1), none], []), (s83.2.1, s83.2.2, mw_R rd)) v9 h9) (Sum.elim (fun e9 => rh_Ex (rh_M rh_PT mw_L (d + 268)) mw_L pg_X12_findWays ((157, [some (.ref 0), some (.int u1), some (.int u2), some (.int u3), none, none, none, none], []), (e9.1, e9.2, mw_R rd)) v9 h9) (fun t9 => v9 = (some (.int t9.1)) ∧ h9 = (t9.2.1, t9.2.2.1, mw_R t9.2.2.2))) x9 → rh_Ex (rh_M rh_PT mw_L (d + 268)) mw_L pg_X12_findWays ((83, [some (.ref 0), some (.int u1), some (.int u2), some (.int u3), some (.int u4), some (.int u5), some (.int s83.1), none], []), (s83.2.1, s83.2.2, mw_R rd)) v9 h9 := by
  intro s83 x9 hf hk
  unfold b_Mo_findWays_83 at hf
  refine rh_Ex.blk 2 (s' := ((87, [some (.ref 0), some (.int u1), some (.int u2), some (.int u3), some (.int u4), some (.int u5), some (.int s83.1), none], [.int (18 : Int32), .int s83.1]), (s83.2.1, s83.2.2, mw_R rd))) rfl ?_
  by_cases q14 : (18 : Int32) < s83.1
  · rw [if_pos q14] at hf
    refine rh_Ex.stp (s' := ((157, [some (.ref 0), some (.int u1), some (.int u2), some (.int u3), some (.int u4), some (.int u5), some (.int s83.1), none], []), (s83.2.1, s83.2.2, mw_R rd))) rfl (st_icgt_p q14) ?_
    obtain rfl := Option.some.inj hf
    refine rh_Ex.fgt [some (.ref 0), some (.int u1), some (.int u2), some (.int u3), none, none, none, none] ⟨rfl, rfl, rfl, rfl, trivial⟩ ?_
    exact hk
  · rw [if_neg q14] at hf
    refine rh_Ex.stp (s' := ((90, [some (.ref 0), some (.int u1), some (.int u2), some (.int u3), some (.int u4), some (.int u5), some (.int s83.1), none], []), (s83.2.1, s83.2.2, mw_R rd))) rfl (st_icgt_n q14) ?_
    refine rh_Ex.blk 2 (s' := ((93, [some (.ref 0), some (.int u1), some (.int u2), some (.int u3), some (.int u4), some (.int u5), some (.int s83.1), none], [.int u5, .ref 0]), (s83.2.1, s83.2.2, mw_R rd))) rfl ?_
    refine rh_Ex.call (j := 216) (rc := some 11) [.ref 0, .int u5] [] (some (.int (f_Mo_isTipping s83.2.1 u5))) rfl rfl rfl (Nat.le_of_ble_eq_true rfl) (R_Mo_isTipping (d + 267) rd s83.2.1 s83.2.2 u5 rfl) ?_
    show rh_Ex _ _ _ ((96, [some (.ref 0), some (.int u1), some (.int u2), some (.int u3), some (.int u4), some (.int u5), some (.int s83.1), none], [.int (f_Mo_isTipping s83.2.1 u5)]), (s83.2.1, s83.2.2, mw_R rd)) _ _
    by_cases q15 : (f_Mo_isTipping s83.2.1 u5) = 0
    · rw [if_pos q15] at hf
      refine rh_Ex.stp (s' := ((99, [some (.ref 0), some (.int u1), some (.int u2), some (.int u3), some (.int u4), some (.int u5), some (.int s83.1), none], []), (s83.2.1, s83.2.2, mw_R rd))) rfl (st_ifne_p q15) ?_
      refine rh_Ex.blk 2 (s' := ((102, [some (.ref 0), some (.int u1), some (.int u2), some (.int u3), some (.int u4), some (.int u5), some (.int s83.1), none], [.int (2 : Int32), .int s83.1]), (s83.2.1, s83.2.2, mw_R rd))) rfl ?_
      refine rh_Ex.stp (s' := ((103, [some (.ref 0), some (.int u1), some (.int u2), some (.int u3), some (.int u4), some (.int u5), some (.int s83.1), none], [.int (s83.1 / (2 : Int32))]), (s83.2.1, s83.2.2, mw_R rd))) rfl (st_idiv (by decide)) ?_
      refine rh_Ex.blk 2 (s' := ((107, [some (.ref 0), some (.int u1), some (.int u2), some (.int u3), some (.int u4), some (.int u5), some (.int s83.1), none], [.int (s83.2.1 0 1), .int (s83.1 / (2 : Int32))]), (s83.2.1, s83.2.2, mw_R rd))) rfl ?_
      by_cases q16 : (s83.1 / (2 : Int32)) < (s83.2.1 0 1)
      · rw [if_pos q16] at hf
        refine rh_Ex.stp (s' := ((117, [some (.ref 0), some (.int u1), some (.int u2), some (.int u3), some (.int u4), some (.int u5), some (.int s83.1), none], []), (s83.2.1, s83.2.2, mw_R rd))) rfl (st_iclt_p q16) ?_
        refine rh_Ex.fgt [some (.ref 0), some (.int u1), some (.int u2), some (.int u3), some (.int u4), some (.int u5), some (.int s83.1), none] ⟨rfl, rfl, rfl, rfl, rfl, rfl, rfl, trivial⟩ ?_
        exact lj_Mo_findWays_117 d s83.2.1 s83.2.2 rd u1 u2 u3 u4 u5 s83.1 _ _ _ hf hk
      · rw [if_neg q16] at hf
        refine rh_Ex.stp (s' := ((110, [some (.ref 0), some (.int u1), some (.int u2), some (.int u3), some (.int u4), some (.int u5), some (.int s83.1), none], []), (s83.2.1, s83.2.2, mw_R rd))) rfl (st_iclt_n q16) ?_
        refine rh_Ex.blk 2 (s' := ((114, [some (.ref 0), some (.int u1), some (.int u2), some (.int u3), some (.int u4), some (.int u5), some (.int s83.1), none], [.int (18 : Int32), .int s83.1]), (s83.2.1, s83.2.2, mw_R rd))) rfl ?_
        by_cases q21 : s83.1 = (18 : Int32)
        · rw [if_pos q21] at hf
          refine rh_Ex.stp (s' := ((117, [some (.ref 0), some (.int u1), some (.int u2), some (.int u3), some (.int u4), some (.int u5), some (.int s83.1), none], []), (s83.2.1, s83.2.2, mw_R rd))) rfl (st_icne_p q21) ?_
          refine rh_Ex.fgt [some (.ref 0), some (.int u1), some (.int u2), some (.int u3), some (.int u4), some (.int u5), some (.int s83.1), none] ⟨rfl, rfl, rfl, rfl, rfl, rfl, rfl, trivial⟩ ?_
          exact lj_Mo_findWays_117 d s83.2.1 s83.2.2 rd u1 u2 u3 u4 u5 s83.1 _ _ _ hf hk
        · rw [if_neg q21] at hf
          refine rh_Ex.stp (s' := ((130, [some (.ref 0), some (.int u1), some (.int u2), some (.int u3), some (.int u4), some (.int u5), some (.int s83.1), none], []), (s83.2.1, s83.2.2, mw_R rd))) rfl (st_icne_n q21) ?_
          refine rh_Ex.blk 1 (s' := ((131, [some (.ref 0), some (.int u1), some (.int u2), some (.int u3), some (.int u4), some (.int u5), some (.int s83.1), none], [.int (-1 : Int32)]), (s83.2.1, s83.2.2, mw_R rd))) rfl ?_
          refine rh_Ex.fgt [some (.ref 0), some (.int u1), some (.int u2), some (.int u3), some (.int u4), some (.int u5), some (.int s83.1), none] ⟨rfl, rfl, rfl, rfl, rfl, rfl, rfl, trivial⟩ ?_
          exact lj_Mo_findWays_131 d s83.2.1 s83.2.2 rd u1 u2 u3 u4 u5 s83.1 (-1 : Int32) _ _ _ hf hk
    · rw [if_neg q15] at hf
      refine rh_Ex.stp (s' := ((157, [some (.ref 0), some (.int u1), some (.int u2), some (.int u3), some (.int u4), some (.int u5), some (.int s83.1), none], []), (s83.2.1, s83.2.2, mw_R rd))) rfl (st_ifne_n q15) ?_
      obtain rfl := Option.some.inj hf
      refine rh_Ex.fgt [some (.ref 0), some (.int u1), some (.int u2), some (.int u3), none, none, none, none] ⟨rfl, rfl, rfl, rfl, trivial⟩ ?_
      exact hk
set_option maxRecDepth 20000 in
set_option maxHeartbeats 4000000 in
theorem lb_Mo_findWays_42 (d : Nat) (u1 : Int32) (u2 : Int32) (rd : Option Nat) (v9 : Option Value) (h9 : rh_H) : ∀ s42 x9, b_Mo_findWays_42 u1 u2 rd s42 = some x9 → Sum.elim (fun s42 => rh_Ex (rh_M rh_PT mw_L (d + 268)) mw_L pg_X12_findWays ((42, [some (.ref 0), some (.int u1), some (.int u2), some (.int s42.1), none, none, none, none], []), (s42.2.1, s42.2.2, mw_R rd)) v9 h9) (Sum.elim (fun e9 => rh_Ex (rh_M rh_PT mw_L (d + 268)) mw_L pg_X12_findWays ((163, [some (.ref 0), some (.int u1), some (.int u2), none, none, none, none, none], []), (e9.1, e9.2, mw_R rd)) v9 h9) (fun t9 => v9 = (some (.int t9.1)) ∧ h9 = (t9.2.1, t9.2.2.1, mw_R t9.2.2.2))) x9 → rh_Ex (rh_M rh_PT mw_L (d + 268)) mw_L pg_X12_findWays ((42, [some (.ref 0), some (.int u1), some (.int u2), some (.int s42.1), none, none, none, none], []), (s42.2.1, s42.2.2, mw_R rd)) v9 h9 := by
  intro s42 x9 hf hk
  unfold b_Mo_findWays_42 at hf
  refine rh_Ex.blk 6 (s' := ((50, [some (.ref 0), some (.int u1), some (.int u2), some (.int s42.1), none, none, none, none], [.int (u2 - (1 : Int32)), .ref 21, .int s42.1]), (s42.2.1, s42.2.2, mw_R rd))) rfl ?_
  obtain ⟨q8, hf⟩ := rh_gq hf
  refine rh_Ex.stp (s' := ((51, [some (.ref 0), some (.int u1), some (.int u2), some (.int s42.1), none, none, none, none], [.int (s42.2.1 21 (u2 - (1 : Int32)).toNatClampNeg), .int s42.1]), (s42.2.1, s42.2.2, mw_R rd))) rfl (st_iald (n := 21) rfl q8) ?_
  by_cases q9 : (s42.2.1 21 (u2 - (1 : Int32)).toNatClampNeg) ≤ s42.1
  · rw [if_pos q9] at hf
    refine rh_Ex.stp (s' := ((163, [some (.ref 0), some (.int u1), some (.int u2), some (.int s42.1), none, none, none, none], []), (s42.2.1, s42.2.2, mw_R rd))) rfl (st_icge_p q9) ?_
    obtain rfl := Option.some.inj hf
    refine rh_Ex.fgt [some (.ref 0), some (.int u1), some (.int u2), none, none, none, none, none] ⟨rfl, rfl, rfl, trivial⟩ ?_
    exact hk
  · rw [if_neg q9] at hf
    refine rh_Ex.stp (s' := ((54, [some (.ref 0), some (.int u1), some (.int u2), some (.int s42.1), none, none, none, none], []), (s42.2.1, s42.2.2, mw_R rd))) rfl (st_icge_n q9) ?_
    refine rh_Ex.blk 5 (s' := ((59, [some (.ref 0), some (.int u1), some (.int u2), some (.int s42.1), none, none, none, none], [.int s42.1, .int (u2 - (1 : Int32)), .ref 0]), (s42.2.1, s42.2.2, mw_R rd))) rfl ?_
    obtain ⟨x10, hx10, hf⟩ := rh_bq hf
    refine rh_Ex.call (j := 260) (rc := some 11) [.ref 0, .int (u2 - (1 : Int32)), .int s42.1] [] (some (.int x10)) rfl rfl rfl (Nat.le_of_ble_eq_true rfl) (R_Mo_wayOf (d + 267) rd s42.2.1 s42.2.2 (u2 - (1 : Int32)) s42.1 hx10) ?_
    show rh_Ex _ _ _ ((62, [some (.ref 0), some (.int u1), some (.int u2), some (.int s42.1), none, none, none, none], [.int x10]), (s42.2.1, s42.2.2, mw_R rd)) _ _
    refine rh_Ex.blk 5 (s' := ((71, [some (.ref 0), some (.int u1), some (.int u2), some (.int s42.1), some (.int x10), none, none, none], [.ref 22, .int x10, .ref 0]), (s42.2.1, s42.2.2, mw_R rd))) rfl ?_
    obtain ⟨x11, hx11, hf⟩ := rh_bq hf
    refine rh_Ex.call (j := 259) (rc := some 11) [.ref 0, .int x10, .ref 22] [] none rfl rfl rfl (Nat.le_of_ble_eq_true rfl) (R_Mo_layCode_22 (d + 267) rd s42.2.1 s42.2.2 x10 hx11) ?_
    show rh_Ex _ _ _ ((74, [some (.ref 0), some (.int u1), some (.int u2), some (.int s42.1), some (.int x10), none, none, none], []), (x11, s42.2.2, mw_R rd)) _ _
    refine rh_Ex.blk 1 (s' := ((75, [some (.ref 0), some (.int u1), some (.int u2), some (.int s42.1), some (.int x10), none, none, none], [.ref 0]), (x11, s42.2.2, mw_R rd))) rfl ?_
    obtain ⟨x12, hx12, hf⟩ := rh_bq hf
    refine rh_Ex.call (j := 265) (rc := some 11) [.ref 0] [] (some (.int x12)) rfl rfl rfl (Nat.le_of_ble_eq_true rfl) (R_Mo_leanStood (d + 266) rd x11 s42.2.2  hx12) ?_
    show rh_Ex _ _ _ ((78, [some (.ref 0), some (.int u1), some (.int u2), some (.int s42.1), some (.int x10), none, none, none], [.int x12]), (x11, s42.2.2, mw_R rd)) _ _
    refine rh_Ex.blk 3 (s' := ((83, [some (.ref 0), some (.int u1), some (.int u2), some (.int s42.1), some (.int x10), some (.int x12), some (.int (0 : Int32)), none], []), (x11, s42.2.2, mw_R rd))) rfl ?_
    obtain ⟨r22, hr22, hf⟩ := rh_bq hf
    refine rh_Ex.fgt [some (.ref 0), some (.int u1), some (.int u2), some (.int s42.1), some (.int x10), some (.int x12), some (.int (0 : Int32)), none] ⟨rfl, rfl, rfl, rfl, rfl, rfl, rfl, trivial⟩ ?_
    refine rh_Ex.loop _ _ _ (lb_Mo_findWays_83 d u1 u2 s42.1 x10 x12 rd   _ _) rh_N _ r22 hr22 ?_
    rcases r22 with e23 | t24
    · dsimp only at hf
      refine rh_Ex.blk 2 (s' := ((42, [some (.ref 0), some (.int u1), some (.int u2), some (.int (s42.1 + (1 : Int32))), none, none, none, none], []), (e23.1, e23.2, mw_R rd))) rfl ?_
      obtain rfl := Option.some.inj hf
      refine rh_Ex.fgt [some (.ref 0), some (.int u1), some (.int u2), some (.int (s42.1 + (1 : Int32))), none, none, none, none] ⟨rfl, rfl, rfl, rfl, trivial⟩ ?_
      exact hk
    · dsimp only at hf
      obtain rfl := Option.some.inj hf
      exact hk
set_option maxRecDepth 20000 in
set_option maxHeartbeats 4000000 in
theorem lb_Mo_findWays_23 (d : Nat) (u1 : Int32) (v9 : Option Value) (h9 : rh_H) : ∀ s23 x9, b_Mo_findWays_23 u1 s23 = some x9 → Sum.elim (fun s23 => rh_Ex (rh_M rh_PT mw_L (d + 268)) mw_L pg_X12_findWays ((23, [some (.ref 0), some (.int u1), some (.int s23.1), none, none, none, none, none], []), (s23.2.1, s23.2.2.1, mw_R s23.2.2.2)) v9 h9) (Sum.elim (fun e9 => rh_Ex (rh_M rh_PT mw_L (d + 268)) mw_L pg_X12_findWays ((169, [none, none, none, none, none, none, none, none], []), (e9.1, e9.2.1, mw_R e9.2.2)) v9 h9) (fun t9 => v9 = (some (.int t9.1)) ∧ h9 = (t9.2.1, t9.2.2.1, mw_R t9.2.2.2))) x9 → rh_Ex (rh_M rh_PT mw_L (d + 268)) mw_L pg_X12_findWays ((23, [some (.ref 0), some (.int u1), some (.int s23.1), none, none, none, none, none], []), (s23.2.1, s23.2.2.1, mw_R s23.2.2.2)) v9 h9 := by
  intro s23 x9 hf hk
  unfold b_Mo_findWays_23 at hf
  refine rh_Ex.blk 2 (s' := ((25, [some (.ref 0), some (.int u1), some (.int s23.1), none, none, none, none, none], [.int u1, .int s23.1]), (s23.2.1, s23.2.2.1, mw_R s23.2.2.2))) rfl ?_
  by_cases q4 : u1 < s23.1
  · rw [if_pos q4] at hf
    refine rh_Ex.stp (s' := ((169, [some (.ref 0), some (.int u1), some (.int s23.1), none, none, none, none, none], []), (s23.2.1, s23.2.2.1, mw_R s23.2.2.2))) rfl (st_icgt_p q4) ?_
    obtain rfl := Option.some.inj hf
    refine rh_Ex.fgt [none, none, none, none, none, none, none, none] trivial ?_
    exact hk
  · rw [if_neg q4] at hf
    refine rh_Ex.stp (s' := ((28, [some (.ref 0), some (.int u1), some (.int s23.1), none, none, none, none, none], []), (s23.2.1, s23.2.2.1, mw_R s23.2.2.2))) rfl (st_icgt_n q4) ?_
    refine rh_Ex.blk 2 (s' := ((30, [some (.ref 0), some (.int u1), some (.int s23.1), none, none, none, none, none], [.int s23.1, .ref 0]), (s23.2.1, s23.2.2.1, mw_R s23.2.2.2))) rfl ?_
    obtain ⟨x5, hx5, hf⟩ := rh_bq hf
    refine rh_Ex.call (j := 267) (rc := some 11) [.ref 0, .int s23.1] [] none rfl rfl rfl (Nat.le_of_ble_eq_true rfl) (R_Mo_findEach d s23.2.2.2 s23.2.1 s23.2.2.1 s23.1 hx5) ?_
    show rh_Ex _ _ _ ((33, [some (.ref 0), some (.int u1), some (.int s23.1), none, none, none, none, none], []), (x5.1, s23.2.2.1, mw_R x5.2)) _ _
    refine rh_Ex.blk 4 (s' := ((39, [some (.ref 0), some (.int u1), some (.int s23.1), none, none, none, none, none], [.int (0 : Int32), .int s23.1, .ref 21]), (x5.1, s23.2.2.1, mw_R x5.2))) rfl ?_
    obtain ⟨q6, hf⟩ := rh_gq hf
    refine rh_Ex.stp (s' := ((40, [some (.ref 0), some (.int u1), some (.int s23.1), none, none, none, none, none], []), (rh_up x5.1 21 s23.1.toNatClampNeg (0 : Int32), s23.2.2.1, mw_R x5.2))) rfl (st_iast (n := 21) rfl q6) ?_
    refine rh_Ex.blk 2 (s' := ((42, [some (.ref 0), some (.int u1), some (.int s23.1), some (.int (0 : Int32)), none, none, none, none], []), (rh_up x5.1 21 s23.1.toNatClampNeg (0 : Int32), s23.2.2.1, mw_R x5.2))) rfl ?_
    obtain ⟨r25, hr25, hf⟩ := rh_bq hf
    refine rh_Ex.fgt [some (.ref 0), some (.int u1), some (.int s23.1), some (.int (0 : Int32)), none, none, none, none] ⟨rfl, rfl, rfl, rfl, trivial⟩ ?_
    refine rh_Ex.loop _ _ _ (lb_Mo_findWays_42 d u1 s23.1 x5.2   _ _) rh_N _ r25 hr25 ?_
    rcases r25 with e26 | t27
    · dsimp only at hf
      refine rh_Ex.blk 2 (s' := ((23, [some (.ref 0), some (.int u1), some (.int (s23.1 + (1 : Int32))), none, none, none, none, none], []), (e26.1, e26.2, mw_R x5.2))) rfl ?_
      obtain rfl := Option.some.inj hf
      refine rh_Ex.fgt [some (.ref 0), some (.int u1), some (.int (s23.1 + (1 : Int32))), none, none, none, none, none] ⟨rfl, rfl, rfl, trivial⟩ ?_
      exact hk
    · dsimp only at hf
      obtain rfl := Option.some.inj hf
      exact hk
set_option maxRecDepth 20000 in
set_option maxHeartbeats 4000000 in
theorem R_Mo_findWays (d : Nat) (rd : Option Nat) (h : Nat → Nat → Int32) (g : Nat → Nat → Int64) (p0 : Int32) {z9 : Int32 × (Nat → Nat → Int32) × (Nat → Nat → Int64) × (Option Nat)} (hf : f_Mo_findWays h g rd p0 = some z9) : rh_M rh_PT mw_L (d + 269) 266 [.ref 0, .int p0] (h, g, mw_R rd) (some (.int z9.1)) (z9.2.1, z9.2.2.1, mw_R z9.2.2.2) := by
  unfold f_Mo_findWays at hf
  refine rh_go pt_266 (Nat.le_of_ble_eq_true rfl) (lv := [some (.ref 0), some (.int p0), none, none, none, none, none, none]) rfl ?_
  refine rh_Ex.blk 4 (s' := ((6, [some (.ref 0), some (.int p0), none, none, none, none, none, none], [.int (0 : Int32), .int (0 : Int32), .ref 21]), (h, g, mw_R rd))) rfl ?_
  refine rh_Ex.stp (s' := ((7, [some (.ref 0), some (.int p0), none, none, none, none, none, none], []), (rh_up h 21 (0 : Int32).toNatClampNeg (0 : Int32), g, mw_R rd))) rfl (st_iast (n := 21) rfl (by decide)) ?_
  refine rh_Ex.blk 5 (s' := ((14, [some (.ref 0), some (.int p0), none, none, none, none, none, none], [.ref 1, .ref 0, .int (0 : Int32), .ref 0]), (rh_up h 21 (0 : Int32).toNatClampNeg (0 : Int32), g, mw_R rd))) rfl ?_
  obtain ⟨x1, hx1, hf⟩ := rh_bq hf
  refine rh_Ex.call (j := 258) (rc := some 11) [.ref 0, .ref 1] [.int (0 : Int32), .ref 0] (some (.int x1)) rfl rfl rfl (Nat.le_of_ble_eq_true rfl) (R_Mo_codeOf_1 (d + 267) rd (rh_up h 21 (0 : Int32).toNatClampNeg (0 : Int32)) g  hx1) ?_
  show rh_Ex _ _ _ ((17, [some (.ref 0), some (.int p0), none, none, none, none, none, none], [.int x1, .int (0 : Int32), .ref 0]), (rh_up h 21 (0 : Int32).toNatClampNeg (0 : Int32), g, mw_R rd)) _ _
  obtain ⟨x2, hx2, hf⟩ := rh_bq hf
  refine rh_Ex.call (j := 263) (rc := some 11) [.ref 0, .int (0 : Int32), .int x1] [] (some (.int x2.1)) rfl rfl rfl (Nat.le_of_ble_eq_true rfl) (R_Mo_add (d + 265) rd (rh_up h 21 (0 : Int32).toNatClampNeg (0 : Int32)) g (0 : Int32) x1 hx2) ?_
  show rh_Ex _ _ _ ((20, [some (.ref 0), some (.int p0), none, none, none, none, none, none], [.int x2.1]), (x2.2.1, x2.2.2, mw_R rd)) _ _
  refine rh_Ex.blk 3 (s' := ((23, [some (.ref 0), some (.int p0), some (.int (1 : Int32)), none, none, none, none, none], []), (x2.2.1, x2.2.2, mw_R rd))) rfl ?_
  obtain ⟨r28, hr28, hf⟩ := rh_bq hf
  refine rh_Ex.fgt [some (.ref 0), some (.int p0), some (.int (1 : Int32)), none, none, none, none, none] ⟨rfl, rfl, rfl, trivial⟩ ?_
  refine rh_Ex.loop _ _ _ (lb_Mo_findWays_23 d p0   _ _) rh_N _ r28 hr28 ?_
  rcases r28 with e29 | t30
  · dsimp only at hf
    refine rh_Ex.blk 1 (s' := ((170, [none, none, none, none, none, none, none, none], [.int (1 : Int32)]), (e29.1, e29.2.1, mw_R e29.2.2))) rfl ?_
    obtain rfl := Option.some.inj hf
    exact rh_Ex.ret rfl ⟨rfl, Or.inr rfl⟩
  · dsimp only at hf
    obtain rfl := Option.some.inj hf
    exact ⟨rfl, rfl⟩
def j_Mo_stepsBy_28 (h : Nat → Nat → Int32) (g : Nat → Nat → Int64) (p0 : Int32) (p2 : Int32) (k0 : Int32) : Option (Int32) :=
  if k0 = (-1 : Int32) then
    some ((99 : Int32))
  else
    (f_Mo_find h g p0 k0).bind (fun x4 =>
      (f_Mo_leftOf g p0 x4).bind (fun x5 =>
        if p2 = (18 : Int32) then
          some ((if (x5 + (0 : Int32)) < (99 : Int32) then (x5 + (0 : Int32)) else (99 : Int32)))
        else
          some ((if (x5 + (1 : Int32)) < (99 : Int32) then (x5 + (1 : Int32)) else (99 : Int32)))
      )
    )
def j_Mo_stepsBy_16 (h : Nat → Nat → Int32) (g : Nat → Nat → Int64) (p0 : Int32) (p1 : Int32) (p2 : Int32) (p3 : Int32) : Option (Int32) :=
  (f_Mo_stepTo h p1 p2 p3).bind (fun x2 =>
    j_Mo_stepsBy_28 h g p0 p2 x2
  )
def f_Mo_stepsBy (h : Nat → Nat → Int32) (g : Nat → Nat → Int64) (p0 : Int32) (p1 : Int32) (p2 : Int32) (p3 : Int32) : Option (Int32) :=
  if (p2 / (2 : Int32)) < (h 0 1) then
    j_Mo_stepsBy_16 h g p0 p1 p2 p3
  else
    if p2 = (18 : Int32) then
      j_Mo_stepsBy_16 h g p0 p1 p2 p3
    else
      j_Mo_stepsBy_28 h g p0 p2 (-1 : Int32)
set_option maxRecDepth 20000 in
set_option maxHeartbeats 4000000 in
theorem lj_Mo_stepsBy_28 (d : Nat) (rd : Option Nat) (h : Nat → Nat → Int32) (g : Nat → Nat → Int64) (p0 : Int32) (p2 : Int32) (k0 : Int32) {z9 : Int32} (hf : j_Mo_stepsBy_28 h g p0 p2 k0 = some z9) : rh_Ex (rh_M rh_PT mw_L (d + 2)) mw_L pg_X12_stepsBy ((28, [some (.ref 0), some (.int p0), none, some (.int p2), none, none], [.int k0]), (h, g, mw_R rd)) (some (.int z9)) (h, g, mw_R rd) := by
  unfold j_Mo_stepsBy_28 at hf
  refine rh_Ex.blk 3 (s' := ((33, [some (.ref 0), some (.int p0), none, some (.int p2), none, some (.int k0)], [.int (-1 : Int32), .int k0]), (h, g, mw_R rd))) rfl ?_
  by_cases q3 : k0 = (-1 : Int32)
  · rw [if_pos q3] at hf
    refine rh_Ex.stp (s' := ((36, [some (.ref 0), some (.int p0), none, some (.int p2), none, some (.int k0)], []), (h, g, mw_R rd))) rfl (st_icne_p q3) ?_
    refine rh_Ex.blk 1 (s' := ((38, [some (.ref 0), some (.int p0), none, some (.int p2), none, some (.int k0)], [.int (99 : Int32)]), (h, g, mw_R rd))) rfl ?_
    obtain rfl := Option.some.inj hf
    exact rh_Ex.ret rfl rfl
  · rw [if_neg q3] at hf
    refine rh_Ex.stp (s' := ((39, [some (.ref 0), some (.int p0), none, some (.int p2), none, some (.int k0)], []), (h, g, mw_R rd))) rfl (st_icne_n q3) ?_
    refine rh_Ex.blk 6 (s' := ((47, [some (.ref 0), some (.int p0), none, some (.int p2), none, some (.int k0)], [.int k0, .int p0, .ref 0, .int p0, .ref 0, .int (99 : Int32)]), (h, g, mw_R rd))) rfl ?_
    obtain ⟨x4, hx4, hf⟩ := rh_bq hf
    refine rh_Ex.call (j := 262) (rc := some 11) [.ref 0, .int p0, .int k0] [.int p0, .ref 0, .int (99 : Int32)] (some (.int x4)) rfl rfl rfl (Nat.le_of_ble_eq_true rfl) (R_Mo_find d rd h g p0 k0 hx4) ?_
    show rh_Ex _ _ _ ((50, [some (.ref 0), some (.int p0), none, some (.int p2), none, some (.int k0)], [.int x4, .int p0, .ref 0, .int (99 : Int32)]), (h, g, mw_R rd)) _ _
    obtain ⟨x5, hx5, hf⟩ := rh_bq hf
    refine rh_Ex.call (j := 261) (rc := some 11) [.ref 0, .int p0, .int x4] [.int (99 : Int32)] (some (.int x5)) rfl rfl rfl (Nat.le_of_ble_eq_true rfl) (R_Mo_leftOf (d + 1) rd h g p0 x4 hx5) ?_
    show rh_Ex _ _ _ ((53, [some (.ref 0), some (.int p0), none, some (.int p2), none, some (.int k0)], [.int x5, .int (99 : Int32)]), (h, g, mw_R rd)) _ _
    refine rh_Ex.blk 2 (s' := ((56, [some (.ref 0), some (.int p0), none, some (.int p2), none, some (.int k0)], [.int (18 : Int32), .int p2, .int x5, .int (99 : Int32)]), (h, g, mw_R rd))) rfl ?_
    by_cases q6 : p2 = (18 : Int32)
    · rw [if_pos q6] at hf
      refine rh_Ex.stp (s' := ((59, [some (.ref 0), some (.int p0), none, some (.int p2), none, some (.int k0)], [.int x5, .int (99 : Int32)]), (h, g, mw_R rd))) rfl (st_icne_p q6) ?_
      refine rh_Ex.blk 3 (s' := ((65, [some (.ref 0), some (.int p0), none, some (.int p2), none, some (.int k0)], [.int (x5 + (0 : Int32)), .int (99 : Int32)]), (h, g, mw_R rd))) rfl ?_
      refine rh_Ex.stp (s' := ((68, [some (.ref 0), some (.int p0), none, some (.int p2), none, some (.int k0)], [.int (if (x5 + (0 : Int32)) < (99 : Int32) then (x5 + (0 : Int32)) else (99 : Int32))]), (h, g, mw_R rd))) rfl (st_mmin (Nat.le_of_ble_eq_true rfl)) ?_
      obtain rfl := Option.some.inj hf
      exact rh_Ex.ret rfl rfl
    · rw [if_neg q6] at hf
      refine rh_Ex.stp (s' := ((63, [some (.ref 0), some (.int p0), none, some (.int p2), none, some (.int k0)], [.int x5, .int (99 : Int32)]), (h, g, mw_R rd))) rfl (st_icne_n q6) ?_
      refine rh_Ex.blk 2 (s' := ((65, [some (.ref 0), some (.int p0), none, some (.int p2), none, some (.int k0)], [.int (x5 + (1 : Int32)), .int (99 : Int32)]), (h, g, mw_R rd))) rfl ?_
      refine rh_Ex.stp (s' := ((68, [some (.ref 0), some (.int p0), none, some (.int p2), none, some (.int k0)], [.int (if (x5 + (1 : Int32)) < (99 : Int32) then (x5 + (1 : Int32)) else (99 : Int32))]), (h, g, mw_R rd))) rfl (st_mmin (Nat.le_of_ble_eq_true rfl)) ?_
      obtain rfl := Option.some.inj hf
      exact rh_Ex.ret rfl rfl
set_option maxRecDepth 20000 in
set_option maxHeartbeats 4000000 in
theorem lj_Mo_stepsBy_16 (d : Nat) (rd : Option Nat) (h : Nat → Nat → Int32) (g : Nat → Nat → Int64) (p0 : Int32) (p1 : Int32) (p2 : Int32) (p3 : Int32) {z9 : Int32} (hf : j_Mo_stepsBy_16 h g p0 p1 p2 p3 = some z9) : rh_Ex (rh_M rh_PT mw_L (d + 2)) mw_L pg_X12_stepsBy ((16, [some (.ref 0), some (.int p0), some (.int p1), some (.int p2), some (.int p3), none], []), (h, g, mw_R rd)) (some (.int z9)) (h, g, mw_R rd) := by
  unfold j_Mo_stepsBy_16 at hf
  refine rh_Ex.blk 4 (s' := ((21, [some (.ref 0), some (.int p0), some (.int p1), some (.int p2), some (.int p3), none], [.int p3, .int p2, .int p1, .ref 0]), (h, g, mw_R rd))) rfl ?_
  obtain ⟨x2, hx2, hf⟩ := rh_bq hf
  refine rh_Ex.call (j := 264) (rc := some 11) [.ref 0, .int p1, .int p2, .int p3] [] (some (.int x2)) rfl rfl rfl (Nat.le_of_ble_eq_true rfl) (R_Mo_stepTo d rd h g p1 p2 p3 hx2) ?_
  show rh_Ex _ _ _ ((24, [some (.ref 0), some (.int p0), some (.int p1), some (.int p2), some (.int p3), none], [.int x2]), (h, g, mw_R rd)) _ _
  refine rh_Ex.blk 1 (s' := ((28, [some (.ref 0), some (.int p0), some (.int p1), some (.int p2), some (.int p3), none], [.int x2]), (h, g, mw_R rd))) rfl ?_
  refine rh_Ex.fgt [some (.ref 0), some (.int p0), none, some (.int p2), none, none] ⟨rfl, rfl, rfl, trivial⟩ ?_
  exact lj_Mo_stepsBy_28 d rd h g p0 p2 x2 hf
set_option maxRecDepth 20000 in
set_option maxHeartbeats 4000000 in
theorem R_Mo_stepsBy (d : Nat) (rd : Option Nat) (h : Nat → Nat → Int32) (g : Nat → Nat → Int64) (p0 : Int32) (p1 : Int32) (p2 : Int32) (p3 : Int32) {z9 : Int32} (hf : f_Mo_stepsBy h g p0 p1 p2 p3 = some z9) : rh_M rh_PT mw_L (d + 3) 269 [.ref 0, .int p0, .int p1, .int p2, .int p3] (h, g, mw_R rd) (some (.int z9)) (h, g, mw_R rd) := by
  unfold f_Mo_stepsBy at hf
  refine rh_go pt_269 (Nat.le_of_ble_eq_true rfl) (lv := [some (.ref 0), some (.int p0), some (.int p1), some (.int p2), some (.int p3), none]) rfl ?_
  refine rh_Ex.blk 2 (s' := ((2, [some (.ref 0), some (.int p0), some (.int p1), some (.int p2), some (.int p3), none], [.int (2 : Int32), .int p2]), (h, g, mw_R rd))) rfl ?_
  refine rh_Ex.stp (s' := ((3, [some (.ref 0), some (.int p0), some (.int p1), some (.int p2), some (.int p3), none], [.int (p2 / (2 : Int32))]), (h, g, mw_R rd))) rfl (st_idiv (by decide)) ?_
  refine rh_Ex.blk 2 (s' := ((7, [some (.ref 0), some (.int p0), some (.int p1), some (.int p2), some (.int p3), none], [.int (h 0 1), .int (p2 / (2 : Int32))]), (h, g, mw_R rd))) rfl ?_
  by_cases q1 : (p2 / (2 : Int32)) < (h 0 1)
  · rw [if_pos q1] at hf
    refine rh_Ex.stp (s' := ((16, [some (.ref 0), some (.int p0), some (.int p1), some (.int p2), some (.int p3), none], []), (h, g, mw_R rd))) rfl (st_iclt_p q1) ?_
    refine rh_Ex.fgt [some (.ref 0), some (.int p0), some (.int p1), some (.int p2), some (.int p3), none] ⟨rfl, rfl, rfl, rfl, rfl, trivial⟩ ?_
    exact lj_Mo_stepsBy_16 d rd h g p0 p1 p2 p3 hf
  · rw [if_neg q1] at hf
    refine rh_Ex.stp (s' := ((10, [some (.ref 0), some (.int p0), some (.int p1), some (.int p2), some (.int p3), none], []), (h, g, mw_R rd))) rfl (st_iclt_n q1) ?_
    refine rh_Ex.blk 2 (s' := ((13, [some (.ref 0), some (.int p0), some (.int p1), some (.int p2), some (.int p3), none], [.int (18 : Int32), .int p2]), (h, g, mw_R rd))) rfl ?_
    by_cases q7 : p2 = (18 : Int32)
    · rw [if_pos q7] at hf
      refine rh_Ex.stp (s' := ((16, [some (.ref 0), some (.int p0), some (.int p1), some (.int p2), some (.int p3), none], []), (h, g, mw_R rd))) rfl (st_icne_p q7) ?_
      refine rh_Ex.fgt [some (.ref 0), some (.int p0), some (.int p1), some (.int p2), some (.int p3), none] ⟨rfl, rfl, rfl, rfl, rfl, trivial⟩ ?_
      exact lj_Mo_stepsBy_16 d rd h g p0 p1 p2 p3 hf
    · rw [if_neg q7] at hf
      refine rh_Ex.stp (s' := ((27, [some (.ref 0), some (.int p0), some (.int p1), some (.int p2), some (.int p3), none], []), (h, g, mw_R rd))) rfl (st_icne_n q7) ?_
      refine rh_Ex.blk 1 (s' := ((28, [some (.ref 0), some (.int p0), some (.int p1), some (.int p2), some (.int p3), none], [.int (-1 : Int32)]), (h, g, mw_R rd))) rfl ?_
      refine rh_Ex.fgt [some (.ref 0), some (.int p0), none, some (.int p2), none, none] ⟨rfl, rfl, rfl, trivial⟩ ?_
      exact lj_Mo_stepsBy_28 d rd h g p0 p2 (-1 : Int32) hf
def b_Mo_findSteps_59 (u2 : Int32) (u3 : Int32) (u4 : Int32) (u5 : Int32) (h : Nat → Nat → Int32) (g : Nat → Nat → Int64) (rd : Option Nat) : (Int32 × Int32) → Option ((Int32 × Int32) ⊕ (Int32)) := fun s59 =>
  if (18 : Int32) < s59.2 then
    some (.inr s59.1)
  else
    if (f_Mo_isTipping h u5) = 0 then
      (f_Mo_stepsBy h g u2 u4 s59.2 u5).bind (fun x13 =>
        some (.inl ((if x13 < s59.1 then x13 else s59.1), s59.2 + (1 : Int32)))
      )
    else
      some (.inr s59.1)
def b_Mo_findSteps_14 (u2 : Int32) (rd : Option Nat) : (Int32 × (Nat → Nat → Int32) × (Nat → Nat → Int64)) → Option ((Int32 × (Nat → Nat → Int32) × (Nat → Nat → Int64)) ⊕ ((Nat → Nat → Int32) × (Nat → Nat → Int64))) := fun s14 =>
  rh_g (0 ≤ (u2 - (1 : Int32)).toInt ∧ (u2 - (1 : Int32)).toInt < ((21 : Nat) : Int)) (
    if (s14.2.1 21 (u2 - (1 : Int32)).toNatClampNeg) ≤ s14.1 then
      some (.inr (s14.2.1, s14.2.2))
    else
      (f_Mo_wayOf s14.2.2 (u2 - (1 : Int32)) s14.1).bind (fun x7 =>
        (f_Mo_layCode_22 s14.2.1 x7).bind (fun x8 =>
          (f_Mo_leanStood x8).bind (fun x9 =>
            (rh_loop (b_Mo_findSteps_59 u2 s14.1 x7 x9 x8 s14.2.2 rd) rh_N ((99 : Int32), (0 : Int32))).bind (fun r14 =>
              rh_g (0 ≤ (((500 : Int32) * (u2 - (1 : Int32))) + s14.1).toInt ∧ (((500 : Int32) * (u2 - (1 : Int32))) + s14.1).toInt < ((10500 : Nat) : Int)) (
                some (.inl (s14.1 + (1 : Int32), x8, rh_up s14.2.2 20 (((500 : Int32) * (u2 - (1 : Int32))) + s14.1).toNatClampNeg (((100 : Int64) * x7.toInt64) + r14.toInt64)))
              )
            )
          )
        )
      )
  )
def b_Mo_findSteps_2  : (Int32 × (Nat → Nat → Int32) × (Nat → Nat → Int64) × (Option Nat)) → Option ((Int32 × (Nat → Nat → Int32) × (Nat → Nat → Int64) × (Option Nat)) ⊕ ((Nat → Nat → Int32) × (Nat → Nat → Int64) × (Option Nat))) := fun s2 =>
  if s2.1 < (1 : Int32) then
    some (.inr (s2.2.1, s2.2.2.1, s2.2.2.2))
  else
    (f_Mo_findEach s2.2.1 s2.2.2.2 s2.1).bind (fun x3 =>
      (rh_loop (b_Mo_findSteps_14 s2.1 x3.2) rh_N ((0 : Int32), x3.1, s2.2.2.1)).bind (fun r16 =>
        some (.inl (s2.1 + (-1 : Int32), r16.1, r16.2, x3.2))
      )
    )
def f_Mo_findSteps (h : Nat → Nat → Int32) (g : Nat → Nat → Int64) (rd : Option Nat) (p0 : Int32) : Option ((Nat → Nat → Int32) × (Nat → Nat → Int64) × (Option Nat)) :=
  (rh_loop (b_Mo_findSteps_2 ) rh_N (p0, h, g, rd)).bind (fun r17 =>
    some ((r17.1, r17.2.1, r17.2.2))
  )
set_option maxRecDepth 20000 in
set_option maxHeartbeats 4000000 in
theorem lb_Mo_findSteps_59 (d : Nat) (u2 : Int32) (u3 : Int32) (u4 : Int32) (u5 : Int32) (h : Nat → Nat → Int32) (g : Nat → Nat → Int64) (rd : Option Nat) (v9 : Option Value) (h9 : rh_H) : ∀ s59 x9, b_Mo_findSteps_59 u2 u3 u4 u5 h g rd s59 = some x9 → Sum.elim (fun s59 => rh_Ex (rh_M rh_PT mw_L (d + 268)) mw_L pg_X12_findSteps ((59, [some (.ref 0), none, some (.int u2), some (.int u3), some (.int u4), some (.int u5), some (.int s59.1), some (.int s59.2)], []), (h, g, mw_R rd)) v9 h9) (fun e9 => rh_Ex (rh_M rh_PT mw_L (d + 268)) mw_L pg_X12_findSteps ((99, [some (.ref 0), none, some (.int u2), some (.int u3), some (.int u4), none, some (.int e9), none], []), (h, g, mw_R rd)) v9 h9) x9 → rh_Ex (rh_M rh_PT mw_L (d + 268)) mw_L pg_X12_findSteps ((59, [some (.ref 0), none, some (.int u2), some (.int u3), some (.int u4), some (.int u5), some (.int s59.1), some (.int s59.2)], []), (h, g, mw_R rd)) v9 h9 := by
  intro s59 x9 hf hk
  unfold b_Mo_findSteps_59 at hf
  refine rh_Ex.blk 2 (s' := ((63, [some (.ref 0), none, some (.int u2), some (.int u3), some (.int u4), some (.int u5), some (.int s59.1), some (.int s59.2)], [.int (18 : Int32), .int s59.2]), (h, g, mw_R rd))) rfl ?_
  by_cases q11 : (18 : Int32) < s59.2
  · rw [if_pos q11] at hf
    refine rh_Ex.stp (s' := ((99, [some (.ref 0), none, some (.int u2), some (.int u3), some (.int u4), some (.int u5), some (.int s59.1), some (.int s59.2)], []), (h, g, mw_R rd))) rfl (st_icgt_p q11) ?_
    obtain rfl := Option.some.inj hf
    refine rh_Ex.fgt [some (.ref 0), none, some (.int u2), some (.int u3), some (.int u4), none, some (.int s59.1), none] ⟨rfl, rfl, rfl, rfl, rfl, trivial⟩ ?_
    exact hk
  · rw [if_neg q11] at hf
    refine rh_Ex.stp (s' := ((66, [some (.ref 0), none, some (.int u2), some (.int u3), some (.int u4), some (.int u5), some (.int s59.1), some (.int s59.2)], []), (h, g, mw_R rd))) rfl (st_icgt_n q11) ?_
    refine rh_Ex.blk 2 (s' := ((69, [some (.ref 0), none, some (.int u2), some (.int u3), some (.int u4), some (.int u5), some (.int s59.1), some (.int s59.2)], [.int u5, .ref 0]), (h, g, mw_R rd))) rfl ?_
    refine rh_Ex.call (j := 216) (rc := some 11) [.ref 0, .int u5] [] (some (.int (f_Mo_isTipping h u5))) rfl rfl rfl (Nat.le_of_ble_eq_true rfl) (R_Mo_isTipping (d + 267) rd h g u5 rfl) ?_
    show rh_Ex _ _ _ ((72, [some (.ref 0), none, some (.int u2), some (.int u3), some (.int u4), some (.int u5), some (.int s59.1), some (.int s59.2)], [.int (f_Mo_isTipping h u5)]), (h, g, mw_R rd)) _ _
    by_cases q12 : (f_Mo_isTipping h u5) = 0
    · rw [if_pos q12] at hf
      refine rh_Ex.stp (s' := ((75, [some (.ref 0), none, some (.int u2), some (.int u3), some (.int u4), some (.int u5), some (.int s59.1), some (.int s59.2)], []), (h, g, mw_R rd))) rfl (st_ifne_p q12) ?_
      refine rh_Ex.blk 6 (s' := ((85, [some (.ref 0), none, some (.int u2), some (.int u3), some (.int u4), some (.int u5), some (.int s59.1), some (.int s59.2)], [.int u5, .int s59.2, .int u4, .int u2, .ref 0, .int s59.1]), (h, g, mw_R rd))) rfl ?_
      obtain ⟨x13, hx13, hf⟩ := rh_bq hf
      refine rh_Ex.call (j := 269) (rc := some 11) [.ref 0, .int u2, .int u4, .int s59.2, .int u5] [.int s59.1] (some (.int x13)) rfl rfl rfl (Nat.le_of_ble_eq_true rfl) (R_Mo_stepsBy (d + 265) rd h g u2 u4 s59.2 u5 hx13) ?_
      show rh_Ex _ _ _ ((88, [some (.ref 0), none, some (.int u2), some (.int u3), some (.int u4), some (.int u5), some (.int s59.1), some (.int s59.2)], [.int x13, .int s59.1]), (h, g, mw_R rd)) _ _
      refine rh_Ex.stp (s' := ((91, [some (.ref 0), none, some (.int u2), some (.int u3), some (.int u4), some (.int u5), some (.int s59.1), some (.int s59.2)], [.int (if x13 < s59.1 then x13 else s59.1)]), (h, g, mw_R rd))) rfl (st_mmin (Nat.le_of_ble_eq_true rfl)) ?_
      refine rh_Ex.blk 3 (s' := ((59, [some (.ref 0), none, some (.int u2), some (.int u3), some (.int u4), some (.int u5), some (.int (if x13 < s59.1 then x13 else s59.1)), some (.int (s59.2 + (1 : Int32)))], []), (h, g, mw_R rd))) rfl ?_
      obtain rfl := Option.some.inj hf
      refine rh_Ex.fgt [some (.ref 0), none, some (.int u2), some (.int u3), some (.int u4), some (.int u5), some (.int (if x13 < s59.1 then x13 else s59.1)), some (.int (s59.2 + (1 : Int32)))] ⟨rfl, rfl, rfl, rfl, rfl, rfl, rfl, trivial⟩ ?_
      exact hk
    · rw [if_neg q12] at hf
      refine rh_Ex.stp (s' := ((99, [some (.ref 0), none, some (.int u2), some (.int u3), some (.int u4), some (.int u5), some (.int s59.1), some (.int s59.2)], []), (h, g, mw_R rd))) rfl (st_ifne_n q12) ?_
      obtain rfl := Option.some.inj hf
      refine rh_Ex.fgt [some (.ref 0), none, some (.int u2), some (.int u3), some (.int u4), none, some (.int s59.1), none] ⟨rfl, rfl, rfl, rfl, rfl, trivial⟩ ?_
      exact hk
set_option maxRecDepth 20000 in
set_option maxHeartbeats 4000000 in
theorem lb_Mo_findSteps_14 (d : Nat) (u2 : Int32) (rd : Option Nat) (v9 : Option Value) (h9 : rh_H) : ∀ s14 x9, b_Mo_findSteps_14 u2 rd s14 = some x9 → Sum.elim (fun s14 => rh_Ex (rh_M rh_PT mw_L (d + 268)) mw_L pg_X12_findSteps ((14, [some (.ref 0), none, some (.int u2), some (.int s14.1), none, none, none, none], []), (s14.2.1, s14.2.2, mw_R rd)) v9 h9) (fun e9 => rh_Ex (rh_M rh_PT mw_L (d + 268)) mw_L pg_X12_findSteps ((130, [some (.ref 0), none, some (.int u2), none, none, none, none, none], []), (e9.1, e9.2, mw_R rd)) v9 h9) x9 → rh_Ex (rh_M rh_PT mw_L (d + 268)) mw_L pg_X12_findSteps ((14, [some (.ref 0), none, some (.int u2), some (.int s14.1), none, none, none, none], []), (s14.2.1, s14.2.2, mw_R rd)) v9 h9 := by
  intro s14 x9 hf hk
  unfold b_Mo_findSteps_14 at hf
  refine rh_Ex.blk 6 (s' := ((22, [some (.ref 0), none, some (.int u2), some (.int s14.1), none, none, none, none], [.int (u2 - (1 : Int32)), .ref 21, .int s14.1]), (s14.2.1, s14.2.2, mw_R rd))) rfl ?_
  obtain ⟨q5, hf⟩ := rh_gq hf
  refine rh_Ex.stp (s' := ((23, [some (.ref 0), none, some (.int u2), some (.int s14.1), none, none, none, none], [.int (s14.2.1 21 (u2 - (1 : Int32)).toNatClampNeg), .int s14.1]), (s14.2.1, s14.2.2, mw_R rd))) rfl (st_iald (n := 21) rfl q5) ?_
  by_cases q6 : (s14.2.1 21 (u2 - (1 : Int32)).toNatClampNeg) ≤ s14.1
  · rw [if_pos q6] at hf
    refine rh_Ex.stp (s' := ((130, [some (.ref 0), none, some (.int u2), some (.int s14.1), none, none, none, none], []), (s14.2.1, s14.2.2, mw_R rd))) rfl (st_icge_p q6) ?_
    obtain rfl := Option.some.inj hf
    refine rh_Ex.fgt [some (.ref 0), none, some (.int u2), none, none, none, none, none] ⟨rfl, rfl, trivial⟩ ?_
    exact hk
  · rw [if_neg q6] at hf
    refine rh_Ex.stp (s' := ((26, [some (.ref 0), none, some (.int u2), some (.int s14.1), none, none, none, none], []), (s14.2.1, s14.2.2, mw_R rd))) rfl (st_icge_n q6) ?_
    refine rh_Ex.blk 5 (s' := ((31, [some (.ref 0), none, some (.int u2), some (.int s14.1), none, none, none, none], [.int s14.1, .int (u2 - (1 : Int32)), .ref 0]), (s14.2.1, s14.2.2, mw_R rd))) rfl ?_
    obtain ⟨x7, hx7, hf⟩ := rh_bq hf
    refine rh_Ex.call (j := 260) (rc := some 11) [.ref 0, .int (u2 - (1 : Int32)), .int s14.1] [] (some (.int x7)) rfl rfl rfl (Nat.le_of_ble_eq_true rfl) (R_Mo_wayOf (d + 267) rd s14.2.1 s14.2.2 (u2 - (1 : Int32)) s14.1 hx7) ?_
    show rh_Ex _ _ _ ((34, [some (.ref 0), none, some (.int u2), some (.int s14.1), none, none, none, none], [.int x7]), (s14.2.1, s14.2.2, mw_R rd)) _ _
    refine rh_Ex.blk 5 (s' := ((43, [some (.ref 0), none, some (.int u2), some (.int s14.1), some (.int x7), none, none, none], [.ref 22, .int x7, .ref 0]), (s14.2.1, s14.2.2, mw_R rd))) rfl ?_
    obtain ⟨x8, hx8, hf⟩ := rh_bq hf
    refine rh_Ex.call (j := 259) (rc := some 11) [.ref 0, .int x7, .ref 22] [] none rfl rfl rfl (Nat.le_of_ble_eq_true rfl) (R_Mo_layCode_22 (d + 267) rd s14.2.1 s14.2.2 x7 hx8) ?_
    show rh_Ex _ _ _ ((46, [some (.ref 0), none, some (.int u2), some (.int s14.1), some (.int x7), none, none, none], []), (x8, s14.2.2, mw_R rd)) _ _
    refine rh_Ex.blk 1 (s' := ((47, [some (.ref 0), none, some (.int u2), some (.int s14.1), some (.int x7), none, none, none], [.ref 0]), (x8, s14.2.2, mw_R rd))) rfl ?_
    obtain ⟨x9, hx9, hf⟩ := rh_bq hf
    refine rh_Ex.call (j := 265) (rc := some 11) [.ref 0] [] (some (.int x9)) rfl rfl rfl (Nat.le_of_ble_eq_true rfl) (R_Mo_leanStood (d + 266) rd x8 s14.2.2  hx9) ?_
    show rh_Ex _ _ _ ((50, [some (.ref 0), none, some (.int u2), some (.int s14.1), some (.int x7), none, none, none], [.int x9]), (x8, s14.2.2, mw_R rd)) _ _
    refine rh_Ex.blk 5 (s' := ((59, [some (.ref 0), none, some (.int u2), some (.int s14.1), some (.int x7), some (.int x9), some (.int (99 : Int32)), some (.int (0 : Int32))], []), (x8, s14.2.2, mw_R rd))) rfl ?_
    obtain ⟨r14, hr14, hf⟩ := rh_bq hf
    refine rh_Ex.fgt [some (.ref 0), none, some (.int u2), some (.int s14.1), some (.int x7), some (.int x9), some (.int (99 : Int32)), some (.int (0 : Int32))] ⟨rfl, rfl, rfl, rfl, rfl, rfl, rfl, trivial⟩ ?_
    refine rh_Ex.loop _ _ _ (lb_Mo_findSteps_59 d u2 s14.1 x7 x9 x8 s14.2.2 rd   _ _) rh_N _ r14 hr14 ?_
    refine rh_Ex.blk 16 (s' := ((123, [some (.ref 0), none, some (.int u2), some (.int s14.1), some (.int x7), none, some (.int r14), none], [.long (((100 : Int64) * x7.toInt64) + r14.toInt64), .int (((500 : Int32) * (u2 - (1 : Int32))) + s14.1), .ref 20]), (x8, s14.2.2, mw_R rd))) rfl ?_
    obtain ⟨q15, hf⟩ := rh_gq hf
    refine rh_Ex.stp (s' := ((124, [some (.ref 0), none, some (.int u2), some (.int s14.1), some (.int x7), none, some (.int r14), none], []), (x8, rh_up s14.2.2 20 (((500 : Int32) * (u2 - (1 : Int32))) + s14.1).toNatClampNeg (((100 : Int64) * x7.toInt64) + r14.toInt64), mw_R rd))) rfl (st_last (n := 10500) rfl q15) ?_
    refine rh_Ex.blk 2 (s' := ((14, [some (.ref 0), none, some (.int u2), some (.int (s14.1 + (1 : Int32))), some (.int x7), none, some (.int r14), none], []), (x8, rh_up s14.2.2 20 (((500 : Int32) * (u2 - (1 : Int32))) + s14.1).toNatClampNeg (((100 : Int64) * x7.toInt64) + r14.toInt64), mw_R rd))) rfl ?_
    obtain rfl := Option.some.inj hf
    refine rh_Ex.fgt [some (.ref 0), none, some (.int u2), some (.int (s14.1 + (1 : Int32))), none, none, none, none] ⟨rfl, rfl, rfl, trivial⟩ ?_
    exact hk
set_option maxRecDepth 20000 in
set_option maxHeartbeats 4000000 in
theorem lb_Mo_findSteps_2 (d : Nat)  (v9 : Option Value) (h9 : rh_H) : ∀ s2 x9, b_Mo_findSteps_2  s2 = some x9 → Sum.elim (fun s2 => rh_Ex (rh_M rh_PT mw_L (d + 268)) mw_L pg_X12_findSteps ((2, [some (.ref 0), none, some (.int s2.1), none, none, none, none, none], []), (s2.2.1, s2.2.2.1, mw_R s2.2.2.2)) v9 h9) (fun e9 => rh_Ex (rh_M rh_PT mw_L (d + 268)) mw_L pg_X12_findSteps ((136, [none, none, none, none, none, none, none, none], []), (e9.1, e9.2.1, mw_R e9.2.2)) v9 h9) x9 → rh_Ex (rh_M rh_PT mw_L (d + 268)) mw_L pg_X12_findSteps ((2, [some (.ref 0), none, some (.int s2.1), none, none, none, none, none], []), (s2.2.1, s2.2.2.1, mw_R s2.2.2.2)) v9 h9 := by
  intro s2 x9 hf hk
  unfold b_Mo_findSteps_2 at hf
  refine rh_Ex.blk 2 (s' := ((4, [some (.ref 0), none, some (.int s2.1), none, none, none, none, none], [.int (1 : Int32), .int s2.1]), (s2.2.1, s2.2.2.1, mw_R s2.2.2.2))) rfl ?_
  by_cases q2 : s2.1 < (1 : Int32)
  · rw [if_pos q2] at hf
    refine rh_Ex.stp (s' := ((136, [some (.ref 0), none, some (.int s2.1), none, none, none, none, none], []), (s2.2.1, s2.2.2.1, mw_R s2.2.2.2))) rfl (st_iclt_p q2) ?_
    obtain rfl := Option.some.inj hf
    refine rh_Ex.fgt [none, none, none, none, none, none, none, none] trivial ?_
    exact hk
  · rw [if_neg q2] at hf
    refine rh_Ex.stp (s' := ((7, [some (.ref 0), none, some (.int s2.1), none, none, none, none, none], []), (s2.2.1, s2.2.2.1, mw_R s2.2.2.2))) rfl (st_iclt_n q2) ?_
    refine rh_Ex.blk 2 (s' := ((9, [some (.ref 0), none, some (.int s2.1), none, none, none, none, none], [.int s2.1, .ref 0]), (s2.2.1, s2.2.2.1, mw_R s2.2.2.2))) rfl ?_
    obtain ⟨x3, hx3, hf⟩ := rh_bq hf
    refine rh_Ex.call (j := 267) (rc := some 11) [.ref 0, .int s2.1] [] none rfl rfl rfl (Nat.le_of_ble_eq_true rfl) (R_Mo_findEach d s2.2.2.2 s2.2.1 s2.2.2.1 s2.1 hx3) ?_
    show rh_Ex _ _ _ ((12, [some (.ref 0), none, some (.int s2.1), none, none, none, none, none], []), (x3.1, s2.2.2.1, mw_R x3.2)) _ _
    refine rh_Ex.blk 2 (s' := ((14, [some (.ref 0), none, some (.int s2.1), some (.int (0 : Int32)), none, none, none, none], []), (x3.1, s2.2.2.1, mw_R x3.2))) rfl ?_
    obtain ⟨r16, hr16, hf⟩ := rh_bq hf
    refine rh_Ex.fgt [some (.ref 0), none, some (.int s2.1), some (.int (0 : Int32)), none, none, none, none] ⟨rfl, rfl, rfl, trivial⟩ ?_
    refine rh_Ex.loop _ _ _ (lb_Mo_findSteps_14 d s2.1 x3.2   _ _) rh_N _ r16 hr16 ?_
    refine rh_Ex.blk 2 (s' := ((2, [some (.ref 0), none, some (.int (s2.1 + (-1 : Int32))), none, none, none, none, none], []), (r16.1, r16.2, mw_R x3.2))) rfl ?_
    obtain rfl := Option.some.inj hf
    refine rh_Ex.fgt [some (.ref 0), none, some (.int (s2.1 + (-1 : Int32))), none, none, none, none, none] ⟨rfl, rfl, trivial⟩ ?_
    exact hk
set_option maxRecDepth 20000 in
set_option maxHeartbeats 4000000 in
theorem R_Mo_findSteps (d : Nat) (rd : Option Nat) (h : Nat → Nat → Int32) (g : Nat → Nat → Int64) (p0 : Int32) {z9 : (Nat → Nat → Int32) × (Nat → Nat → Int64) × (Option Nat)} (hf : f_Mo_findSteps h g rd p0 = some z9) : rh_M rh_PT mw_L (d + 269) 268 [.ref 0, .int p0] (h, g, mw_R rd) none (z9.1, z9.2.1, mw_R z9.2.2) := by
  unfold f_Mo_findSteps at hf
  refine rh_go pt_268 (Nat.le_of_ble_eq_true rfl) (lv := [some (.ref 0), some (.int p0), none, none, none, none, none, none]) rfl ?_
  refine rh_Ex.blk 2 (s' := ((2, [some (.ref 0), some (.int p0), some (.int p0), none, none, none, none, none], []), (h, g, mw_R rd))) rfl ?_
  obtain ⟨r17, hr17, hf⟩ := rh_bq hf
  refine rh_Ex.fgt [some (.ref 0), none, some (.int p0), none, none, none, none, none] ⟨rfl, rfl, trivial⟩ ?_
  refine rh_Ex.loop _ _ _ (lb_Mo_findSteps_2 d    _ _) rh_N _ r17 hr17 ?_
  obtain rfl := Option.some.inj hf
  exact rh_Ex.ret rfl trivial
def b_Mo_steady_116 (u1 : Int32) (u2 : Int32) (u3 : Int32) (u4 : Int32) (u5 : Int32) (h : Nat → Nat → Int32) (g : Nat → Nat → Int64) (rd : Option Nat) : (Int32) → Option ((Int32) ⊕ (Int32)) := fun s116 =>
  (f_Mo_stepsBy h g u4 u2 s116 u5).bind (fun x18 =>
    if x18 = u3 then
      some (.inr s116)
    else
      some (.inl (s116 + (1 : Int32)))
  )
def b_Mo_steady_86 (u1 : Int32) (g : Nat → Nat → Int64) : (Int32 × Int32 × Int32 × (Nat → Nat → Int32) × (Option Nat)) → Option ((Int32 × Int32 × Int32 × (Nat → Nat → Int32) × (Option Nat)) ⊕ ((Nat → Nat → Int32) × (Option Nat))) := fun s86 =>
  if u1 < s86.2.2.1 then
    some (.inr (s86.2.2.2.1, s86.2.2.2.2))
  else
    (f_Mo_findEach s86.2.2.2.1 s86.2.2.2.2 s86.2.2.1).bind (fun x14 =>
      (f_Mo_layCode_22 x14.1 s86.1).bind (fun x15 =>
        (f_Mo_leanStood x15).bind (fun x16 =>
          (rh_loop (b_Mo_steady_116 u1 s86.1 s86.2.1 s86.2.2.1 x16 x15 g x14.2) rh_N (0 : Int32)).bind (fun r20 =>
            if (10 : Int32) < s86.2.2.1 then
              (f_Mo_stepTo x15 s86.1 r20 x16).bind (fun x22 =>
                if r20 = (18 : Int32) then
                  some (.inl (x22, s86.2.1 - (0 : Int32), s86.2.2.1 + (1 : Int32), x15, x14.2))
                else
                  some (.inl (x22, s86.2.1 - (1 : Int32), s86.2.2.1 + (1 : Int32), x15, x14.2))
              )
            else
              (f_Mo_tell x15 r20).bind (fun x24 =>
                (f_Mo_stepTo x24 s86.1 r20 x16).bind (fun x25 =>
                  if r20 = (18 : Int32) then
                    some (.inl (x25, s86.2.1 - (0 : Int32), s86.2.2.1 + (1 : Int32), x24, x14.2))
                  else
                    some (.inl (x25, s86.2.1 - (1 : Int32), s86.2.2.1 + (1 : Int32), x24, x14.2))
                )
              )
          )
        )
      )
    )
def f_Mo_steady (h : Nat → Nat → Int32) (g : Nat → Nat → Int64) (rd : Option Nat) (p0 : Int32) : Option (Int32 × (Nat → Nat → Int32) × (Nat → Nat → Int64) × (Option Nat)) :=
  if (f_Mo_in p0 (0 : Int32) (20 : Int32)) = 0 then
    some (((-1 : Int32), rh_up h 0 9 (0 : Int32), g, rd))
  else
    (f_Mo_isTipping__1 (rh_up h 0 9 (0 : Int32)) rd).bind (fun x2 =>
      if x2.1 = 0 then
        (f_Mo_findWays x2.2.1 g x2.2.2 p0).bind (fun x4 =>
          if x4.1 = 0 then
            some (((-3 : Int32), x4.2.1, x4.2.2.1, x4.2.2.2))
          else
            rh_g (0 ≤ p0.toInt ∧ p0.toInt < ((21 : Nat) : Int)) (
              if (x4.2.1 21 p0.toNatClampNeg) = 0 then
                some (((0 : Int32), x4.2.1, x4.2.2.1, x4.2.2.2))
              else
                (f_Mo_findSteps x4.2.1 x4.2.2.1 x4.2.2.2 p0).bind (fun x8 =>
                  (f_Mo_codeOf_1 (rh_up x8.1 0 8 (0 : Int32))).bind (fun x9 =>
                    (f_Mo_leftOf x8.2.1 (0 : Int32) (0 : Int32)).bind (fun x10 =>
                      (f_Mo_tell (rh_up x8.1 0 8 (0 : Int32)) x10).bind (fun x11 =>
                        (rh_loop (b_Mo_steady_86 p0 x8.2.1) rh_N (x9, x10, (1 : Int32), x11, x8.2.2)).bind (fun r27 =>
                          some (((1 : Int32), r27.1, x8.2.1, r27.2))
                        )
                      )
                    )
                  )
                )
            )
        )
      else
        some (((0 : Int32), x2.2.1, g, x2.2.2))
    )
set_option maxRecDepth 20000 in
set_option maxHeartbeats 4000000 in
theorem lb_Mo_steady_116 (d : Nat) (u1 : Int32) (u2 : Int32) (u3 : Int32) (u4 : Int32) (u5 : Int32) (h : Nat → Nat → Int32) (g : Nat → Nat → Int64) (rd : Option Nat) (v9 : Option Value) (h9 : rh_H) : ∀ s116 x9, b_Mo_steady_116 u1 u2 u3 u4 u5 h g rd s116 = some x9 → Sum.elim (fun s116 => rh_Ex (rh_M rh_PT mw_L (d + 269)) mw_L pg_X12_steady ((116, [some (.ref 0), some (.int u1), some (.int u2), some (.int u3), some (.int u4), some (.int u5), some (.int s116)], []), (h, g, mw_R rd)) v9 h9) (fun e9 => rh_Ex (rh_M rh_PT mw_L (d + 269)) mw_L pg_X12_steady ((137, [some (.ref 0), some (.int u1), some (.int u2), some (.int u3), some (.int u4), some (.int u5), some (.int e9)], []), (h, g, mw_R rd)) v9 h9) x9 → rh_Ex (rh_M rh_PT mw_L (d + 269)) mw_L pg_X12_steady ((116, [some (.ref 0), some (.int u1), some (.int u2), some (.int u3), some (.int u4), some (.int u5), some (.int s116)], []), (h, g, mw_R rd)) v9 h9 := by
  intro s116 x9 hf hk
  unfold b_Mo_steady_116 at hf
  refine rh_Ex.blk 5 (s' := ((124, [some (.ref 0), some (.int u1), some (.int u2), some (.int u3), some (.int u4), some (.int u5), some (.int s116)], [.int u5, .int s116, .int u2, .int u4, .ref 0]), (h, g, mw_R rd))) rfl ?_
  obtain ⟨x18, hx18, hf⟩ := rh_bq hf
  refine rh_Ex.call (j := 269) (rc := some 11) [.ref 0, .int u4, .int u2, .int s116, .int u5] [] (some (.int x18)) rfl rfl rfl (Nat.le_of_ble_eq_true rfl) (R_Mo_stepsBy (d + 266) rd h g u4 u2 s116 u5 hx18) ?_
  show rh_Ex _ _ _ ((127, [some (.ref 0), some (.int u1), some (.int u2), some (.int u3), some (.int u4), some (.int u5), some (.int s116)], [.int x18]), (h, g, mw_R rd)) _ _
  refine rh_Ex.blk 1 (s' := ((128, [some (.ref 0), some (.int u1), some (.int u2), some (.int u3), some (.int u4), some (.int u5), some (.int s116)], [.int u3, .int x18]), (h, g, mw_R rd))) rfl ?_
  by_cases q19 : x18 = u3
  · rw [if_pos q19] at hf
    refine rh_Ex.stp (s' := ((137, [some (.ref 0), some (.int u1), some (.int u2), some (.int u3), some (.int u4), some (.int u5), some (.int s116)], []), (h, g, mw_R rd))) rfl (st_iceq_p q19) ?_
    obtain rfl := Option.some.inj hf
    refine rh_Ex.fgt [some (.ref 0), some (.int u1), some (.int u2), some (.int u3), some (.int u4), some (.int u5), some (.int s116)] ⟨rfl, rfl, rfl, rfl, rfl, rfl, rfl, trivial⟩ ?_
    exact hk
  · rw [if_neg q19] at hf
    refine rh_Ex.stp (s' := ((131, [some (.ref 0), some (.int u1), some (.int u2), some (.int u3), some (.int u4), some (.int u5), some (.int s116)], []), (h, g, mw_R rd))) rfl (st_iceq_n q19) ?_
    refine rh_Ex.blk 2 (s' := ((116, [some (.ref 0), some (.int u1), some (.int u2), some (.int u3), some (.int u4), some (.int u5), some (.int (s116 + (1 : Int32)))], []), (h, g, mw_R rd))) rfl ?_
    obtain rfl := Option.some.inj hf
    refine rh_Ex.fgt [some (.ref 0), some (.int u1), some (.int u2), some (.int u3), some (.int u4), some (.int u5), some (.int (s116 + (1 : Int32)))] ⟨rfl, rfl, rfl, rfl, rfl, rfl, rfl, trivial⟩ ?_
    exact hk
set_option maxRecDepth 20000 in
set_option maxHeartbeats 4000000 in
theorem lb_Mo_steady_86 (d : Nat) (u1 : Int32) (g : Nat → Nat → Int64) (v9 : Option Value) (h9 : rh_H) : ∀ s86 x9, b_Mo_steady_86 u1 g s86 = some x9 → Sum.elim (fun s86 => rh_Ex (rh_M rh_PT mw_L (d + 269)) mw_L pg_X12_steady ((86, [some (.ref 0), some (.int u1), some (.int s86.1), some (.int s86.2.1), some (.int s86.2.2.1), none, none], []), (s86.2.2.2.1, g, mw_R s86.2.2.2.2)) v9 h9) (fun e9 => rh_Ex (rh_M rh_PT mw_L (d + 269)) mw_L pg_X12_steady ((181, [none, none, none, none, none, none, none], []), (e9.1, g, mw_R e9.2)) v9 h9) x9 → rh_Ex (rh_M rh_PT mw_L (d + 269)) mw_L pg_X12_steady ((86, [some (.ref 0), some (.int u1), some (.int s86.1), some (.int s86.2.1), some (.int s86.2.2.1), none, none], []), (s86.2.2.2.1, g, mw_R s86.2.2.2.2)) v9 h9 := by
  intro s86 x9 hf hk
  unfold b_Mo_steady_86 at hf
  refine rh_Ex.blk 2 (s' := ((89, [some (.ref 0), some (.int u1), some (.int s86.1), some (.int s86.2.1), some (.int s86.2.2.1), none, none], [.int u1, .int s86.2.2.1]), (s86.2.2.2.1, g, mw_R s86.2.2.2.2))) rfl ?_
  by_cases q13 : u1 < s86.2.2.1
  · rw [if_pos q13] at hf
    refine rh_Ex.stp (s' := ((181, [some (.ref 0), some (.int u1), some (.int s86.1), some (.int s86.2.1), some (.int s86.2.2.1), none, none], []), (s86.2.2.2.1, g, mw_R s86.2.2.2.2))) rfl (st_icgt_p q13) ?_
    obtain rfl := Option.some.inj hf
    refine rh_Ex.fgt [none, none, none, none, none, none, none] trivial ?_
    exact hk
  · rw [if_neg q13] at hf
    refine rh_Ex.stp (s' := ((92, [some (.ref 0), some (.int u1), some (.int s86.1), some (.int s86.2.1), some (.int s86.2.2.1), none, none], []), (s86.2.2.2.1, g, mw_R s86.2.2.2.2))) rfl (st_icgt_n q13) ?_
    refine rh_Ex.blk 2 (s' := ((95, [some (.ref 0), some (.int u1), some (.int s86.1), some (.int s86.2.1), some (.int s86.2.2.1), none, none], [.int s86.2.2.1, .ref 0]), (s86.2.2.2.1, g, mw_R s86.2.2.2.2))) rfl ?_
    obtain ⟨x14, hx14, hf⟩ := rh_bq hf
    refine rh_Ex.call (j := 267) (rc := some 11) [.ref 0, .int s86.2.2.1] [] none rfl rfl rfl (Nat.le_of_ble_eq_true rfl) (R_Mo_findEach (d + 1) s86.2.2.2.2 s86.2.2.2.1 g s86.2.2.1 hx14) ?_
    show rh_Ex _ _ _ ((98, [some (.ref 0), some (.int u1), some (.int s86.1), some (.int s86.2.1), some (.int s86.2.2.1), none, none], []), (x14.1, g, mw_R x14.2)) _ _
    refine rh_Ex.blk 4 (s' := ((104, [some (.ref 0), some (.int u1), some (.int s86.1), some (.int s86.2.1), some (.int s86.2.2.1), none, none], [.ref 22, .int s86.1, .ref 0]), (x14.1, g, mw_R x14.2))) rfl ?_
    obtain ⟨x15, hx15, hf⟩ := rh_bq hf
    refine rh_Ex.call (j := 259) (rc := some 11) [.ref 0, .int s86.1, .ref 22] [] none rfl rfl rfl (Nat.le_of_ble_eq_true rfl) (R_Mo_layCode_22 (d + 268) x14.2 x14.1 g s86.1 hx15) ?_
    show rh_Ex _ _ _ ((107, [some (.ref 0), some (.int u1), some (.int s86.1), some (.int s86.2.1), some (.int s86.2.2.1), none, none], []), (x15, g, mw_R x14.2)) _ _
    refine rh_Ex.blk 1 (s' := ((108, [some (.ref 0), some (.int u1), some (.int s86.1), some (.int s86.2.1), some (.int s86.2.2.1), none, none], [.ref 0]), (x15, g, mw_R x14.2))) rfl ?_
    obtain ⟨x16, hx16, hf⟩ := rh_bq hf
    refine rh_Ex.call (j := 265) (rc := some 11) [.ref 0] [] (some (.int x16)) rfl rfl rfl (Nat.le_of_ble_eq_true rfl) (R_Mo_leanStood (d + 267) x14.2 x15 g  hx16) ?_
    show rh_Ex _ _ _ ((111, [some (.ref 0), some (.int u1), some (.int s86.1), some (.int s86.2.1), some (.int s86.2.2.1), none, none], [.int x16]), (x15, g, mw_R x14.2)) _ _
    refine rh_Ex.blk 3 (s' := ((116, [some (.ref 0), some (.int u1), some (.int s86.1), some (.int s86.2.1), some (.int s86.2.2.1), some (.int x16), some (.int (0 : Int32))], []), (x15, g, mw_R x14.2))) rfl ?_
    obtain ⟨r20, hr20, hf⟩ := rh_bq hf
    refine rh_Ex.fgt [some (.ref 0), some (.int u1), some (.int s86.1), some (.int s86.2.1), some (.int s86.2.2.1), some (.int x16), some (.int (0 : Int32))] ⟨rfl, rfl, rfl, rfl, rfl, rfl, rfl, trivial⟩ ?_
    refine rh_Ex.loop _ _ _ (lb_Mo_steady_116 d u1 s86.1 s86.2.1 s86.2.2.1 x16 x15 g x14.2   _ _) rh_N _ r20 hr20 ?_
    refine rh_Ex.blk 2 (s' := ((141, [some (.ref 0), some (.int u1), some (.int s86.1), some (.int s86.2.1), some (.int s86.2.2.1), some (.int x16), some (.int r20)], [.int (10 : Int32), .int s86.2.2.1]), (x15, g, mw_R x14.2))) rfl ?_
    by_cases q21 : (10 : Int32) < s86.2.2.1
    · rw [if_pos q21] at hf
      refine rh_Ex.stp (s' := ((150, [some (.ref 0), some (.int u1), some (.int s86.1), some (.int s86.2.1), some (.int s86.2.2.1), some (.int x16), some (.int r20)], []), (x15, g, mw_R x14.2))) rfl (st_icgt_p q21) ?_
      refine rh_Ex.blk 4 (s' := ((156, [some (.ref 0), some (.int u1), some (.int s86.1), some (.int s86.2.1), some (.int s86.2.2.1), some (.int x16), some (.int r20)], [.int x16, .int r20, .int s86.1, .ref 0]), (x15, g, mw_R x14.2))) rfl ?_
      obtain ⟨x22, hx22, hf⟩ := rh_bq hf
      refine rh_Ex.call (j := 264) (rc := some 11) [.ref 0, .int s86.1, .int r20, .int x16] [] (some (.int x22)) rfl rfl rfl (Nat.le_of_ble_eq_true rfl) (R_Mo_stepTo (d + 267) x14.2 x15 g s86.1 r20 x16 hx22) ?_
      show rh_Ex _ _ _ ((159, [some (.ref 0), some (.int u1), some (.int s86.1), some (.int s86.2.1), some (.int s86.2.2.1), some (.int x16), some (.int r20)], [.int x22]), (x15, g, mw_R x14.2)) _ _
      refine rh_Ex.blk 4 (s' := ((165, [some (.ref 0), some (.int u1), some (.int x22), some (.int s86.2.1), some (.int s86.2.2.1), some (.int x16), some (.int r20)], [.int (18 : Int32), .int r20, .int s86.2.1]), (x15, g, mw_R x14.2))) rfl ?_
      by_cases q23 : r20 = (18 : Int32)
      · rw [if_pos q23] at hf
        refine rh_Ex.stp (s' := ((168, [some (.ref 0), some (.int u1), some (.int x22), some (.int s86.2.1), some (.int s86.2.2.1), some (.int x16), some (.int r20)], [.int s86.2.1]), (x15, g, mw_R x14.2))) rfl (st_icne_p q23) ?_
        refine rh_Ex.blk 6 (s' := ((86, [some (.ref 0), some (.int u1), some (.int x22), some (.int (s86.2.1 - (0 : Int32))), some (.int (s86.2.2.1 + (1 : Int32))), some (.int x16), some (.int r20)], []), (x15, g, mw_R x14.2))) rfl ?_
        obtain rfl := Option.some.inj hf
        refine rh_Ex.fgt [some (.ref 0), some (.int u1), some (.int x22), some (.int (s86.2.1 - (0 : Int32))), some (.int (s86.2.2.1 + (1 : Int32))), none, none] ⟨rfl, rfl, rfl, rfl, rfl, trivial⟩ ?_
        exact hk
      · rw [if_neg q23] at hf
        refine rh_Ex.stp (s' := ((172, [some (.ref 0), some (.int u1), some (.int x22), some (.int s86.2.1), some (.int s86.2.2.1), some (.int x16), some (.int r20)], [.int s86.2.1]), (x15, g, mw_R x14.2))) rfl (st_icne_n q23) ?_
        refine rh_Ex.blk 5 (s' := ((86, [some (.ref 0), some (.int u1), some (.int x22), some (.int (s86.2.1 - (1 : Int32))), some (.int (s86.2.2.1 + (1 : Int32))), some (.int x16), some (.int r20)], []), (x15, g, mw_R x14.2))) rfl ?_
        obtain rfl := Option.some.inj hf
        refine rh_Ex.fgt [some (.ref 0), some (.int u1), some (.int x22), some (.int (s86.2.1 - (1 : Int32))), some (.int (s86.2.2.1 + (1 : Int32))), none, none] ⟨rfl, rfl, rfl, rfl, rfl, trivial⟩ ?_
        exact hk
    · rw [if_neg q21] at hf
      refine rh_Ex.stp (s' := ((144, [some (.ref 0), some (.int u1), some (.int s86.1), some (.int s86.2.1), some (.int s86.2.2.1), some (.int x16), some (.int r20)], []), (x15, g, mw_R x14.2))) rfl (st_icgt_n q21) ?_
      refine rh_Ex.blk 2 (s' := ((147, [some (.ref 0), some (.int u1), some (.int s86.1), some (.int s86.2.1), some (.int s86.2.2.1), some (.int x16), some (.int r20)], [.int r20, .ref 0]), (x15, g, mw_R x14.2))) rfl ?_
      obtain ⟨x24, hx24, hf⟩ := rh_bq hf
      refine rh_Ex.call (j := 182) (rc := some 11) [.ref 0, .int r20] [] none rfl rfl rfl (Nat.le_of_ble_eq_true rfl) (R_Mo_tell (d + 268) x14.2 x15 g r20 hx24) ?_
      show rh_Ex _ _ _ ((150, [some (.ref 0), some (.int u1), some (.int s86.1), some (.int s86.2.1), some (.int s86.2.2.1), some (.int x16), some (.int r20)], []), (x24, g, mw_R x14.2)) _ _
      refine rh_Ex.blk 4 (s' := ((156, [some (.ref 0), some (.int u1), some (.int s86.1), some (.int s86.2.1), some (.int s86.2.2.1), some (.int x16), some (.int r20)], [.int x16, .int r20, .int s86.1, .ref 0]), (x24, g, mw_R x14.2))) rfl ?_
      obtain ⟨x25, hx25, hf⟩ := rh_bq hf
      refine rh_Ex.call (j := 264) (rc := some 11) [.ref 0, .int s86.1, .int r20, .int x16] [] (some (.int x25)) rfl rfl rfl (Nat.le_of_ble_eq_true rfl) (R_Mo_stepTo (d + 267) x14.2 x24 g s86.1 r20 x16 hx25) ?_
      show rh_Ex _ _ _ ((159, [some (.ref 0), some (.int u1), some (.int s86.1), some (.int s86.2.1), some (.int s86.2.2.1), some (.int x16), some (.int r20)], [.int x25]), (x24, g, mw_R x14.2)) _ _
      refine rh_Ex.blk 4 (s' := ((165, [some (.ref 0), some (.int u1), some (.int x25), some (.int s86.2.1), some (.int s86.2.2.1), some (.int x16), some (.int r20)], [.int (18 : Int32), .int r20, .int s86.2.1]), (x24, g, mw_R x14.2))) rfl ?_
      by_cases q26 : r20 = (18 : Int32)
      · rw [if_pos q26] at hf
        refine rh_Ex.stp (s' := ((168, [some (.ref 0), some (.int u1), some (.int x25), some (.int s86.2.1), some (.int s86.2.2.1), some (.int x16), some (.int r20)], [.int s86.2.1]), (x24, g, mw_R x14.2))) rfl (st_icne_p q26) ?_
        refine rh_Ex.blk 6 (s' := ((86, [some (.ref 0), some (.int u1), some (.int x25), some (.int (s86.2.1 - (0 : Int32))), some (.int (s86.2.2.1 + (1 : Int32))), some (.int x16), some (.int r20)], []), (x24, g, mw_R x14.2))) rfl ?_
        obtain rfl := Option.some.inj hf
        refine rh_Ex.fgt [some (.ref 0), some (.int u1), some (.int x25), some (.int (s86.2.1 - (0 : Int32))), some (.int (s86.2.2.1 + (1 : Int32))), none, none] ⟨rfl, rfl, rfl, rfl, rfl, trivial⟩ ?_
        exact hk
      · rw [if_neg q26] at hf
        refine rh_Ex.stp (s' := ((172, [some (.ref 0), some (.int u1), some (.int x25), some (.int s86.2.1), some (.int s86.2.2.1), some (.int x16), some (.int r20)], [.int s86.2.1]), (x24, g, mw_R x14.2))) rfl (st_icne_n q26) ?_
        refine rh_Ex.blk 5 (s' := ((86, [some (.ref 0), some (.int u1), some (.int x25), some (.int (s86.2.1 - (1 : Int32))), some (.int (s86.2.2.1 + (1 : Int32))), some (.int x16), some (.int r20)], []), (x24, g, mw_R x14.2))) rfl ?_
        obtain rfl := Option.some.inj hf
        refine rh_Ex.fgt [some (.ref 0), some (.int u1), some (.int x25), some (.int (s86.2.1 - (1 : Int32))), some (.int (s86.2.2.1 + (1 : Int32))), none, none] ⟨rfl, rfl, rfl, rfl, rfl, trivial⟩ ?_
        exact hk
set_option maxRecDepth 20000 in
set_option maxHeartbeats 4000000 in
theorem R_Mo_steady (d : Nat) (rd : Option Nat) (h : Nat → Nat → Int32) (g : Nat → Nat → Int64) (p0 : Int32) {z9 : Int32 × (Nat → Nat → Int32) × (Nat → Nat → Int64) × (Option Nat)} (hf : f_Mo_steady h g rd p0 = some z9) : rh_M rh_PT mw_L (d + 270) 270 [.ref 0, .int p0] (h, g, mw_R rd) (some (.int z9.1)) (z9.2.1, z9.2.2.1, mw_R z9.2.2.2) := by
  unfold f_Mo_steady at hf
  refine rh_go pt_270 (Nat.le_of_ble_eq_true rfl) (lv := [some (.ref 0), some (.int p0), none, none, none, none, none]) rfl ?_
  refine rh_Ex.blk 6 (s' := ((9, [some (.ref 0), some (.int p0), none, none, none, none, none], [.int (20 : Int32), .int (0 : Int32), .int p0]), (rh_up h 0 9 (0 : Int32), g, mw_R rd))) rfl ?_
  refine rh_Ex.call (j := 179) (rc := none) [.int p0, .int (0 : Int32), .int (20 : Int32)] [] (some (.int (f_Mo_in p0 (0 : Int32) (20 : Int32)))) rfl rfl trivial (Nat.le_of_ble_eq_true rfl) (R_Mo_in (d + 268) mw_L (mw_R rd) (rh_up h 0 9 (0 : Int32)) g p0 (0 : Int32) (20 : Int32) rfl) ?_
  show rh_Ex _ _ _ ((12, [some (.ref 0), some (.int p0), none, none, none, none, none], [.int (f_Mo_in p0 (0 : Int32) (20 : Int32))]), (rh_up h 0 9 (0 : Int32), g, mw_R rd)) _ _
  by_cases q1 : (f_Mo_in p0 (0 : Int32) (20 : Int32)) = 0
  · rw [if_pos q1] at hf
    refine rh_Ex.stp (s' := ((15, [some (.ref 0), some (.int p0), none, none, none, none, none], []), (rh_up h 0 9 (0 : Int32), g, mw_R rd))) rfl (st_ifne_p q1) ?_
    refine rh_Ex.blk 1 (s' := ((16, [some (.ref 0), some (.int p0), none, none, none, none, none], [.int (-1 : Int32)]), (rh_up h 0 9 (0 : Int32), g, mw_R rd))) rfl ?_
    obtain rfl := Option.some.inj hf
    exact rh_Ex.ret rfl rfl
  · rw [if_neg q1] at hf
    refine rh_Ex.stp (s' := ((17, [some (.ref 0), some (.int p0), none, none, none, none, none], []), (rh_up h 0 9 (0 : Int32), g, mw_R rd))) rfl (st_ifne_n q1) ?_
    refine rh_Ex.blk 3 (s' := ((22, [some (.ref 0), some (.int p0), none, none, none, none, none], [.ref 1, .ref 0]), (rh_up h 0 9 (0 : Int32), g, mw_R rd))) rfl ?_
    obtain ⟨x2, hx2, hf⟩ := rh_bq hf
    refine rh_Ex.call (j := 217) (rc := some 11) [.ref 0, .ref 1] [] (some (.int x2.1)) rfl rfl rfl (Nat.le_of_ble_eq_true rfl) (R_Mo_isTipping__1 d rd (rh_up h 0 9 (0 : Int32)) g  hx2) ?_
    show rh_Ex _ _ _ ((25, [some (.ref 0), some (.int p0), none, none, none, none, none], [.int x2.1]), (x2.2.1, g, mw_R x2.2.2)) _ _
    by_cases q3 : x2.1 = 0
    · rw [if_pos q3] at hf
      refine rh_Ex.stp (s' := ((30, [some (.ref 0), some (.int p0), none, none, none, none, none], []), (x2.2.1, g, mw_R x2.2.2))) rfl (st_ifeq_p q3) ?_
      refine rh_Ex.blk 2 (s' := ((32, [some (.ref 0), some (.int p0), none, none, none, none, none], [.int p0, .ref 0]), (x2.2.1, g, mw_R x2.2.2))) rfl ?_
      obtain ⟨x4, hx4, hf⟩ := rh_bq hf
      refine rh_Ex.call (j := 266) (rc := some 11) [.ref 0, .int p0] [] (some (.int x4.1)) rfl rfl rfl (Nat.le_of_ble_eq_true rfl) (R_Mo_findWays d x2.2.2 x2.2.1 g p0 hx4) ?_
      show rh_Ex _ _ _ ((35, [some (.ref 0), some (.int p0), none, none, none, none, none], [.int x4.1]), (x4.2.1, x4.2.2.1, mw_R x4.2.2.2)) _ _
      by_cases q5 : x4.1 = 0
      · rw [if_pos q5] at hf
        refine rh_Ex.stp (s' := ((38, [some (.ref 0), some (.int p0), none, none, none, none, none], []), (x4.2.1, x4.2.2.1, mw_R x4.2.2.2))) rfl (st_ifne_p q5) ?_
        refine rh_Ex.blk 1 (s' := ((40, [some (.ref 0), some (.int p0), none, none, none, none, none], [.int (-3 : Int32)]), (x4.2.1, x4.2.2.1, mw_R x4.2.2.2))) rfl ?_
        obtain rfl := Option.some.inj hf
        exact rh_Ex.ret rfl rfl
      · rw [if_neg q5] at hf
        refine rh_Ex.stp (s' := ((41, [some (.ref 0), some (.int p0), none, none, none, none, none], []), (x4.2.1, x4.2.2.1, mw_R x4.2.2.2))) rfl (st_ifne_n q5) ?_
        refine rh_Ex.blk 3 (s' := ((46, [some (.ref 0), some (.int p0), none, none, none, none, none], [.int p0, .ref 21]), (x4.2.1, x4.2.2.1, mw_R x4.2.2.2))) rfl ?_
        obtain ⟨q6, hf⟩ := rh_gq hf
        refine rh_Ex.stp (s' := ((47, [some (.ref 0), some (.int p0), none, none, none, none, none], [.int (x4.2.1 21 p0.toNatClampNeg)]), (x4.2.1, x4.2.2.1, mw_R x4.2.2.2))) rfl (st_iald (n := 21) rfl q6) ?_
        by_cases q7 : (x4.2.1 21 p0.toNatClampNeg) = 0
        · rw [if_pos q7] at hf
          refine rh_Ex.stp (s' := ((50, [some (.ref 0), some (.int p0), none, none, none, none, none], []), (x4.2.1, x4.2.2.1, mw_R x4.2.2.2))) rfl (st_ifne_p q7) ?_
          refine rh_Ex.blk 1 (s' := ((51, [some (.ref 0), some (.int p0), none, none, none, none, none], [.int (0 : Int32)]), (x4.2.1, x4.2.2.1, mw_R x4.2.2.2))) rfl ?_
          obtain rfl := Option.some.inj hf
          exact rh_Ex.ret rfl rfl
        · rw [if_neg q7] at hf
          refine rh_Ex.stp (s' := ((52, [some (.ref 0), some (.int p0), none, none, none, none, none], []), (x4.2.1, x4.2.2.1, mw_R x4.2.2.2))) rfl (st_ifne_n q7) ?_
          refine rh_Ex.blk 2 (s' := ((54, [some (.ref 0), some (.int p0), none, none, none, none, none], [.int p0, .ref 0]), (x4.2.1, x4.2.2.1, mw_R x4.2.2.2))) rfl ?_
          obtain ⟨x8, hx8, hf⟩ := rh_bq hf
          refine rh_Ex.call (j := 268) (rc := some 11) [.ref 0, .int p0] [] none rfl rfl rfl (Nat.le_of_ble_eq_true rfl) (R_Mo_findSteps d x4.2.2.2 x4.2.1 x4.2.2.1 p0 hx8) ?_
          show rh_Ex _ _ _ ((57, [some (.ref 0), some (.int p0), none, none, none, none, none], []), (x8.1, x8.2.1, mw_R x8.2.2)) _ _
          refine rh_Ex.blk 6 (s' := ((67, [some (.ref 0), some (.int p0), none, none, none, none, none], [.ref 1, .ref 0]), (rh_up x8.1 0 8 (0 : Int32), x8.2.1, mw_R x8.2.2))) rfl ?_
          obtain ⟨x9, hx9, hf⟩ := rh_bq hf
          refine rh_Ex.call (j := 258) (rc := some 11) [.ref 0, .ref 1] [] (some (.int x9)) rfl rfl rfl (Nat.le_of_ble_eq_true rfl) (R_Mo_codeOf_1 (d + 268) x8.2.2 (rh_up x8.1 0 8 (0 : Int32)) x8.2.1  hx9) ?_
          show rh_Ex _ _ _ ((70, [some (.ref 0), some (.int p0), none, none, none, none, none], [.int x9]), (rh_up x8.1 0 8 (0 : Int32), x8.2.1, mw_R x8.2.2)) _ _
          refine rh_Ex.blk 4 (s' := ((74, [some (.ref 0), some (.int p0), some (.int x9), none, none, none, none], [.int (0 : Int32), .int (0 : Int32), .ref 0]), (rh_up x8.1 0 8 (0 : Int32), x8.2.1, mw_R x8.2.2))) rfl ?_
          obtain ⟨x10, hx10, hf⟩ := rh_bq hf
          refine rh_Ex.call (j := 261) (rc := some 11) [.ref 0, .int (0 : Int32), .int (0 : Int32)] [] (some (.int x10)) rfl rfl rfl (Nat.le_of_ble_eq_true rfl) (R_Mo_leftOf (d + 268) x8.2.2 (rh_up x8.1 0 8 (0 : Int32)) x8.2.1 (0 : Int32) (0 : Int32) hx10) ?_
          show rh_Ex _ _ _ ((77, [some (.ref 0), some (.int p0), some (.int x9), none, none, none, none], [.int x10]), (rh_up x8.1 0 8 (0 : Int32), x8.2.1, mw_R x8.2.2)) _ _
          refine rh_Ex.blk 3 (s' := ((80, [some (.ref 0), some (.int p0), some (.int x9), some (.int x10), none, none, none], [.int x10, .ref 0]), (rh_up x8.1 0 8 (0 : Int32), x8.2.1, mw_R x8.2.2))) rfl ?_
          obtain ⟨x11, hx11, hf⟩ := rh_bq hf
          refine rh_Ex.call (j := 182) (rc := some 11) [.ref 0, .int x10] [] none rfl rfl rfl (Nat.le_of_ble_eq_true rfl) (R_Mo_tell (d + 268) x8.2.2 (rh_up x8.1 0 8 (0 : Int32)) x8.2.1 x10 hx11) ?_
          show rh_Ex _ _ _ ((83, [some (.ref 0), some (.int p0), some (.int x9), some (.int x10), none, none, none], []), (x11, x8.2.1, mw_R x8.2.2)) _ _
          refine rh_Ex.blk 2 (s' := ((86, [some (.ref 0), some (.int p0), some (.int x9), some (.int x10), some (.int (1 : Int32)), none, none], []), (x11, x8.2.1, mw_R x8.2.2))) rfl ?_
          obtain ⟨r27, hr27, hf⟩ := rh_bq hf
          refine rh_Ex.fgt [some (.ref 0), some (.int p0), some (.int x9), some (.int x10), some (.int (1 : Int32)), none, none] ⟨rfl, rfl, rfl, rfl, rfl, trivial⟩ ?_
          refine rh_Ex.loop _ _ _ (lb_Mo_steady_86 d p0 x8.2.1   _ _) rh_N _ r27 hr27 ?_
          refine rh_Ex.blk 1 (s' := ((182, [none, none, none, none, none, none, none], [.int (1 : Int32)]), (r27.1, x8.2.1, mw_R r27.2))) rfl ?_
          obtain rfl := Option.some.inj hf
          exact rh_Ex.ret rfl rfl
    · rw [if_neg q3] at hf
      refine rh_Ex.stp (s' := ((28, [some (.ref 0), some (.int p0), none, none, none, none, none], []), (x2.2.1, g, mw_R x2.2.2))) rfl (st_ifeq_n q3) ?_
      refine rh_Ex.blk 1 (s' := ((29, [some (.ref 0), some (.int p0), none, none, none, none, none], [.int (0 : Int32)]), (x2.2.1, g, mw_R x2.2.2))) rfl ?_
      obtain rfl := Option.some.inj hf
      exact rh_Ex.ret rfl rfl
def b_Mo_trim_67 (u2 : Int32) (u3 : Int32) (h : Nat → Nat → Int32) (rd : Option Nat) : (Int32 × Int32) → Option ((Int32 × Int32) ⊕ (Int32)) := fun s67 =>
  if (4 : Int32) < s67.2 then
    some (.inr s67.1)
  else
    if (if 0 ≤ (u2 + (s67.1 * u3)) then (u2 + (s67.1 * u3)) else 0 - (u2 + (s67.1 * u3))) ≤ (if 0 ≤ (u2 + (s67.2 * u3)) then (u2 + (s67.2 * u3)) else 0 - (u2 + (s67.2 * u3))) then
      some (.inl (s67.1, s67.2 + (1 : Int32)))
    else
      some (.inl (s67.2, s67.2 + (1 : Int32)))
def f_Mo_trim (h : Nat → Nat → Int32) (rd : Option Nat) (p0 : Int32) : Option (Int32 × (Nat → Nat → Int32) × (Option Nat)) :=
  (f_Mo_isOne (rh_up h 0 9 (0 : Int32)) p0).bind (fun x1 =>
    if x1 = 0 then
      some (((-10 : Int32), rh_up h 0 9 (0 : Int32), rd))
    else
      if (f_Mo_has ((rh_up h 0 9 (0 : Int32)) 1 (9 : Int32).toNatClampNeg) p0) = 0 then
        (f_Mo_leanOf_1 (rh_up h 0 9 (0 : Int32)) rd ((rh_up h 0 9 (0 : Int32)) 1 (10 : Int32).toNatClampNeg)).bind (fun x4 =>
          (f_Mo_weightOf x4.2.1 x4.2.2 p0 (x4.2.1 1 (10 : Int32).toNatClampNeg)).bind (fun x5 =>
            (rh_loop (b_Mo_trim_67 x4.1 x5.1 x5.2.1 x5.2.2) rh_N ((-4 : Int32), (-4 : Int32))).bind (fun r9 =>
              (f_Mo_tell (rh_up x5.2.1 0 8 (0 : Int32)) (x4.1 + (r9 * x5.1))).bind (fun x10 =>
                some ((r9, x10, x5.2.2))
              )
            )
          )
        )
      else
        some (((-10 : Int32), rh_up h 0 9 (0 : Int32), rd))
  )
set_option maxRecDepth 20000 in
set_option maxHeartbeats 4000000 in
theorem lb_Mo_trim_67 (d : Nat) (u2 : Int32) (u3 : Int32) (h : Nat → Nat → Int32) (rd : Option Nat) (g : Nat → Nat → Int64) (v9 : Option Value) (h9 : rh_H) : ∀ s67 x9, b_Mo_trim_67 u2 u3 h rd s67 = some x9 → Sum.elim (fun s67 => rh_Ex (rh_M rh_PT mw_L (d + 268)) mw_L pg_X12_trim ((67, [some (.ref 0), none, some (.int u2), some (.int u3), some (.int s67.1), some (.int s67.2)], []), (h, g, mw_R rd)) v9 h9) (fun e9 => rh_Ex (rh_M rh_PT mw_L (d + 268)) mw_L pg_X12_trim ((104, [some (.ref 0), none, some (.int u2), some (.int u3), some (.int e9), none], []), (h, g, mw_R rd)) v9 h9) x9 → rh_Ex (rh_M rh_PT mw_L (d + 268)) mw_L pg_X12_trim ((67, [some (.ref 0), none, some (.int u2), some (.int u3), some (.int s67.1), some (.int s67.2)], []), (h, g, mw_R rd)) v9 h9 := by
  intro s67 x9 hf hk
  unfold b_Mo_trim_67 at hf
  refine rh_Ex.blk 2 (s' := ((70, [some (.ref 0), none, some (.int u2), some (.int u3), some (.int s67.1), some (.int s67.2)], [.int (4 : Int32), .int s67.2]), (h, g, mw_R rd))) rfl ?_
  by_cases q7 : (4 : Int32) < s67.2
  · rw [if_pos q7] at hf
    refine rh_Ex.stp (s' := ((104, [some (.ref 0), none, some (.int u2), some (.int u3), some (.int s67.1), some (.int s67.2)], []), (h, g, mw_R rd))) rfl (st_icgt_p q7) ?_
    obtain rfl := Option.some.inj hf
    refine rh_Ex.fgt [some (.ref 0), none, some (.int u2), some (.int u3), some (.int s67.1), none] ⟨rfl, rfl, rfl, rfl, trivial⟩ ?_
    exact hk
  · rw [if_neg q7] at hf
    refine rh_Ex.stp (s' := ((73, [some (.ref 0), none, some (.int u2), some (.int u3), some (.int s67.1), some (.int s67.2)], []), (h, g, mw_R rd))) rfl (st_icgt_n q7) ?_
    refine rh_Ex.blk 5 (s' := ((79, [some (.ref 0), none, some (.int u2), some (.int u3), some (.int s67.1), some (.int s67.2)], [.int (u2 + (s67.2 * u3))]), (h, g, mw_R rd))) rfl ?_
    refine rh_Ex.stp (s' := ((82, [some (.ref 0), none, some (.int u2), some (.int u3), some (.int s67.1), some (.int s67.2)], [.int (if 0 ≤ (u2 + (s67.2 * u3)) then (u2 + (s67.2 * u3)) else 0 - (u2 + (s67.2 * u3)))]), (h, g, mw_R rd))) rfl (st_mabs (Nat.le_of_ble_eq_true rfl)) ?_
    refine rh_Ex.blk 5 (s' := ((88, [some (.ref 0), none, some (.int u2), some (.int u3), some (.int s67.1), some (.int s67.2)], [.int (u2 + (s67.1 * u3)), .int (if 0 ≤ (u2 + (s67.2 * u3)) then (u2 + (s67.2 * u3)) else 0 - (u2 + (s67.2 * u3)))]), (h, g, mw_R rd))) rfl ?_
    refine rh_Ex.stp (s' := ((91, [some (.ref 0), none, some (.int u2), some (.int u3), some (.int s67.1), some (.int s67.2)], [.int (if 0 ≤ (u2 + (s67.1 * u3)) then (u2 + (s67.1 * u3)) else 0 - (u2 + (s67.1 * u3))), .int (if 0 ≤ (u2 + (s67.2 * u3)) then (u2 + (s67.2 * u3)) else 0 - (u2 + (s67.2 * u3)))]), (h, g, mw_R rd))) rfl (st_mabs (Nat.le_of_ble_eq_true rfl)) ?_
    by_cases q8 : (if 0 ≤ (u2 + (s67.1 * u3)) then (u2 + (s67.1 * u3)) else 0 - (u2 + (s67.1 * u3))) ≤ (if 0 ≤ (u2 + (s67.2 * u3)) then (u2 + (s67.2 * u3)) else 0 - (u2 + (s67.2 * u3)))
    · rw [if_pos q8] at hf
      refine rh_Ex.stp (s' := ((98, [some (.ref 0), none, some (.int u2), some (.int u3), some (.int s67.1), some (.int s67.2)], []), (h, g, mw_R rd))) rfl (st_icge_p q8) ?_
      refine rh_Ex.blk 2 (s' := ((67, [some (.ref 0), none, some (.int u2), some (.int u3), some (.int s67.1), some (.int (s67.2 + (1 : Int32)))], []), (h, g, mw_R rd))) rfl ?_
      obtain rfl := Option.some.inj hf
      refine rh_Ex.fgt [some (.ref 0), none, some (.int u2), some (.int u3), some (.int s67.1), some (.int (s67.2 + (1 : Int32)))] ⟨rfl, rfl, rfl, rfl, rfl, trivial⟩ ?_
      exact hk
    · rw [if_neg q8] at hf
      refine rh_Ex.stp (s' := ((94, [some (.ref 0), none, some (.int u2), some (.int u3), some (.int s67.1), some (.int s67.2)], []), (h, g, mw_R rd))) rfl (st_icge_n q8) ?_
      refine rh_Ex.blk 4 (s' := ((67, [some (.ref 0), none, some (.int u2), some (.int u3), some (.int s67.2), some (.int (s67.2 + (1 : Int32)))], []), (h, g, mw_R rd))) rfl ?_
      obtain rfl := Option.some.inj hf
      refine rh_Ex.fgt [some (.ref 0), none, some (.int u2), some (.int u3), some (.int s67.2), some (.int (s67.2 + (1 : Int32)))] ⟨rfl, rfl, rfl, rfl, rfl, trivial⟩ ?_
      exact hk
set_option maxRecDepth 20000 in
set_option maxHeartbeats 4000000 in
theorem R_Mo_trim (d : Nat) (rd : Option Nat) (h : Nat → Nat → Int32) (g : Nat → Nat → Int64) (p0 : Int32) {z9 : Int32 × (Nat → Nat → Int32) × (Option Nat)} (hf : f_Mo_trim h rd p0 = some z9) : rh_M rh_PT mw_L (d + 269) 271 [.ref 0, .int p0] (h, g, mw_R rd) (some (.int z9.1)) (z9.2.1, g, mw_R z9.2.2) := by
  unfold f_Mo_trim at hf
  refine rh_go pt_271 (Nat.le_of_ble_eq_true rfl) (lv := [some (.ref 0), some (.int p0), none, none, none, none]) rfl ?_
  refine rh_Ex.blk 5 (s' := ((7, [some (.ref 0), some (.int p0), none, none, none, none], [.int p0, .ref 0]), (rh_up h 0 9 (0 : Int32), g, mw_R rd))) rfl ?_
  obtain ⟨x1, hx1, hf⟩ := rh_bq hf
  refine rh_Ex.call (j := 183) (rc := some 11) [.ref 0, .int p0] [] (some (.int x1)) rfl rfl rfl (Nat.le_of_ble_eq_true rfl) (R_Mo_isOne (d + 266) rd (rh_up h 0 9 (0 : Int32)) g p0 hx1) ?_
  show rh_Ex _ _ _ ((10, [some (.ref 0), some (.int p0), none, none, none, none], [.int x1]), (rh_up h 0 9 (0 : Int32), g, mw_R rd)) _ _
  by_cases q2 : x1 = 0
  · rw [if_pos q2] at hf
    refine rh_Ex.stp (s' := ((27, [some (.ref 0), some (.int p0), none, none, none, none], []), (rh_up h 0 9 (0 : Int32), g, mw_R rd))) rfl (st_ifeq_p q2) ?_
    refine rh_Ex.blk 1 (s' := ((29, [some (.ref 0), some (.int p0), none, none, none, none], [.int (-10 : Int32)]), (rh_up h 0 9 (0 : Int32), g, mw_R rd))) rfl ?_
    obtain rfl := Option.some.inj hf
    exact rh_Ex.ret rfl rfl
  · rw [if_neg q2] at hf
    refine rh_Ex.stp (s' := ((13, [some (.ref 0), some (.int p0), none, none, none, none], []), (rh_up h 0 9 (0 : Int32), g, mw_R rd))) rfl (st_ifeq_n q2) ?_
    refine rh_Ex.blk 3 (s' := ((19, [some (.ref 0), some (.int p0), none, none, none, none], [.int (9 : Int32), .ref 1]), (rh_up h 0 9 (0 : Int32), g, mw_R rd))) rfl ?_
    refine rh_Ex.stp (s' := ((20, [some (.ref 0), some (.int p0), none, none, none, none], [.int ((rh_up h 0 9 (0 : Int32)) 1 (9 : Int32).toNatClampNeg)]), (rh_up h 0 9 (0 : Int32), g, mw_R rd))) rfl (st_iald (n := 11) rfl (by decide)) ?_
    refine rh_Ex.blk 1 (s' := ((21, [some (.ref 0), some (.int p0), none, none, none, none], [.int p0, .int ((rh_up h 0 9 (0 : Int32)) 1 (9 : Int32).toNatClampNeg)]), (rh_up h 0 9 (0 : Int32), g, mw_R rd))) rfl ?_
    refine rh_Ex.call (j := 180) (rc := none) [.int ((rh_up h 0 9 (0 : Int32)) 1 (9 : Int32).toNatClampNeg), .int p0] [] (some (.int (f_Mo_has ((rh_up h 0 9 (0 : Int32)) 1 (9 : Int32).toNatClampNeg) p0))) rfl rfl trivial (Nat.le_of_ble_eq_true rfl) (R_Mo_has (d + 267) mw_L (mw_R rd) (rh_up h 0 9 (0 : Int32)) g ((rh_up h 0 9 (0 : Int32)) 1 (9 : Int32).toNatClampNeg) p0 rfl) ?_
    show rh_Ex _ _ _ ((24, [some (.ref 0), some (.int p0), none, none, none, none], [.int (f_Mo_has ((rh_up h 0 9 (0 : Int32)) 1 (9 : Int32).toNatClampNeg) p0)]), (rh_up h 0 9 (0 : Int32), g, mw_R rd)) _ _
    by_cases q3 : (f_Mo_has ((rh_up h 0 9 (0 : Int32)) 1 (9 : Int32).toNatClampNeg) p0) = 0
    · rw [if_pos q3] at hf
      refine rh_Ex.stp (s' := ((30, [some (.ref 0), some (.int p0), none, none, none, none], []), (rh_up h 0 9 (0 : Int32), g, mw_R rd))) rfl (st_ifeq_p q3) ?_
      refine rh_Ex.blk 6 (s' := ((41, [some (.ref 0), some (.int p0), none, none, none, none], [.int (10 : Int32), .ref 1, .ref 1, .ref 0]), (rh_up h 0 9 (0 : Int32), g, mw_R rd))) rfl ?_
      refine rh_Ex.stp (s' := ((42, [some (.ref 0), some (.int p0), none, none, none, none], [.int ((rh_up h 0 9 (0 : Int32)) 1 (10 : Int32).toNatClampNeg), .ref 1, .ref 0]), (rh_up h 0 9 (0 : Int32), g, mw_R rd))) rfl (st_iald (n := 11) rfl (by decide)) ?_
      obtain ⟨x4, hx4, hf⟩ := rh_bq hf
      refine rh_Ex.call (j := 215) (rc := some 11) [.ref 0, .ref 1, .int ((rh_up h 0 9 (0 : Int32)) 1 (10 : Int32).toNatClampNeg)] [] (some (.int x4.1)) rfl rfl rfl (Nat.le_of_ble_eq_true rfl) (R_Mo_leanOf_1 d rd (rh_up h 0 9 (0 : Int32)) g ((rh_up h 0 9 (0 : Int32)) 1 (10 : Int32).toNatClampNeg) hx4) ?_
      show rh_Ex _ _ _ ((45, [some (.ref 0), some (.int p0), none, none, none, none], [.int x4.1]), (x4.2.1, g, mw_R x4.2.2)) _ _
      refine rh_Ex.blk 6 (s' := ((54, [some (.ref 0), some (.int p0), some (.int x4.1), none, none, none], [.int (10 : Int32), .ref 1, .int p0, .ref 0]), (x4.2.1, g, mw_R x4.2.2))) rfl ?_
      refine rh_Ex.stp (s' := ((55, [some (.ref 0), some (.int p0), some (.int x4.1), none, none, none], [.int (x4.2.1 1 (10 : Int32).toNatClampNeg), .int p0, .ref 0]), (x4.2.1, g, mw_R x4.2.2))) rfl (st_iald (n := 11) rfl (by decide)) ?_
      obtain ⟨x5, hx5, hf⟩ := rh_bq hf
      refine rh_Ex.call (j := 205) (rc := some 11) [.ref 0, .int p0, .int (x4.2.1 1 (10 : Int32).toNatClampNeg)] [] (some (.int x5.1)) rfl rfl rfl (Nat.le_of_ble_eq_true rfl) (R_Mo_weightOf (d + 1) x4.2.2 x4.2.1 g p0 (x4.2.1 1 (10 : Int32).toNatClampNeg) hx5) ?_
      show rh_Ex _ _ _ ((58, [some (.ref 0), some (.int p0), some (.int x4.1), none, none, none], [.int x5.1]), (x5.2.1, g, mw_R x5.2.2)) _ _
      refine rh_Ex.blk 5 (s' := ((67, [some (.ref 0), some (.int p0), some (.int x4.1), some (.int x5.1), some (.int (-4 : Int32)), some (.int (-4 : Int32))], []), (x5.2.1, g, mw_R x5.2.2))) rfl ?_
      obtain ⟨r9, hr9, hf⟩ := rh_bq hf
      refine rh_Ex.fgt [some (.ref 0), none, some (.int x4.1), some (.int x5.1), some (.int (-4 : Int32)), some (.int (-4 : Int32))] ⟨rfl, rfl, rfl, rfl, rfl, trivial⟩ ?_
      refine rh_Ex.loop _ _ _ (lb_Mo_trim_67 d x4.1 x5.1 x5.2.1 x5.2.2  g _ _) rh_N _ r9 hr9 ?_
      refine rh_Ex.blk 9 (s' := ((116, [some (.ref 0), none, some (.int x4.1), some (.int x5.1), some (.int r9), none], [.int (x4.1 + (r9 * x5.1)), .ref 0]), (rh_up x5.2.1 0 8 (0 : Int32), g, mw_R x5.2.2))) rfl ?_
      obtain ⟨x10, hx10, hf⟩ := rh_bq hf
      refine rh_Ex.call (j := 182) (rc := some 11) [.ref 0, .int (x4.1 + (r9 * x5.1))] [] none rfl rfl rfl (Nat.le_of_ble_eq_true rfl) (R_Mo_tell (d + 267) x5.2.2 (rh_up x5.2.1 0 8 (0 : Int32)) g (x4.1 + (r9 * x5.1)) hx10) ?_
      show rh_Ex _ _ _ ((119, [some (.ref 0), none, some (.int x4.1), some (.int x5.1), some (.int r9), none], []), (x10, g, mw_R x5.2.2)) _ _
      refine rh_Ex.blk 1 (s' := ((121, [some (.ref 0), none, some (.int x4.1), some (.int x5.1), some (.int r9), none], [.int r9]), (x10, g, mw_R x5.2.2))) rfl ?_
      obtain rfl := Option.some.inj hf
      exact rh_Ex.ret rfl rfl
    · rw [if_neg q3] at hf
      refine rh_Ex.stp (s' := ((27, [some (.ref 0), some (.int p0), none, none, none, none], []), (rh_up h 0 9 (0 : Int32), g, mw_R rd))) rfl (st_ifeq_n q3) ?_
      refine rh_Ex.blk 1 (s' := ((29, [some (.ref 0), some (.int p0), none, none, none, none], [.int (-10 : Int32)]), (rh_up h 0 9 (0 : Int32), g, mw_R rd))) rfl ?_
      obtain rfl := Option.some.inj hf
      exact rh_Ex.ret rfl rfl
def f_Mo_areTwoSets (h : Nat → Nat → Int32) (p0 : Int32) (p1 : Int32) : Option (Int32) :=
  (f_Mo_areFolk h p0).bind (fun x1 =>
    if x1 = 0 then
      some ((0 : Int32))
    else
      (f_Mo_areFolk h p1).bind (fun x3 =>
        if x3 = 0 then
          some ((0 : Int32))
        else
          if (p0 &&& p1) = 0 then
            some ((1 : Int32))
          else
            some ((0 : Int32))
      )
  )
set_option maxRecDepth 20000 in
set_option maxHeartbeats 4000000 in
theorem R_Mo_areTwoSets (d : Nat) (rd : Option Nat) (h : Nat → Nat → Int32) (g : Nat → Nat → Int64) (p0 : Int32) (p1 : Int32) {z9 : Int32} (hf : f_Mo_areTwoSets h p0 p1 = some z9) : rh_M rh_PT mw_L (d + 3) 272 [.ref 0, .int p0, .int p1] (h, g, mw_R rd) (some (.int z9)) (h, g, mw_R rd) := by
  unfold f_Mo_areTwoSets at hf
  refine rh_go pt_272 (Nat.le_of_ble_eq_true rfl) (lv := [some (.ref 0), some (.int p0), some (.int p1)]) rfl ?_
  refine rh_Ex.blk 2 (s' := ((2, [some (.ref 0), some (.int p0), some (.int p1)], [.int p0, .ref 0]), (h, g, mw_R rd))) rfl ?_
  obtain ⟨x1, hx1, hf⟩ := rh_bq hf
  refine rh_Ex.call (j := 185) (rc := some 11) [.ref 0, .int p0] [] (some (.int x1)) rfl rfl rfl (Nat.le_of_ble_eq_true rfl) (R_Mo_areFolk d rd h g p0 hx1) ?_
  show rh_Ex _ _ _ ((5, [some (.ref 0), some (.int p0), some (.int p1)], [.int x1]), (h, g, mw_R rd)) _ _
  by_cases q2 : x1 = 0
  · rw [if_pos q2] at hf
    refine rh_Ex.stp (s' := ((26, [some (.ref 0), some (.int p0), some (.int p1)], []), (h, g, mw_R rd))) rfl (st_ifeq_p q2) ?_
    refine rh_Ex.blk 1 (s' := ((27, [some (.ref 0), some (.int p0), some (.int p1)], [.int (0 : Int32)]), (h, g, mw_R rd))) rfl ?_
    obtain rfl := Option.some.inj hf
    exact rh_Ex.ret rfl ⟨rfl, Or.inl rfl⟩
  · rw [if_neg q2] at hf
    refine rh_Ex.stp (s' := ((8, [some (.ref 0), some (.int p0), some (.int p1)], []), (h, g, mw_R rd))) rfl (st_ifeq_n q2) ?_
    refine rh_Ex.blk 2 (s' := ((10, [some (.ref 0), some (.int p0), some (.int p1)], [.int p1, .ref 0]), (h, g, mw_R rd))) rfl ?_
    obtain ⟨x3, hx3, hf⟩ := rh_bq hf
    refine rh_Ex.call (j := 185) (rc := some 11) [.ref 0, .int p1] [] (some (.int x3)) rfl rfl rfl (Nat.le_of_ble_eq_true rfl) (R_Mo_areFolk d rd h g p1 hx3) ?_
    show rh_Ex _ _ _ ((13, [some (.ref 0), some (.int p0), some (.int p1)], [.int x3]), (h, g, mw_R rd)) _ _
    by_cases q4 : x3 = 0
    · rw [if_pos q4] at hf
      refine rh_Ex.stp (s' := ((26, [some (.ref 0), some (.int p0), some (.int p1)], []), (h, g, mw_R rd))) rfl (st_ifeq_p q4) ?_
      refine rh_Ex.blk 1 (s' := ((27, [some (.ref 0), some (.int p0), some (.int p1)], [.int (0 : Int32)]), (h, g, mw_R rd))) rfl ?_
      obtain rfl := Option.some.inj hf
      exact rh_Ex.ret rfl ⟨rfl, Or.inl rfl⟩
    · rw [if_neg q4] at hf
      refine rh_Ex.stp (s' := ((16, [some (.ref 0), some (.int p0), some (.int p1)], []), (h, g, mw_R rd))) rfl (st_ifeq_n q4) ?_
      refine rh_Ex.blk 3 (s' := ((19, [some (.ref 0), some (.int p0), some (.int p1)], [.int (p0 &&& p1)]), (h, g, mw_R rd))) rfl ?_
      by_cases q5 : (p0 &&& p1) = 0
      · rw [if_pos q5] at hf
        refine rh_Ex.stp (s' := ((22, [some (.ref 0), some (.int p0), some (.int p1)], []), (h, g, mw_R rd))) rfl (st_ifne_p q5) ?_
        refine rh_Ex.blk 2 (s' := ((27, [some (.ref 0), some (.int p0), some (.int p1)], [.int (1 : Int32)]), (h, g, mw_R rd))) rfl ?_
        obtain rfl := Option.some.inj hf
        exact rh_Ex.ret rfl ⟨rfl, Or.inr rfl⟩
      · rw [if_neg q5] at hf
        refine rh_Ex.stp (s' := ((26, [some (.ref 0), some (.int p0), some (.int p1)], []), (h, g, mw_R rd))) rfl (st_ifne_n q5) ?_
        refine rh_Ex.blk 1 (s' := ((27, [some (.ref 0), some (.int p0), some (.int p1)], [.int (0 : Int32)]), (h, g, mw_R rd))) rfl ?_
        obtain rfl := Option.some.inj hf
        exact rh_Ex.ret rfl ⟨rfl, Or.inl rfl⟩
def f_Mo_sinks (h : Nat → Nat → Int32) (rd : Option Nat) (p0 : Int32) (p1 : Int32) (p2 : Int32) : Option (Int32 × (Nat → Nat → Int32) × (Option Nat)) :=
  (f_Mo_weightOfAll h rd p0 p2).bind (fun x1 =>
    (f_Mo_weightOfAll x1.2.1 x1.2.2 p1 p2).bind (fun x2 =>
      if x1.1 ≤ x2.1 then
        if x2.1 ≤ x1.1 then
          some (((0 : Int32), x2.2.1, x2.2.2))
        else
          some (((-1 : Int32), x2.2.1, x2.2.2))
      else
        some (((1 : Int32), x2.2.1, x2.2.2))
    )
  )
set_option maxRecDepth 20000 in
set_option maxHeartbeats 4000000 in
theorem R_Mo_sinks (d : Nat) (rd : Option Nat) (h : Nat → Nat → Int32) (g : Nat → Nat → Int64) (p0 : Int32) (p1 : Int32) (p2 : Int32) {z9 : Int32 × (Nat → Nat → Int32) × (Option Nat)} (hf : f_Mo_sinks h rd p0 p1 p2 = some z9) : rh_M rh_PT mw_L (d + 269) 273 [.ref 0, .int p0, .int p1, .int p2] (h, g, mw_R rd) (some (.int z9.1)) (z9.2.1, g, mw_R z9.2.2) := by
  unfold f_Mo_sinks at hf
  refine rh_go pt_273 (Nat.le_of_ble_eq_true rfl) (lv := [some (.ref 0), some (.int p0), some (.int p1), some (.int p2), none, none]) rfl ?_
  refine rh_Ex.blk 3 (s' := ((3, [some (.ref 0), some (.int p0), some (.int p1), some (.int p2), none, none], [.int p2, .int p0, .ref 0]), (h, g, mw_R rd))) rfl ?_
  obtain ⟨x1, hx1, hf⟩ := rh_bq hf
  refine rh_Ex.call (j := 207) (rc := some 11) [.ref 0, .int p0, .int p2] [] (some (.int x1.1)) rfl rfl rfl (Nat.le_of_ble_eq_true rfl) (R_Mo_weightOfAll d rd h g p0 p2 hx1) ?_
  show rh_Ex _ _ _ ((6, [some (.ref 0), some (.int p0), some (.int p1), some (.int p2), none, none], [.int x1.1]), (x1.2.1, g, mw_R x1.2.2)) _ _
  refine rh_Ex.blk 4 (s' := ((11, [some (.ref 0), some (.int p0), some (.int p1), some (.int p2), some (.int x1.1), none], [.int p2, .int p1, .ref 0]), (x1.2.1, g, mw_R x1.2.2))) rfl ?_
  obtain ⟨x2, hx2, hf⟩ := rh_bq hf
  refine rh_Ex.call (j := 207) (rc := some 11) [.ref 0, .int p1, .int p2] [] (some (.int x2.1)) rfl rfl rfl (Nat.le_of_ble_eq_true rfl) (R_Mo_weightOfAll d x1.2.2 x1.2.1 g p1 p2 hx2) ?_
  show rh_Ex _ _ _ ((14, [some (.ref 0), some (.int p0), some (.int p1), some (.int p2), some (.int x1.1), none], [.int x2.1]), (x2.2.1, g, mw_R x2.2.2)) _ _
  refine rh_Ex.blk 3 (s' := ((20, [some (.ref 0), some (.int p0), some (.int p1), some (.int p2), some (.int x1.1), some (.int x2.1)], [.int x2.1, .int x1.1]), (x2.2.1, g, mw_R x2.2.2))) rfl ?_
  by_cases q3 : x1.1 ≤ x2.1
  · rw [if_pos q3] at hf
    refine rh_Ex.stp (s' := ((27, [some (.ref 0), some (.int p0), some (.int p1), some (.int p2), some (.int x1.1), some (.int x2.1)], []), (x2.2.1, g, mw_R x2.2.2))) rfl (st_icle_p q3) ?_
    refine rh_Ex.blk 2 (s' := ((31, [some (.ref 0), some (.int p0), some (.int p1), some (.int p2), some (.int x1.1), some (.int x2.1)], [.int x2.1, .int x1.1]), (x2.2.1, g, mw_R x2.2.2))) rfl ?_
    by_cases q4 : x2.1 ≤ x1.1
    · rw [if_pos q4] at hf
      refine rh_Ex.stp (s' := ((38, [some (.ref 0), some (.int p0), some (.int p1), some (.int p2), some (.int x1.1), some (.int x2.1)], []), (x2.2.1, g, mw_R x2.2.2))) rfl (st_icge_p q4) ?_
      refine rh_Ex.blk 1 (s' := ((39, [some (.ref 0), some (.int p0), some (.int p1), some (.int p2), some (.int x1.1), some (.int x2.1)], [.int (0 : Int32)]), (x2.2.1, g, mw_R x2.2.2))) rfl ?_
      obtain rfl := Option.some.inj hf
      exact rh_Ex.ret rfl rfl
    · rw [if_neg q4] at hf
      refine rh_Ex.stp (s' := ((34, [some (.ref 0), some (.int p0), some (.int p1), some (.int p2), some (.int x1.1), some (.int x2.1)], []), (x2.2.1, g, mw_R x2.2.2))) rfl (st_icge_n q4) ?_
      refine rh_Ex.blk 2 (s' := ((39, [some (.ref 0), some (.int p0), some (.int p1), some (.int p2), some (.int x1.1), some (.int x2.1)], [.int (-1 : Int32)]), (x2.2.1, g, mw_R x2.2.2))) rfl ?_
      obtain rfl := Option.some.inj hf
      exact rh_Ex.ret rfl rfl
  · rw [if_neg q3] at hf
    refine rh_Ex.stp (s' := ((23, [some (.ref 0), some (.int p0), some (.int p1), some (.int p2), some (.int x1.1), some (.int x2.1)], []), (x2.2.1, g, mw_R x2.2.2))) rfl (st_icle_n q3) ?_
    refine rh_Ex.blk 2 (s' := ((39, [some (.ref 0), some (.int p0), some (.int p1), some (.int p2), some (.int x1.1), some (.int x2.1)], [.int (1 : Int32)]), (x2.2.1, g, mw_R x2.2.2))) rfl ?_
    obtain rfl := Option.some.inj hf
    exact rh_Ex.ret rfl rfl
def f_Mo_balance (h : Nat → Nat → Int32) (rd : Option Nat) (p0 : Int32) (p1 : Int32) (p2 : Int32) : Option (Int32 × (Nat → Nat → Int32) × (Option Nat)) :=
  (f_Mo_areTwoSets (rh_up h 0 9 (0 : Int32)) p0 p1).bind (fun x1 =>
    if x1 = 0 then
      some (((f_Mo_lost (rh_up h 0 9 (0 : Int32))).1, (f_Mo_lost (rh_up h 0 9 (0 : Int32))).2, rd))
    else
      if (f_Mo_in p2 (0 : Int32) (99 : Int32)) = 0 then
        some (((f_Mo_lost (rh_up h 0 9 (0 : Int32))).1, (f_Mo_lost (rh_up h 0 9 (0 : Int32))).2, rd))
      else
        (f_Mo_sinks (rh_up h 0 9 (0 : Int32)) rd p0 p1 (((rh_up h 0 9 (0 : Int32)) 1 (10 : Int32).toNatClampNeg) + p2)).bind (fun x4 =>
          some ((x4.1, x4.2.1, x4.2.2))
        )
  )
set_option maxRecDepth 20000 in
set_option maxHeartbeats 4000000 in
theorem R_Mo_balance (d : Nat) (rd : Option Nat) (h : Nat → Nat → Int32) (g : Nat → Nat → Int64) (p0 : Int32) (p1 : Int32) (p2 : Int32) {z9 : Int32 × (Nat → Nat → Int32) × (Option Nat)} (hf : f_Mo_balance h rd p0 p1 p2 = some z9) : rh_M rh_PT mw_L (d + 270) 274 [.ref 0, .int p0, .int p1, .int p2] (h, g, mw_R rd) (some (.int z9.1)) (z9.2.1, g, mw_R z9.2.2) := by
  unfold f_Mo_balance at hf
  refine rh_go pt_274 (Nat.le_of_ble_eq_true rfl) (lv := [some (.ref 0), some (.int p0), some (.int p1), some (.int p2)]) rfl ?_
  refine rh_Ex.blk 6 (s' := ((8, [some (.ref 0), some (.int p0), some (.int p1), some (.int p2)], [.int p1, .int p0, .ref 0]), (rh_up h 0 9 (0 : Int32), g, mw_R rd))) rfl ?_
  obtain ⟨x1, hx1, hf⟩ := rh_bq hf
  refine rh_Ex.call (j := 272) (rc := some 11) [.ref 0, .int p0, .int p1] [] (some (.int x1)) rfl rfl rfl (Nat.le_of_ble_eq_true rfl) (R_Mo_areTwoSets (d + 266) rd (rh_up h 0 9 (0 : Int32)) g p0 p1 hx1) ?_
  show rh_Ex _ _ _ ((11, [some (.ref 0), some (.int p0), some (.int p1), some (.int p2)], [.int x1]), (rh_up h 0 9 (0 : Int32), g, mw_R rd)) _ _
  by_cases q2 : x1 = 0
  · rw [if_pos q2] at hf
    refine rh_Ex.stp (s' := ((42, [some (.ref 0), some (.int p0), some (.int p1), some (.int p2)], []), (rh_up h 0 9 (0 : Int32), g, mw_R rd))) rfl (st_ifeq_p q2) ?_
    refine rh_Ex.blk 1 (s' := ((43, [some (.ref 0), some (.int p0), some (.int p1), some (.int p2)], [.ref 0]), (rh_up h 0 9 (0 : Int32), g, mw_R rd))) rfl ?_
    refine rh_Ex.call (j := 181) (rc := some 11) [.ref 0] [] (some (.int ((f_Mo_lost (rh_up h 0 9 (0 : Int32))).1))) rfl rfl rfl (Nat.le_of_ble_eq_true rfl) (R_Mo_lost (d + 268) rd (rh_up h 0 9 (0 : Int32)) g  rfl) ?_
    show rh_Ex _ _ _ ((46, [some (.ref 0), some (.int p0), some (.int p1), some (.int p2)], [.int ((f_Mo_lost (rh_up h 0 9 (0 : Int32))).1)]), ((f_Mo_lost (rh_up h 0 9 (0 : Int32))).2, g, mw_R rd)) _ _
    obtain rfl := Option.some.inj hf
    exact rh_Ex.ret rfl rfl
  · rw [if_neg q2] at hf
    refine rh_Ex.stp (s' := ((14, [some (.ref 0), some (.int p0), some (.int p1), some (.int p2)], []), (rh_up h 0 9 (0 : Int32), g, mw_R rd))) rfl (st_ifeq_n q2) ?_
    refine rh_Ex.blk 3 (s' := ((18, [some (.ref 0), some (.int p0), some (.int p1), some (.int p2)], [.int (99 : Int32), .int (0 : Int32), .int p2]), (rh_up h 0 9 (0 : Int32), g, mw_R rd))) rfl ?_
    refine rh_Ex.call (j := 179) (rc := none) [.int p2, .int (0 : Int32), .int (99 : Int32)] [] (some (.int (f_Mo_in p2 (0 : Int32) (99 : Int32)))) rfl rfl trivial (Nat.le_of_ble_eq_true rfl) (R_Mo_in (d + 268) mw_L (mw_R rd) (rh_up h 0 9 (0 : Int32)) g p2 (0 : Int32) (99 : Int32) rfl) ?_
    show rh_Ex _ _ _ ((21, [some (.ref 0), some (.int p0), some (.int p1), some (.int p2)], [.int (f_Mo_in p2 (0 : Int32) (99 : Int32))]), (rh_up h 0 9 (0 : Int32), g, mw_R rd)) _ _
    by_cases q3 : (f_Mo_in p2 (0 : Int32) (99 : Int32)) = 0
    · rw [if_pos q3] at hf
      refine rh_Ex.stp (s' := ((42, [some (.ref 0), some (.int p0), some (.int p1), some (.int p2)], []), (rh_up h 0 9 (0 : Int32), g, mw_R rd))) rfl (st_ifeq_p q3) ?_
      refine rh_Ex.blk 1 (s' := ((43, [some (.ref 0), some (.int p0), some (.int p1), some (.int p2)], [.ref 0]), (rh_up h 0 9 (0 : Int32), g, mw_R rd))) rfl ?_
      refine rh_Ex.call (j := 181) (rc := some 11) [.ref 0] [] (some (.int ((f_Mo_lost (rh_up h 0 9 (0 : Int32))).1))) rfl rfl rfl (Nat.le_of_ble_eq_true rfl) (R_Mo_lost (d + 268) rd (rh_up h 0 9 (0 : Int32)) g  rfl) ?_
      show rh_Ex _ _ _ ((46, [some (.ref 0), some (.int p0), some (.int p1), some (.int p2)], [.int ((f_Mo_lost (rh_up h 0 9 (0 : Int32))).1)]), ((f_Mo_lost (rh_up h 0 9 (0 : Int32))).2, g, mw_R rd)) _ _
      obtain rfl := Option.some.inj hf
      exact rh_Ex.ret rfl rfl
    · rw [if_neg q3] at hf
      refine rh_Ex.stp (s' := ((24, [some (.ref 0), some (.int p0), some (.int p1), some (.int p2)], []), (rh_up h 0 9 (0 : Int32), g, mw_R rd))) rfl (st_ifeq_n q3) ?_
      refine rh_Ex.blk 6 (s' := ((33, [some (.ref 0), some (.int p0), some (.int p1), some (.int p2)], [.int (10 : Int32), .ref 1, .int p1, .int p0, .ref 0]), (rh_up h 0 9 (0 : Int32), g, mw_R rd))) rfl ?_
      refine rh_Ex.stp (s' := ((34, [some (.ref 0), some (.int p0), some (.int p1), some (.int p2)], [.int ((rh_up h 0 9 (0 : Int32)) 1 (10 : Int32).toNatClampNeg), .int p1, .int p0, .ref 0]), (rh_up h 0 9 (0 : Int32), g, mw_R rd))) rfl (st_iald (n := 11) rfl (by decide)) ?_
      refine rh_Ex.blk 2 (s' := ((36, [some (.ref 0), some (.int p0), some (.int p1), some (.int p2)], [.int (((rh_up h 0 9 (0 : Int32)) 1 (10 : Int32).toNatClampNeg) + p2), .int p1, .int p0, .ref 0]), (rh_up h 0 9 (0 : Int32), g, mw_R rd))) rfl ?_
      obtain ⟨x4, hx4, hf⟩ := rh_bq hf
      refine rh_Ex.call (j := 273) (rc := some 11) [.ref 0, .int p0, .int p1, .int (((rh_up h 0 9 (0 : Int32)) 1 (10 : Int32).toNatClampNeg) + p2)] [] (some (.int x4.1)) rfl rfl rfl (Nat.le_of_ble_eq_true rfl) (R_Mo_sinks d rd (rh_up h 0 9 (0 : Int32)) g p0 p1 (((rh_up h 0 9 (0 : Int32)) 1 (10 : Int32).toNatClampNeg) + p2) hx4) ?_
      show rh_Ex _ _ _ ((39, [some (.ref 0), some (.int p0), some (.int p1), some (.int p2)], [.int x4.1]), (x4.2.1, g, mw_R x4.2.2)) _ _
      refine rh_Ex.blk 1 (s' := ((46, [some (.ref 0), some (.int p0), some (.int p1), some (.int p2)], [.int x4.1]), (x4.2.1, g, mw_R x4.2.2))) rfl ?_
      obtain rfl := Option.some.inj hf
      exact rh_Ex.ret rfl rfl
def b_Mo_even_24 (u1 : Int32) (u2 : Int32) : (Int32 × Int32 × Int32 × (Nat → Nat → Int32) × (Option Nat)) → Option ((Int32 × Int32 × Int32 × (Nat → Nat → Int32) × (Option Nat)) ⊕ (Int32 × Int32 × (Nat → Nat → Int32) × (Option Nat))) := fun s24 =>
  if (9 : Int32) ≤ s24.2.2.1 then
    some (.inr (s24.1, s24.2.1, s24.2.2.2.1, s24.2.2.2.2))
  else
    (f_Mo_sinks s24.2.2.2.1 s24.2.2.2.2 u1 u2 ((f_Mo_dawn s24.2.2.2.1) + s24.2.2.1)).bind (fun x5 =>
      if x5.1 = 0 then
        if x5.1 = (1 : Int32) then
          some (.inl (s24.1 ||| ((1 : Int32) <<< (s24.2.2.1 &&& 31)), s24.2.1 ||| ((1 : Int32) <<< (s24.2.2.1 &&& 31)), s24.2.2.1 + (1 : Int32), x5.2.1, x5.2.2))
        else
          some (.inl (s24.1 ||| ((1 : Int32) <<< (s24.2.2.1 &&& 31)), s24.2.1 ||| (0 : Int32), s24.2.2.1 + (1 : Int32), x5.2.1, x5.2.2))
      else
        if x5.1 = (1 : Int32) then
          some (.inl (s24.1 ||| (0 : Int32), s24.2.1 ||| ((1 : Int32) <<< (s24.2.2.1 &&& 31)), s24.2.2.1 + (1 : Int32), x5.2.1, x5.2.2))
        else
          some (.inl (s24.1 ||| (0 : Int32), s24.2.1 ||| (0 : Int32), s24.2.2.1 + (1 : Int32), x5.2.1, x5.2.2))
    )
def f_Mo_even (h : Nat → Nat → Int32) (rd : Option Nat) (p0 : Int32) (p1 : Int32) : Option (Int32 × (Nat → Nat → Int32) × (Option Nat)) :=
  (f_Mo_areTwoSets (rh_up h 0 9 (0 : Int32)) p0 p1).bind (fun x1 =>
    if x1 = 0 then
      some (((-1 : Int32), rh_up h 0 9 (0 : Int32), rd))
    else
      (rh_loop (b_Mo_even_24 p0 p1) rh_N ((0 : Int32), (0 : Int32), (0 : Int32), rh_up h 0 9 (0 : Int32), rd)).bind (fun r9 =>
        (f_Mo_tell (rh_up r9.2.2.1 0 8 (0 : Int32)) r9.2.1).bind (fun x10 =>
          some ((r9.1, x10, r9.2.2.2))
        )
      )
  )
set_option maxRecDepth 20000 in
set_option maxHeartbeats 4000000 in
theorem lb_Mo_even_24 (d : Nat) (u1 : Int32) (u2 : Int32) (g : Nat → Nat → Int64) (v9 : Option Value) (h9 : rh_H) : ∀ s24 x9, b_Mo_even_24 u1 u2 s24 = some x9 → Sum.elim (fun s24 => rh_Ex (rh_M rh_PT mw_L (d + 269)) mw_L pg_X12_even ((24, [some (.ref 0), some (.int u1), some (.int u2), some (.int s24.1), some (.int s24.2.1), some (.int s24.2.2.1), none], []), (s24.2.2.2.1, g, mw_R s24.2.2.2.2)) v9 h9) (fun e9 => rh_Ex (rh_M rh_PT mw_L (d + 269)) mw_L pg_X12_even ((87, [some (.ref 0), none, none, some (.int e9.1), some (.int e9.2.1), none, none], []), (e9.2.2.1, g, mw_R e9.2.2.2)) v9 h9) x9 → rh_Ex (rh_M rh_PT mw_L (d + 269)) mw_L pg_X12_even ((24, [some (.ref 0), some (.int u1), some (.int u2), some (.int s24.1), some (.int s24.2.1), some (.int s24.2.2.1), none], []), (s24.2.2.2.1, g, mw_R s24.2.2.2.2)) v9 h9 := by
  intro s24 x9 hf hk
  unfold b_Mo_even_24 at hf
  refine rh_Ex.blk 2 (s' := ((28, [some (.ref 0), some (.int u1), some (.int u2), some (.int s24.1), some (.int s24.2.1), some (.int s24.2.2.1), none], [.int (9 : Int32), .int s24.2.2.1]), (s24.2.2.2.1, g, mw_R s24.2.2.2.2))) rfl ?_
  by_cases q4 : (9 : Int32) ≤ s24.2.2.1
  · rw [if_pos q4] at hf
    refine rh_Ex.stp (s' := ((87, [some (.ref 0), some (.int u1), some (.int u2), some (.int s24.1), some (.int s24.2.1), some (.int s24.2.2.1), none], []), (s24.2.2.2.1, g, mw_R s24.2.2.2.2))) rfl (st_icge_p q4) ?_
    obtain rfl := Option.some.inj hf
    refine rh_Ex.fgt [some (.ref 0), none, none, some (.int s24.1), some (.int s24.2.1), none, none] ⟨rfl, rfl, rfl, trivial⟩ ?_
    exact hk
  · rw [if_neg q4] at hf
    refine rh_Ex.stp (s' := ((31, [some (.ref 0), some (.int u1), some (.int u2), some (.int s24.1), some (.int s24.2.1), some (.int s24.2.2.1), none], []), (s24.2.2.2.1, g, mw_R s24.2.2.2.2))) rfl (st_icge_n q4) ?_
    refine rh_Ex.blk 4 (s' := ((35, [some (.ref 0), some (.int u1), some (.int u2), some (.int s24.1), some (.int s24.2.1), some (.int s24.2.2.1), none], [.ref 0, .int u2, .int u1, .ref 0]), (s24.2.2.2.1, g, mw_R s24.2.2.2.2))) rfl ?_
    refine rh_Ex.call (j := 209) (rc := some 11) [.ref 0] [.int u2, .int u1, .ref 0] (some (.int (f_Mo_dawn s24.2.2.2.1))) rfl rfl rfl (Nat.le_of_ble_eq_true rfl) (R_Mo_dawn (d + 268) s24.2.2.2.2 s24.2.2.2.1 g  rfl) ?_
    show rh_Ex _ _ _ ((38, [some (.ref 0), some (.int u1), some (.int u2), some (.int s24.1), some (.int s24.2.1), some (.int s24.2.2.1), none], [.int (f_Mo_dawn s24.2.2.2.1), .int u2, .int u1, .ref 0]), (s24.2.2.2.1, g, mw_R s24.2.2.2.2)) _ _
    refine rh_Ex.blk 2 (s' := ((41, [some (.ref 0), some (.int u1), some (.int u2), some (.int s24.1), some (.int s24.2.1), some (.int s24.2.2.1), none], [.int ((f_Mo_dawn s24.2.2.2.1) + s24.2.2.1), .int u2, .int u1, .ref 0]), (s24.2.2.2.1, g, mw_R s24.2.2.2.2))) rfl ?_
    obtain ⟨x5, hx5, hf⟩ := rh_bq hf
    refine rh_Ex.call (j := 273) (rc := some 11) [.ref 0, .int u1, .int u2, .int ((f_Mo_dawn s24.2.2.2.1) + s24.2.2.1)] [] (some (.int x5.1)) rfl rfl rfl (Nat.le_of_ble_eq_true rfl) (R_Mo_sinks d s24.2.2.2.2 s24.2.2.2.1 g u1 u2 ((f_Mo_dawn s24.2.2.2.1) + s24.2.2.1) hx5) ?_
    show rh_Ex _ _ _ ((44, [some (.ref 0), some (.int u1), some (.int u2), some (.int s24.1), some (.int s24.2.1), some (.int s24.2.2.1), none], [.int x5.1]), (x5.2.1, g, mw_R x5.2.2)) _ _
    refine rh_Ex.blk 3 (s' := ((49, [some (.ref 0), some (.int u1), some (.int u2), some (.int s24.1), some (.int s24.2.1), some (.int s24.2.2.1), some (.int x5.1)], [.int x5.1, .int s24.1]), (x5.2.1, g, mw_R x5.2.2))) rfl ?_
    by_cases q6 : x5.1 = 0
    · rw [if_pos q6] at hf
      refine rh_Ex.stp (s' := ((52, [some (.ref 0), some (.int u1), some (.int u2), some (.int s24.1), some (.int s24.2.1), some (.int s24.2.2.1), some (.int x5.1)], [.int s24.1]), (x5.2.1, g, mw_R x5.2.2))) rfl (st_ifne_p q6) ?_
      refine rh_Ex.blk 9 (s' := ((67, [some (.ref 0), some (.int u1), some (.int u2), some (.int (s24.1 ||| ((1 : Int32) <<< (s24.2.2.1 &&& 31)))), some (.int s24.2.1), some (.int s24.2.2.1), some (.int x5.1)], [.int (1 : Int32), .int x5.1, .int s24.2.1]), (x5.2.1, g, mw_R x5.2.2))) rfl ?_
      by_cases q7 : x5.1 = (1 : Int32)
      · rw [if_pos q7] at hf
        refine rh_Ex.stp (s' := ((70, [some (.ref 0), some (.int u1), some (.int u2), some (.int (s24.1 ||| ((1 : Int32) <<< (s24.2.2.1 &&& 31)))), some (.int s24.2.1), some (.int s24.2.2.1), some (.int x5.1)], [.int s24.2.1]), (x5.2.1, g, mw_R x5.2.2))) rfl (st_icne_p q7) ?_
        refine rh_Ex.blk 8 (s' := ((24, [some (.ref 0), some (.int u1), some (.int u2), some (.int (s24.1 ||| ((1 : Int32) <<< (s24.2.2.1 &&& 31)))), some (.int (s24.2.1 ||| ((1 : Int32) <<< (s24.2.2.1 &&& 31)))), some (.int (s24.2.2.1 + (1 : Int32))), some (.int x5.1)], []), (x5.2.1, g, mw_R x5.2.2))) rfl ?_
        obtain rfl := Option.some.inj hf
        refine rh_Ex.fgt [some (.ref 0), some (.int u1), some (.int u2), some (.int (s24.1 ||| ((1 : Int32) <<< (s24.2.2.1 &&& 31)))), some (.int (s24.2.1 ||| ((1 : Int32) <<< (s24.2.2.1 &&& 31)))), some (.int (s24.2.2.1 + (1 : Int32))), none] ⟨rfl, rfl, rfl, rfl, rfl, rfl, trivial⟩ ?_
        exact hk
      · rw [if_neg q7] at hf
        refine rh_Ex.stp (s' := ((77, [some (.ref 0), some (.int u1), some (.int u2), some (.int (s24.1 ||| ((1 : Int32) <<< (s24.2.2.1 &&& 31)))), some (.int s24.2.1), some (.int s24.2.2.1), some (.int x5.1)], [.int s24.2.1]), (x5.2.1, g, mw_R x5.2.2))) rfl (st_icne_n q7) ?_
        refine rh_Ex.blk 5 (s' := ((24, [some (.ref 0), some (.int u1), some (.int u2), some (.int (s24.1 ||| ((1 : Int32) <<< (s24.2.2.1 &&& 31)))), some (.int (s24.2.1 ||| (0 : Int32))), some (.int (s24.2.2.1 + (1 : Int32))), some (.int x5.1)], []), (x5.2.1, g, mw_R x5.2.2))) rfl ?_
        obtain rfl := Option.some.inj hf
        refine rh_Ex.fgt [some (.ref 0), some (.int u1), some (.int u2), some (.int (s24.1 ||| ((1 : Int32) <<< (s24.2.2.1 &&& 31)))), some (.int (s24.2.1 ||| (0 : Int32))), some (.int (s24.2.2.1 + (1 : Int32))), none] ⟨rfl, rfl, rfl, rfl, rfl, rfl, trivial⟩ ?_
        exact hk
    · rw [if_neg q6] at hf
      refine rh_Ex.stp (s' := ((59, [some (.ref 0), some (.int u1), some (.int u2), some (.int s24.1), some (.int s24.2.1), some (.int s24.2.2.1), some (.int x5.1)], [.int s24.1]), (x5.2.1, g, mw_R x5.2.2))) rfl (st_ifne_n q6) ?_
      refine rh_Ex.blk 6 (s' := ((67, [some (.ref 0), some (.int u1), some (.int u2), some (.int (s24.1 ||| (0 : Int32))), some (.int s24.2.1), some (.int s24.2.2.1), some (.int x5.1)], [.int (1 : Int32), .int x5.1, .int s24.2.1]), (x5.2.1, g, mw_R x5.2.2))) rfl ?_
      by_cases q8 : x5.1 = (1 : Int32)
      · rw [if_pos q8] at hf
        refine rh_Ex.stp (s' := ((70, [some (.ref 0), some (.int u1), some (.int u2), some (.int (s24.1 ||| (0 : Int32))), some (.int s24.2.1), some (.int s24.2.2.1), some (.int x5.1)], [.int s24.2.1]), (x5.2.1, g, mw_R x5.2.2))) rfl (st_icne_p q8) ?_
        refine rh_Ex.blk 8 (s' := ((24, [some (.ref 0), some (.int u1), some (.int u2), some (.int (s24.1 ||| (0 : Int32))), some (.int (s24.2.1 ||| ((1 : Int32) <<< (s24.2.2.1 &&& 31)))), some (.int (s24.2.2.1 + (1 : Int32))), some (.int x5.1)], []), (x5.2.1, g, mw_R x5.2.2))) rfl ?_
        obtain rfl := Option.some.inj hf
        refine rh_Ex.fgt [some (.ref 0), some (.int u1), some (.int u2), some (.int (s24.1 ||| (0 : Int32))), some (.int (s24.2.1 ||| ((1 : Int32) <<< (s24.2.2.1 &&& 31)))), some (.int (s24.2.2.1 + (1 : Int32))), none] ⟨rfl, rfl, rfl, rfl, rfl, rfl, trivial⟩ ?_
        exact hk
      · rw [if_neg q8] at hf
        refine rh_Ex.stp (s' := ((77, [some (.ref 0), some (.int u1), some (.int u2), some (.int (s24.1 ||| (0 : Int32))), some (.int s24.2.1), some (.int s24.2.2.1), some (.int x5.1)], [.int s24.2.1]), (x5.2.1, g, mw_R x5.2.2))) rfl (st_icne_n q8) ?_
        refine rh_Ex.blk 5 (s' := ((24, [some (.ref 0), some (.int u1), some (.int u2), some (.int (s24.1 ||| (0 : Int32))), some (.int (s24.2.1 ||| (0 : Int32))), some (.int (s24.2.2.1 + (1 : Int32))), some (.int x5.1)], []), (x5.2.1, g, mw_R x5.2.2))) rfl ?_
        obtain rfl := Option.some.inj hf
        refine rh_Ex.fgt [some (.ref 0), some (.int u1), some (.int u2), some (.int (s24.1 ||| (0 : Int32))), some (.int (s24.2.1 ||| (0 : Int32))), some (.int (s24.2.2.1 + (1 : Int32))), none] ⟨rfl, rfl, rfl, rfl, rfl, rfl, trivial⟩ ?_
        exact hk
set_option maxRecDepth 20000 in
set_option maxHeartbeats 4000000 in
theorem R_Mo_even (d : Nat) (rd : Option Nat) (h : Nat → Nat → Int32) (g : Nat → Nat → Int64) (p0 : Int32) (p1 : Int32) {z9 : Int32 × (Nat → Nat → Int32) × (Option Nat)} (hf : f_Mo_even h rd p0 p1 = some z9) : rh_M rh_PT mw_L (d + 270) 275 [.ref 0, .int p0, .int p1] (h, g, mw_R rd) (some (.int z9.1)) (z9.2.1, g, mw_R z9.2.2) := by
  unfold f_Mo_even at hf
  refine rh_go pt_275 (Nat.le_of_ble_eq_true rfl) (lv := [some (.ref 0), some (.int p0), some (.int p1), none, none, none, none]) rfl ?_
  refine rh_Ex.blk 6 (s' := ((8, [some (.ref 0), some (.int p0), some (.int p1), none, none, none, none], [.int p1, .int p0, .ref 0]), (rh_up h 0 9 (0 : Int32), g, mw_R rd))) rfl ?_
  obtain ⟨x1, hx1, hf⟩ := rh_bq hf
  refine rh_Ex.call (j := 272) (rc := some 11) [.ref 0, .int p0, .int p1] [] (some (.int x1)) rfl rfl rfl (Nat.le_of_ble_eq_true rfl) (R_Mo_areTwoSets (d + 266) rd (rh_up h 0 9 (0 : Int32)) g p0 p1 hx1) ?_
  show rh_Ex _ _ _ ((11, [some (.ref 0), some (.int p0), some (.int p1), none, none, none, none], [.int x1]), (rh_up h 0 9 (0 : Int32), g, mw_R rd)) _ _
  by_cases q2 : x1 = 0
  · rw [if_pos q2] at hf
    refine rh_Ex.stp (s' := ((14, [some (.ref 0), some (.int p0), some (.int p1), none, none, none, none], []), (rh_up h 0 9 (0 : Int32), g, mw_R rd))) rfl (st_ifne_p q2) ?_
    refine rh_Ex.blk 1 (s' := ((15, [some (.ref 0), some (.int p0), some (.int p1), none, none, none, none], [.int (-1 : Int32)]), (rh_up h 0 9 (0 : Int32), g, mw_R rd))) rfl ?_
    obtain rfl := Option.some.inj hf
    exact rh_Ex.ret rfl rfl
  · rw [if_neg q2] at hf
    refine rh_Ex.stp (s' := ((16, [some (.ref 0), some (.int p0), some (.int p1), none, none, none, none], []), (rh_up h 0 9 (0 : Int32), g, mw_R rd))) rfl (st_ifne_n q2) ?_
    refine rh_Ex.blk 6 (s' := ((24, [some (.ref 0), some (.int p0), some (.int p1), some (.int (0 : Int32)), some (.int (0 : Int32)), some (.int (0 : Int32)), none], []), (rh_up h 0 9 (0 : Int32), g, mw_R rd))) rfl ?_
    obtain ⟨r9, hr9, hf⟩ := rh_bq hf
    refine rh_Ex.fgt [some (.ref 0), some (.int p0), some (.int p1), some (.int (0 : Int32)), some (.int (0 : Int32)), some (.int (0 : Int32)), none] ⟨rfl, rfl, rfl, rfl, rfl, rfl, trivial⟩ ?_
    refine rh_Ex.loop _ _ _ (lb_Mo_even_24 d p0 p1  g _ _) rh_N _ r9 hr9 ?_
    refine rh_Ex.blk 5 (s' := ((95, [some (.ref 0), none, none, some (.int r9.1), some (.int r9.2.1), none, none], [.int r9.2.1, .ref 0]), (rh_up r9.2.2.1 0 8 (0 : Int32), g, mw_R r9.2.2.2))) rfl ?_
    obtain ⟨x10, hx10, hf⟩ := rh_bq hf
    refine rh_Ex.call (j := 182) (rc := some 11) [.ref 0, .int r9.2.1] [] none rfl rfl rfl (Nat.le_of_ble_eq_true rfl) (R_Mo_tell (d + 268) r9.2.2.2 (rh_up r9.2.2.1 0 8 (0 : Int32)) g r9.2.1 hx10) ?_
    show rh_Ex _ _ _ ((98, [some (.ref 0), none, none, some (.int r9.1), some (.int r9.2.1), none, none], []), (x10, g, mw_R r9.2.2.2)) _ _
    refine rh_Ex.blk 1 (s' := ((99, [some (.ref 0), none, none, some (.int r9.1), some (.int r9.2.1), none, none], [.int r9.1]), (x10, g, mw_R r9.2.2.2))) rfl ?_
    obtain rfl := Option.some.inj hf
    exact rh_Ex.ret rfl rfl
def j_Mo_makeup_79 (h : Nat → Nat → Int32) (rd : Option Nat) (u1 : Int32) (u2 : Int32) (j4 : Int32) (j5 : Int32) : Option ((Int32 × Int32) ⊕ (Int32)) :=
  rh_g (0 ≤ u1.toInt ∧ u1.toInt < ((512 : Nat) : Int)) (
    rh_g (0 ≤ (u2 ||| j5).toInt ∧ (u2 ||| j5).toInt < ((512 : Nat) : Int)) (
      if (h 9 u1.toNatClampNeg) = (h 9 (u2 ||| j5).toNatClampNeg) then
        some (.inl (j5, j5 + (1 : Int32)))
      else
        some (.inl (j4, j5 + (1 : Int32)))
    )
  )
def b_Mo_makeup_39 (u1 : Int32) (u2 : Int32) (h : Nat → Nat → Int32) (rd : Option Nat) : (Int32 × Int32) → Option ((Int32 × Int32) ⊕ (Int32)) := fun s39 =>
  if (f_Mo_everybody h) < s39.2 then
    some (.inr s39.1)
  else
    if (s39.2 &&& (u1 ||| u2)) = 0 then
      if s39.1 = (-1 : Int32) then
        j_Mo_makeup_79 h rd u1 u2 s39.1 s39.2
      else
        if (f_In_bitCount s39.2) < (f_In_bitCount s39.1) then
          j_Mo_makeup_79 h rd u1 u2 s39.1 s39.2
        else
          some (.inl (s39.1, s39.2 + (1 : Int32)))
    else
      some (.inl (s39.1, s39.2 + (1 : Int32)))
def f_Mo_makeup (h : Nat → Nat → Int32) (rd : Option Nat) (p0 : Int32) (p1 : Int32) (p2 : Int32) : Option (Int32 × (Nat → Nat → Int32) × (Option Nat)) :=
  (f_Mo_areTwoSets (rh_up h 0 9 (0 : Int32)) p0 p1).bind (fun x1 =>
    if x1 = 0 then
      some (((-1 : Int32), rh_up h 0 9 (0 : Int32), rd))
    else
      (f_Mo_isBell p2).bind (fun x3 =>
        if x3 = 0 then
          some (((-1 : Int32), rh_up h 0 9 (0 : Int32), rd))
        else
          (f_Mo_findSets (rh_up h 0 9 (0 : Int32)) rd ((f_Mo_dawn (rh_up h 0 9 (0 : Int32))) + p2)).bind (fun x5 =>
            (rh_loop (b_Mo_makeup_39 p0 p1 x5.1 x5.2) rh_N ((-1 : Int32), (0 : Int32))).bind (fun r14 =>
              if r14 = (-1 : Int32) then
                some (((-2 : Int32), x5.1, x5.2))
              else
                (f_Mo_tell (rh_up x5.1 0 8 (0 : Int32)) r14).bind (fun x16 =>
                  some (((f_In_bitCount r14), x16, x5.2))
                )
            )
          )
      )
  )
set_option maxRecDepth 20000 in
set_option maxHeartbeats 4000000 in
theorem lj_Mo_makeup_79 (d : Nat) (h : Nat → Nat → Int32) (rd : Option Nat) (u1 : Int32) (u2 : Int32) (j4 : Int32) (j5 : Int32) (g : Nat → Nat → Int64) (v9 : Option Value) (h9 : rh_H) (x9 : (Int32 × Int32) ⊕ (Int32)) (hf : j_Mo_makeup_79 h rd u1 u2 j4 j5 = some x9) (hk : Sum.elim (fun s39 => rh_Ex (rh_M rh_PT mw_L (d + 268)) mw_L pg_X12_makeup ((39, [some (.ref 0), some (.int u1), some (.int u2), none, some (.int s39.1), some (.int s39.2)], []), (h, g, mw_R rd)) v9 h9) (fun e9 => rh_Ex (rh_M rh_PT mw_L (d + 268)) mw_L pg_X12_makeup ((107, [some (.ref 0), none, none, none, some (.int e9), none], []), (h, g, mw_R rd)) v9 h9) x9) : rh_Ex (rh_M rh_PT mw_L (d + 268)) mw_L pg_X12_makeup ((79, [some (.ref 0), some (.int u1), some (.int u2), none, some (.int j4), some (.int j5)], []), (h, g, mw_R rd)) v9 h9 := by
  unfold j_Mo_makeup_79 at hf
  refine rh_Ex.blk 3 (s' := ((84, [some (.ref 0), some (.int u1), some (.int u2), none, some (.int j4), some (.int j5)], [.int u1, .ref 9]), (h, g, mw_R rd))) rfl ?_
  obtain ⟨q10, hf⟩ := rh_gq hf
  refine rh_Ex.stp (s' := ((85, [some (.ref 0), some (.int u1), some (.int u2), none, some (.int j4), some (.int j5)], [.int (h 9 u1.toNatClampNeg)]), (h, g, mw_R rd))) rfl (st_iald (n := 512) rfl q10) ?_
  refine rh_Ex.blk 5 (s' := ((93, [some (.ref 0), some (.int u1), some (.int u2), none, some (.int j4), some (.int j5)], [.int (u2 ||| j5), .ref 9, .int (h 9 u1.toNatClampNeg)]), (h, g, mw_R rd))) rfl ?_
  obtain ⟨q11, hf⟩ := rh_gq hf
  refine rh_Ex.stp (s' := ((94, [some (.ref 0), some (.int u1), some (.int u2), none, some (.int j4), some (.int j5)], [.int (h 9 (u2 ||| j5).toNatClampNeg), .int (h 9 u1.toNatClampNeg)]), (h, g, mw_R rd))) rfl (st_iald (n := 512) rfl q11) ?_
  by_cases q12 : (h 9 u1.toNatClampNeg) = (h 9 (u2 ||| j5).toNatClampNeg)
  · rw [if_pos q12] at hf
    refine rh_Ex.stp (s' := ((97, [some (.ref 0), some (.int u1), some (.int u2), none, some (.int j4), some (.int j5)], []), (h, g, mw_R rd))) rfl (st_icne_p q12) ?_
    refine rh_Ex.blk 4 (s' := ((39, [some (.ref 0), some (.int u1), some (.int u2), none, some (.int j5), some (.int (j5 + (1 : Int32)))], []), (h, g, mw_R rd))) rfl ?_
    obtain rfl := Option.some.inj hf
    refine rh_Ex.fgt [some (.ref 0), some (.int u1), some (.int u2), none, some (.int j5), some (.int (j5 + (1 : Int32)))] ⟨rfl, rfl, rfl, rfl, rfl, trivial⟩ ?_
    exact hk
  · rw [if_neg q12] at hf
    refine rh_Ex.stp (s' := ((101, [some (.ref 0), some (.int u1), some (.int u2), none, some (.int j4), some (.int j5)], []), (h, g, mw_R rd))) rfl (st_icne_n q12) ?_
    refine rh_Ex.blk 2 (s' := ((39, [some (.ref 0), some (.int u1), some (.int u2), none, some (.int j4), some (.int (j5 + (1 : Int32)))], []), (h, g, mw_R rd))) rfl ?_
    obtain rfl := Option.some.inj hf
    refine rh_Ex.fgt [some (.ref 0), some (.int u1), some (.int u2), none, some (.int j4), some (.int (j5 + (1 : Int32)))] ⟨rfl, rfl, rfl, rfl, rfl, trivial⟩ ?_
    exact hk
set_option maxRecDepth 20000 in
set_option maxHeartbeats 4000000 in
theorem lb_Mo_makeup_39 (d : Nat) (u1 : Int32) (u2 : Int32) (h : Nat → Nat → Int32) (rd : Option Nat) (g : Nat → Nat → Int64) (v9 : Option Value) (h9 : rh_H) : ∀ s39 x9, b_Mo_makeup_39 u1 u2 h rd s39 = some x9 → Sum.elim (fun s39 => rh_Ex (rh_M rh_PT mw_L (d + 268)) mw_L pg_X12_makeup ((39, [some (.ref 0), some (.int u1), some (.int u2), none, some (.int s39.1), some (.int s39.2)], []), (h, g, mw_R rd)) v9 h9) (fun e9 => rh_Ex (rh_M rh_PT mw_L (d + 268)) mw_L pg_X12_makeup ((107, [some (.ref 0), none, none, none, some (.int e9), none], []), (h, g, mw_R rd)) v9 h9) x9 → rh_Ex (rh_M rh_PT mw_L (d + 268)) mw_L pg_X12_makeup ((39, [some (.ref 0), some (.int u1), some (.int u2), none, some (.int s39.1), some (.int s39.2)], []), (h, g, mw_R rd)) v9 h9 := by
  intro s39 x9 hf hk
  unfold b_Mo_makeup_39 at hf
  refine rh_Ex.blk 2 (s' := ((42, [some (.ref 0), some (.int u1), some (.int u2), none, some (.int s39.1), some (.int s39.2)], [.ref 0, .int s39.2]), (h, g, mw_R rd))) rfl ?_
  refine rh_Ex.call (j := 184) (rc := some 11) [.ref 0] [.int s39.2] (some (.int (f_Mo_everybody h))) rfl rfl rfl (Nat.le_of_ble_eq_true rfl) (R_Mo_everybody (d + 267) rd h g  rfl) ?_
  show rh_Ex _ _ _ ((45, [some (.ref 0), some (.int u1), some (.int u2), none, some (.int s39.1), some (.int s39.2)], [.int (f_Mo_everybody h), .int s39.2]), (h, g, mw_R rd)) _ _
  by_cases q7 : (f_Mo_everybody h) < s39.2
  · rw [if_pos q7] at hf
    refine rh_Ex.stp (s' := ((107, [some (.ref 0), some (.int u1), some (.int u2), none, some (.int s39.1), some (.int s39.2)], []), (h, g, mw_R rd))) rfl (st_icgt_p q7) ?_
    obtain rfl := Option.some.inj hf
    refine rh_Ex.fgt [some (.ref 0), none, none, none, some (.int s39.1), none] ⟨rfl, rfl, trivial⟩ ?_
    exact hk
  · rw [if_neg q7] at hf
    refine rh_Ex.stp (s' := ((48, [some (.ref 0), some (.int u1), some (.int u2), none, some (.int s39.1), some (.int s39.2)], []), (h, g, mw_R rd))) rfl (st_icgt_n q7) ?_
    refine rh_Ex.blk 5 (s' := ((54, [some (.ref 0), some (.int u1), some (.int u2), none, some (.int s39.1), some (.int s39.2)], [.int (s39.2 &&& (u1 ||| u2))]), (h, g, mw_R rd))) rfl ?_
    by_cases q8 : (s39.2 &&& (u1 ||| u2)) = 0
    · rw [if_pos q8] at hf
      refine rh_Ex.stp (s' := ((57, [some (.ref 0), some (.int u1), some (.int u2), none, some (.int s39.1), some (.int s39.2)], []), (h, g, mw_R rd))) rfl (st_ifne_p q8) ?_
      refine rh_Ex.blk 2 (s' := ((60, [some (.ref 0), some (.int u1), some (.int u2), none, some (.int s39.1), some (.int s39.2)], [.int (-1 : Int32), .int s39.1]), (h, g, mw_R rd))) rfl ?_
      by_cases q9 : s39.1 = (-1 : Int32)
      · rw [if_pos q9] at hf
        refine rh_Ex.stp (s' := ((79, [some (.ref 0), some (.int u1), some (.int u2), none, some (.int s39.1), some (.int s39.2)], []), (h, g, mw_R rd))) rfl (st_iceq_p q9) ?_
        refine rh_Ex.fgt [some (.ref 0), some (.int u1), some (.int u2), none, some (.int s39.1), some (.int s39.2)] ⟨rfl, rfl, rfl, rfl, rfl, trivial⟩ ?_
        exact lj_Mo_makeup_79 d h rd u1 u2 s39.1 s39.2 g _ _ _ hf hk
      · rw [if_neg q9] at hf
        refine rh_Ex.stp (s' := ((63, [some (.ref 0), some (.int u1), some (.int u2), none, some (.int s39.1), some (.int s39.2)], []), (h, g, mw_R rd))) rfl (st_iceq_n q9) ?_
        refine rh_Ex.blk 1 (s' := ((65, [some (.ref 0), some (.int u1), some (.int u2), none, some (.int s39.1), some (.int s39.2)], [.int s39.2]), (h, g, mw_R rd))) rfl ?_
        refine rh_Ex.call (j := 298) (rc := none) [.int s39.2] [] (some (.int (f_In_bitCount s39.2))) rfl rfl trivial (Nat.le_of_ble_eq_true rfl) (R_In_bitCount (d + 267) mw_L (mw_R rd) h g s39.2 rfl) ?_
        show rh_Ex _ _ _ ((68, [some (.ref 0), some (.int u1), some (.int u2), none, some (.int s39.1), some (.int s39.2)], [.int (f_In_bitCount s39.2)]), (h, g, mw_R rd)) _ _
        refine rh_Ex.blk 1 (s' := ((70, [some (.ref 0), some (.int u1), some (.int u2), none, some (.int s39.1), some (.int s39.2)], [.int s39.1, .int (f_In_bitCount s39.2)]), (h, g, mw_R rd))) rfl ?_
        refine rh_Ex.call (j := 298) (rc := none) [.int s39.1] [.int (f_In_bitCount s39.2)] (some (.int (f_In_bitCount s39.1))) rfl rfl trivial (Nat.le_of_ble_eq_true rfl) (R_In_bitCount (d + 267) mw_L (mw_R rd) h g s39.1 rfl) ?_
        show rh_Ex _ _ _ ((73, [some (.ref 0), some (.int u1), some (.int u2), none, some (.int s39.1), some (.int s39.2)], [.int (f_In_bitCount s39.1), .int (f_In_bitCount s39.2)]), (h, g, mw_R rd)) _ _
        by_cases q13 : (f_In_bitCount s39.2) < (f_In_bitCount s39.1)
        · rw [if_pos q13] at hf
          refine rh_Ex.stp (s' := ((79, [some (.ref 0), some (.int u1), some (.int u2), none, some (.int s39.1), some (.int s39.2)], []), (h, g, mw_R rd))) rfl (st_iclt_p q13) ?_
          refine rh_Ex.fgt [some (.ref 0), some (.int u1), some (.int u2), none, some (.int s39.1), some (.int s39.2)] ⟨rfl, rfl, rfl, rfl, rfl, trivial⟩ ?_
          exact lj_Mo_makeup_79 d h rd u1 u2 s39.1 s39.2 g _ _ _ hf hk
        · rw [if_neg q13] at hf
          refine rh_Ex.stp (s' := ((76, [some (.ref 0), some (.int u1), some (.int u2), none, some (.int s39.1), some (.int s39.2)], []), (h, g, mw_R rd))) rfl (st_iclt_n q13) ?_
          refine rh_Ex.blk 3 (s' := ((39, [some (.ref 0), some (.int u1), some (.int u2), none, some (.int s39.1), some (.int (s39.2 + (1 : Int32)))], []), (h, g, mw_R rd))) rfl ?_
          obtain rfl := Option.some.inj hf
          refine rh_Ex.fgt [some (.ref 0), some (.int u1), some (.int u2), none, some (.int s39.1), some (.int (s39.2 + (1 : Int32)))] ⟨rfl, rfl, rfl, rfl, rfl, trivial⟩ ?_
          exact hk
    · rw [if_neg q8] at hf
      refine rh_Ex.stp (s' := ((101, [some (.ref 0), some (.int u1), some (.int u2), none, some (.int s39.1), some (.int s39.2)], []), (h, g, mw_R rd))) rfl (st_ifne_n q8) ?_
      refine rh_Ex.blk 2 (s' := ((39, [some (.ref 0), some (.int u1), some (.int u2), none, some (.int s39.1), some (.int (s39.2 + (1 : Int32)))], []), (h, g, mw_R rd))) rfl ?_
      obtain rfl := Option.some.inj hf
      refine rh_Ex.fgt [some (.ref 0), some (.int u1), some (.int u2), none, some (.int s39.1), some (.int (s39.2 + (1 : Int32)))] ⟨rfl, rfl, rfl, rfl, rfl, trivial⟩ ?_
      exact hk
set_option maxRecDepth 20000 in
set_option maxHeartbeats 4000000 in
theorem R_Mo_makeup (d : Nat) (rd : Option Nat) (h : Nat → Nat → Int32) (g : Nat → Nat → Int64) (p0 : Int32) (p1 : Int32) (p2 : Int32) {z9 : Int32 × (Nat → Nat → Int32) × (Option Nat)} (hf : f_Mo_makeup h rd p0 p1 p2 = some z9) : rh_M rh_PT mw_L (d + 269) 276 [.ref 0, .int p0, .int p1, .int p2] (h, g, mw_R rd) (some (.int z9.1)) (z9.2.1, g, mw_R z9.2.2) := by
  unfold f_Mo_makeup at hf
  refine rh_go pt_276 (Nat.le_of_ble_eq_true rfl) (lv := [some (.ref 0), some (.int p0), some (.int p1), some (.int p2), none, none]) rfl ?_
  refine rh_Ex.blk 6 (s' := ((8, [some (.ref 0), some (.int p0), some (.int p1), some (.int p2), none, none], [.int p1, .int p0, .ref 0]), (rh_up h 0 9 (0 : Int32), g, mw_R rd))) rfl ?_
  obtain ⟨x1, hx1, hf⟩ := rh_bq hf
  refine rh_Ex.call (j := 272) (rc := some 11) [.ref 0, .int p0, .int p1] [] (some (.int x1)) rfl rfl rfl (Nat.le_of_ble_eq_true rfl) (R_Mo_areTwoSets (d + 265) rd (rh_up h 0 9 (0 : Int32)) g p0 p1 hx1) ?_
  show rh_Ex _ _ _ ((11, [some (.ref 0), some (.int p0), some (.int p1), some (.int p2), none, none], [.int x1]), (rh_up h 0 9 (0 : Int32), g, mw_R rd)) _ _
  by_cases q2 : x1 = 0
  · rw [if_pos q2] at hf
    refine rh_Ex.stp (s' := ((21, [some (.ref 0), some (.int p0), some (.int p1), some (.int p2), none, none], []), (rh_up h 0 9 (0 : Int32), g, mw_R rd))) rfl (st_ifeq_p q2) ?_
    refine rh_Ex.blk 1 (s' := ((22, [some (.ref 0), some (.int p0), some (.int p1), some (.int p2), none, none], [.int (-1 : Int32)]), (rh_up h 0 9 (0 : Int32), g, mw_R rd))) rfl ?_
    obtain rfl := Option.some.inj hf
    exact rh_Ex.ret rfl rfl
  · rw [if_neg q2] at hf
    refine rh_Ex.stp (s' := ((14, [some (.ref 0), some (.int p0), some (.int p1), some (.int p2), none, none], []), (rh_up h 0 9 (0 : Int32), g, mw_R rd))) rfl (st_ifeq_n q2) ?_
    refine rh_Ex.blk 1 (s' := ((15, [some (.ref 0), some (.int p0), some (.int p1), some (.int p2), none, none], [.int p2]), (rh_up h 0 9 (0 : Int32), g, mw_R rd))) rfl ?_
    obtain ⟨x3, hx3, hf⟩ := rh_bq hf
    refine rh_Ex.call (j := 186) (rc := none) [.int p2] [] (some (.int x3)) rfl rfl trivial (Nat.le_of_ble_eq_true rfl) (R_Mo_isBell (d + 266) mw_L (mw_R rd) (rh_up h 0 9 (0 : Int32)) g p2 hx3) ?_
    show rh_Ex _ _ _ ((18, [some (.ref 0), some (.int p0), some (.int p1), some (.int p2), none, none], [.int x3]), (rh_up h 0 9 (0 : Int32), g, mw_R rd)) _ _
    by_cases q4 : x3 = 0
    · rw [if_pos q4] at hf
      refine rh_Ex.stp (s' := ((21, [some (.ref 0), some (.int p0), some (.int p1), some (.int p2), none, none], []), (rh_up h 0 9 (0 : Int32), g, mw_R rd))) rfl (st_ifne_p q4) ?_
      refine rh_Ex.blk 1 (s' := ((22, [some (.ref 0), some (.int p0), some (.int p1), some (.int p2), none, none], [.int (-1 : Int32)]), (rh_up h 0 9 (0 : Int32), g, mw_R rd))) rfl ?_
      obtain rfl := Option.some.inj hf
      exact rh_Ex.ret rfl rfl
    · rw [if_neg q4] at hf
      refine rh_Ex.stp (s' := ((23, [some (.ref 0), some (.int p0), some (.int p1), some (.int p2), none, none], []), (rh_up h 0 9 (0 : Int32), g, mw_R rd))) rfl (st_ifne_n q4) ?_
      refine rh_Ex.blk 2 (s' := ((25, [some (.ref 0), some (.int p0), some (.int p1), some (.int p2), none, none], [.ref 0, .ref 0]), (rh_up h 0 9 (0 : Int32), g, mw_R rd))) rfl ?_
      refine rh_Ex.call (j := 209) (rc := some 11) [.ref 0] [.ref 0] (some (.int (f_Mo_dawn (rh_up h 0 9 (0 : Int32))))) rfl rfl rfl (Nat.le_of_ble_eq_true rfl) (R_Mo_dawn (d + 267) rd (rh_up h 0 9 (0 : Int32)) g  rfl) ?_
      show rh_Ex _ _ _ ((28, [some (.ref 0), some (.int p0), some (.int p1), some (.int p2), none, none], [.int (f_Mo_dawn (rh_up h 0 9 (0 : Int32))), .ref 0]), (rh_up h 0 9 (0 : Int32), g, mw_R rd)) _ _
      refine rh_Ex.blk 2 (s' := ((30, [some (.ref 0), some (.int p0), some (.int p1), some (.int p2), none, none], [.int ((f_Mo_dawn (rh_up h 0 9 (0 : Int32))) + p2), .ref 0]), (rh_up h 0 9 (0 : Int32), g, mw_R rd))) rfl ?_
      obtain ⟨x5, hx5, hf⟩ := rh_bq hf
      refine rh_Ex.call (j := 208) (rc := some 11) [.ref 0, .int ((f_Mo_dawn (rh_up h 0 9 (0 : Int32))) + p2)] [] none rfl rfl rfl (Nat.le_of_ble_eq_true rfl) (R_Mo_findSets d rd (rh_up h 0 9 (0 : Int32)) g ((f_Mo_dawn (rh_up h 0 9 (0 : Int32))) + p2) hx5) ?_
      show rh_Ex _ _ _ ((33, [some (.ref 0), some (.int p0), some (.int p1), some (.int p2), none, none], []), (x5.1, g, mw_R x5.2)) _ _
      refine rh_Ex.blk 4 (s' := ((39, [some (.ref 0), some (.int p0), some (.int p1), some (.int p2), some (.int (-1 : Int32)), some (.int (0 : Int32))], []), (x5.1, g, mw_R x5.2))) rfl ?_
      obtain ⟨r14, hr14, hf⟩ := rh_bq hf
      refine rh_Ex.fgt [some (.ref 0), some (.int p0), some (.int p1), none, some (.int (-1 : Int32)), some (.int (0 : Int32))] ⟨rfl, rfl, rfl, rfl, rfl, trivial⟩ ?_
      refine rh_Ex.loop _ _ _ (lb_Mo_makeup_39 d p0 p1 x5.1 x5.2  g _ _) rh_N _ r14 hr14 ?_
      refine rh_Ex.blk 2 (s' := ((110, [some (.ref 0), none, none, none, some (.int r14), none], [.int (-1 : Int32), .int r14]), (x5.1, g, mw_R x5.2))) rfl ?_
      by_cases q15 : r14 = (-1 : Int32)
      · rw [if_pos q15] at hf
        refine rh_Ex.stp (s' := ((113, [some (.ref 0), none, none, none, some (.int r14), none], []), (x5.1, g, mw_R x5.2))) rfl (st_icne_p q15) ?_
        refine rh_Ex.blk 1 (s' := ((115, [some (.ref 0), none, none, none, some (.int r14), none], [.int (-2 : Int32)]), (x5.1, g, mw_R x5.2))) rfl ?_
        obtain rfl := Option.some.inj hf
        exact rh_Ex.ret rfl rfl
      · rw [if_neg q15] at hf
        refine rh_Ex.stp (s' := ((116, [some (.ref 0), none, none, none, some (.int r14), none], []), (x5.1, g, mw_R x5.2))) rfl (st_icne_n q15) ?_
        refine rh_Ex.blk 5 (s' := ((124, [some (.ref 0), none, none, none, some (.int r14), none], [.int r14, .ref 0]), (rh_up x5.1 0 8 (0 : Int32), g, mw_R x5.2))) rfl ?_
        obtain ⟨x16, hx16, hf⟩ := rh_bq hf
        refine rh_Ex.call (j := 182) (rc := some 11) [.ref 0, .int r14] [] none rfl rfl rfl (Nat.le_of_ble_eq_true rfl) (R_Mo_tell (d + 267) x5.2 (rh_up x5.1 0 8 (0 : Int32)) g r14 hx16) ?_
        show rh_Ex _ _ _ ((127, [some (.ref 0), none, none, none, some (.int r14), none], []), (x16, g, mw_R x5.2)) _ _
        refine rh_Ex.blk 1 (s' := ((129, [some (.ref 0), none, none, none, some (.int r14), none], [.int r14]), (x16, g, mw_R x5.2))) rfl ?_
        refine rh_Ex.call (j := 298) (rc := none) [.int r14] [] (some (.int (f_In_bitCount r14))) rfl rfl trivial (Nat.le_of_ble_eq_true rfl) (R_In_bitCount (d + 267) mw_L (mw_R x5.2) x16 g r14 rfl) ?_
        show rh_Ex _ _ _ ((132, [some (.ref 0), none, none, none, some (.int r14), none], [.int (f_In_bitCount r14)]), (x16, g, mw_R x5.2)) _ _
        obtain rfl := Option.some.inj hf
        exact rh_Ex.ret rfl rfl
