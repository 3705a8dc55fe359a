def b_Ri_canEnd_2 (u1 : Int32) (h : Nat → Nat → Int32) (g : Nat → Nat → Int64) : (Int32) → Option ((Int32) ⊕ ((Unit) ⊕ (Int32))) := fun s2 =>
  if (h 32 2) ≤ s2 then
    some (.inr (.inl ()))
  else
    (f_Ri_isReached g u1 s2).bind (fun x3 =>
      if x3 = 0 then
        some (.inl (s2 + (1 : Int32)))
      else
        (f_Ri_carries h ((h 32 2) &&& (s2 ^^^ (-1 : Int32)))).bind (fun x5 =>
          if x5 = 0 then
            some (.inl (s2 + (1 : Int32)))
          else
            some (.inr (.inr (1 : Int32)))
        )
    )
def f_Ri_canEnd (h : Nat → Nat → Int32) (g : Nat → Nat → Int64) (p0 : Int32) : Option (Int32) :=
  (rh_loop (b_Ri_canEnd_2 p0 h g) rh_N (0 : Int32)).bind (fun r7 => match r7 with
    | .inl e8 =>
      some ((0 : Int32))
    | .inr t9 => some t9)
set_option maxRecDepth 20000 in
set_option maxHeartbeats 4000000 in
theorem lb_Ri_canEnd_2 (d : Nat) (xx : rh_L) (sv : Option Nat) (u1 : Int32) (h : Nat → Nat → Int32) (g : Nat → Nat → Int64) (v9 : Option Value) (h9 : rh_H) : ∀ s2 x9, b_Ri_canEnd_2 u1 h g s2 = some x9 → Sum.elim (fun s2 => rh_Ex (rh_M rh_PT (cw_L ++ xx) (d + 1)) (cw_L ++ xx) pg_X6_canEnd ((2, [some (.ref 32), some (.int u1), some (.int s2)], []), (h, g, cw_R sv)) v9 h9) (Sum.elim (fun e9 => rh_Ex (rh_M rh_PT (cw_L ++ xx) (d + 1)) (cw_L ++ xx) pg_X6_canEnd ((42, [none, none, none], []), (h, g, cw_R sv)) v9 h9) (fun t9 => v9 = (some (.int t9)) ∧ h9 = (h, g, cw_R sv))) x9 → rh_Ex (rh_M rh_PT (cw_L ++ xx) (d + 1)) (cw_L ++ xx) pg_X6_canEnd ((2, [some (.ref 32), some (.int u1), some (.int s2)], []), (h, g, cw_R sv)) v9 h9 := by
  intro s2 x9 hf hk
  unfold b_Ri_canEnd_2 at hf
  refine rh_Ex.blk 3 (s' := ((7, [some (.ref 32), some (.int u1), some (.int s2)], [.int (h 32 2), .int s2]), (h, g, cw_R sv))) rfl ?_
  by_cases q2 : (h 32 2) ≤ s2
  · rw [if_pos q2] at hf
    refine rh_Ex.stp (s' := ((42, [some (.ref 32), some (.int u1), some (.int s2)], []), (h, g, cw_R sv))) rfl (st_icge_p q2) ?_
    obtain rfl := Option.some.inj hf
    refine rh_Ex.fgt [none, none, none] trivial ?_
    exact hk
  · rw [if_neg q2] at hf
    refine rh_Ex.stp (s' := ((10, [some (.ref 32), some (.int u1), some (.int s2)], []), (h, g, cw_R sv))) rfl (st_icge_n q2) ?_
    refine rh_Ex.blk 3 (s' := ((13, [some (.ref 32), some (.int u1), some (.int s2)], [.int s2, .int u1, .ref 32]), (h, g, cw_R sv))) rfl ?_
    obtain ⟨x3, hx3, hf⟩ := rh_bq hf
    refine rh_Ex.call (j := 57) (rc := some 5) [.ref 32, .int u1, .int s2] [] (some (.int x3)) rfl rfl rfl (Nat.le_of_ble_eq_true rfl) (R_Ri_isReached d xx sv h g u1 s2 hx3) ?_
    show rh_Ex _ _ _ ((16, [some (.ref 32), some (.int u1), some (.int s2)], [.int x3]), (h, g, cw_R sv)) _ _
    by_cases q4 : x3 = 0
    · rw [if_pos q4] at hf
      refine rh_Ex.stp (s' := ((36, [some (.ref 32), some (.int u1), some (.int s2)], []), (h, g, cw_R sv))) rfl (st_ifeq_p q4) ?_
      refine rh_Ex.blk 2 (s' := ((2, [some (.ref 32), some (.int u1), some (.int (s2 + (1 : Int32)))], []), (h, g, cw_R sv))) rfl ?_
      obtain rfl := Option.some.inj hf
      refine rh_Ex.fgt [some (.ref 32), some (.int u1), some (.int (s2 + (1 : Int32)))] ⟨rfl, rfl, rfl, trivial⟩ ?_
      exact hk
    · rw [if_neg q4] at hf
      refine rh_Ex.stp (s' := ((19, [some (.ref 32), some (.int u1), some (.int s2)], []), (h, g, cw_R sv))) rfl (st_ifeq_n q4) ?_
      refine rh_Ex.blk 7 (s' := ((28, [some (.ref 32), some (.int u1), some (.int s2)], [.int ((h 32 2) &&& (s2 ^^^ (-1 : Int32))), .ref 32]), (h, g, cw_R sv))) rfl ?_
      obtain ⟨x5, hx5, hf⟩ := rh_bq hf
      refine rh_Ex.call (j := 60) (rc := some 5) [.ref 32, .int ((h 32 2) &&& (s2 ^^^ (-1 : Int32)))] [] (some (.int x5)) rfl rfl rfl (Nat.le_of_ble_eq_true rfl) (R_Ri_carries d xx sv h g ((h 32 2) &&& (s2 ^^^ (-1 : Int32))) hx5) ?_
      show rh_Ex _ _ _ ((31, [some (.ref 32), some (.int u1), some (.int s2)], [.int x5]), (h, g, cw_R sv)) _ _
      by_cases q6 : x5 = 0
      · rw [if_pos q6] at hf
        refine rh_Ex.stp (s' := ((36, [some (.ref 32), some (.int u1), some (.int s2)], []), (h, g, cw_R sv))) rfl (st_ifeq_p q6) ?_
        refine rh_Ex.blk 2 (s' := ((2, [some (.ref 32), some (.int u1), some (.int (s2 + (1 : Int32)))], []), (h, g, cw_R sv))) rfl ?_
        obtain rfl := Option.some.inj hf
        refine rh_Ex.fgt [some (.ref 32), some (.int u1), some (.int (s2 + (1 : Int32)))] ⟨rfl, rfl, rfl, trivial⟩ ?_
        exact hk
      · rw [if_neg q6] at hf
        refine rh_Ex.stp (s' := ((34, [some (.ref 32), some (.int u1), some (.int s2)], []), (h, g, cw_R sv))) rfl (st_ifeq_n q6) ?_
        refine rh_Ex.blk 1 (s' := ((35, [some (.ref 32), some (.int u1), some (.int s2)], [.int (1 : Int32)]), (h, g, cw_R sv))) rfl ?_
        obtain rfl := Option.some.inj hf
        obtain ⟨rfl, rfl⟩ := hk
        exact rh_Ex.ret rfl ⟨rfl, Or.inr rfl⟩
set_option maxRecDepth 20000 in
set_option maxHeartbeats 4000000 in
theorem R_Ri_canEnd (d : Nat) (xx : rh_L) (sv : Option Nat) (h : Nat → Nat → Int32) (g : Nat → Nat → Int64) (p0 : Int32) {z9 : Int32} (hf : f_Ri_canEnd h g p0 = some z9) : rh_M rh_PT (cw_L ++ xx) (d + 2) 63 [.ref 32, .int p0] (h, g, cw_R sv) (some (.int z9)) (h, g, cw_R sv) := by
  unfold f_Ri_canEnd at hf
  refine rh_go pt_63 (Nat.le_of_ble_eq_true rfl) (lv := [some (.ref 32), some (.int p0), none]) rfl ?_
  refine rh_Ex.blk 2 (s' := ((2, [some (.ref 32), some (.int p0), some (.int (0 : Int32))], []), (h, g, cw_R sv))) rfl ?_
  obtain ⟨r7, hr7, hf⟩ := rh_bq hf
  refine rh_Ex.fgt [some (.ref 32), some (.int p0), some (.int (0 : Int32))] ⟨rfl, rfl, rfl, trivial⟩ ?_
  refine rh_Ex.loop _ _ _ (lb_Ri_canEnd_2 d xx sv p0 h g   _ _) rh_N _ r7 hr7 ?_
  rcases r7 with e8 | t9
  · dsimp only at hf
    refine rh_Ex.blk 1 (s' := ((43, [none, none, none], [.int (0 : Int32)]), (h, g, cw_R sv))) rfl ?_
    obtain rfl := Option.some.inj hf
    exact rh_Ex.ret rfl ⟨rfl, Or.inl rfl⟩
  · dsimp only at hf
    obtain rfl := Option.some.inj hf
    exact ⟨rfl, rfl⟩
def b_Ri_widen_29 (u1 : Int32) (u2 : Int32) (u3 : Int32) (h : Nat → Nat → Int32) : (Int32 × (Nat → Nat → Int64)) → Option ((Int32 × (Nat → Nat → Int64)) ⊕ ((Nat → Nat → Int64))) := fun s29 =>
  if s29.1 ≤ 0 then
    some (.inr s29.2)
  else
    (f_Ri_carries h s29.1).bind (fun x7 =>
      if x7 = 0 then
        some (.inl ((s29.1 - (1 : Int32)) &&& u3, s29.2))
      else
        (f_Ri_reach s29.2 (u1 + (1 : Int32)) (u2 ^^^ s29.1)).bind (fun x9 =>
          some (.inl ((s29.1 - (1 : Int32)) &&& u3, x9))
        )
    )
def b_Ri_widen_2 (u1 : Int32) (h : Nat → Nat → Int32) : (Int32 × (Nat → Nat → Int64)) → Option ((Int32 × (Nat → Nat → Int64)) ⊕ ((Nat → Nat → Int64))) := fun s2 =>
  if (h 32 2) < s2.1 then
    some (.inr s2.2)
  else
    (f_Ri_isReached s2.2 u1 s2.1).bind (fun x3 =>
      if x3 = 0 then
        some (.inl (s2.1 + (1 : Int32), s2.2))
      else
        (rh_loop (b_Ri_widen_29 u1 s2.1 (f_Ri_bankOf h u1 s2.1) h) rh_N ((f_Ri_bankOf h u1 s2.1), s2.2)).bind (fun r10 =>
          some (.inl (s2.1 + (1 : Int32), r10))
        )
    )
def f_Ri_widen (h : Nat → Nat → Int32) (g : Nat → Nat → Int64) (p0 : Int32) : Option ((Nat → Nat → Int64)) :=
  (rh_loop (b_Ri_widen_2 p0 h) rh_N ((0 : Int32), g)).bind (fun r11 =>
    some (r11)
  )
set_option maxRecDepth 20000 in
set_option maxHeartbeats 4000000 in
theorem lb_Ri_widen_29 (d : Nat) (xx : rh_L) (sv : Option Nat) (u1 : Int32) (u2 : Int32) (u3 : Int32) (h : Nat → Nat → Int32) (v9 : Option Value) (h9 : rh_H) : ∀ s29 x9, b_Ri_widen_29 u1 u2 u3 h s29 = some x9 → Sum.elim (fun s29 => rh_Ex (rh_M rh_PT (cw_L ++ xx) (d + 1)) (cw_L ++ xx) pg_X6_widen ((29, [some (.ref 32), some (.int u1), some (.int u2), some (.int u3), some (.int s29.1)], []), (h, s29.2, cw_R sv)) v9 h9) (fun e9 => rh_Ex (rh_M rh_PT (cw_L ++ xx) (d + 1)) (cw_L ++ xx) pg_X6_widen ((65, [some (.ref 32), some (.int u1), some (.int u2), none, none], []), (h, e9, cw_R sv)) v9 h9) x9 → rh_Ex (rh_M rh_PT (cw_L ++ xx) (d + 1)) (cw_L ++ xx) pg_X6_widen ((29, [some (.ref 32), some (.int u1), some (.int u2), some (.int u3), some (.int s29.1)], []), (h, s29.2, cw_R sv)) v9 h9 := by
  intro s29 x9 hf hk
  unfold b_Ri_widen_29 at hf
  refine rh_Ex.blk 1 (s' := ((31, [some (.ref 32), some (.int u1), some (.int u2), some (.int u3), some (.int s29.1)], [.int s29.1]), (h, s29.2, cw_R sv))) rfl ?_
  by_cases q6 : s29.1 ≤ 0
  · rw [if_pos q6] at hf
    refine rh_Ex.stp (s' := ((65, [some (.ref 32), some (.int u1), some (.int u2), some (.int u3), some (.int s29.1)], []), (h, s29.2, cw_R sv))) rfl (st_ifle_p q6) ?_
    obtain rfl := Option.some.inj hf
    refine rh_Ex.fgt [some (.ref 32), some (.int u1), some (.int u2), none, none] ⟨rfl, rfl, rfl, trivial⟩ ?_
    exact hk
  · rw [if_neg q6] at hf
    refine rh_Ex.stp (s' := ((34, [some (.ref 32), some (.int u1), some (.int u2), some (.int u3), some (.int s29.1)], []), (h, s29.2, cw_R sv))) rfl (st_ifle_n q6) ?_
    refine rh_Ex.blk 2 (s' := ((37, [some (.ref 32), some (.int u1), some (.int u2), some (.int u3), some (.int s29.1)], [.int s29.1, .ref 32]), (h, s29.2, cw_R sv))) rfl ?_
    obtain ⟨x7, hx7, hf⟩ := rh_bq hf
    refine rh_Ex.call (j := 60) (rc := some 5) [.ref 32, .int s29.1] [] (some (.int x7)) rfl rfl rfl (Nat.le_of_ble_eq_true rfl) (R_Ri_carries d xx sv h s29.2 s29.1 hx7) ?_
    show rh_Ex _ _ _ ((40, [some (.ref 32), some (.int u1), some (.int u2), some (.int u3), some (.int s29.1)], [.int x7]), (h, s29.2, cw_R sv)) _ _
    by_cases q8 : x7 = 0
    · rw [if_pos q8] at hf
      refine rh_Ex.stp (s' := ((54, [some (.ref 32), some (.int u1), some (.int u2), some (.int u3), some (.int s29.1)], []), (h, s29.2, cw_R sv))) rfl (st_ifeq_p q8) ?_
      refine rh_Ex.blk 7 (s' := ((29, [some (.ref 32), some (.int u1), some (.int u2), some (.int u3), some (.int ((s29.1 - (1 : Int32)) &&& u3))], []), (h, s29.2, cw_R sv))) rfl ?_
      obtain rfl := Option.some.inj hf
      refine rh_Ex.fgt [some (.ref 32), some (.int u1), some (.int u2), some (.int u3), some (.int ((s29.1 - (1 : Int32)) &&& u3))] ⟨rfl, rfl, rfl, rfl, rfl, trivial⟩ ?_
      exact hk
    · rw [if_neg q8] at hf
      refine rh_Ex.stp (s' := ((43, [some (.ref 32), some (.int u1), some (.int u2), some (.int u3), some (.int s29.1)], []), (h, s29.2, cw_R sv))) rfl (st_ifeq_n q8) ?_
      refine rh_Ex.blk 7 (s' := ((51, [some (.ref 32), some (.int u1), some (.int u2), some (.int u3), some (.int s29.1)], [.int (u2 ^^^ s29.1), .int (u1 + (1 : Int32)), .ref 32]), (h, s29.2, cw_R sv))) rfl ?_
      obtain ⟨x9, hx9, hf⟩ := rh_bq hf
      refine rh_Ex.call (j := 58) (rc := some 5) [.ref 32, .int (u1 + (1 : Int32)), .int (u2 ^^^ s29.1)] [] none rfl rfl rfl (Nat.le_of_ble_eq_true rfl) (R_Ri_reach d xx sv h s29.2 (u1 + (1 : Int32)) (u2 ^^^ s29.1) hx9) ?_
      show rh_Ex _ _ _ ((54, [some (.ref 32), some (.int u1), some (.int u2), some (.int u3), some (.int s29.1)], []), (h, x9, cw_R sv)) _ _
      refine rh_Ex.blk 7 (s' := ((29, [some (.ref 32), some (.int u1), some (.int u2), some (.int u3), some (.int ((s29.1 - (1 : Int32)) &&& u3))], []), (h, x9, cw_R sv))) rfl ?_
      obtain rfl := Option.some.inj hf
      refine rh_Ex.fgt [some (.ref 32), some (.int u1), some (.int u2), some (.int u3), some (.int ((s29.1 - (1 : Int32)) &&& u3))] ⟨rfl, rfl, rfl, rfl, rfl, trivial⟩ ?_
      exact hk
set_option maxRecDepth 20000 in
set_option maxHeartbeats 4000000 in
theorem lb_Ri_widen_2 (d : Nat) (xx : rh_L) (sv : Option Nat) (u1 : Int32) (h : Nat → Nat → Int32) (v9 : Option Value) (h9 : rh_H) : ∀ s2 x9, b_Ri_widen_2 u1 h s2 = some x9 → Sum.elim (fun s2 => rh_Ex (rh_M rh_PT (cw_L ++ xx) (d + 1)) (cw_L ++ xx) pg_X6_widen ((2, [some (.ref 32), some (.int u1), some (.int s2.1), none, none], []), (h, s2.2, cw_R sv)) v9 h9) (fun e9 => rh_Ex (rh_M rh_PT (cw_L ++ xx) (d + 1)) (cw_L ++ xx) pg_X6_widen ((71, [none, none, none, none, none], []), (h, e9, cw_R sv)) v9 h9) x9 → rh_Ex (rh_M rh_PT (cw_L ++ xx) (d + 1)) (cw_L ++ xx) pg_X6_widen ((2, [some (.ref 32), some (.int u1), some (.int s2.1), none, none], []), (h, s2.2, cw_R sv)) v9 h9 := by
  intro s2 x9 hf hk
  unfold b_Ri_widen_2 at hf
  refine rh_Ex.blk 3 (s' := ((7, [some (.ref 32), some (.int u1), some (.int s2.1), none, none], [.int (h 32 2), .int s2.1]), (h, s2.2, cw_R sv))) rfl ?_
  by_cases q2 : (h 32 2) < s2.1
  · rw [if_pos q2] at hf
    refine rh_Ex.stp (s' := ((71, [some (.ref 32), some (.int u1), some (.int s2.1), none, none], []), (h, s2.2, cw_R sv))) rfl (st_icgt_p q2) ?_
    obtain rfl := Option.some.inj hf
    refine rh_Ex.fgt [none, none, none, none, none] trivial ?_
    exact hk
  · rw [if_neg q2] at hf
    refine rh_Ex.stp (s' := ((10, [some (.ref 32), some (.int u1), some (.int s2.1), none, none], []), (h, s2.2, cw_R sv))) rfl (st_icgt_n q2) ?_
    refine rh_Ex.blk 3 (s' := ((13, [some (.ref 32), some (.int u1), some (.int s2.1), none, none], [.int s2.1, .int u1, .ref 32]), (h, s2.2, cw_R sv))) rfl ?_
    obtain ⟨x3, hx3, hf⟩ := rh_bq hf
    refine rh_Ex.call (j := 57) (rc := some 5) [.ref 32, .int u1, .int s2.1] [] (some (.int x3)) rfl rfl rfl (Nat.le_of_ble_eq_true rfl) (R_Ri_isReached d xx sv h s2.2 u1 s2.1 hx3) ?_
    show rh_Ex _ _ _ ((16, [some (.ref 32), some (.int u1), some (.int s2.1), none, none], [.int x3]), (h, s2.2, cw_R sv)) _ _
    by_cases q4 : x3 = 0
    · rw [if_pos q4] at hf
      refine rh_Ex.stp (s' := ((65, [some (.ref 32), some (.int u1), some (.int s2.1), none, none], []), (h, s2.2, cw_R sv))) rfl (st_ifeq_p q4) ?_
      refine rh_Ex.blk 2 (s' := ((2, [some (.ref 32), some (.int u1), some (.int (s2.1 + (1 : Int32))), none, none], []), (h, s2.2, cw_R sv))) rfl ?_
      obtain rfl := Option.some.inj hf
      refine rh_Ex.fgt [some (.ref 32), some (.int u1), some (.int (s2.1 + (1 : Int32))), none, none] ⟨rfl, rfl, rfl, trivial⟩ ?_
      exact hk
    · rw [if_neg q4] at hf
      refine rh_Ex.stp (s' := ((19, [some (.ref 32), some (.int u1), some (.int s2.1), none, none], []), (h, s2.2, cw_R sv))) rfl (st_ifeq_n q4) ?_
      refine rh_Ex.blk 3 (s' := ((22, [some (.ref 32), some (.int u1), some (.int s2.1), none, none], [.int s2.1, .int u1, .ref 32]), (h, s2.2, cw_R sv))) rfl ?_
      refine rh_Ex.call (j := 61) (rc := some 5) [.ref 32, .int u1, .int s2.1] [] (some (.int (f_Ri_bankOf h u1 s2.1))) rfl rfl rfl (Nat.le_of_ble_eq_true rfl) (R_Ri_bankOf d xx sv h s2.2 u1 s2.1 rfl) ?_
      show rh_Ex _ _ _ ((25, [some (.ref 32), some (.int u1), some (.int s2.1), none, none], [.int (f_Ri_bankOf h u1 s2.1)]), (h, s2.2, cw_R sv)) _ _
      refine rh_Ex.blk 3 (s' := ((29, [some (.ref 32), some (.int u1), some (.int s2.1), some (.int (f_Ri_bankOf h u1 s2.1)), some (.int (f_Ri_bankOf h u1 s2.1))], []), (h, s2.2, cw_R sv))) rfl ?_
      obtain ⟨r10, hr10, hf⟩ := rh_bq hf
      refine rh_Ex.fgt [some (.ref 32), some (.int u1), some (.int s2.1), some (.int (f_Ri_bankOf h u1 s2.1)), some (.int (f_Ri_bankOf h u1 s2.1))] ⟨rfl, rfl, rfl, rfl, rfl, trivial⟩ ?_
      refine rh_Ex.loop _ _ _ (lb_Ri_widen_29 d xx sv u1 s2.1 (f_Ri_bankOf h u1 s2.1) h   _ _) rh_N _ r10 hr10 ?_
      refine rh_Ex.blk 2 (s' := ((2, [some (.ref 32), some (.int u1), some (.int (s2.1 + (1 : Int32))), none, none], []), (h, r10, cw_R sv))) rfl ?_
      obtain rfl := Option.some.inj hf
      refine rh_Ex.fgt [some (.ref 32), some (.int u1), some (.int (s2.1 + (1 : Int32))), none, none] ⟨rfl, rfl, rfl, trivial⟩ ?_
      exact hk
set_option maxRecDepth 20000 in
set_option maxHeartbeats 4000000 in
theorem R_Ri_widen (d : Nat) (xx : rh_L) (sv : Option Nat) (h : Nat → Nat → Int32) (g : Nat → Nat → Int64) (p0 : Int32) {z9 : (Nat → Nat → Int64)} (hf : f_Ri_widen h g p0 = some z9) : rh_M rh_PT (cw_L ++ xx) (d + 2) 64 [.ref 32, .int p0] (h, g, cw_R sv) none (h, z9, cw_R sv) := by
  unfold f_Ri_widen at hf
  refine rh_go pt_64 (Nat.le_of_ble_eq_true rfl) (lv := [some (.ref 32), some (.int p0), none, none, none]) rfl ?_
  refine rh_Ex.blk 2 (s' := ((2, [some (.ref 32), some (.int p0), some (.int (0 : Int32)), none, none], []), (h, g, cw_R sv))) rfl ?_
  obtain ⟨r11, hr11, hf⟩ := rh_bq hf
  refine rh_Ex.fgt [some (.ref 32), some (.int p0), some (.int (0 : Int32)), none, none] ⟨rfl, rfl, rfl, trivial⟩ ?_
  refine rh_Ex.loop _ _ _ (lb_Ri_widen_2 d xx sv p0 h   _ _) rh_N _ r11 hr11 ?_
  obtain rfl := Option.some.inj hf
  exact rh_Ex.ret rfl trivial
def b_Ri_fewest_16 (u1 : Int32) : (Int32 × (Nat → Nat → Int32) × (Nat → Nat → Int64)) → Option ((Int32 × (Nat → Nat → Int32) × (Nat → Nat → Int64)) ⊕ (((Nat → Nat → Int32) × (Nat → Nat → Int64)) ⊕ (Int32 × (Nat → Nat → Int32) × (Nat → Nat → Int64)))) := fun s16 =>
  if u1 ≤ s16.1 then
    some (.inr (.inl (s16.2.1, s16.2.2)))
  else
    (f_Cr_sumAll s16.2.1 ((s16.2.1 32 4) + s16.1)).bind (fun x5 =>
      if (s16.1 - s16.1 / (2 : Int32) * (2 : Int32)) = 0 then
        (f_Ri_canEnd x5 s16.2.2 s16.1).bind (fun x7 =>
          if x7 = 0 then
            if u1 ≤ (s16.1 + (1 : Int32)) then
              some (.inl (s16.1 + (1 : Int32), x5, s16.2.2))
            else
              (f_Ri_widen x5 s16.2.2 s16.1).bind (fun x10 =>
                some (.inl (s16.1 + (1 : Int32), x5, x10))
              )
          else
            (f_Ri_reach s16.2.2 (s16.1 + (1 : Int32)) (x5 32 2)).bind (fun x11 =>
              some (.inr (.inr (s16.1 + (1 : Int32), x5, x11)))
            )
        )
      else
        if u1 ≤ (s16.1 + (1 : Int32)) then
          some (.inl (s16.1 + (1 : Int32), x5, s16.2.2))
        else
          (f_Ri_widen x5 s16.2.2 s16.1).bind (fun x13 =>
            some (.inl (s16.1 + (1 : Int32), x5, x13))
          )
    )
def f_Ri_fewest (h : Nat → Nat → Int32) (g : Nat → Nat → Int64) (p0 : Int32) : Option (Int32 × (Nat → Nat → Int32) × (Nat → Nat → Int64)) :=
  (f_Ar_fillJ_33 g (0 : Int64)).bind (fun x1 =>
    (f_Ri_reach x1 (0 : Int32) (0 : Int32)).bind (fun x2 =>
      (rh_loop (b_Ri_fewest_16 p0) rh_N ((0 : Int32), h, x2)).bind (fun r14 => match r14 with
        | .inl e15 =>
          some (((-2 : Int32), e15.1, e15.2))
        | .inr t16 => some t16)
    )
  )
set_option maxRecDepth 20000 in
set_option maxHeartbeats 4000000 in
theorem lb_Ri_fewest_16 (d : Nat) (xx : rh_L) (sv : Option Nat) (u1 : Int32) (v9 : Option Value) (h9 : rh_H) : ∀ s16 x9, b_Ri_fewest_16 u1 s16 = some x9 → Sum.elim (fun s16 => rh_Ex (rh_M rh_PT (cw_L ++ xx) (d + 4)) (cw_L ++ xx) pg_X6_fewest ((16, [some (.ref 32), some (.int u1), some (.int s16.1)], []), (s16.2.1, s16.2.2, cw_R sv)) v9 h9) (Sum.elim (fun e9 => rh_Ex (rh_M rh_PT (cw_L ++ xx) (d + 4)) (cw_L ++ xx) pg_X6_fewest ((81, [none, none, none], []), (e9.1, e9.2, cw_R sv)) v9 h9) (fun t9 => v9 = (some (.int t9.1)) ∧ h9 = (t9.2.1, t9.2.2, cw_R sv))) x9 → rh_Ex (rh_M rh_PT (cw_L ++ xx) (d + 4)) (cw_L ++ xx) pg_X6_fewest ((16, [some (.ref 32), some (.int u1), some (.int s16.1)], []), (s16.2.1, s16.2.2, cw_R sv)) v9 h9 := by
  intro s16 x9 hf hk
  unfold b_Ri_fewest_16 at hf
  refine rh_Ex.blk 2 (s' := ((18, [some (.ref 32), some (.int u1), some (.int s16.1)], [.int u1, .int s16.1]), (s16.2.1, s16.2.2, cw_R sv))) rfl ?_
  by_cases q4 : u1 ≤ s16.1
  · rw [if_pos q4] at hf
    refine rh_Ex.stp (s' := ((81, [some (.ref 32), some (.int u1), some (.int s16.1)], []), (s16.2.1, s16.2.2, cw_R sv))) rfl (st_icge_p q4) ?_
    obtain rfl := Option.some.inj hf
    refine rh_Ex.fgt [none, none, none] trivial ?_
    exact hk
  · rw [if_neg q4] at hf
    refine rh_Ex.stp (s' := ((21, [some (.ref 32), some (.int u1), some (.int s16.1)], []), (s16.2.1, s16.2.2, cw_R sv))) rfl (st_icge_n q4) ?_
    refine rh_Ex.blk 6 (s' := ((31, [some (.ref 32), some (.int u1), some (.int s16.1)], [.int ((s16.2.1 32 4) + s16.1), .ref 4]), (s16.2.1, s16.2.2, cw_R sv))) rfl ?_
    obtain ⟨x5, hx5, hf⟩ := rh_bq hf
    refine rh_Ex.call (j := 8) (rc := some 0) [.ref 4, .int ((s16.2.1 32 4) + s16.1)] [] none rfl rfl rfl (Nat.le_of_ble_eq_true rfl) (R_Cr_sumAll d xx sv s16.2.1 s16.2.2 ((s16.2.1 32 4) + s16.1) hx5) ?_
    show rh_Ex _ _ _ ((34, [some (.ref 32), some (.int u1), some (.int s16.1)], []), (x5, s16.2.2, cw_R sv)) _ _
    refine rh_Ex.blk 2 (s' := ((36, [some (.ref 32), some (.int u1), some (.int s16.1)], [.int (2 : Int32), .int s16.1]), (x5, s16.2.2, cw_R sv))) rfl ?_
    refine rh_Ex.stp (s' := ((37, [some (.ref 32), some (.int u1), some (.int s16.1)], [.int (s16.1 - s16.1 / (2 : Int32) * (2 : Int32))]), (x5, s16.2.2, cw_R sv))) rfl (st_irem (by decide)) ?_
    by_cases q6 : (s16.1 - s16.1 / (2 : Int32) * (2 : Int32)) = 0
    · rw [if_pos q6] at hf
      refine rh_Ex.stp (s' := ((40, [some (.ref 32), some (.int u1), some (.int s16.1)], []), (x5, s16.2.2, cw_R sv))) rfl (st_ifne_p q6) ?_
      refine rh_Ex.blk 2 (s' := ((42, [some (.ref 32), some (.int u1), some (.int s16.1)], [.int s16.1, .ref 32]), (x5, s16.2.2, cw_R sv))) rfl ?_
      obtain ⟨x7, hx7, hf⟩ := rh_bq hf
      refine rh_Ex.call (j := 63) (rc := some 5) [.ref 32, .int s16.1] [] (some (.int x7)) rfl rfl rfl (Nat.le_of_ble_eq_true rfl) (R_Ri_canEnd (d + 2) xx sv x5 s16.2.2 s16.1 hx7) ?_
      show rh_Ex _ _ _ ((45, [some (.ref 32), some (.int u1), some (.int s16.1)], [.int x7]), (x5, s16.2.2, cw_R sv)) _ _
      by_cases q8 : x7 = 0
      · rw [if_pos q8] at hf
        refine rh_Ex.stp (s' := ((63, [some (.ref 32), some (.int u1), some (.int s16.1)], []), (x5, s16.2.2, cw_R sv))) rfl (st_ifeq_p q8) ?_
        refine rh_Ex.blk 4 (s' := ((67, [some (.ref 32), some (.int u1), some (.int s16.1)], [.int u1, .int (s16.1 + (1 : Int32))]), (x5, s16.2.2, cw_R sv))) rfl ?_
        by_cases q9 : u1 ≤ (s16.1 + (1 : Int32))
        · rw [if_pos q9] at hf
          refine rh_Ex.stp (s' := ((75, [some (.ref 32), some (.int u1), some (.int s16.1)], []), (x5, s16.2.2, cw_R sv))) rfl (st_icge_p q9) ?_
          refine rh_Ex.blk 2 (s' := ((16, [some (.ref 32), some (.int u1), some (.int (s16.1 + (1 : Int32)))], []), (x5, s16.2.2, cw_R sv))) rfl ?_
          obtain rfl := Option.some.inj hf
          refine rh_Ex.fgt [some (.ref 32), some (.int u1), some (.int (s16.1 + (1 : Int32)))] ⟨rfl, rfl, rfl, trivial⟩ ?_
          exact hk
        · rw [if_neg q9] at hf
          refine rh_Ex.stp (s' := ((70, [some (.ref 32), some (.int u1), some (.int s16.1)], []), (x5, s16.2.2, cw_R sv))) rfl (st_icge_n q9) ?_
          refine rh_Ex.blk 2 (s' := ((72, [some (.ref 32), some (.int u1), some (.int s16.1)], [.int s16.1, .ref 32]), (x5, s16.2.2, cw_R sv))) rfl ?_
          obtain ⟨x10, hx10, hf⟩ := rh_bq hf
          refine rh_Ex.call (j := 64) (rc := some 5) [.ref 32, .int s16.1] [] none rfl rfl rfl (Nat.le_of_ble_eq_true rfl) (R_Ri_widen (d + 2) xx sv x5 s16.2.2 s16.1 hx10) ?_
          show rh_Ex _ _ _ ((75, [some (.ref 32), some (.int u1), some (.int s16.1)], []), (x5, x10, cw_R sv)) _ _
          refine rh_Ex.blk 2 (s' := ((16, [some (.ref 32), some (.int u1), some (.int (s16.1 + (1 : Int32)))], []), (x5, x10, cw_R sv))) rfl ?_
          obtain rfl := Option.some.inj hf
          refine rh_Ex.fgt [some (.ref 32), some (.int u1), some (.int (s16.1 + (1 : Int32)))] ⟨rfl, rfl, rfl, trivial⟩ ?_
          exact hk
      · rw [if_neg q8] at hf
        refine rh_Ex.stp (s' := ((48, [some (.ref 32), some (.int u1), some (.int s16.1)], []), (x5, s16.2.2, cw_R sv))) rfl (st_ifeq_n q8) ?_
        refine rh_Ex.blk 6 (s' := ((56, [some (.ref 32), some (.int u1), some (.int s16.1)], [.int (x5 32 2), .int (s16.1 + (1 : Int32)), .ref 32]), (x5, s16.2.2, cw_R sv))) rfl ?_
        obtain ⟨x11, hx11, hf⟩ := rh_bq hf
        refine rh_Ex.call (j := 58) (rc := some 5) [.ref 32, .int (s16.1 + (1 : Int32)), .int (x5 32 2)] [] none rfl rfl rfl (Nat.le_of_ble_eq_true rfl) (R_Ri_reach (d + 3) xx sv x5 s16.2.2 (s16.1 + (1 : Int32)) (x5 32 2) hx11) ?_
        show rh_Ex _ _ _ ((59, [some (.ref 32), some (.int u1), some (.int s16.1)], []), (x5, x11, cw_R sv)) _ _
        refine rh_Ex.blk 3 (s' := ((62, [some (.ref 32), some (.int u1), some (.int s16.1)], [.int (s16.1 + (1 : Int32))]), (x5, x11, cw_R sv))) rfl ?_
        obtain rfl := Option.some.inj hf
        obtain ⟨rfl, rfl⟩ := hk
        exact rh_Ex.ret rfl rfl
    · rw [if_neg q6] at hf
      refine rh_Ex.stp (s' := ((63, [some (.ref 32), some (.int u1), some (.int s16.1)], []), (x5, s16.2.2, cw_R sv))) rfl (st_ifne_n q6) ?_
      refine rh_Ex.blk 4 (s' := ((67, [some (.ref 32), some (.int u1), some (.int s16.1)], [.int u1, .int (s16.1 + (1 : Int32))]), (x5, s16.2.2, cw_R sv))) rfl ?_
      by_cases q12 : u1 ≤ (s16.1 + (1 : Int32))
      · rw [if_pos q12] at hf
        refine rh_Ex.stp (s' := ((75, [some (.ref 32), some (.int u1), some (.int s16.1)], []), (x5, s16.2.2, cw_R sv))) rfl (st_icge_p q12) ?_
        refine rh_Ex.blk 2 (s' := ((16, [some (.ref 32), some (.int u1), some (.int (s16.1 + (1 : Int32)))], []), (x5, s16.2.2, cw_R sv))) rfl ?_
        obtain rfl := Option.some.inj hf
        refine rh_Ex.fgt [some (.ref 32), some (.int u1), some (.int (s16.1 + (1 : Int32)))] ⟨rfl, rfl, rfl, trivial⟩ ?_
        exact hk
      · rw [if_neg q12] at hf
        refine rh_Ex.stp (s' := ((70, [some (.ref 32), some (.int u1), some (.int s16.1)], []), (x5, s16.2.2, cw_R sv))) rfl (st_icge_n q12) ?_
        refine rh_Ex.blk 2 (s' := ((72, [some (.ref 32), some (.int u1), some (.int s16.1)], [.int s16.1, .ref 32]), (x5, s16.2.2, cw_R sv))) rfl ?_
        obtain ⟨x13, hx13, hf⟩ := rh_bq hf
        refine rh_Ex.call (j := 64) (rc := some 5) [.ref 32, .int s16.1] [] none rfl rfl rfl (Nat.le_of_ble_eq_true rfl) (R_Ri_widen (d + 2) xx sv x5 s16.2.2 s16.1 hx13) ?_
        show rh_Ex _ _ _ ((75, [some (.ref 32), some (.int u1), some (.int s16.1)], []), (x5, x13, cw_R sv)) _ _
        refine rh_Ex.blk 2 (s' := ((16, [some (.ref 32), some (.int u1), some (.int (s16.1 + (1 : Int32)))], []), (x5, x13, cw_R sv))) rfl ?_
        obtain rfl := Option.some.inj hf
        refine rh_Ex.fgt [some (.ref 32), some (.int u1), some (.int (s16.1 + (1 : Int32)))] ⟨rfl, rfl, rfl, trivial⟩ ?_
        exact hk
set_option maxRecDepth 20000 in
set_option maxHeartbeats 4000000 in
theorem R_Ri_fewest (d : Nat) (xx : rh_L) (sv : Option Nat) (h : Nat → Nat → Int32) (g : Nat → Nat → Int64) (p0 : Int32) {z9 : Int32 × (Nat → Nat → Int32) × (Nat → Nat → Int64)} (hf : f_Ri_fewest h g p0 = some z9) : rh_M rh_PT (cw_L ++ xx) (d + 5) 62 [.ref 32, .int p0] (h, g, cw_R sv) (some (.int z9.1)) (z9.2.1, z9.2.2, cw_R sv) := by
  unfold f_Ri_fewest at hf
  refine rh_go pt_62 (Nat.le_of_ble_eq_true rfl) (lv := [some (.ref 32), some (.int p0), none]) rfl ?_
  refine rh_Ex.blk 3 (s' := ((5, [some (.ref 32), some (.int p0), none], [.long (0 : Int64), .ref 33]), (h, g, cw_R sv))) rfl ?_
  obtain ⟨x1, hx1, hf⟩ := rh_bq hf
  refine rh_Ex.call (j := 300) (rc := none) [.ref 33, .long (0 : Int64)] [] none rfl rfl trivial (Nat.le_of_ble_eq_true rfl) (R_Ar_fillJ_33 (d + 3) xx sv h g (0 : Int64) hx1) ?_
  show rh_Ex _ _ _ ((8, [some (.ref 32), some (.int p0), none], []), (h, x1, cw_R sv)) _ _
  refine rh_Ex.blk 3 (s' := ((11, [some (.ref 32), some (.int p0), none], [.int (0 : Int32), .int (0 : Int32), .ref 32]), (h, x1, cw_R sv))) rfl ?_
  obtain ⟨x2, hx2, hf⟩ := rh_bq hf
  refine rh_Ex.call (j := 58) (rc := some 5) [.ref 32, .int (0 : Int32), .int (0 : Int32)] [] none rfl rfl rfl (Nat.le_of_ble_eq_true rfl) (R_Ri_reach (d + 3) xx sv h x1 (0 : Int32) (0 : Int32) hx2) ?_
  show rh_Ex _ _ _ ((14, [some (.ref 32), some (.int p0), none], []), (h, x2, cw_R sv)) _ _
  refine rh_Ex.blk 2 (s' := ((16, [some (.ref 32), some (.int p0), some (.int (0 : Int32))], []), (h, x2, cw_R sv))) rfl ?_
  obtain ⟨r14, hr14, hf⟩ := rh_bq hf
  refine rh_Ex.fgt [some (.ref 32), some (.int p0), some (.int (0 : Int32))] ⟨rfl, rfl, rfl, trivial⟩ ?_
  refine rh_Ex.loop _ _ _ (lb_Ri_fewest_16 d xx sv p0   _ _) rh_N _ r14 hr14 ?_
  rcases r14 with e15 | t16
  · dsimp only at hf
    refine rh_Ex.blk 1 (s' := ((83, [none, none, none], [.int (-2 : Int32)]), (e15.1, e15.2, cw_R sv))) rfl ?_
    obtain rfl := Option.some.inj hf
    exact rh_Ex.ret rfl rfl
  · dsimp only at hf
    obtain rfl := Option.some.inj hf
    exact ⟨rfl, rfl⟩
def b_Ri_leastLoad_13 (u1 : Int32) (u2 : Int32) (u3 : Int32) (h : Nat → Nat → Int32) (g : Nat → Nat → Int64) : (Int32 × Int32) → Option ((Int32 × Int32) ⊕ ((Unit) ⊕ (Int32))) := fun s13 =>
  if (512 : Int32) ≤ s13.2 then
    some (.inr (.inl ()))
  else
    if ((s13.1 - u3) &&& u3) = 0 then
      some (.inr (.inr ((s13.1 - u3) &&& u3)))
    else
      (f_Ri_carries h ((s13.1 - u3) &&& u3)).bind (fun x4 =>
        if x4 = 0 then
          some (.inl ((s13.1 - u3) &&& u3, s13.2 + (1 : Int32)))
        else
          (f_Ri_isReached g (u1 + (1 : Int32)) (u2 ^^^ ((s13.1 - u3) &&& u3))).bind (fun x6 =>
            if x6 = 0 then
              some (.inl ((s13.1 - u3) &&& u3, s13.2 + (1 : Int32)))
            else
              some (.inr (.inr ((s13.1 - u3) &&& u3)))
          )
      )
def f_Ri_leastLoad (h : Nat → Nat → Int32) (g : Nat → Nat → Int64) (p0 : Int32) (p1 : Int32) : Option (Int32) :=
  (rh_loop (b_Ri_leastLoad_13 p0 p1 (f_Ri_bankOf h p0 p1) h g) rh_N ((0 : Int32), (0 : Int32))).bind (fun r8 => match r8 with
    | .inl e9 =>
      some ((0 : Int32))
    | .inr t10 => some t10)
set_option maxRecDepth 20000 in
set_option maxHeartbeats 4000000 in
theorem lb_Ri_leastLoad_13 (d : Nat) (xx : rh_L) (sv : Option Nat) (u1 : Int32) (u2 : Int32) (u3 : Int32) (h : Nat → Nat → Int32) (g : Nat → Nat → Int64) (v9 : Option Value) (h9 : rh_H) : ∀ s13 x9, b_Ri_leastLoad_13 u1 u2 u3 h g s13 = some x9 → Sum.elim (fun s13 => rh_Ex (rh_M rh_PT (cw_L ++ xx) (d + 1)) (cw_L ++ xx) pg_X6_leastLoad ((13, [some (.ref 32), some (.int u1), some (.int u2), some (.int u3), some (.int s13.1), some (.int s13.2)], []), (h, g, cw_R sv)) v9 h9) (Sum.elim (fun e9 => rh_Ex (rh_M rh_PT (cw_L ++ xx) (d + 1)) (cw_L ++ xx) pg_X6_leastLoad ((66, [none, none, none, none, none, none], []), (h, g, cw_R sv)) v9 h9) (fun t9 => v9 = (some (.int t9)) ∧ h9 = (h, g, cw_R sv))) x9 → rh_Ex (rh_M rh_PT (cw_L ++ xx) (d + 1)) (cw_L ++ xx) pg_X6_leastLoad ((13, [some (.ref 32), some (.int u1), some (.int u2), some (.int u3), some (.int s13.1), some (.int s13.2)], []), (h, g, cw_R sv)) v9 h9 := by
  intro s13 x9 hf hk
  unfold b_Ri_leastLoad_13 at hf
  refine rh_Ex.blk 2 (s' := ((18, [some (.ref 32), some (.int u1), some (.int u2), some (.int u3), some (.int s13.1), some (.int s13.2)], [.int (512 : Int32), .int s13.2]), (h, g, cw_R sv))) rfl ?_
  by_cases q2 : (512 : Int32) ≤ s13.2
  · rw [if_pos q2] at hf
    refine rh_Ex.stp (s' := ((66, [some (.ref 32), some (.int u1), some (.int u2), some (.int u3), some (.int s13.1), some (.int s13.2)], []), (h, g, cw_R sv))) rfl (st_icge_p q2) ?_
    obtain rfl := Option.some.inj hf
    refine rh_Ex.fgt [none, none, none, none, none, none] trivial ?_
    exact hk
  · rw [if_neg q2] at hf
    refine rh_Ex.stp (s' := ((21, [some (.ref 32), some (.int u1), some (.int u2), some (.int u3), some (.int s13.1), some (.int s13.2)], []), (h, g, cw_R sv))) rfl (st_icge_n q2) ?_
    refine rh_Ex.blk 7 (s' := ((31, [some (.ref 32), some (.int u1), some (.int u2), some (.int u3), some (.int ((s13.1 - u3) &&& u3)), some (.int s13.2)], [.int ((s13.1 - u3) &&& u3)]), (h, g, cw_R sv))) rfl ?_
    by_cases q3 : ((s13.1 - u3) &&& u3) = 0
    · rw [if_pos q3] at hf
      refine rh_Ex.stp (s' := ((57, [some (.ref 32), some (.int u1), some (.int u2), some (.int u3), some (.int ((s13.1 - u3) &&& u3)), some (.int s13.2)], []), (h, g, cw_R sv))) rfl (st_ifeq_p q3) ?_
      refine rh_Ex.blk 1 (s' := ((59, [some (.ref 32), some (.int u1), some (.int u2), some (.int u3), some (.int ((s13.1 - u3) &&& u3)), some (.int s13.2)], [.int ((s13.1 - u3) &&& u3)]), (h, g, cw_R sv))) rfl ?_
      obtain rfl := Option.some.inj hf
      obtain ⟨rfl, rfl⟩ := hk
      exact rh_Ex.ret rfl rfl
    · rw [if_neg q3] at hf
      refine rh_Ex.stp (s' := ((34, [some (.ref 32), some (.int u1), some (.int u2), some (.int u3), some (.int ((s13.1 - u3) &&& u3)), some (.int s13.2)], []), (h, g, cw_R sv))) rfl (st_ifeq_n q3) ?_
      refine rh_Ex.blk 2 (s' := ((37, [some (.ref 32), some (.int u1), some (.int u2), some (.int u3), some (.int ((s13.1 - u3) &&& u3)), some (.int s13.2)], [.int ((s13.1 - u3) &&& u3), .ref 32]), (h, g, cw_R sv))) rfl ?_
      obtain ⟨x4, hx4, hf⟩ := rh_bq hf
      refine rh_Ex.call (j := 60) (rc := some 5) [.ref 32, .int ((s13.1 - u3) &&& u3)] [] (some (.int x4)) rfl rfl rfl (Nat.le_of_ble_eq_true rfl) (R_Ri_carries d xx sv h g ((s13.1 - u3) &&& u3) hx4) ?_
      show rh_Ex _ _ _ ((40, [some (.ref 32), some (.int u1), some (.int u2), some (.int u3), some (.int ((s13.1 - u3) &&& u3)), some (.int s13.2)], [.int x4]), (h, g, cw_R sv)) _ _
      by_cases q5 : x4 = 0
      · rw [if_pos q5] at hf
        refine rh_Ex.stp (s' := ((60, [some (.ref 32), some (.int u1), some (.int u2), some (.int u3), some (.int ((s13.1 - u3) &&& u3)), some (.int s13.2)], []), (h, g, cw_R sv))) rfl (st_ifeq_p q5) ?_
        refine rh_Ex.blk 2 (s' := ((13, [some (.ref 32), some (.int u1), some (.int u2), some (.int u3), some (.int ((s13.1 - u3) &&& u3)), some (.int (s13.2 + (1 : Int32)))], []), (h, g, cw_R sv))) rfl ?_
        obtain rfl := Option.some.inj hf
        refine rh_Ex.fgt [some (.ref 32), some (.int u1), some (.int u2), some (.int u3), some (.int ((s13.1 - u3) &&& u3)), some (.int (s13.2 + (1 : Int32)))] ⟨rfl, rfl, rfl, rfl, rfl, rfl, trivial⟩ ?_
        exact hk
      · rw [if_neg q5] at hf
        refine rh_Ex.stp (s' := ((43, [some (.ref 32), some (.int u1), some (.int u2), some (.int u3), some (.int ((s13.1 - u3) &&& u3)), some (.int s13.2)], []), (h, g, cw_R sv))) rfl (st_ifeq_n q5) ?_
        refine rh_Ex.blk 7 (s' := ((51, [some (.ref 32), some (.int u1), some (.int u2), some (.int u3), some (.int ((s13.1 - u3) &&& u3)), some (.int s13.2)], [.int (u2 ^^^ ((s13.1 - u3) &&& u3)), .int (u1 + (1 : Int32)), .ref 32]), (h, g, cw_R sv))) rfl ?_
        obtain ⟨x6, hx6, hf⟩ := rh_bq hf
        refine rh_Ex.call (j := 57) (rc := some 5) [.ref 32, .int (u1 + (1 : Int32)), .int (u2 ^^^ ((s13.1 - u3) &&& u3))] [] (some (.int x6)) rfl rfl rfl (Nat.le_of_ble_eq_true rfl) (R_Ri_isReached d xx sv h g (u1 + (1 : Int32)) (u2 ^^^ ((s13.1 - u3) &&& u3)) hx6) ?_
        show rh_Ex _ _ _ ((54, [some (.ref 32), some (.int u1), some (.int u2), some (.int u3), some (.int ((s13.1 - u3) &&& u3)), some (.int s13.2)], [.int x6]), (h, g, cw_R sv)) _ _
        by_cases q7 : x6 = 0
        · rw [if_pos q7] at hf
          refine rh_Ex.stp (s' := ((60, [some (.ref 32), some (.int u1), some (.int u2), some (.int u3), some (.int ((s13.1 - u3) &&& u3)), some (.int s13.2)], []), (h, g, cw_R sv))) rfl (st_ifeq_p q7) ?_
          refine rh_Ex.blk 2 (s' := ((13, [some (.ref 32), some (.int u1), some (.int u2), some (.int u3), some (.int ((s13.1 - u3) &&& u3)), some (.int (s13.2 + (1 : Int32)))], []), (h, g, cw_R sv))) rfl ?_
          obtain rfl := Option.some.inj hf
          refine rh_Ex.fgt [some (.ref 32), some (.int u1), some (.int u2), some (.int u3), some (.int ((s13.1 - u3) &&& u3)), some (.int (s13.2 + (1 : Int32)))] ⟨rfl, rfl, rfl, rfl, rfl, rfl, trivial⟩ ?_
          exact hk
        · rw [if_neg q7] at hf
          refine rh_Ex.stp (s' := ((57, [some (.ref 32), some (.int u1), some (.int u2), some (.int u3), some (.int ((s13.1 - u3) &&& u3)), some (.int s13.2)], []), (h, g, cw_R sv))) rfl (st_ifeq_n q7) ?_
          refine rh_Ex.blk 1 (s' := ((59, [some (.ref 32), some (.int u1), some (.int u2), some (.int u3), some (.int ((s13.1 - u3) &&& u3)), some (.int s13.2)], [.int ((s13.1 - u3) &&& u3)]), (h, g, cw_R sv))) rfl ?_
          obtain rfl := Option.some.inj hf
          obtain ⟨rfl, rfl⟩ := hk
          exact rh_Ex.ret rfl rfl
set_option maxRecDepth 20000 in
set_option maxHeartbeats 4000000 in
theorem R_Ri_leastLoad (d : Nat) (xx : rh_L) (sv : Option Nat) (h : Nat → Nat → Int32) (g : Nat → Nat → Int64) (p0 : Int32) (p1 : Int32) {z9 : Int32} (hf : f_Ri_leastLoad h g p0 p1 = some z9) : rh_M rh_PT (cw_L ++ xx) (d + 2) 65 [.ref 32, .int p0, .int p1] (h, g, cw_R sv) (some (.int z9)) (h, g, cw_R sv) := by
  unfold f_Ri_leastLoad at hf
  refine rh_go pt_65 (Nat.le_of_ble_eq_true rfl) (lv := [some (.ref 32), some (.int p0), some (.int p1), none, none, none]) rfl ?_
  refine rh_Ex.blk 3 (s' := ((3, [some (.ref 32), some (.int p0), some (.int p1), none, none, none], [.int p1, .int p0, .ref 32]), (h, g, cw_R sv))) rfl ?_
  refine rh_Ex.call (j := 61) (rc := some 5) [.ref 32, .int p0, .int p1] [] (some (.int (f_Ri_bankOf h p0 p1))) rfl rfl rfl (Nat.le_of_ble_eq_true rfl) (R_Ri_bankOf d xx sv h g p0 p1 rfl) ?_
  show rh_Ex _ _ _ ((6, [some (.ref 32), some (.int p0), some (.int p1), none, none, none], [.int (f_Ri_bankOf h p0 p1)]), (h, g, cw_R sv)) _ _
  refine rh_Ex.blk 5 (s' := ((13, [some (.ref 32), some (.int p0), some (.int p1), some (.int (f_Ri_bankOf h p0 p1)), some (.int (0 : Int32)), some (.int (0 : Int32))], []), (h, g, cw_R sv))) rfl ?_
  obtain ⟨r8, hr8, hf⟩ := rh_bq hf
  refine rh_Ex.fgt [some (.ref 32), some (.int p0), some (.int p1), some (.int (f_Ri_bankOf h p0 p1)), some (.int (0 : Int32)), some (.int (0 : Int32))] ⟨rfl, rfl, rfl, rfl, rfl, rfl, trivial⟩ ?_
  refine rh_Ex.loop _ _ _ (lb_Ri_leastLoad_13 d xx sv p0 p1 (f_Ri_bankOf h p0 p1) h g   _ _) rh_N _ r8 hr8 ?_
  rcases r8 with e9 | t10
  · dsimp only at hf
    refine rh_Ex.blk 1 (s' := ((67, [none, none, none, none, none, none], [.int (0 : Int32)]), (h, g, cw_R sv))) rfl ?_
    obtain rfl := Option.some.inj hf
    exact rh_Ex.ret rfl rfl
  · dsimp only at hf
    obtain rfl := Option.some.inj hf
    exact ⟨rfl, rfl⟩
def b_Ri_prune_15 (u1 : Int32) (h : Nat → Nat → Int32) : (Int32 × (Nat → Nat → Int64)) → Option ((Int32 × (Nat → Nat → Int64)) ⊕ ((Nat → Nat → Int64))) := fun s15 =>
  if (h 32 2) < s15.1 then
    some (.inr s15.2)
  else
    (f_Ri_isReached s15.2 u1 s15.1).bind (fun x4 =>
      if x4 = 0 then
        some (.inl (s15.1 + (1 : Int32), s15.2))
      else
        (f_Ri_leastLoad h s15.2 u1 s15.1).bind (fun x6 =>
          if x6 = 0 then
            (f_Ri_leave s15.2 u1 s15.1).bind (fun x8 =>
              some (.inl (s15.1 + (1 : Int32), x8))
            )
          else
            some (.inl (s15.1 + (1 : Int32), s15.2))
        )
    )
def f_Ri_prune (h : Nat → Nat → Int32) (g : Nat → Nat → Int64) (p0 : Int32) : Option ((Nat → Nat → Int32) × (Nat → Nat → Int64)) :=
  (f_Cr_sumAll h ((h 32 4) + p0)).bind (fun x1 =>
    (rh_loop (b_Ri_prune_15 p0 x1) rh_N ((0 : Int32), g)).bind (fun r9 =>
      some ((x1, r9))
    )
  )
set_option maxRecDepth 20000 in
set_option maxHeartbeats 4000000 in
theorem lb_Ri_prune_15 (d : Nat) (xx : rh_L) (sv : Option Nat) (u1 : Int32) (h : Nat → Nat → Int32) (v9 : Option Value) (h9 : rh_H) : ∀ s15 x9, b_Ri_prune_15 u1 h s15 = some x9 → Sum.elim (fun s15 => rh_Ex (rh_M rh_PT (cw_L ++ xx) (d + 4)) (cw_L ++ xx) pg_X6_prune ((15, [some (.ref 32), some (.int u1), some (.int s15.1)], []), (h, s15.2, cw_R sv)) v9 h9) (fun e9 => rh_Ex (rh_M rh_PT (cw_L ++ xx) (d + 4)) (cw_L ++ xx) pg_X6_prune ((53, [none, none, none], []), (h, e9, cw_R sv)) v9 h9) x9 → rh_Ex (rh_M rh_PT (cw_L ++ xx) (d + 4)) (cw_L ++ xx) pg_X6_prune ((15, [some (.ref 32), some (.int u1), some (.int s15.1)], []), (h, s15.2, cw_R sv)) v9 h9 := by
  intro s15 x9 hf hk
  unfold b_Ri_prune_15 at hf
  refine rh_Ex.blk 3 (s' := ((20, [some (.ref 32), some (.int u1), some (.int s15.1)], [.int (h 32 2), .int s15.1]), (h, s15.2, cw_R sv))) rfl ?_
  by_cases q3 : (h 32 2) < s15.1
  · rw [if_pos q3] at hf
    refine rh_Ex.stp (s' := ((53, [some (.ref 32), some (.int u1), some (.int s15.1)], []), (h, s15.2, cw_R sv))) rfl (st_icgt_p q3) ?_
    obtain rfl := Option.some.inj hf
    refine rh_Ex.fgt [none, none, none] trivial ?_
    exact hk
  · rw [if_neg q3] at hf
    refine rh_Ex.stp (s' := ((23, [some (.ref 32), some (.int u1), some (.int s15.1)], []), (h, s15.2, cw_R sv))) rfl (st_icgt_n q3) ?_
    refine rh_Ex.blk 3 (s' := ((26, [some (.ref 32), some (.int u1), some (.int s15.1)], [.int s15.1, .int u1, .ref 32]), (h, s15.2, cw_R sv))) rfl ?_
    obtain ⟨x4, hx4, hf⟩ := rh_bq hf
    refine rh_Ex.call (j := 57) (rc := some 5) [.ref 32, .int u1, .int s15.1] [] (some (.int x4)) rfl rfl rfl (Nat.le_of_ble_eq_true rfl) (R_Ri_isReached (d + 3) xx sv h s15.2 u1 s15.1 hx4) ?_
    show rh_Ex _ _ _ ((29, [some (.ref 32), some (.int u1), some (.int s15.1)], [.int x4]), (h, s15.2, cw_R sv)) _ _
    by_cases q5 : x4 = 0
    · rw [if_pos q5] at hf
      refine rh_Ex.stp (s' := ((47, [some (.ref 32), some (.int u1), some (.int s15.1)], []), (h, s15.2, cw_R sv))) rfl (st_ifeq_p q5) ?_
      refine rh_Ex.blk 2 (s' := ((15, [some (.ref 32), some (.int u1), some (.int (s15.1 + (1 : Int32)))], []), (h, s15.2, cw_R sv))) rfl ?_
      obtain rfl := Option.some.inj hf
      refine rh_Ex.fgt [some (.ref 32), some (.int u1), some (.int (s15.1 + (1 : Int32)))] ⟨rfl, rfl, rfl, trivial⟩ ?_
      exact hk
    · rw [if_neg q5] at hf
      refine rh_Ex.stp (s' := ((32, [some (.ref 32), some (.int u1), some (.int s15.1)], []), (h, s15.2, cw_R sv))) rfl (st_ifeq_n q5) ?_
      refine rh_Ex.blk 3 (s' := ((35, [some (.ref 32), some (.int u1), some (.int s15.1)], [.int s15.1, .int u1, .ref 32]), (h, s15.2, cw_R sv))) rfl ?_
      obtain ⟨x6, hx6, hf⟩ := rh_bq hf
      refine rh_Ex.call (j := 65) (rc := some 5) [.ref 32, .int u1, .int s15.1] [] (some (.int x6)) rfl rfl rfl (Nat.le_of_ble_eq_true rfl) (R_Ri_leastLoad (d + 2) xx sv h s15.2 u1 s15.1 hx6) ?_
      show rh_Ex _ _ _ ((38, [some (.ref 32), some (.int u1), some (.int s15.1)], [.int x6]), (h, s15.2, cw_R sv)) _ _
      by_cases q7 : x6 = 0
      · rw [if_pos q7] at hf
        refine rh_Ex.stp (s' := ((41, [some (.ref 32), some (.int u1), some (.int s15.1)], []), (h, s15.2, cw_R sv))) rfl (st_ifne_p q7) ?_
        refine rh_Ex.blk 3 (s' := ((44, [some (.ref 32), some (.int u1), some (.int s15.1)], [.int s15.1, .int u1, .ref 32]), (h, s15.2, cw_R sv))) rfl ?_
        obtain ⟨x8, hx8, hf⟩ := rh_bq hf
        refine rh_Ex.call (j := 59) (rc := some 5) [.ref 32, .int u1, .int s15.1] [] none rfl rfl rfl (Nat.le_of_ble_eq_true rfl) (R_Ri_leave (d + 3) xx sv h s15.2 u1 s15.1 hx8) ?_
        show rh_Ex _ _ _ ((47, [some (.ref 32), some (.int u1), some (.int s15.1)], []), (h, x8, cw_R sv)) _ _
        refine rh_Ex.blk 2 (s' := ((15, [some (.ref 32), some (.int u1), some (.int (s15.1 + (1 : Int32)))], []), (h, x8, cw_R sv))) rfl ?_
        obtain rfl := Option.some.inj hf
        refine rh_Ex.fgt [some (.ref 32), some (.int u1), some (.int (s15.1 + (1 : Int32)))] ⟨rfl, rfl, rfl, trivial⟩ ?_
        exact hk
      · rw [if_neg q7] at hf
        refine rh_Ex.stp (s' := ((47, [some (.ref 32), some (.int u1), some (.int s15.1)], []), (h, s15.2, cw_R sv))) rfl (st_ifne_n q7) ?_
        refine rh_Ex.blk 2 (s' := ((15, [some (.ref 32), some (.int u1), some (.int (s15.1 + (1 : Int32)))], []), (h, s15.2, cw_R sv))) rfl ?_
        obtain rfl := Option.some.inj hf
        refine rh_Ex.fgt [some (.ref 32), some (.int u1), some (.int (s15.1 + (1 : Int32)))] ⟨rfl, rfl, rfl, trivial⟩ ?_
        exact hk
set_option maxRecDepth 20000 in
set_option maxHeartbeats 4000000 in
theorem R_Ri_prune (d : Nat) (xx : rh_L) (sv : Option Nat) (h : Nat → Nat → Int32) (g : Nat → Nat → Int64) (p0 : Int32) {z9 : (Nat → Nat → Int32) × (Nat → Nat → Int64)} (hf : f_Ri_prune h g p0 = some z9) : rh_M rh_PT (cw_L ++ xx) (d + 5) 66 [.ref 32, .int p0] (h, g, cw_R sv) none (z9.1, z9.2, cw_R sv) := by
  unfold f_Ri_prune at hf
  refine rh_go pt_66 (Nat.le_of_ble_eq_true rfl) (lv := [some (.ref 32), some (.int p0), none]) rfl ?_
  refine rh_Ex.blk 6 (s' := ((10, [some (.ref 32), some (.int p0), none], [.int ((h 32 4) + p0), .ref 4]), (h, g, cw_R sv))) rfl ?_
  obtain ⟨x1, hx1, hf⟩ := rh_bq hf
  refine rh_Ex.call (j := 8) (rc := some 0) [.ref 4, .int ((h 32 4) + p0)] [] none rfl rfl rfl (Nat.le_of_ble_eq_true rfl) (R_Cr_sumAll d xx sv h g ((h 32 4) + p0) hx1) ?_
  show rh_Ex _ _ _ ((13, [some (.ref 32), some (.int p0), none], []), (x1, g, cw_R sv)) _ _
  refine rh_Ex.blk 2 (s' := ((15, [some (.ref 32), some (.int p0), some (.int (0 : Int32))], []), (x1, g, cw_R sv))) rfl ?_
  obtain ⟨r9, hr9, hf⟩ := rh_bq hf
  refine rh_Ex.fgt [some (.ref 32), some (.int p0), some (.int (0 : Int32))] ⟨rfl, rfl, rfl, trivial⟩ ?_
  refine rh_Ex.loop _ _ _ (lb_Ri_prune_15 d xx sv p0 x1   _ _) rh_N _ r9 hr9 ?_
  obtain rfl := Option.some.inj hf
  exact rh_Ex.ret rfl trivial
def f_Ro_begin (h : Nat → Nat → Int32) : (Nat → Nat → Int32) :=
  (rh_up h 2 1 (0 : Int32))
set_option maxRecDepth 20000 in
set_option maxHeartbeats 4000000 in
theorem R_Ro_begin (d : Nat) (xx : rh_L) (sv : Option Nat) (h : Nat → Nat → Int32) (g : Nat → Nat → Int64)  {z9 : (Nat → Nat → Int32)} (hf : f_Ro_begin h = z9) : rh_M rh_PT (cw_L ++ xx) (d + 1) 68 [.ref 2] (h, g, cw_R sv) none (z9, g, cw_R sv) := by
  unfold f_Ro_begin at hf
  refine rh_go pt_68 (Nat.le_of_ble_eq_true rfl) (lv := [some (.ref 2)]) rfl ?_
  refine rh_Ex.blk 3 (s' := ((5, [some (.ref 2)], []), (rh_up h 2 1 (0 : Int32), g, cw_R sv))) rfl ?_
  subst hf
  exact rh_Ex.ret rfl trivial
def f_Ro_add (h : Nat → Nat → Int32) (p0 : Int32) : Option ((Nat → Nat → Int32)) :=
  if (11 : Int32) ≤ (h 2 1) then
    some (h)
  else
    rh_g (0 ≤ (h 2 1).toInt ∧ (h 2 1).toInt < ((11 : Nat) : Int)) (
      some ((rh_up (rh_up h 3 (h 2 1).toNatClampNeg p0) 2 1 ((h 2 1) + (1 : Int32))))
    )
set_option maxRecDepth 20000 in
set_option maxHeartbeats 4000000 in
theorem R_Ro_add (d : Nat) (xx : rh_L) (sv : Option Nat) (h : Nat → Nat → Int32) (g : Nat → Nat → Int64) (p0 : Int32) {z9 : (Nat → Nat → Int32)} (hf : f_Ro_add h p0 = some z9) : rh_M rh_PT (cw_L ++ xx) (d + 1) 69 [.ref 2, .int p0] (h, g, cw_R sv) none (z9, g, cw_R sv) := by
  unfold f_Ro_add at hf
  refine rh_go pt_69 (Nat.le_of_ble_eq_true rfl) (lv := [some (.ref 2), some (.int p0)]) rfl ?_
  refine rh_Ex.blk 5 (s' := ((9, [some (.ref 2), some (.int p0)], [.int (11 : Int32), .int (h 2 1)]), (h, g, cw_R sv))) rfl ?_
  by_cases q1 : (11 : Int32) ≤ (h 2 1)
  · rw [if_pos q1] at hf
    refine rh_Ex.stp (s' := ((32, [some (.ref 2), some (.int p0)], []), (h, g, cw_R sv))) rfl (st_icge_p q1) ?_
    obtain rfl := Option.some.inj hf
    exact rh_Ex.ret rfl trivial
  · rw [if_neg q1] at hf
    refine rh_Ex.stp (s' := ((12, [some (.ref 2), some (.int p0)], []), (h, g, cw_R sv))) rfl (st_icge_n q1) ?_
    refine rh_Ex.blk 5 (s' := ((21, [some (.ref 2), some (.int p0)], [.int p0, .int (h 2 1), .ref 3]), (h, g, cw_R sv))) rfl ?_
    obtain ⟨q2, hf⟩ := rh_gq hf
    refine rh_Ex.stp (s' := ((22, [some (.ref 2), some (.int p0)], []), (rh_up h 3 (h 2 1).toNatClampNeg p0, g, cw_R sv))) rfl (st_iast (n := 11) rfl q2) ?_
    refine rh_Ex.blk 6 (s' := ((32, [some (.ref 2), some (.int p0)], []), (rh_up (rh_up h 3 (h 2 1).toNatClampNeg p0) 2 1 ((h 2 1) + (1 : Int32)), g, cw_R sv))) rfl ?_
    obtain rfl := Option.some.inj hf
    exact rh_Ex.ret rfl trivial
def b_Ri_tellLoads_4 (u1 : Int32) : (Int32 × (Nat → Nat → Int32) × (Nat → Nat → Int64)) → Option ((Int32 × (Nat → Nat → Int32) × (Nat → Nat → Int64)) ⊕ ((Nat → Nat → Int32) × (Nat → Nat → Int64))) := fun s4 =>
  if s4.1 ≤ 0 then
    some (.inr (s4.2.1, s4.2.2))
  else
    (f_Ri_prune s4.2.1 s4.2.2 s4.1).bind (fun x3 =>
      some (.inl (s4.1 + (-1 : Int32), x3.1, x3.2))
    )
def b_Ri_tellLoads_28 (u1 : Int32) (g : Nat → Nat → Int64) : (Int32 × Int32 × (Nat → Nat → Int32)) → Option ((Int32 × Int32 × (Nat → Nat → Int32)) ⊕ ((Nat → Nat → Int32))) := fun s28 =>
  if u1 ≤ s28.2.1 then
    some (.inr s28.2.2)
  else
    if (10 : Int32) ≤ s28.2.1 then
      some (.inr s28.2.2)
    else
      (f_Cr_sumAll s28.2.2 ((s28.2.2 32 4) + s28.2.1)).bind (fun x8 =>
        (f_Ri_leastLoad x8 g s28.2.1 s28.1).bind (fun x9 =>
          (f_Ro_add x8 x9).bind (fun x10 =>
            some (.inl (s28.1 ^^^ x9, s28.2.1 + (1 : Int32), x10))
          )
        )
      )
def f_Ri_tellLoads (h : Nat → Nat → Int32) (g : Nat → Nat → Int64) (p0 : Int32) : Option ((Nat → Nat → Int32) × (Nat → Nat → Int64)) :=
  (rh_loop (b_Ri_tellLoads_4 p0) rh_N (p0 - (1 : Int32), h, g)).bind (fun r4 =>
    (rh_loop (b_Ri_tellLoads_28 p0 r4.2) rh_N ((0 : Int32), (0 : Int32), (f_Ro_begin r4.1))).bind (fun r11 =>
      some ((r11, r4.2))
    )
  )
set_option maxRecDepth 20000 in
set_option maxHeartbeats 4000000 in
theorem lb_Ri_tellLoads_4 (d : Nat) (xx : rh_L) (sv : Option Nat) (u1 : Int32) (v9 : Option Value) (h9 : rh_H) : ∀ s4 x9, b_Ri_tellLoads_4 u1 s4 = some x9 → Sum.elim (fun s4 => rh_Ex (rh_M rh_PT (cw_L ++ xx) (d + 5)) (cw_L ++ xx) pg_X6_tellLoads ((4, [some (.ref 32), some (.int u1), some (.ref 2), some (.int s4.1), none, none], []), (s4.2.1, s4.2.2, cw_R sv)) v9 h9) (fun e9 => rh_Ex (rh_M rh_PT (cw_L ++ xx) (d + 5)) (cw_L ++ xx) pg_X6_tellLoads ((19, [some (.ref 32), some (.int u1), some (.ref 2), none, none, none], []), (e9.1, e9.2, cw_R sv)) v9 h9) x9 → rh_Ex (rh_M rh_PT (cw_L ++ xx) (d + 5)) (cw_L ++ xx) pg_X6_tellLoads ((4, [some (.ref 32), some (.int u1), some (.ref 2), some (.int s4.1), none, none], []), (s4.2.1, s4.2.2, cw_R sv)) v9 h9 := by
  intro s4 x9 hf hk
  unfold b_Ri_tellLoads_4 at hf
  refine rh_Ex.blk 1 (s' := ((5, [some (.ref 32), some (.int u1), some (.ref 2), some (.int s4.1), none, none], [.int s4.1]), (s4.2.1, s4.2.2, cw_R sv))) rfl ?_
  by_cases q2 : s4.1 ≤ 0
  · rw [if_pos q2] at hf
    refine rh_Ex.stp (s' := ((19, [some (.ref 32), some (.int u1), some (.ref 2), some (.int s4.1), none, none], []), (s4.2.1, s4.2.2, cw_R sv))) rfl (st_ifle_p q2) ?_
    obtain rfl := Option.some.inj hf
    refine rh_Ex.fgt [some (.ref 32), some (.int u1), some (.ref 2), none, none, none] ⟨rfl, rfl, rfl, trivial⟩ ?_
    exact hk
  · rw [if_neg q2] at hf
    refine rh_Ex.stp (s' := ((8, [some (.ref 32), some (.int u1), some (.ref 2), some (.int s4.1), none, none], []), (s4.2.1, s4.2.2, cw_R sv))) rfl (st_ifle_n q2) ?_
    refine rh_Ex.blk 2 (s' := ((10, [some (.ref 32), some (.int u1), some (.ref 2), some (.int s4.1), none, none], [.int s4.1, .ref 32]), (s4.2.1, s4.2.2, cw_R sv))) rfl ?_
    obtain ⟨x3, hx3, hf⟩ := rh_bq hf
    refine rh_Ex.call (j := 66) (rc := some 5) [.ref 32, .int s4.1] [] none rfl rfl rfl (Nat.le_of_ble_eq_true rfl) (R_Ri_prune d xx sv s4.2.1 s4.2.2 s4.1 hx3) ?_
    show rh_Ex _ _ _ ((13, [some (.ref 32), some (.int u1), some (.ref 2), some (.int s4.1), none, none], []), (x3.1, x3.2, cw_R sv)) _ _
    refine rh_Ex.blk 2 (s' := ((4, [some (.ref 32), some (.int u1), some (.ref 2), some (.int (s4.1 + (-1 : Int32))), none, none], []), (x3.1, x3.2, cw_R sv))) rfl ?_
    obtain rfl := Option.some.inj hf
    refine rh_Ex.fgt [some (.ref 32), some (.int u1), some (.ref 2), some (.int (s4.1 + (-1 : Int32))), none, none] ⟨rfl, rfl, rfl, rfl, trivial⟩ ?_
    exact hk
set_option maxRecDepth 20000 in
set_option maxHeartbeats 4000000 in
theorem lb_Ri_tellLoads_28 (d : Nat) (xx : rh_L) (sv : Option Nat) (u1 : Int32) (g : Nat → Nat → Int64) (v9 : Option Value) (h9 : rh_H) : ∀ s28 x9, b_Ri_tellLoads_28 u1 g s28 = some x9 → Sum.elim (fun s28 => rh_Ex (rh_M rh_PT (cw_L ++ xx) (d + 5)) (cw_L ++ xx) pg_X6_tellLoads ((28, [some (.ref 32), some (.int u1), some (.ref 2), some (.int s28.1), some (.int s28.2.1), none], []), (s28.2.2, g, cw_R sv)) v9 h9) (fun e9 => rh_Ex (rh_M rh_PT (cw_L ++ xx) (d + 5)) (cw_L ++ xx) pg_X6_tellLoads ((81, [none, none, none, none, none, none], []), (e9, g, cw_R sv)) v9 h9) x9 → rh_Ex (rh_M rh_PT (cw_L ++ xx) (d + 5)) (cw_L ++ xx) pg_X6_tellLoads ((28, [some (.ref 32), some (.int u1), some (.ref 2), some (.int s28.1), some (.int s28.2.1), none], []), (s28.2.2, g, cw_R sv)) v9 h9 := by
  intro s28 x9 hf hk
  unfold b_Ri_tellLoads_28 at hf
  refine rh_Ex.blk 2 (s' := ((31, [some (.ref 32), some (.int u1), some (.ref 2), some (.int s28.1), some (.int s28.2.1), none], [.int u1, .int s28.2.1]), (s28.2.2, g, cw_R sv))) rfl ?_
  by_cases q6 : u1 ≤ s28.2.1
  · rw [if_pos q6] at hf
    refine rh_Ex.stp (s' := ((81, [some (.ref 32), some (.int u1), some (.ref 2), some (.int s28.1), some (.int s28.2.1), none], []), (s28.2.2, g, cw_R sv))) rfl (st_icge_p q6) ?_
    obtain rfl := Option.some.inj hf
    refine rh_Ex.fgt [none, none, none, none, none, none] trivial ?_
    exact hk
  · rw [if_neg q6] at hf
    refine rh_Ex.stp (s' := ((34, [some (.ref 32), some (.int u1), some (.ref 2), some (.int s28.1), some (.int s28.2.1), none], []), (s28.2.2, g, cw_R sv))) rfl (st_icge_n q6) ?_
    refine rh_Ex.blk 2 (s' := ((38, [some (.ref 32), some (.int u1), some (.ref 2), some (.int s28.1), some (.int s28.2.1), none], [.int (10 : Int32), .int s28.2.1]), (s28.2.2, g, cw_R sv))) rfl ?_
    by_cases q7 : (10 : Int32) ≤ s28.2.1
    · rw [if_pos q7] at hf
      refine rh_Ex.stp (s' := ((81, [some (.ref 32), some (.int u1), some (.ref 2), some (.int s28.1), some (.int s28.2.1), none], []), (s28.2.2, g, cw_R sv))) rfl (st_icge_p q7) ?_
      obtain rfl := Option.some.inj hf
      refine rh_Ex.fgt [none, none, none, none, none, none] trivial ?_
      exact hk
    · rw [if_neg q7] at hf
      refine rh_Ex.stp (s' := ((41, [some (.ref 32), some (.int u1), some (.ref 2), some (.int s28.1), some (.int s28.2.1), none], []), (s28.2.2, g, cw_R sv))) rfl (st_icge_n q7) ?_
      refine rh_Ex.blk 6 (s' := ((52, [some (.ref 32), some (.int u1), some (.ref 2), some (.int s28.1), some (.int s28.2.1), none], [.int ((s28.2.2 32 4) + s28.2.1), .ref 4]), (s28.2.2, g, cw_R sv))) rfl ?_
      obtain ⟨x8, hx8, hf⟩ := rh_bq hf
      refine rh_Ex.call (j := 8) (rc := some 0) [.ref 4, .int ((s28.2.2 32 4) + s28.2.1)] [] none rfl rfl rfl (Nat.le_of_ble_eq_true rfl) (R_Cr_sumAll (d + 1) xx sv s28.2.2 g ((s28.2.2 32 4) + s28.2.1) hx8) ?_
      show rh_Ex _ _ _ ((55, [some (.ref 32), some (.int u1), some (.ref 2), some (.int s28.1), some (.int s28.2.1), none], []), (x8, g, cw_R sv)) _ _
      refine rh_Ex.blk 3 (s' := ((59, [some (.ref 32), some (.int u1), some (.ref 2), some (.int s28.1), some (.int s28.2.1), none], [.int s28.1, .int s28.2.1, .ref 32]), (x8, g, cw_R sv))) rfl ?_
      obtain ⟨x9, hx9, hf⟩ := rh_bq hf
      refine rh_Ex.call (j := 65) (rc := some 5) [.ref 32, .int s28.2.1, .int s28.1] [] (some (.int x9)) rfl rfl rfl (Nat.le_of_ble_eq_true rfl) (R_Ri_leastLoad (d + 3) xx sv x8 g s28.2.1 s28.1 hx9) ?_
      show rh_Ex _ _ _ ((62, [some (.ref 32), some (.int u1), some (.ref 2), some (.int s28.1), some (.int s28.2.1), none], [.int x9]), (x8, g, cw_R sv)) _ _
      refine rh_Ex.blk 3 (s' := ((67, [some (.ref 32), some (.int u1), some (.ref 2), some (.int s28.1), some (.int s28.2.1), some (.int x9)], [.int x9, .ref 2]), (x8, g, cw_R sv))) rfl ?_
      obtain ⟨x10, hx10, hf⟩ := rh_bq hf
      refine rh_Ex.call (j := 69) (rc := some 6) [.ref 2, .int x9] [] none rfl rfl rfl (Nat.le_of_ble_eq_true rfl) (R_Ro_add (d + 4) xx sv x8 g x9 hx10) ?_
      show rh_Ex _ _ _ ((70, [some (.ref 32), some (.int u1), some (.ref 2), some (.int s28.1), some (.int s28.2.1), some (.int x9)], []), (x10, g, cw_R sv)) _ _
      refine rh_Ex.blk 6 (s' := ((28, [some (.ref 32), some (.int u1), some (.ref 2), some (.int (s28.1 ^^^ x9)), some (.int (s28.2.1 + (1 : Int32))), some (.int x9)], []), (x10, g, cw_R sv))) rfl ?_
      obtain rfl := Option.some.inj hf
      refine rh_Ex.fgt [some (.ref 32), some (.int u1), some (.ref 2), some (.int (s28.1 ^^^ x9)), some (.int (s28.2.1 + (1 : Int32))), none] ⟨rfl, rfl, rfl, rfl, rfl, trivial⟩ ?_
      exact hk
set_option maxRecDepth 20000 in
set_option maxHeartbeats 4000000 in
theorem R_Ri_tellLoads (d : Nat) (xx : rh_L) (sv : Option Nat) (h : Nat → Nat → Int32) (g : Nat → Nat → Int64) (p0 : Int32) {z9 : (Nat → Nat → Int32) × (Nat → Nat → Int64)} (hf : f_Ri_tellLoads h g p0 = some z9) : rh_M rh_PT (cw_L ++ xx) (d + 6) 67 [.ref 32, .int p0, .ref 2] (h, g, cw_R sv) none (z9.1, z9.2, cw_R sv) := by
  unfold f_Ri_tellLoads at hf
  refine rh_go pt_67 (Nat.le_of_ble_eq_true rfl) (lv := [some (.ref 32), some (.int p0), some (.ref 2), none, none, none]) rfl ?_
  refine rh_Ex.blk 4 (s' := ((4, [some (.ref 32), some (.int p0), some (.ref 2), some (.int (p0 - (1 : Int32))), none, none], []), (h, g, cw_R sv))) rfl ?_
  obtain ⟨r4, hr4, hf⟩ := rh_bq hf
  refine rh_Ex.fgt [some (.ref 32), some (.int p0), some (.ref 2), some (.int (p0 - (1 : Int32))), none, none] ⟨rfl, rfl, rfl, rfl, trivial⟩ ?_
  refine rh_Ex.loop _ _ _ (lb_Ri_tellLoads_4 d xx sv p0   _ _) rh_N _ r4 hr4 ?_
  refine rh_Ex.blk 1 (s' := ((20, [some (.ref 32), some (.int p0), some (.ref 2), none, none, none], [.ref 2]), (r4.1, r4.2, cw_R sv))) rfl ?_
  refine rh_Ex.call (j := 68) (rc := some 6) [.ref 2] [] none rfl rfl rfl (Nat.le_of_ble_eq_true rfl) (R_Ro_begin (d + 4) xx sv r4.1 r4.2  rfl) ?_
  show rh_Ex _ _ _ ((23, [some (.ref 32), some (.int p0), some (.ref 2), none, none, none], []), ((f_Ro_begin r4.1), r4.2, cw_R sv)) _ _
  refine rh_Ex.blk 4 (s' := ((28, [some (.ref 32), some (.int p0), some (.ref 2), some (.int (0 : Int32)), some (.int (0 : Int32)), none], []), ((f_Ro_begin r4.1), r4.2, cw_R sv))) rfl ?_
  obtain ⟨r11, hr11, hf⟩ := rh_bq hf
  refine rh_Ex.fgt [some (.ref 32), some (.int p0), some (.ref 2), some (.int (0 : Int32)), some (.int (0 : Int32)), none] ⟨rfl, rfl, rfl, rfl, rfl, trivial⟩ ?_
  refine rh_Ex.loop _ _ _ (lb_Ri_tellLoads_28 d xx sv p0 r4.2   _ _) rh_N _ r11 hr11 ?_
  obtain rfl := Option.some.inj hf
  exact rh_Ex.ret rfl trivial
def f_Ro_tell (h : Nat → Nat → Int32) (p0 : Int32) : Option ((Nat → Nat → Int32)) :=
  (f_Ro_add (f_Ro_begin h) p0).bind (fun x1 =>
    some (x1)
  )
set_option maxRecDepth 20000 in
set_option maxHeartbeats 4000000 in
theorem R_Ro_tell (d : Nat) (xx : rh_L) (sv : Option Nat) (h : Nat → Nat → Int32) (g : Nat → Nat → Int64) (p0 : Int32) {z9 : (Nat → Nat → Int32)} (hf : f_Ro_tell h p0 = some z9) : rh_M rh_PT (cw_L ++ xx) (d + 2) 70 [.ref 2, .int p0] (h, g, cw_R sv) none (z9, g, cw_R sv) := by
  unfold f_Ro_tell at hf
  refine rh_go pt_70 (Nat.le_of_ble_eq_true rfl) (lv := [some (.ref 2), some (.int p0)]) rfl ?_
  refine rh_Ex.blk 1 (s' := ((1, [some (.ref 2), some (.int p0)], [.ref 2]), (h, g, cw_R sv))) rfl ?_
  refine rh_Ex.call (j := 68) (rc := some 6) [.ref 2] [] none rfl rfl rfl (Nat.le_of_ble_eq_true rfl) (R_Ro_begin d xx sv h g  rfl) ?_
  show rh_Ex _ _ _ ((4, [some (.ref 2), some (.int p0)], []), ((f_Ro_begin h), g, cw_R sv)) _ _
  refine rh_Ex.blk 2 (s' := ((6, [some (.ref 2), some (.int p0)], [.int p0, .ref 2]), ((f_Ro_begin h), g, cw_R sv))) rfl ?_
  obtain ⟨x1, hx1, hf⟩ := rh_bq hf
  refine rh_Ex.call (j := 69) (rc := some 6) [.ref 2, .int p0] [] none rfl rfl rfl (Nat.le_of_ble_eq_true rfl) (R_Ro_add d xx sv (f_Ro_begin h) g p0 hx1) ?_
  show rh_Ex _ _ _ ((9, [some (.ref 2), some (.int p0)], []), (x1, g, cw_R sv)) _ _
  obtain rfl := Option.some.inj hf
  exact rh_Ex.ret rfl trivial
def f_Sc_hear (h : Nat → Nat → Int32) (p0 : Int32) (p1 : Int32) (p2 : Int32) : Option (Int32 × (Nat → Nat → Int32)) :=
  if (h 34 1) = (10 : Int32) then
    some (((-2 : Int32), h))
  else
    rh_g (0 ≤ (h 34 1).toInt ∧ (h 34 1).toInt < ((10 : Nat) : Int)) (
      rh_g (0 ≤ (h 34 1).toInt ∧ (h 34 1).toInt < ((10 : Nat) : Int)) (
        rh_g (0 ≤ (h 34 1).toInt ∧ (h 34 1).toInt < ((10 : Nat) : Int)) (
          some ((((h 34 1) + (1 : Int32)), rh_up (rh_up (rh_up (rh_up h 35 (h 34 1).toNatClampNeg p0) 36 (h 34 1).toNatClampNeg p1) 37 (h 34 1).toNatClampNeg p2) 34 1 ((h 34 1) + (1 : Int32))))
        )
      )
    )
set_option maxRecDepth 20000 in
set_option maxHeartbeats 4000000 in
theorem R_Sc_hear (d : Nat) (xx : rh_L) (sv : Option Nat) (h : Nat → Nat → Int32) (g : Nat → Nat → Int64) (p0 : Int32) (p1 : Int32) (p2 : Int32) {z9 : Int32 × (Nat → Nat → Int32)} (hf : f_Sc_hear h p0 p1 p2 = some z9) : rh_M rh_PT (cw_L ++ xx) (d + 1) 71 [.ref 34, .int p0, .int p1, .int p2] (h, g, cw_R sv) (some (.int z9.1)) (z9.2, g, cw_R sv) := by
  unfold f_Sc_hear at hf
  refine rh_go pt_71 (Nat.le_of_ble_eq_true rfl) (lv := [some (.ref 34), some (.int p0), some (.int p1), some (.int p2)]) rfl ?_
  refine rh_Ex.blk 3 (s' := ((6, [some (.ref 34), some (.int p0), some (.int p1), some (.int p2)], [.int (10 : Int32), .int (h 34 1)]), (h, g, cw_R sv))) rfl ?_
  by_cases q1 : (h 34 1) = (10 : Int32)
  · rw [if_pos q1] at hf
    refine rh_Ex.stp (s' := ((9, [some (.ref 34), some (.int p0), some (.int p1), some (.int p2)], []), (h, g, cw_R sv))) rfl (st_icne_p q1) ?_
    refine rh_Ex.blk 1 (s' := ((11, [some (.ref 34), some (.int p0), some (.int p1), some (.int p2)], [.int (-2 : Int32)]), (h, g, cw_R sv))) rfl ?_
    obtain rfl := Option.some.inj hf
    exact rh_Ex.ret rfl rfl
  · rw [if_neg q1] at hf
    refine rh_Ex.stp (s' := ((12, [some (.ref 34), some (.int p0), some (.int p1), some (.int p2)], []), (h, g, cw_R sv))) rfl (st_icne_n q1) ?_
    refine rh_Ex.blk 5 (s' := ((21, [some (.ref 34), some (.int p0), some (.int p1), some (.int p2)], [.int p0, .int (h 34 1), .ref 35]), (h, g, cw_R sv))) rfl ?_
    obtain ⟨q2, hf⟩ := rh_gq hf
    refine rh_Ex.stp (s' := ((22, [some (.ref 34), some (.int p0), some (.int p1), some (.int p2)], []), (rh_up h 35 (h 34 1).toNatClampNeg p0, g, cw_R sv))) rfl (st_iast (n := 10) rfl q2) ?_
    refine rh_Ex.blk 5 (s' := ((31, [some (.ref 34), some (.int p0), some (.int p1), some (.int p2)], [.int p1, .int (h 34 1), .ref 36]), (rh_up h 35 (h 34 1).toNatClampNeg p0, g, cw_R sv))) rfl ?_
    obtain ⟨q3, hf⟩ := rh_gq hf
    refine rh_Ex.stp (s' := ((32, [some (.ref 34), some (.int p0), some (.int p1), some (.int p2)], []), (rh_up (rh_up h 35 (h 34 1).toNatClampNeg p0) 36 (h 34 1).toNatClampNeg p1, g, cw_R sv))) rfl (st_iast (n := 10) rfl q3) ?_
    refine rh_Ex.blk 5 (s' := ((41, [some (.ref 34), some (.int p0), some (.int p1), some (.int p2)], [.int p2, .int (h 34 1), .ref 37]), (rh_up (rh_up h 35 (h 34 1).toNatClampNeg p0) 36 (h 34 1).toNatClampNeg p1, g, cw_R sv))) rfl ?_
    obtain ⟨q4, hf⟩ := rh_gq hf
    refine rh_Ex.stp (s' := ((42, [some (.ref 34), some (.int p0), some (.int p1), some (.int p2)], []), (rh_up (rh_up (rh_up h 35 (h 34 1).toNatClampNeg p0) 36 (h 34 1).toNatClampNeg p1) 37 (h 34 1).toNatClampNeg p2, g, cw_R sv))) rfl (st_iast (n := 10) rfl q4) ?_
    refine rh_Ex.blk 8 (s' := ((56, [some (.ref 34), some (.int p0), some (.int p1), some (.int p2)], [.int ((h 34 1) + (1 : Int32))]), (rh_up (rh_up (rh_up (rh_up h 35 (h 34 1).toNatClampNeg p0) 36 (h 34 1).toNatClampNeg p1) 37 (h 34 1).toNatClampNeg p2) 34 1 ((h 34 1) + (1 : Int32)), g, cw_R sv))) rfl ?_
    obtain rfl := Option.some.inj hf
    exact rh_Ex.ret rfl rfl
def b_Sc_wrongAt_4 (u1 : Int32) : (Int32 × Int32 × (Nat → Nat → Int32)) → Option ((Int32 × Int32 × (Nat → Nat → Int32)) ⊕ (Int32 × (Nat → Nat → Int32))) := fun s4 =>
  if (s4.2.2 34 1) ≤ s4.2.1 then
    some (.inr (s4.1, s4.2.2))
  else
    rh_g (0 ≤ s4.2.1.toInt ∧ s4.2.1.toInt < ((10 : Nat) : Int)) (
      rh_g (0 ≤ s4.2.1.toInt ∧ s4.2.1.toInt < ((10 : Nat) : Int)) (
        (f_Cr_together s4.2.2 (s4.2.2 35 s4.2.1.toNatClampNeg) (u1 + (s4.2.2 36 s4.2.1.toNatClampNeg))).bind (fun x5 =>
          rh_g (0 ≤ s4.2.1.toInt ∧ s4.2.1.toInt < ((10 : Nat) : Int)) (
            if x5.1 = (x5.2 37 s4.2.1.toNatClampNeg) then
              some (.inl (s4.1, s4.2.1 + (1 : Int32), x5.2))
            else
              some (.inl (s4.1 ||| ((1 : Int32) <<< (s4.2.1 &&& 31)), s4.2.1 + (1 : Int32), x5.2))
          )
        )
      )
    )
def f_Sc_wrongAt (h : Nat → Nat → Int32) (p0 : Int32) : Option (Int32 × (Nat → Nat → Int32)) :=
  (rh_loop (b_Sc_wrongAt_4 p0) rh_N ((0 : Int32), (0 : Int32), h)).bind (fun r8 =>
    some ((r8.1, r8.2))
  )
set_option maxRecDepth 20000 in
set_option maxHeartbeats 4000000 in
theorem lb_Sc_wrongAt_4 (d : Nat) (xx : rh_L) (sv : Option Nat) (u1 : Int32) (g : Nat → Nat → Int64) (v9 : Option Value) (h9 : rh_H) : ∀ s4 x9, b_Sc_wrongAt_4 u1 s4 = some x9 → Sum.elim (fun s4 => rh_Ex (rh_M rh_PT (cw_L ++ xx) (d + 4)) (cw_L ++ xx) pg_X8_wrongAt ((4, [some (.ref 34), some (.int u1), some (.int s4.1), some (.int s4.2.1)], []), (s4.2.2, g, cw_R sv)) v9 h9) (fun e9 => rh_Ex (rh_M rh_PT (cw_L ++ xx) (d + 4)) (cw_L ++ xx) pg_X8_wrongAt ((54, [none, none, some (.int e9.1), none], []), (e9.2, g, cw_R sv)) v9 h9) x9 → rh_Ex (rh_M rh_PT (cw_L ++ xx) (d + 4)) (cw_L ++ xx) pg_X8_wrongAt ((4, [some (.ref 34), some (.int u1), some (.int s4.1), some (.int s4.2.1)], []), (s4.2.2, g, cw_R sv)) v9 h9 := by
  intro s4 x9 hf hk
  unfold b_Sc_wrongAt_4 at hf
  refine rh_Ex.blk 3 (s' := ((9, [some (.ref 34), some (.int u1), some (.int s4.1), some (.int s4.2.1)], [.int (s4.2.2 34 1), .int s4.2.1]), (s4.2.2, g, cw_R sv))) rfl ?_
  by_cases q2 : (s4.2.2 34 1) ≤ s4.2.1
  · rw [if_pos q2] at hf
    refine rh_Ex.stp (s' := ((54, [some (.ref 34), some (.int u1), some (.int s4.1), some (.int s4.2.1)], []), (s4.2.2, g, cw_R sv))) rfl (st_icge_p q2) ?_
    obtain rfl := Option.some.inj hf
    refine rh_Ex.fgt [none, none, some (.int s4.1), none] ⟨rfl, trivial⟩ ?_
    exact hk
  · rw [if_neg q2] at hf
    refine rh_Ex.stp (s' := ((12, [some (.ref 34), some (.int u1), some (.int s4.1), some (.int s4.2.1)], []), (s4.2.2, g, cw_R sv))) rfl (st_icge_n q2) ?_
    refine rh_Ex.blk 5 (s' := ((21, [some (.ref 34), some (.int u1), some (.int s4.1), some (.int s4.2.1)], [.int s4.2.1, .ref 35, .ref 4]), (s4.2.2, g, cw_R sv))) rfl ?_
    obtain ⟨q3, hf⟩ := rh_gq hf
    refine rh_Ex.stp (s' := ((22, [some (.ref 34), some (.int u1), some (.int s4.1), some (.int s4.2.1)], [.int (s4.2.2 35 s4.2.1.toNatClampNeg), .ref 4]), (s4.2.2, g, cw_R sv))) rfl (st_iald (n := 10) rfl q3) ?_
    refine rh_Ex.blk 4 (s' := ((28, [some (.ref 34), some (.int u1), some (.int s4.1), some (.int s4.2.1)], [.int s4.2.1, .ref 36, .int u1, .int (s4.2.2 35 s4.2.1.toNatClampNeg), .ref 4]), (s4.2.2, g, cw_R sv))) rfl ?_
    obtain ⟨q4, hf⟩ := rh_gq hf
    refine rh_Ex.stp (s' := ((29, [some (.ref 34), some (.int u1), some (.int s4.1), some (.int s4.2.1)], [.int (s4.2.2 36 s4.2.1.toNatClampNeg), .int u1, .int (s4.2.2 35 s4.2.1.toNatClampNeg), .ref 4]), (s4.2.2, g, cw_R sv))) rfl (st_iald (n := 10) rfl q4) ?_
    refine rh_Ex.blk 1 (s' := ((30, [some (.ref 34), some (.int u1), some (.int s4.1), some (.int s4.2.1)], [.int (u1 + (s4.2.2 36 s4.2.1.toNatClampNeg)), .int (s4.2.2 35 s4.2.1.toNatClampNeg), .ref 4]), (s4.2.2, g, cw_R sv))) rfl ?_
    obtain ⟨x5, hx5, hf⟩ := rh_bq hf
    refine rh_Ex.call (j := 7) (rc := some 0) [.ref 4, .int (s4.2.2 35 s4.2.1.toNatClampNeg), .int (u1 + (s4.2.2 36 s4.2.1.toNatClampNeg))] [] (some (.int x5.1)) rfl rfl rfl (Nat.le_of_ble_eq_true rfl) (R_Cr_together d xx sv s4.2.2 g (s4.2.2 35 s4.2.1.toNatClampNeg) (u1 + (s4.2.2 36 s4.2.1.toNatClampNeg)) hx5) ?_
    show rh_Ex _ _ _ ((33, [some (.ref 34), some (.int u1), some (.int s4.1), some (.int s4.2.1)], [.int x5.1]), (x5.2, g, cw_R sv)) _ _
    refine rh_Ex.blk 3 (s' := ((38, [some (.ref 34), some (.int u1), some (.int s4.1), some (.int s4.2.1)], [.int s4.2.1, .ref 37, .int x5.1]), (x5.2, g, cw_R sv))) rfl ?_
    obtain ⟨q6, hf⟩ := rh_gq hf
    refine rh_Ex.stp (s' := ((39, [some (.ref 34), some (.int u1), some (.int s4.1), some (.int s4.2.1)], [.int (x5.2 37 s4.2.1.toNatClampNeg), .int x5.1]), (x5.2, g, cw_R sv))) rfl (st_iald (n := 10) rfl q6) ?_
    by_cases q7 : x5.1 = (x5.2 37 s4.2.1.toNatClampNeg)
    · rw [if_pos q7] at hf
      refine rh_Ex.stp (s' := ((48, [some (.ref 34), some (.int u1), some (.int s4.1), some (.int s4.2.1)], []), (x5.2, g, cw_R sv))) rfl (st_iceq_p q7) ?_
      refine rh_Ex.blk 2 (s' := ((4, [some (.ref 34), some (.int u1), some (.int s4.1), some (.int (s4.2.1 + (1 : Int32)))], []), (x5.2, g, cw_R sv))) rfl ?_
      obtain rfl := Option.some.inj hf
      refine rh_Ex.fgt [some (.ref 34), some (.int u1), some (.int s4.1), some (.int (s4.2.1 + (1 : Int32)))] ⟨rfl, rfl, rfl, rfl, trivial⟩ ?_
      exact hk
    · rw [if_neg q7] at hf
      refine rh_Ex.stp (s' := ((42, [some (.ref 34), some (.int u1), some (.int s4.1), some (.int s4.2.1)], []), (x5.2, g, cw_R sv))) rfl (st_iceq_n q7) ?_
      refine rh_Ex.blk 8 (s' := ((4, [some (.ref 34), some (.int u1), some (.int (s4.1 ||| ((1 : Int32) <<< (s4.2.1 &&& 31)))), some (.int (s4.2.1 + (1 : Int32)))], []), (x5.2, g, cw_R sv))) rfl ?_
      obtain rfl := Option.some.inj hf
      refine rh_Ex.fgt [some (.ref 34), some (.int u1), some (.int (s4.1 ||| ((1 : Int32) <<< (s4.2.1 &&& 31)))), some (.int (s4.2.1 + (1 : Int32)))] ⟨rfl, rfl, rfl, rfl, trivial⟩ ?_
      exact hk
set_option maxRecDepth 20000 in
set_option maxHeartbeats 4000000 in
theorem R_Sc_wrongAt (d : Nat) (xx : rh_L) (sv : Option Nat) (h : Nat → Nat → Int32) (g : Nat → Nat → Int64) (p0 : Int32) {z9 : Int32 × (Nat → Nat → Int32)} (hf : f_Sc_wrongAt h p0 = some z9) : rh_M rh_PT (cw_L ++ xx) (d + 5) 72 [.ref 34, .int p0] (h, g, cw_R sv) (some (.int z9.1)) (z9.2, g, cw_R sv) := by
  unfold f_Sc_wrongAt at hf
  refine rh_go pt_72 (Nat.le_of_ble_eq_true rfl) (lv := [some (.ref 34), some (.int p0), none, none]) rfl ?_
  refine rh_Ex.blk 4 (s' := ((4, [some (.ref 34), some (.int p0), some (.int (0 : Int32)), some (.int (0 : Int32))], []), (h, g, cw_R sv))) rfl ?_
  obtain ⟨r8, hr8, hf⟩ := rh_bq hf
  refine rh_Ex.fgt [some (.ref 34), some (.int p0), some (.int (0 : Int32)), some (.int (0 : Int32))] ⟨rfl, rfl, rfl, rfl, trivial⟩ ?_
  refine rh_Ex.loop _ _ _ (lb_Sc_wrongAt_4 d xx sv p0  g _ _) rh_N _ r8 hr8 ?_
  refine rh_Ex.blk 1 (s' := ((55, [none, none, some (.int r8.1), none], [.int r8.1]), (r8.2, g, cw_R sv))) rfl ?_
  obtain rfl := Option.some.inj hf
  exact rh_Ex.ret rfl rfl
def b_Sc_gather_7 (u1 : Int32) (u2 : Int32) : (Int32 × (Nat → Nat → Int32)) → Option ((Int32 × (Nat → Nat → Int32)) ⊕ (((Nat → Nat → Int32)) ⊕ (Int32 × (Nat → Nat → Int32)))) := fun s7 =>
  if (s7.2 34 1) ≤ s7.1 then
    some (.inr (.inl s7.2))
  else
    rh_g (0 ≤ s7.1.toInt ∧ s7.1.toInt < ((10 : Nat) : Int)) (
      rh_g (0 ≤ s7.1.toInt ∧ s7.1.toInt < ((10 : Nat) : Int)) (
        rh_g (0 ≤ s7.1.toInt ∧ s7.1.toInt < ((10 : Nat) : Int)) (
          (f_Cr_together s7.2 ((s7.2 35 s7.1.toNatClampNeg) &&& (((1 : Int32) <<< (u1 &&& 31)) ^^^ (-1 : Int32))) (u2 + (s7.2 36 s7.1.toNatClampNeg))).bind (fun x6 =>
            rh_g (0 ≤ s7.1.toInt ∧ s7.1.toInt < ((10 : Nat) : Int)) (
              if (((x6.2 35 s7.1.toNatClampNeg) >>> (u1 &&& 31)) &&& (1 : Int32)) = 0 then
                if ((s7.2 37 s7.1.toNatClampNeg) - x6.1) = 0 then
                  if 0 ≤ ((s7.2 37 s7.1.toNatClampNeg) - x6.1) then
                    some (.inl (s7.1 + (1 : Int32), x6.2))
                  else
                    some (.inr (.inr ((0 : Int32), x6.2)))
                else
                  some (.inr (.inr ((0 : Int32), x6.2)))
              else
                rh_g (0 ≤ (x6.2 34 7).toInt ∧ (x6.2 34 7).toInt < ((10 : Nat) : Int)) (
                  rh_g (0 ≤ (x6.2 34 7).toInt ∧ (x6.2 34 7).toInt < ((10 : Nat) : Int)) (
                    if 0 ≤ ((s7.2 37 s7.1.toNatClampNeg) - x6.1) then
                      some (.inl (s7.1 + (1 : Int32), rh_up (rh_up (rh_up x6.2 38 (x6.2 34 7).toNatClampNeg ((s7.2 37 s7.1.toNatClampNeg) - x6.1)) 39 (x6.2 34 7).toNatClampNeg (u2 + (s7.2 36 s7.1.toNatClampNeg))) 34 7 ((x6.2 34 7) + (1 : Int32))))
                    else
                      some (.inr (.inr ((0 : Int32), rh_up (rh_up (rh_up x6.2 38 (x6.2 34 7).toNatClampNeg ((s7.2 37 s7.1.toNatClampNeg) - x6.1)) 39 (x6.2 34 7).toNatClampNeg (u2 + (s7.2 36 s7.1.toNatClampNeg))) 34 7 ((x6.2 34 7) + (1 : Int32)))))
                  )
                )
            )
          )
        )
      )
    )
def f_Sc_gather (h : Nat → Nat → Int32) (p0 : Int32) (p1 : Int32) : Option (Int32 × (Nat → Nat → Int32)) :=
  (rh_loop (b_Sc_gather_7 p0 p1) rh_N ((0 : Int32), rh_up h 34 7 (0 : Int32))).bind (fun r14 => match r14 with
    | .inl e15 =>
      some (((1 : Int32), e15))
    | .inr t16 => some t16)
set_option maxRecDepth 20000 in
set_option maxHeartbeats 4000000 in
theorem lb_Sc_gather_7 (d : Nat) (xx : rh_L) (sv : Option Nat) (u1 : Int32) (u2 : Int32) (g : Nat → Nat → Int64) (v9 : Option Value) (h9 : rh_H) : ∀ s7 x9, b_Sc_gather_7 u1 u2 s7 = some x9 → Sum.elim (fun s7 => rh_Ex (rh_M rh_PT (cw_L ++ xx) (d + 4)) (cw_L ++ xx) pg_X8_gather ((7, [some (.ref 34), some (.int u1), some (.int u2), some (.int s7.1), none, none], []), (s7.2, g, cw_R sv)) v9 h9) (Sum.elim (fun e9 => rh_Ex (rh_M rh_PT (cw_L ++ xx) (d + 4)) (cw_L ++ xx) pg_X8_gather ((123, [none, none, none, none, none, none], []), (e9, g, cw_R sv)) v9 h9) (fun t9 => v9 = (some (.int t9.1)) ∧ h9 = (t9.2, g, cw_R sv))) x9 → rh_Ex (rh_M rh_PT (cw_L ++ xx) (d + 4)) (cw_L ++ xx) pg_X8_gather ((7, [some (.ref 34), some (.int u1), some (.int u2), some (.int s7.1), none, none], []), (s7.2, g, cw_R sv)) v9 h9 := by
  intro s7 x9 hf hk
  unfold b_Sc_gather_7 at hf
  refine rh_Ex.blk 3 (s' := ((12, [some (.ref 34), some (.int u1), some (.int u2), some (.int s7.1), none, none], [.int (s7.2 34 1), .int s7.1]), (s7.2, g, cw_R sv))) rfl ?_
  by_cases q2 : (s7.2 34 1) ≤ s7.1
  · rw [if_pos q2] at hf
    refine rh_Ex.stp (s' := ((123, [some (.ref 34), some (.int u1), some (.int u2), some (.int s7.1), none, none], []), (s7.2, g, cw_R sv))) rfl (st_icge_p q2) ?_
    obtain rfl := Option.some.inj hf
    refine rh_Ex.fgt [none, none, none, none, none, none] trivial ?_
    exact hk
  · rw [if_neg q2] at hf
    refine rh_Ex.stp (s' := ((15, [some (.ref 34), some (.int u1), some (.int u2), some (.int s7.1), none, none], []), (s7.2, g, cw_R sv))) rfl (st_icge_n q2) ?_
    refine rh_Ex.blk 4 (s' := ((21, [some (.ref 34), some (.int u1), some (.int u2), some (.int s7.1), none, none], [.int s7.1, .ref 36, .int u2]), (s7.2, g, cw_R sv))) rfl ?_
    obtain ⟨q3, hf⟩ := rh_gq hf
    refine rh_Ex.stp (s' := ((22, [some (.ref 34), some (.int u1), some (.int u2), some (.int s7.1), none, none], [.int (s7.2 36 s7.1.toNatClampNeg), .int u2]), (s7.2, g, cw_R sv))) rfl (st_iald (n := 10) rfl q3) ?_
    refine rh_Ex.blk 5 (s' := ((30, [some (.ref 34), some (.int u1), some (.int u2), some (.int s7.1), some (.int (u2 + (s7.2 36 s7.1.toNatClampNeg))), none], [.int s7.1, .ref 37]), (s7.2, g, cw_R sv))) rfl ?_
    obtain ⟨q4, hf⟩ := rh_gq hf
    refine rh_Ex.stp (s' := ((31, [some (.ref 34), some (.int u1), some (.int u2), some (.int s7.1), some (.int (u2 + (s7.2 36 s7.1.toNatClampNeg))), none], [.int (s7.2 37 s7.1.toNatClampNeg)]), (s7.2, g, cw_R sv))) rfl (st_iald (n := 10) rfl q4) ?_
    refine rh_Ex.blk 5 (s' := ((40, [some (.ref 34), some (.int u1), some (.int u2), some (.int s7.1), some (.int (u2 + (s7.2 36 s7.1.toNatClampNeg))), none], [.int s7.1, .ref 35, .ref 4, .int (s7.2 37 s7.1.toNatClampNeg)]), (s7.2, g, cw_R sv))) rfl ?_
    obtain ⟨q5, hf⟩ := rh_gq hf
    refine rh_Ex.stp (s' := ((41, [some (.ref 34), some (.int u1), some (.int u2), some (.int s7.1), some (.int (u2 + (s7.2 36 s7.1.toNatClampNeg))), none], [.int (s7.2 35 s7.1.toNatClampNeg), .ref 4, .int (s7.2 37 s7.1.toNatClampNeg)]), (s7.2, g, cw_R sv))) rfl (st_iald (n := 10) rfl q5) ?_
    refine rh_Ex.blk 7 (s' := ((49, [some (.ref 34), some (.int u1), some (.int u2), some (.int s7.1), some (.int (u2 + (s7.2 36 s7.1.toNatClampNeg))), none], [.int (u2 + (s7.2 36 s7.1.toNatClampNeg)), .int ((s7.2 35 s7.1.toNatClampNeg) &&& (((1 : Int32) <<< (u1 &&& 31)) ^^^ (-1 : Int32))), .ref 4, .int (s7.2 37 s7.1.toNatClampNeg)]), (s7.2, g, cw_R sv))) rfl ?_
    obtain ⟨x6, hx6, hf⟩ := rh_bq hf
    refine rh_Ex.call (j := 7) (rc := some 0) [.ref 4, .int ((s7.2 35 s7.1.toNatClampNeg) &&& (((1 : Int32) <<< (u1 &&& 31)) ^^^ (-1 : Int32))), .int (u2 + (s7.2 36 s7.1.toNatClampNeg))] [.int (s7.2 37 s7.1.toNatClampNeg)] (some (.int x6.1)) rfl rfl rfl (Nat.le_of_ble_eq_true rfl) (R_Cr_together d xx sv s7.2 g ((s7.2 35 s7.1.toNatClampNeg) &&& (((1 : Int32) <<< (u1 &&& 31)) ^^^ (-1 : Int32))) (u2 + (s7.2 36 s7.1.toNatClampNeg)) hx6) ?_
    show rh_Ex _ _ _ ((52, [some (.ref 34), some (.int u1), some (.int u2), some (.int s7.1), some (.int (u2 + (s7.2 36 s7.1.toNatClampNeg))), none], [.int x6.1, .int (s7.2 37 s7.1.toNatClampNeg)]), (x6.2, g, cw_R sv)) _ _
    refine rh_Ex.blk 5 (s' := ((60, [some (.ref 34), some (.int u1), some (.int u2), some (.int s7.1), some (.int (u2 + (s7.2 36 s7.1.toNatClampNeg))), some (.int ((s7.2 37 s7.1.toNatClampNeg) - x6.1))], [.int s7.1, .ref 35]), (x6.2, g, cw_R sv))) rfl ?_
    obtain ⟨q7, hf⟩ := rh_gq hf
    refine rh_Ex.stp (s' := ((61, [some (.ref 34), some (.int u1), some (.int u2), some (.int s7.1), some (.int (u2 + (s7.2 36 s7.1.toNatClampNeg))), some (.int ((s7.2 37 s7.1.toNatClampNeg) - x6.1))], [.int (x6.2 35 s7.1.toNatClampNeg)]), (x6.2, g, cw_R sv))) rfl (st_iald (n := 10) rfl q7) ?_
    refine rh_Ex.blk 4 (s' := ((65, [some (.ref 34), some (.int u1), some (.int u2), some (.int s7.1), some (.int (u2 + (s7.2 36 s7.1.toNatClampNeg))), some (.int ((s7.2 37 s7.1.toNatClampNeg) - x6.1))], [.int (((x6.2 35 s7.1.toNatClampNeg) >>> (u1 &&& 31)) &&& (1 : Int32))]), (x6.2, g, cw_R sv))) rfl ?_
    by_cases q8 : (((x6.2 35 s7.1.toNatClampNeg) >>> (u1 &&& 31)) &&& (1 : Int32)) = 0
    · rw [if_pos q8] at hf
      refine rh_Ex.stp (s' := ((103, [some (.ref 34), some (.int u1), some (.int u2), some (.int s7.1), some (.int (u2 + (s7.2 36 s7.1.toNatClampNeg))), some (.int ((s7.2 37 s7.1.toNatClampNeg) - x6.1))], []), (x6.2, g, cw_R sv))) rfl (st_ifeq_p q8) ?_
      refine rh_Ex.blk 1 (s' := ((105, [some (.ref 34), some (.int u1), some (.int u2), some (.int s7.1), some (.int (u2 + (s7.2 36 s7.1.toNatClampNeg))), some (.int ((s7.2 37 s7.1.toNatClampNeg) - x6.1))], [.int ((s7.2 37 s7.1.toNatClampNeg) - x6.1)]), (x6.2, g, cw_R sv))) rfl ?_
      by_cases q9 : ((s7.2 37 s7.1.toNatClampNeg) - x6.1) = 0
      · rw [if_pos q9] at hf
        refine rh_Ex.stp (s' := ((110, [some (.ref 34), some (.int u1), some (.int u2), some (.int s7.1), some (.int (u2 + (s7.2 36 s7.1.toNatClampNeg))), some (.int ((s7.2 37 s7.1.toNatClampNeg) - x6.1))], []), (x6.2, g, cw_R sv))) rfl (st_ifeq_p q9) ?_
        refine rh_Ex.blk 1 (s' := ((112, [some (.ref 34), some (.int u1), some (.int u2), some (.int s7.1), some (.int (u2 + (s7.2 36 s7.1.toNatClampNeg))), some (.int ((s7.2 37 s7.1.toNatClampNeg) - x6.1))], [.int ((s7.2 37 s7.1.toNatClampNeg) - x6.1)]), (x6.2, g, cw_R sv))) rfl ?_
        by_cases q10 : 0 ≤ ((s7.2 37 s7.1.toNatClampNeg) - x6.1)
        · rw [if_pos q10] at hf
          refine rh_Ex.stp (s' := ((117, [some (.ref 34), some (.int u1), some (.int u2), some (.int s7.1), some (.int (u2 + (s7.2 36 s7.1.toNatClampNeg))), some (.int ((s7.2 37 s7.1.toNatClampNeg) - x6.1))], []), (x6.2, g, cw_R sv))) rfl (st_ifge_p q10) ?_
          refine rh_Ex.blk 2 (s' := ((7, [some (.ref 34), some (.int u1), some (.int u2), some (.int (s7.1 + (1 : Int32))), some (.int (u2 + (s7.2 36 s7.1.toNatClampNeg))), some (.int ((s7.2 37 s7.1.toNatClampNeg) - x6.1))], []), (x6.2, g, cw_R sv))) rfl ?_
          obtain rfl := Option.some.inj hf
          refine rh_Ex.fgt [some (.ref 34), some (.int u1), some (.int u2), some (.int (s7.1 + (1 : Int32))), none, none] ⟨rfl, rfl, rfl, rfl, trivial⟩ ?_
          exact hk
        · rw [if_neg q10] at hf
          refine rh_Ex.stp (s' := ((115, [some (.ref 34), some (.int u1), some (.int u2), some (.int s7.1), some (.int (u2 + (s7.2 36 s7.1.toNatClampNeg))), some (.int ((s7.2 37 s7.1.toNatClampNeg) - x6.1))], []), (x6.2, g, cw_R sv))) rfl (st_ifge_n q10) ?_
          refine rh_Ex.blk 1 (s' := ((116, [some (.ref 34), some (.int u1), some (.int u2), some (.int s7.1), some (.int (u2 + (s7.2 36 s7.1.toNatClampNeg))), some (.int ((s7.2 37 s7.1.toNatClampNeg) - x6.1))], [.int (0 : Int32)]), (x6.2, g, cw_R sv))) rfl ?_
          obtain rfl := Option.some.inj hf
          obtain ⟨rfl, rfl⟩ := hk
          exact rh_Ex.ret rfl ⟨rfl, Or.inl rfl⟩
      · rw [if_neg q9] at hf
        refine rh_Ex.stp (s' := ((108, [some (.ref 34), some (.int u1), some (.int u2), some (.int s7.1), some (.int (u2 + (s7.2 36 s7.1.toNatClampNeg))), some (.int ((s7.2 37 s7.1.toNatClampNeg) - x6.1))], []), (x6.2, g, cw_R sv))) rfl (st_ifeq_n q9) ?_
        refine rh_Ex.blk 1 (s' := ((109, [some (.ref 34), some (.int u1), some (.int u2), some (.int s7.1), some (.int (u2 + (s7.2 36 s7.1.toNatClampNeg))), some (.int ((s7.2 37 s7.1.toNatClampNeg) - x6.1))], [.int (0 : Int32)]), (x6.2, g, cw_R sv))) rfl ?_
        obtain rfl := Option.some.inj hf
        obtain ⟨rfl, rfl⟩ := hk
        exact rh_Ex.ret rfl ⟨rfl, Or.inl rfl⟩
    · rw [if_neg q8] at hf
      refine rh_Ex.stp (s' := ((68, [some (.ref 34), some (.int u1), some (.int u2), some (.int s7.1), some (.int (u2 + (s7.2 36 s7.1.toNatClampNeg))), some (.int ((s7.2 37 s7.1.toNatClampNeg) - x6.1))], []), (x6.2, g, cw_R sv))) rfl (st_ifeq_n q8) ?_
      refine rh_Ex.blk 5 (s' := ((78, [some (.ref 34), some (.int u1), some (.int u2), some (.int s7.1), some (.int (u2 + (s7.2 36 s7.1.toNatClampNeg))), some (.int ((s7.2 37 s7.1.toNatClampNeg) - x6.1))], [.int ((s7.2 37 s7.1.toNatClampNeg) - x6.1), .int (x6.2 34 7), .ref 38]), (x6.2, g, cw_R sv))) rfl ?_
      obtain ⟨q11, hf⟩ := rh_gq hf
      refine rh_Ex.stp (s' := ((79, [some (.ref 34), some (.int u1), some (.int u2), some (.int s7.1), some (.int (u2 + (s7.2 36 s7.1.toNatClampNeg))), some (.int ((s7.2 37 s7.1.toNatClampNeg) - x6.1))], []), (rh_up x6.2 38 (x6.2 34 7).toNatClampNeg ((s7.2 37 s7.1.toNatClampNeg) - x6.1), g, cw_R sv))) rfl (st_iast (n := 10) rfl q11) ?_
      refine rh_Ex.blk 5 (s' := ((89, [some (.ref 34), some (.int u1), some (.int u2), some (.int s7.1), some (.int (u2 + (s7.2 36 s7.1.toNatClampNeg))), some (.int ((s7.2 37 s7.1.toNatClampNeg) - x6.1))], [.int (u2 + (s7.2 36 s7.1.toNatClampNeg)), .int (x6.2 34 7), .ref 39]), (rh_up x6.2 38 (x6.2 34 7).toNatClampNeg ((s7.2 37 s7.1.toNatClampNeg) - x6.1), g, cw_R sv))) rfl ?_
      obtain ⟨q12, hf⟩ := rh_gq hf
      refine rh_Ex.stp (s' := ((90, [some (.ref 34), some (.int u1), some (.int u2), some (.int s7.1), some (.int (u2 + (s7.2 36 s7.1.toNatClampNeg))), some (.int ((s7.2 37 s7.1.toNatClampNeg) - x6.1))], []), (rh_up (rh_up x6.2 38 (x6.2 34 7).toNatClampNeg ((s7.2 37 s7.1.toNatClampNeg) - x6.1)) 39 (x6.2 34 7).toNatClampNeg (u2 + (s7.2 36 s7.1.toNatClampNeg)), g, cw_R sv))) rfl (st_iast (n := 10) rfl q12) ?_
      refine rh_Ex.blk 8 (s' := ((112, [some (.ref 34), some (.int u1), some (.int u2), some (.int s7.1), some (.int (u2 + (s7.2 36 s7.1.toNatClampNeg))), some (.int ((s7.2 37 s7.1.toNatClampNeg) - x6.1))], [.int ((s7.2 37 s7.1.toNatClampNeg) - x6.1)]), (rh_up (rh_up (rh_up x6.2 38 (x6.2 34 7).toNatClampNeg ((s7.2 37 s7.1.toNatClampNeg) - x6.1)) 39 (x6.2 34 7).toNatClampNeg (u2 + (s7.2 36 s7.1.toNatClampNeg))) 34 7 ((x6.2 34 7) + (1 : Int32)), g, cw_R sv))) rfl ?_
      by_cases q13 : 0 ≤ ((s7.2 37 s7.1.toNatClampNeg) - x6.1)
      · rw [if_pos q13] at hf
        refine rh_Ex.stp (s' := ((117, [some (.ref 34), some (.int u1), some (.int u2), some (.int s7.1), some (.int (u2 + (s7.2 36 s7.1.toNatClampNeg))), some (.int ((s7.2 37 s7.1.toNatClampNeg) - x6.1))], []), (rh_up (rh_up (rh_up x6.2 38 (x6.2 34 7).toNatClampNeg ((s7.2 37 s7.1.toNatClampNeg) - x6.1)) 39 (x6.2 34 7).toNatClampNeg (u2 + (s7.2 36 s7.1.toNatClampNeg))) 34 7 ((x6.2 34 7) + (1 : Int32)), g, cw_R sv))) rfl (st_ifge_p q13) ?_
        refine rh_Ex.blk 2 (s' := ((7, [some (.ref 34), some (.int u1), some (.int u2), some (.int (s7.1 + (1 : Int32))), some (.int (u2 + (s7.2 36 s7.1.toNatClampNeg))), some (.int ((s7.2 37 s7.1.toNatClampNeg) - x6.1))], []), (rh_up (rh_up (rh_up x6.2 38 (x6.2 34 7).toNatClampNeg ((s7.2 37 s7.1.toNatClampNeg) - x6.1)) 39 (x6.2 34 7).toNatClampNeg (u2 + (s7.2 36 s7.1.toNatClampNeg))) 34 7 ((x6.2 34 7) + (1 : Int32)), g, cw_R sv))) rfl ?_
        obtain rfl := Option.some.inj hf
        refine rh_Ex.fgt [some (.ref 34), some (.int u1), some (.int u2), some (.int (s7.1 + (1 : Int32))), none, none] ⟨rfl, rfl, rfl, rfl, trivial⟩ ?_
        exact hk
      · rw [if_neg q13] at hf
        refine rh_Ex.stp (s' := ((115, [some (.ref 34), some (.int u1), some (.int u2), some (.int s7.1), some (.int (u2 + (s7.2 36 s7.1.toNatClampNeg))), some (.int ((s7.2 37 s7.1.toNatClampNeg) - x6.1))], []), (rh_up (rh_up (rh_up x6.2 38 (x6.2 34 7).toNatClampNeg ((s7.2 37 s7.1.toNatClampNeg) - x6.1)) 39 (x6.2 34 7).toNatClampNeg (u2 + (s7.2 36 s7.1.toNatClampNeg))) 34 7 ((x6.2 34 7) + (1 : Int32)), g, cw_R sv))) rfl (st_ifge_n q13) ?_
        refine rh_Ex.blk 1 (s' := ((116, [some (.ref 34), some (.int u1), some (.int u2), some (.int s7.1), some (.int (u2 + (s7.2 36 s7.1.toNatClampNeg))), some (.int ((s7.2 37 s7.1.toNatClampNeg) - x6.1))], [.int (0 : Int32)]), (rh_up (rh_up (rh_up x6.2 38 (x6.2 34 7).toNatClampNeg ((s7.2 37 s7.1.toNatClampNeg) - x6.1)) 39 (x6.2 34 7).toNatClampNeg (u2 + (s7.2 36 s7.1.toNatClampNeg))) 34 7 ((x6.2 34 7) + (1 : Int32)), g, cw_R sv))) rfl ?_
        obtain rfl := Option.some.inj hf
        obtain ⟨rfl, rfl⟩ := hk
        exact rh_Ex.ret rfl ⟨rfl, Or.inl rfl⟩
set_option maxRecDepth 20000 in
set_option maxHeartbeats 4000000 in
theorem R_Sc_gather (d : Nat) (xx : rh_L) (sv : Option Nat) (h : Nat → Nat → Int32) (g : Nat → Nat → Int64) (p0 : Int32) (p1 : Int32) {z9 : Int32 × (Nat → Nat → Int32)} (hf : f_Sc_gather h p0 p1 = some z9) : rh_M rh_PT (cw_L ++ xx) (d + 5) 73 [.ref 34, .int p0, .int p1] (h, g, cw_R sv) (some (.int z9.1)) (z9.2, g, cw_R sv) := by
  unfold f_Sc_gather at hf
  refine rh_go pt_73 (Nat.le_of_ble_eq_true rfl) (lv := [some (.ref 34), some (.int p0), some (.int p1), none, none, none]) rfl ?_
  refine rh_Ex.blk 5 (s' := ((7, [some (.ref 34), some (.int p0), some (.int p1), some (.int (0 : Int32)), none, none], []), (rh_up h 34 7 (0 : Int32), g, cw_R sv))) rfl ?_
  obtain ⟨r14, hr14, hf⟩ := rh_bq hf
  refine rh_Ex.fgt [some (.ref 34), some (.int p0), some (.int p1), some (.int (0 : Int32)), none, none] ⟨rfl, rfl, rfl, rfl, trivial⟩ ?_
  refine rh_Ex.loop _ _ _ (lb_Sc_gather_7 d xx sv p0 p1  g _ _) rh_N _ r14 hr14 ?_
  rcases r14 with e15 | t16
  · dsimp only at hf
    refine rh_Ex.blk 1 (s' := ((124, [none, none, none, none, none, none], [.int (1 : Int32)]), (e15, g, cw_R sv))) rfl ?_
    obtain rfl := Option.some.inj hf
    exact rh_Ex.ret rfl ⟨rfl, Or.inr rfl⟩
  · dsimp only at hf
    obtain rfl := Option.some.inj hf
    exact ⟨rfl, rfl⟩
def b_Sc_agrees_2 (u1 : Int32) (u2 : Int32) : (Int32 × (Nat → Nat → Int32)) → Option ((Int32 × (Nat → Nat → Int32)) ⊕ (((Nat → Nat → Int32)) ⊕ (Int32 × (Nat → Nat → Int32)))) := fun s2 =>
  if (s2.2 34 7) ≤ s2.1 then
    some (.inr (.inl s2.2))
  else
    rh_g (0 ≤ s2.1.toInt ∧ s2.1.toInt < ((10 : Nat) : Int)) (
      (f_Cr_weightWith s2.2 u1 u2 (s2.2 39 s2.1.toNatClampNeg)).bind (fun x4 =>
        rh_g (0 ≤ s2.1.toInt ∧ s2.1.toInt < ((10 : Nat) : Int)) (
          if x4.1 = (x4.2 38 s2.1.toNatClampNeg) then
            some (.inl (s2.1 + (1 : Int32), x4.2))
          else
            some (.inr (.inr ((0 : Int32), x4.2)))
        )
      )
    )
def f_Sc_agrees (h : Nat → Nat → Int32) (p0 : Int32) (p1 : Int32) : Option (Int32 × (Nat → Nat → Int32)) :=
  (rh_loop (b_Sc_agrees_2 p0 p1) rh_N ((0 : Int32), h)).bind (fun r7 => match r7 with
    | .inl e8 =>
      some (((1 : Int32), e8))
    | .inr t9 => some t9)
set_option maxRecDepth 20000 in
set_option maxHeartbeats 4000000 in
theorem lb_Sc_agrees_2 (d : Nat) (xx : rh_L) (sv : Option Nat) (u1 : Int32) (u2 : Int32) (g : Nat → Nat → Int64) (v9 : Option Value) (h9 : rh_H) : ∀ s2 x9, b_Sc_agrees_2 u1 u2 s2 = some x9 → Sum.elim (fun s2 => rh_Ex (rh_M rh_PT (cw_L ++ xx) (d + 3)) (cw_L ++ xx) pg_X8_agrees ((2, [some (.ref 34), some (.int u1), some (.int u2), some (.int s2.1)], []), (s2.2, g, cw_R sv)) v9 h9) (Sum.elim (fun e9 => rh_Ex (rh_M rh_PT (cw_L ++ xx) (d + 3)) (cw_L ++ xx) pg_X8_agrees ((42, [none, none, none, none], []), (e9, g, cw_R sv)) v9 h9) (fun t9 => v9 = (some (.int t9.1)) ∧ h9 = (t9.2, g, cw_R sv))) x9 → rh_Ex (rh_M rh_PT (cw_L ++ xx) (d + 3)) (cw_L ++ xx) pg_X8_agrees ((2, [some (.ref 34), some (.int u1), some (.int u2), some (.int s2.1)], []), (s2.2, g, cw_R sv)) v9 h9 := by
  intro s2 x9 hf hk
  unfold b_Sc_agrees_2 at hf
  refine rh_Ex.blk 3 (s' := ((7, [some (.ref 34), some (.int u1), some (.int u2), some (.int s2.1)], [.int (s2.2 34 7), .int s2.1]), (s2.2, g, cw_R sv))) rfl ?_
  by_cases q2 : (s2.2 34 7) ≤ s2.1
  · rw [if_pos q2] at hf
    refine rh_Ex.stp (s' := ((42, [some (.ref 34), some (.int u1), some (.int u2), some (.int s2.1)], []), (s2.2, g, cw_R sv))) rfl (st_icge_p q2) ?_
    obtain rfl := Option.some.inj hf
    refine rh_Ex.fgt [none, none, none, none] trivial ?_
    exact hk
  · rw [if_neg q2] at hf
    refine rh_Ex.stp (s' := ((10, [some (.ref 34), some (.int u1), some (.int u2), some (.int s2.1)], []), (s2.2, g, cw_R sv))) rfl (st_icge_n q2) ?_
    refine rh_Ex.blk 7 (s' := ((21, [some (.ref 34), some (.int u1), some (.int u2), some (.int s2.1)], [.int s2.1, .ref 39, .int u2, .int u1, .ref 4]), (s2.2, g, cw_R sv))) rfl ?_
    obtain ⟨q3, hf⟩ := rh_gq hf
    refine rh_Ex.stp (s' := ((22, [some (.ref 34), some (.int u1), some (.int u2), some (.int s2.1)], [.int (s2.2 39 s2.1.toNatClampNeg), .int u2, .int u1, .ref 4]), (s2.2, g, cw_R sv))) rfl (st_iald (n := 10) rfl q3) ?_
    obtain ⟨x4, hx4, hf⟩ := rh_bq hf
    refine rh_Ex.call (j := 6) (rc := some 0) [.ref 4, .int u1, .int u2, .int (s2.2 39 s2.1.toNatClampNeg)] [] (some (.int x4.1)) rfl rfl rfl (Nat.le_of_ble_eq_true rfl) (R_Cr_weightWith d xx sv s2.2 g u1 u2 (s2.2 39 s2.1.toNatClampNeg) hx4) ?_
    show rh_Ex _ _ _ ((25, [some (.ref 34), some (.int u1), some (.int u2), some (.int s2.1)], [.int x4.1]), (x4.2, g, cw_R sv)) _ _
    refine rh_Ex.blk 3 (s' := ((30, [some (.ref 34), some (.int u1), some (.int u2), some (.int s2.1)], [.int s2.1, .ref 38, .int x4.1]), (x4.2, g, cw_R sv))) rfl ?_
    obtain ⟨q5, hf⟩ := rh_gq hf
    refine rh_Ex.stp (s' := ((31, [some (.ref 34), some (.int u1), some (.int u2), some (.int s2.1)], [.int (x4.2 38 s2.1.toNatClampNeg), .int x4.1]), (x4.2, g, cw_R sv))) rfl (st_iald (n := 10) rfl q5) ?_
    by_cases q6 : x4.1 = (x4.2 38 s2.1.toNatClampNeg)
    · rw [if_pos q6] at hf
      refine rh_Ex.stp (s' := ((36, [some (.ref 34), some (.int u1), some (.int u2), some (.int s2.1)], []), (x4.2, g, cw_R sv))) rfl (st_iceq_p q6) ?_
      refine rh_Ex.blk 2 (s' := ((2, [some (.ref 34), some (.int u1), some (.int u2), some (.int (s2.1 + (1 : Int32)))], []), (x4.2, g, cw_R sv))) rfl ?_
      obtain rfl := Option.some.inj hf
      refine rh_Ex.fgt [some (.ref 34), some (.int u1), some (.int u2), some (.int (s2.1 + (1 : Int32)))] ⟨rfl, rfl, rfl, rfl, trivial⟩ ?_
      exact hk
    · rw [if_neg q6] at hf
      refine rh_Ex.stp (s' := ((34, [some (.ref 34), some (.int u1), some (.int u2), some (.int s2.1)], []), (x4.2, g, cw_R sv))) rfl (st_iceq_n q6) ?_
      refine rh_Ex.blk 1 (s' := ((35, [some (.ref 34), some (.int u1), some (.int u2), some (.int s2.1)], [.int (0 : Int32)]), (x4.2, g, cw_R sv))) rfl ?_
      obtain rfl := Option.some.inj hf
      obtain ⟨rfl, rfl⟩ := hk
      exact rh_Ex.ret rfl ⟨rfl, Or.inl rfl⟩
set_option maxRecDepth 20000 in
set_option maxHeartbeats 4000000 in
theorem R_Sc_agrees (d : Nat) (xx : rh_L) (sv : Option Nat) (h : Nat → Nat → Int32) (g : Nat → Nat → Int64) (p0 : Int32) (p1 : Int32) {z9 : Int32 × (Nat → Nat → Int32)} (hf : f_Sc_agrees h p0 p1 = some z9) : rh_M rh_PT (cw_L ++ xx) (d + 4) 74 [.ref 34, .int p0, .int p1] (h, g, cw_R sv) (some (.int z9.1)) (z9.2, g, cw_R sv) := by
  unfold f_Sc_agrees at hf
  refine rh_go pt_74 (Nat.le_of_ble_eq_true rfl) (lv := [some (.ref 34), some (.int p0), some (.int p1), none]) rfl ?_
  refine rh_Ex.blk 2 (s' := ((2, [some (.ref 34), some (.int p0), some (.int p1), some (.int (0 : Int32))], []), (h, g, cw_R sv))) rfl ?_
  obtain ⟨r7, hr7, hf⟩ := rh_bq hf
  refine rh_Ex.fgt [some (.ref 34), some (.int p0), some (.int p1), some (.int (0 : Int32))] ⟨rfl, rfl, rfl, rfl, trivial⟩ ?_
  refine rh_Ex.loop _ _ _ (lb_Sc_agrees_2 d xx sv p0 p1  g _ _) rh_N _ r7 hr7 ?_
  rcases r7 with e8 | t9
  · dsimp only at hf
    refine rh_Ex.blk 1 (s' := ((43, [none, none, none, none], [.int (1 : Int32)]), (e8, g, cw_R sv))) rfl ?_
    obtain rfl := Option.some.inj hf
    exact rh_Ex.ret rfl ⟨rfl, Or.inr rfl⟩
  · dsimp only at hf
    obtain rfl := Option.some.inj hf
    exact ⟨rfl, rfl⟩
def b_St_begin_26  : (Int32 × (Nat → Nat → Int32)) → Option ((Int32 × (Nat → Nat → Int32)) ⊕ ((Nat → Nat → Int32))) := fun s26 =>
  if (s26.2 4 0) ≤ s26.1 then
    some (.inr s26.2)
  else
    if (f_De_isAboard s26.2 s26.1) = 0 then
      some (.inl (s26.1 + (1 : Int32), s26.2))
    else
      rh_g (0 ≤ s26.1.toInt ∧ s26.1.toInt < ((9 : Nat) : Int)) (
        rh_g (0 ≤ (s26.2 42 3).toInt ∧ (s26.2 42 3).toInt < ((9 : Nat) : Int)) (
          rh_g (0 ≤ (s26.2 42 3).toInt ∧ (s26.2 42 3).toInt < ((9 : Nat) : Int)) (
            some (.inl (s26.1 + (1 : Int32), rh_up (rh_up (rh_up s26.2 45 (0 : Int32).toNatClampNeg ((s26.2 45 (0 : Int32).toNatClampNeg) + (((s26.2 14 s26.1.toNatClampNeg) + (4 : Int32)) * (rh_UN (s26.2 42 3).toNatClampNeg)))) 43 (s26.2 42 3).toNatClampNeg s26.1) 42 3 ((s26.2 42 3) + (1 : Int32))))
          )
        )
      )
def f_St_begin (h : Nat → Nat → Int32) (p0 : Int32) : Option ((Nat → Nat → Int32)) :=
  (rh_loop (b_St_begin_26 ) rh_N ((0 : Int32), rh_up (rh_up (rh_up (rh_up h 42 9 p0) 42 3 (0 : Int32)) 45 (0 : Int32).toNatClampNeg (0 : Int32)) 46 (0 : Int32).toNatClampNeg (1 : Int32))).bind (fun r7 =>
    some (r7)
  )
set_option maxRecDepth 20000 in
set_option maxHeartbeats 4000000 in
theorem lb_St_begin_26 (d : Nat) (sv : Option Nat)  (g : Nat → Nat → Int64) (v9 : Option Value) (h9 : rh_H) : ∀ s26 x9, b_St_begin_26  s26 = some x9 → Sum.elim (fun s26 => rh_Ex (rh_M rh_PT (cw_L ++ cw_X) (d + 1)) (cw_L ++ cw_X) pg_X9_begin ((26, [some (.ref 42), none, some (.int s26.1)], []), (s26.2, g, cw_R sv)) v9 h9) (fun e9 => rh_Ex (rh_M rh_PT (cw_L ++ cw_X) (d + 1)) (cw_L ++ cw_X) pg_X9_begin ((103, [none, none, none], []), (e9, g, cw_R sv)) v9 h9) x9 → rh_Ex (rh_M rh_PT (cw_L ++ cw_X) (d + 1)) (cw_L ++ cw_X) pg_X9_begin ((26, [some (.ref 42), none, some (.int s26.1)], []), (s26.2, g, cw_R sv)) v9 h9 := by
  intro s26 x9 hf hk
  unfold b_St_begin_26 at hf
  refine rh_Ex.blk 4 (s' := ((34, [some (.ref 42), none, some (.int s26.1)], [.int (s26.2 4 0), .int s26.1]), (s26.2, g, cw_R sv))) rfl ?_
  by_cases q2 : (s26.2 4 0) ≤ s26.1
  · rw [if_pos q2] at hf
    refine rh_Ex.stp (s' := ((103, [some (.ref 42), none, some (.int s26.1)], []), (s26.2, g, cw_R sv))) rfl (st_icge_p q2) ?_
    obtain rfl := Option.some.inj hf
    refine rh_Ex.fgt [none, none, none] trivial ?_
    exact hk
  · rw [if_neg q2] at hf
    refine rh_Ex.stp (s' := ((37, [some (.ref 42), none, some (.int s26.1)], []), (s26.2, g, cw_R sv))) rfl (st_icge_n q2) ?_
    refine rh_Ex.blk 3 (s' := ((42, [some (.ref 42), none, some (.int s26.1)], [.int s26.1, .ref 13]), (s26.2, g, cw_R sv))) rfl ?_
    refine rh_Ex.call (j := 19) (rc := some 2) [.ref 13, .int s26.1] [] (some (.int (f_De_isAboard s26.2 s26.1))) rfl rfl rfl (Nat.le_of_ble_eq_true rfl) (R_De_isAboard d cw_X sv s26.2 g s26.1 rfl) ?_
    show rh_Ex _ _ _ ((45, [some (.ref 42), none, some (.int s26.1)], [.int (f_De_isAboard s26.2 s26.1)]), (s26.2, g, cw_R sv)) _ _
    by_cases q3 : (f_De_isAboard s26.2 s26.1) = 0
    · rw [if_pos q3] at hf
      refine rh_Ex.stp (s' := ((97, [some (.ref 42), none, some (.int s26.1)], []), (s26.2, g, cw_R sv))) rfl (st_ifeq_p q3) ?_
      refine rh_Ex.blk 2 (s' := ((26, [some (.ref 42), none, some (.int (s26.1 + (1 : Int32)))], []), (s26.2, g, cw_R sv))) rfl ?_
      obtain rfl := Option.some.inj hf
      refine rh_Ex.fgt [some (.ref 42), none, some (.int (s26.1 + (1 : Int32)))] ⟨rfl, rfl, trivial⟩ ?_
      exact hk
    · rw [if_neg q3] at hf
      refine rh_Ex.stp (s' := ((48, [some (.ref 42), none, some (.int s26.1)], []), (s26.2, g, cw_R sv))) rfl (st_ifeq_n q3) ?_
      refine rh_Ex.blk 4 (s' := ((54, [some (.ref 42), none, some (.int s26.1)], [.int (0 : Int32), .ref 45, .int (0 : Int32), .ref 45]), (s26.2, g, cw_R sv))) rfl ?_
      refine rh_Ex.stp (s' := ((55, [some (.ref 42), none, some (.int s26.1)], [.int (s26.2 45 (0 : Int32).toNatClampNeg), .int (0 : Int32), .ref 45]), (s26.2, g, cw_R sv))) rfl (st_iald (n := 10500) rfl (by decide)) ?_
      refine rh_Ex.blk 4 (s' := ((63, [some (.ref 42), none, some (.int s26.1)], [.int s26.1, .ref 14, .int (s26.2 45 (0 : Int32).toNatClampNeg), .int (0 : Int32), .ref 45]), (s26.2, g, cw_R sv))) rfl ?_
      obtain ⟨q4, hf⟩ := rh_gq hf
      refine rh_Ex.stp (s' := ((64, [some (.ref 42), none, some (.int s26.1)], [.int (s26.2 14 s26.1.toNatClampNeg), .int (s26.2 45 (0 : Int32).toNatClampNeg), .int (0 : Int32), .ref 45]), (s26.2, g, cw_R sv))) rfl (st_iald (n := 9) rfl q4) ?_
      refine rh_Ex.blk 5 (s' := ((73, [some (.ref 42), none, some (.int s26.1)], [.int (s26.2 42 3), .ref 1001, .int ((s26.2 14 s26.1.toNatClampNeg) + (4 : Int32)), .int (s26.2 45 (0 : Int32).toNatClampNeg), .int (0 : Int32), .ref 45]), (s26.2, g, cw_R sv))) rfl ?_
      obtain ⟨q5, hf⟩ := rh_gq hf
      refine rh_Ex.stp (s' := ((74, [some (.ref 42), none, some (.int s26.1)], [.int (rh_UN (s26.2 42 3).toNatClampNeg), .int ((s26.2 14 s26.1.toNatClampNeg) + (4 : Int32)), .int (s26.2 45 (0 : Int32).toNatClampNeg), .int (0 : Int32), .ref 45]), (s26.2, g, cw_R sv))) rfl (st_ials q5) ?_
      refine rh_Ex.blk 2 (s' := ((76, [some (.ref 42), none, some (.int s26.1)], [.int ((s26.2 45 (0 : Int32).toNatClampNeg) + (((s26.2 14 s26.1.toNatClampNeg) + (4 : Int32)) * (rh_UN (s26.2 42 3).toNatClampNeg))), .int (0 : Int32), .ref 45]), (s26.2, g, cw_R sv))) rfl ?_
      refine rh_Ex.stp (s' := ((77, [some (.ref 42), none, some (.int s26.1)], []), (rh_up s26.2 45 (0 : Int32).toNatClampNeg ((s26.2 45 (0 : Int32).toNatClampNeg) + (((s26.2 14 s26.1.toNatClampNeg) + (4 : Int32)) * (rh_UN (s26.2 42 3).toNatClampNeg))), g, cw_R sv))) rfl (st_iast (n := 10500) rfl (by decide)) ?_
      refine rh_Ex.blk 5 (s' := ((86, [some (.ref 42), none, some (.int s26.1)], [.int s26.1, .int (s26.2 42 3), .ref 43]), (rh_up s26.2 45 (0 : Int32).toNatClampNeg ((s26.2 45 (0 : Int32).toNatClampNeg) + (((s26.2 14 s26.1.toNatClampNeg) + (4 : Int32)) * (rh_UN (s26.2 42 3).toNatClampNeg))), g, cw_R sv))) rfl ?_
      obtain ⟨q6, hf⟩ := rh_gq hf
      refine rh_Ex.stp (s' := ((87, [some (.ref 42), none, some (.int s26.1)], []), (rh_up (rh_up s26.2 45 (0 : Int32).toNatClampNeg ((s26.2 45 (0 : Int32).toNatClampNeg) + (((s26.2 14 s26.1.toNatClampNeg) + (4 : Int32)) * (rh_UN (s26.2 42 3).toNatClampNeg)))) 43 (s26.2 42 3).toNatClampNeg s26.1, g, cw_R sv))) rfl (st_iast (n := 9) rfl q6) ?_
      refine rh_Ex.blk 8 (s' := ((26, [some (.ref 42), none, some (.int (s26.1 + (1 : Int32)))], []), (rh_up (rh_up (rh_up s26.2 45 (0 : Int32).toNatClampNeg ((s26.2 45 (0 : Int32).toNatClampNeg) + (((s26.2 14 s26.1.toNatClampNeg) + (4 : Int32)) * (rh_UN (s26.2 42 3).toNatClampNeg)))) 43 (s26.2 42 3).toNatClampNeg s26.1) 42 3 ((s26.2 42 3) + (1 : Int32)), g, cw_R sv))) rfl ?_
      obtain rfl := Option.some.inj hf
      refine rh_Ex.fgt [some (.ref 42), none, some (.int (s26.1 + (1 : Int32)))] ⟨rfl, rfl, trivial⟩ ?_
      exact hk
set_option maxRecDepth 20000 in
set_option maxHeartbeats 4000000 in
theorem R_St_begin (d : Nat) (sv : Option Nat) (h : Nat → Nat → Int32) (g : Nat → Nat → Int64) (p0 : Int32) {z9 : (Nat → Nat → Int32)} (hf : f_St_begin h p0 = some z9) : rh_M rh_PT (cw_L ++ cw_X) (d + 2) 75 [.ref 42, .int p0] (h, g, cw_R sv) none (z9, g, cw_R sv) := by
  unfold f_St_begin at hf
  refine rh_go pt_75 (Nat.le_of_ble_eq_true rfl) (lv := [some (.ref 42), some (.int p0), none]) rfl ?_
  refine rh_Ex.blk 10 (s' := ((16, [some (.ref 42), some (.int p0), none], [.int (0 : Int32), .int (0 : Int32), .ref 45]), (rh_up (rh_up h 42 9 p0) 42 3 (0 : Int32), g, cw_R sv))) rfl ?_
  refine rh_Ex.stp (s' := ((17, [some (.ref 42), some (.int p0), none], []), (rh_up (rh_up (rh_up h 42 9 p0) 42 3 (0 : Int32)) 45 (0 : Int32).toNatClampNeg (0 : Int32), g, cw_R sv))) rfl (st_iast (n := 10500) rfl (by decide)) ?_
  refine rh_Ex.blk 4 (s' := ((23, [some (.ref 42), some (.int p0), none], [.int (1 : Int32), .int (0 : Int32), .ref 46]), (rh_up (rh_up (rh_up h 42 9 p0) 42 3 (0 : Int32)) 45 (0 : Int32).toNatClampNeg (0 : Int32), g, cw_R sv))) rfl ?_
  refine rh_Ex.stp (s' := ((24, [some (.ref 42), some (.int p0), none], []), (rh_up (rh_up (rh_up (rh_up h 42 9 p0) 42 3 (0 : Int32)) 45 (0 : Int32).toNatClampNeg (0 : Int32)) 46 (0 : Int32).toNatClampNeg (1 : Int32), g, cw_R sv))) rfl (st_iast (n := 21) rfl (by decide)) ?_
  refine rh_Ex.blk 2 (s' := ((26, [some (.ref 42), some (.int p0), some (.int (0 : Int32))], []), (rh_up (rh_up (rh_up (rh_up h 42 9 p0) 42 3 (0 : Int32)) 45 (0 : Int32).toNatClampNeg (0 : Int32)) 46 (0 : Int32).toNatClampNeg (1 : Int32), g, cw_R sv))) rfl ?_
  obtain ⟨r7, hr7, hf⟩ := rh_bq hf
  refine rh_Ex.fgt [some (.ref 42), none, some (.int (0 : Int32))] ⟨rfl, rfl, trivial⟩ ?_
  refine rh_Ex.loop _ _ _ (lb_St_begin_26 d sv   g _ _) rh_N _ r7 hr7 ?_
  obtain rfl := Option.some.inj hf
  exact rh_Ex.ret rfl trivial
def b_St_weighAt_2 (u1 : Int32) : (Int32 × (Nat → Nat → Int32)) → Option ((Int32 × (Nat → Nat → Int32)) ⊕ ((Nat → Nat → Int32))) := fun s2 =>
  if (s2.2 42 3) ≤ s2.1 then
    some (.inr s2.2)
  else
    rh_g (0 ≤ s2.1.toInt ∧ s2.1.toInt < ((9 : Nat) : Int)) (
      (f_Cr_weightAt s2.2 (s2.2 43 s2.1.toNatClampNeg) ((s2.2 13 1) + u1)).bind (fun x4 =>
        rh_g (0 ≤ s2.1.toInt ∧ s2.1.toInt < ((9 : Nat) : Int)) (
          some (.inl (s2.1 + (1 : Int32), rh_up x4.2 44 s2.1.toNatClampNeg x4.1))
        )
      )
    )
def f_St_weighAt (h : Nat → Nat → Int32) (p0 : Int32) : Option ((Nat → Nat → Int32)) :=
  (rh_loop (b_St_weighAt_2 p0) rh_N ((0 : Int32), h)).bind (fun r6 =>
    some (r6)
  )
set_option maxRecDepth 20000 in
set_option maxHeartbeats 4000000 in
theorem lb_St_weighAt_2 (d : Nat) (sv : Option Nat) (u1 : Int32) (g : Nat → Nat → Int64) (v9 : Option Value) (h9 : rh_H) : ∀ s2 x9, b_St_weighAt_2 u1 s2 = some x9 → Sum.elim (fun s2 => rh_Ex (rh_M rh_PT (cw_L ++ cw_X) (d + 3)) (cw_L ++ cw_X) pg_X9_weighAt ((2, [some (.ref 42), some (.int u1), some (.int s2.1)], []), (s2.2, g, cw_R sv)) v9 h9) (fun e9 => rh_Ex (rh_M rh_PT (cw_L ++ cw_X) (d + 3)) (cw_L ++ cw_X) pg_X9_weighAt ((44, [none, none, none], []), (e9, g, cw_R sv)) v9 h9) x9 → rh_Ex (rh_M rh_PT (cw_L ++ cw_X) (d + 3)) (cw_L ++ cw_X) pg_X9_weighAt ((2, [some (.ref 42), some (.int u1), some (.int s2.1)], []), (s2.2, g, cw_R sv)) v9 h9 := by
  intro s2 x9 hf hk
  unfold b_St_weighAt_2 at hf
  refine rh_Ex.blk 3 (s' := ((7, [some (.ref 42), some (.int u1), some (.int s2.1)], [.int (s2.2 42 3), .int s2.1]), (s2.2, g, cw_R sv))) rfl ?_
  by_cases q2 : (s2.2 42 3) ≤ s2.1
  · rw [if_pos q2] at hf
    refine rh_Ex.stp (s' := ((44, [some (.ref 42), some (.int u1), some (.int s2.1)], []), (s2.2, g, cw_R sv))) rfl (st_icge_p q2) ?_
    obtain rfl := Option.some.inj hf
    refine rh_Ex.fgt [none, none, none] trivial ?_
    exact hk
  · rw [if_neg q2] at hf
    refine rh_Ex.stp (s' := ((10, [some (.ref 42), some (.int u1), some (.int s2.1)], []), (s2.2, g, cw_R sv))) rfl (st_icge_n q2) ?_
    refine rh_Ex.blk 8 (s' := ((24, [some (.ref 42), some (.int u1), some (.int s2.1)], [.int s2.1, .ref 43, .ref 4, .int s2.1, .ref 44]), (s2.2, g, cw_R sv))) rfl ?_
    obtain ⟨q3, hf⟩ := rh_gq hf
    refine rh_Ex.stp (s' := ((25, [some (.ref 42), some (.int u1), some (.int s2.1)], [.int (s2.2 43 s2.1.toNatClampNeg), .ref 4, .int s2.1, .ref 44]), (s2.2, g, cw_R sv))) rfl (st_iald (n := 9) rfl q3) ?_
    refine rh_Ex.blk 5 (s' := ((34, [some (.ref 42), some (.int u1), some (.int s2.1)], [.int ((s2.2 13 1) + u1), .int (s2.2 43 s2.1.toNatClampNeg), .ref 4, .int s2.1, .ref 44]), (s2.2, g, cw_R sv))) rfl ?_
    obtain ⟨x4, hx4, hf⟩ := rh_bq hf
    refine rh_Ex.call (j := 5) (rc := some 0) [.ref 4, .int (s2.2 43 s2.1.toNatClampNeg), .int ((s2.2 13 1) + u1)] [.int s2.1, .ref 44] (some (.int x4.1)) rfl rfl rfl (Nat.le_of_ble_eq_true rfl) (R_Cr_weightAt d cw_X sv s2.2 g (s2.2 43 s2.1.toNatClampNeg) ((s2.2 13 1) + u1) hx4) ?_
    show rh_Ex _ _ _ ((37, [some (.ref 42), some (.int u1), some (.int s2.1)], [.int x4.1, .int s2.1, .ref 44]), (x4.2, g, cw_R sv)) _ _
    obtain ⟨q5, hf⟩ := rh_gq hf
    refine rh_Ex.stp (s' := ((38, [some (.ref 42), some (.int u1), some (.int s2.1)], []), (rh_up x4.2 44 s2.1.toNatClampNeg x4.1, g, cw_R sv))) rfl (st_iast (n := 9) rfl q5) ?_
    refine rh_Ex.blk 2 (s' := ((2, [some (.ref 42), some (.int u1), some (.int (s2.1 + (1 : Int32)))], []), (rh_up x4.2 44 s2.1.toNatClampNeg x4.1, g, cw_R sv))) rfl ?_
    obtain rfl := Option.some.inj hf
    refine rh_Ex.fgt [some (.ref 42), some (.int u1), some (.int (s2.1 + (1 : Int32)))] ⟨rfl, rfl, rfl, trivial⟩ ?_
    exact hk
set_option maxRecDepth 20000 in
set_option maxHeartbeats 4000000 in
theorem R_St_weighAt (d : Nat) (sv : Option Nat) (h : Nat → Nat → Int32) (g : Nat → Nat → Int64) (p0 : Int32) {z9 : (Nat → Nat → Int32)} (hf : f_St_weighAt h p0 = some z9) : rh_M rh_PT (cw_L ++ cw_X) (d + 4) 76 [.ref 42, .int p0] (h, g, cw_R sv) none (z9, g, cw_R sv) := by
  unfold f_St_weighAt at hf
  refine rh_go pt_76 (Nat.le_of_ble_eq_true rfl) (lv := [some (.ref 42), some (.int p0), none]) rfl ?_
  refine rh_Ex.blk 2 (s' := ((2, [some (.ref 42), some (.int p0), some (.int (0 : Int32))], []), (h, g, cw_R sv))) rfl ?_
  obtain ⟨r6, hr6, hf⟩ := rh_bq hf
  refine rh_Ex.fgt [some (.ref 42), some (.int p0), some (.int (0 : Int32))] ⟨rfl, rfl, rfl, trivial⟩ ?_
  refine rh_Ex.loop _ _ _ (lb_St_weighAt_2 d sv p0  g _ _) rh_N _ r6 hr6 ?_
  obtain rfl := Option.some.inj hf
  exact rh_Ex.ret rfl trivial
def b_St_leanOf_7 (h : Nat → Nat → Int32) : (Int32 × Int32 × Int32) → Option ((Int32 × Int32 × Int32) ⊕ (Int32)) := fun s7 =>
  if (h 42 3) ≤ s7.2.2 then
    some (.inr s7.1)
  else
    rh_g (0 ≤ s7.2.2.toInt ∧ s7.2.2.toInt < ((9 : Nat) : Int)) (
      some (.inl (s7.1 + ((h 44 s7.2.2.toNatClampNeg) * ((s7.2.1 - s7.2.1 / (9 : Int32) * (9 : Int32)) - (4 : Int32))), s7.2.1 / (9 : Int32), s7.2.2 + (1 : Int32)))
    )
def f_St_leanOf (h : Nat → Nat → Int32) (p0 : Int32) : Option (Int32) :=
  (rh_loop (b_St_leanOf_7 h) rh_N ((0 : Int32), p0, (0 : Int32))).bind (fun r4 =>
    some (r4)
  )
set_option maxRecDepth 20000 in
set_option maxHeartbeats 4000000 in
theorem lb_St_leanOf_7 (d : Nat) (sv : Option Nat) (h : Nat → Nat → Int32) (g : Nat → Nat → Int64) (v9 : Option Value) (h9 : rh_H) : ∀ s7 x9, b_St_leanOf_7 h s7 = some x9 → Sum.elim (fun s7 => rh_Ex (rh_M rh_PT (cw_L ++ cw_X) (d + 0)) (cw_L ++ cw_X) pg_X9_leanOf ((7, [some (.ref 42), none, some (.int s7.1), some (.int s7.2.1), some (.int s7.2.2)], []), (h, g, cw_R sv)) v9 h9) (fun e9 => rh_Ex (rh_M rh_PT (cw_L ++ cw_X) (d + 0)) (cw_L ++ cw_X) pg_X9_leanOf ((44, [none, none, some (.int e9), none, none], []), (h, g, cw_R sv)) v9 h9) x9 → rh_Ex (rh_M rh_PT (cw_L ++ cw_X) (d + 0)) (cw_L ++ cw_X) pg_X9_leanOf ((7, [some (.ref 42), none, some (.int s7.1), some (.int s7.2.1), some (.int s7.2.2)], []), (h, g, cw_R sv)) v9 h9 := by
  intro s7 x9 hf hk
  unfold b_St_leanOf_7 at hf
  refine rh_Ex.blk 3 (s' := ((13, [some (.ref 42), none, some (.int s7.1), some (.int s7.2.1), some (.int s7.2.2)], [.int (h 42 3), .int s7.2.2]), (h, g, cw_R sv))) rfl ?_
  by_cases q2 : (h 42 3) ≤ s7.2.2
  · rw [if_pos q2] at hf
    refine rh_Ex.stp (s' := ((44, [some (.ref 42), none, some (.int s7.1), some (.int s7.2.1), some (.int s7.2.2)], []), (h, g, cw_R sv))) rfl (st_icge_p q2) ?_
    obtain rfl := Option.some.inj hf
    refine rh_Ex.fgt [none, none, some (.int s7.1), none, none] ⟨rfl, trivial⟩ ?_
    exact hk
  · rw [if_neg q2] at hf
    refine rh_Ex.stp (s' := ((16, [some (.ref 42), none, some (.int s7.1), some (.int s7.2.1), some (.int s7.2.2)], []), (h, g, cw_R sv))) rfl (st_icge_n q2) ?_
    refine rh_Ex.blk 4 (s' := ((23, [some (.ref 42), none, some (.int s7.1), some (.int s7.2.1), some (.int s7.2.2)], [.int s7.2.2, .ref 44, .int s7.1]), (h, g, cw_R sv))) rfl ?_
    obtain ⟨q3, hf⟩ := rh_gq hf
    refine rh_Ex.stp (s' := ((24, [some (.ref 42), none, some (.int s7.1), some (.int s7.2.1), some (.int s7.2.2)], [.int (h 44 s7.2.2.toNatClampNeg), .int s7.1]), (h, g, cw_R sv))) rfl (st_iald (n := 9) rfl q3) ?_
    refine rh_Ex.blk 2 (s' := ((27, [some (.ref 42), none, some (.int s7.1), some (.int s7.2.1), some (.int s7.2.2)], [.int (9 : Int32), .int s7.2.1, .int (h 44 s7.2.2.toNatClampNeg), .int s7.1]), (h, g, cw_R sv))) rfl ?_
    refine rh_Ex.stp (s' := ((28, [some (.ref 42), none, some (.int s7.1), some (.int s7.2.1), some (.int s7.2.2)], [.int (s7.2.1 - s7.2.1 / (9 : Int32) * (9 : Int32)), .int (h 44 s7.2.2.toNatClampNeg), .int s7.1]), (h, g, cw_R sv))) rfl (st_irem (by decide)) ?_
    refine rh_Ex.blk 7 (s' := ((36, [some (.ref 42), none, some (.int (s7.1 + ((h 44 s7.2.2.toNatClampNeg) * ((s7.2.1 - s7.2.1 / (9 : Int32) * (9 : Int32)) - (4 : Int32))))), some (.int s7.2.1), some (.int s7.2.2)], [.int (9 : Int32), .int s7.2.1]), (h, g, cw_R sv))) rfl ?_
    refine rh_Ex.stp (s' := ((37, [some (.ref 42), none, some (.int (s7.1 + ((h 44 s7.2.2.toNatClampNeg) * ((s7.2.1 - s7.2.1 / (9 : Int32) * (9 : Int32)) - (4 : Int32))))), some (.int s7.2.1), some (.int s7.2.2)], [.int (s7.2.1 / (9 : Int32))]), (h, g, cw_R sv))) rfl (st_idiv (by decide)) ?_
    refine rh_Ex.blk 3 (s' := ((7, [some (.ref 42), none, some (.int (s7.1 + ((h 44 s7.2.2.toNatClampNeg) * ((s7.2.1 - s7.2.1 / (9 : Int32) * (9 : Int32)) - (4 : Int32))))), some (.int (s7.2.1 / (9 : Int32))), some (.int (s7.2.2 + (1 : Int32)))], []), (h, g, cw_R sv))) rfl ?_
    obtain rfl := Option.some.inj hf
    refine rh_Ex.fgt [some (.ref 42), none, some (.int (s7.1 + ((h 44 s7.2.2.toNatClampNeg) * ((s7.2.1 - s7.2.1 / (9 : Int32) * (9 : Int32)) - (4 : Int32))))), some (.int (s7.2.1 / (9 : Int32))), some (.int (s7.2.2 + (1 : Int32)))] ⟨rfl, rfl, rfl, rfl, trivial⟩ ?_
    exact hk
set_option maxRecDepth 20000 in
set_option maxHeartbeats 4000000 in
theorem R_St_leanOf (d : Nat) (sv : Option Nat) (h : Nat → Nat → Int32) (g : Nat → Nat → Int64) (p0 : Int32) {z9 : Int32} (hf : f_St_leanOf h p0 = some z9) : rh_M rh_PT (cw_L ++ cw_X) (d + 1) 77 [.ref 42, .int p0] (h, g, cw_R sv) (some (.int z9)) (h, g, cw_R sv) := by
  unfold f_St_leanOf at hf
  refine rh_go pt_77 (Nat.le_of_ble_eq_true rfl) (lv := [some (.ref 42), some (.int p0), none, none, none]) rfl ?_
  refine rh_Ex.blk 6 (s' := ((7, [some (.ref 42), some (.int p0), some (.int (0 : Int32)), some (.int p0), some (.int (0 : Int32))], []), (h, g, cw_R sv))) rfl ?_
  obtain ⟨r4, hr4, hf⟩ := rh_bq hf
  refine rh_Ex.fgt [some (.ref 42), none, some (.int (0 : Int32)), some (.int p0), some (.int (0 : Int32))] ⟨rfl, rfl, rfl, rfl, trivial⟩ ?_
  refine rh_Ex.loop _ _ _ (lb_St_leanOf_7 d sv h  g _ _) rh_N _ r4 hr4 ?_
  refine rh_Ex.blk 1 (s' := ((45, [none, none, some (.int r4), none, none], [.int r4]), (h, g, cw_R sv))) rfl ?_
  obtain rfl := Option.some.inj hf
  exact rh_Ex.ret rfl rfl
def f_St_bearsLean (h : Nat → Nat → Int32) (p0 : Int32) : Int32 :=
  if (h 42 9) < p0 then
    (0 : Int32)
  else
    if (h 42 9) < (-p0) then
      (0 : Int32)
    else
      (1 : Int32)
set_option maxRecDepth 20000 in
set_option maxHeartbeats 4000000 in
theorem R_St_bearsLean (d : Nat) (sv : Option Nat) (h : Nat → Nat → Int32) (g : Nat → Nat → Int64) (p0 : Int32) {z9 : Int32} (hf : f_St_bearsLean h p0 = z9) : rh_M rh_PT (cw_L ++ cw_X) (d + 1) 78 [.ref 42, .int p0] (h, g, cw_R sv) (some (.int z9)) (h, g, cw_R sv) := by
  unfold f_St_bearsLean at hf
  refine rh_go pt_78 (Nat.le_of_ble_eq_true rfl) (lv := [some (.ref 42), some (.int p0)]) rfl ?_
  refine rh_Ex.blk 3 (s' := ((5, [some (.ref 42), some (.int p0)], [.int (h 42 9), .int p0]), (h, g, cw_R sv))) rfl ?_
  by_cases q1 : (h 42 9) < p0
  · rw [if_pos q1] at hf
    refine rh_Ex.stp (s' := ((21, [some (.ref 42), some (.int p0)], []), (h, g, cw_R sv))) rfl (st_icgt_p q1) ?_
    refine rh_Ex.blk 1 (s' := ((22, [some (.ref 42), some (.int p0)], [.int (0 : Int32)]), (h, g, cw_R sv))) rfl ?_
    subst hf
    exact rh_Ex.ret rfl ⟨rfl, Or.inl rfl⟩
  · rw [if_neg q1] at hf
    refine rh_Ex.stp (s' := ((8, [some (.ref 42), some (.int p0)], []), (h, g, cw_R sv))) rfl (st_icgt_n q1) ?_
    refine rh_Ex.blk 4 (s' := ((14, [some (.ref 42), some (.int p0)], [.int (h 42 9), .int (-p0)]), (h, g, cw_R sv))) rfl ?_
    by_cases q2 : (h 42 9) < (-p0)
    · rw [if_pos q2] at hf
      refine rh_Ex.stp (s' := ((21, [some (.ref 42), some (.int p0)], []), (h, g, cw_R sv))) rfl (st_icgt_p q2) ?_
      refine rh_Ex.blk 1 (s' := ((22, [some (.ref 42), some (.int p0)], [.int (0 : Int32)]), (h, g, cw_R sv))) rfl ?_
      subst hf
      exact rh_Ex.ret rfl ⟨rfl, Or.inl rfl⟩
    · rw [if_neg q2] at hf
      refine rh_Ex.stp (s' := ((17, [some (.ref 42), some (.int p0)], []), (h, g, cw_R sv))) rfl (st_icgt_n q2) ?_
      refine rh_Ex.blk 2 (s' := ((22, [some (.ref 42), some (.int p0)], [.int (1 : Int32)]), (h, g, cw_R sv))) rfl ?_
      subst hf
      exact rh_Ex.ret rfl ⟨rfl, Or.inr rfl⟩
def f_St_stepped (h : Nat → Nat → Int32) (p0 : Int32) (p1 : Int32) (p2 : Int32) (p3 : Int32) : Option (Int32) :=
  rh_g (0 ≤ p2.toInt ∧ p2.toInt < ((9 : Nat) : Int)) (
    rh_g (¬ (rh_UN p2.toNatClampNeg) = 0) (
      if (((p0 / (rh_UN p2.toNatClampNeg)) - (p0 / (rh_UN p2.toNatClampNeg)) / (9 : Int32) * (9 : Int32)) + p3) < 0 then
        some ((-1 : Int32))
      else
        if (9 : Int32) ≤ (((p0 / (rh_UN p2.toNatClampNeg)) - (p0 / (rh_UN p2.toNatClampNeg)) / (9 : Int32) * (9 : Int32)) + p3) then
          some ((-1 : Int32))
        else
          rh_g (0 ≤ p2.toInt ∧ p2.toInt < ((9 : Nat) : Int)) (
            if (f_St_bearsLean h (p1 + (p3 * (h 44 p2.toNatClampNeg)))) = 0 then
              some ((-1 : Int32))
            else
              rh_g (0 ≤ p2.toInt ∧ p2.toInt < ((9 : Nat) : Int)) (
                some ((p0 + (p3 * (rh_UN p2.toNatClampNeg))))
              )
          )
    )
  )
set_option maxRecDepth 20000 in
set_option maxHeartbeats 4000000 in
theorem R_St_stepped (d : Nat) (sv : Option Nat) (h : Nat → Nat → Int32) (g : Nat → Nat → Int64) (p0 : Int32) (p1 : Int32) (p2 : Int32) (p3 : Int32) {z9 : Int32} (hf : f_St_stepped h p0 p1 p2 p3 = some z9) : rh_M rh_PT (cw_L ++ cw_X) (d + 2) 79 [.ref 42, .int p0, .int p1, .int p2, .int p3] (h, g, cw_R sv) (some (.int z9)) (h, g, cw_R sv) := by
  unfold f_St_stepped at hf
  refine rh_go pt_79 (Nat.le_of_ble_eq_true rfl) (lv := [some (.ref 42), some (.int p0), some (.int p1), some (.int p2), some (.int p3), none]) rfl ?_
  refine rh_Ex.blk 3 (s' := ((5, [some (.ref 42), some (.int p0), some (.int p1), some (.int p2), some (.int p3), none], [.int p2, .ref 1001, .int p0]), (h, g, cw_R sv))) rfl ?_
  obtain ⟨q1, hf⟩ := rh_gq hf
  refine rh_Ex.stp (s' := ((6, [some (.ref 42), some (.int p0), some (.int p1), some (.int p2), some (.int p3), none], [.int (rh_UN p2.toNatClampNeg), .int p0]), (h, g, cw_R sv))) rfl (st_ials q1) ?_
  obtain ⟨q2, hf⟩ := rh_gq hf
  refine rh_Ex.stp (s' := ((7, [some (.ref 42), some (.int p0), some (.int p1), some (.int p2), some (.int p3), none], [.int (p0 / (rh_UN p2.toNatClampNeg))]), (h, g, cw_R sv))) rfl (st_idiv q2) ?_
  refine rh_Ex.blk 1 (s' := ((9, [some (.ref 42), some (.int p0), some (.int p1), some (.int p2), some (.int p3), none], [.int (9 : Int32), .int (p0 / (rh_UN p2.toNatClampNeg))]), (h, g, cw_R sv))) rfl ?_
  refine rh_Ex.stp (s' := ((10, [some (.ref 42), some (.int p0), some (.int p1), some (.int p2), some (.int p3), none], [.int ((p0 / (rh_UN p2.toNatClampNeg)) - (p0 / (rh_UN p2.toNatClampNeg)) / (9 : Int32) * (9 : Int32))]), (h, g, cw_R sv))) rfl (st_irem (by decide)) ?_
  refine rh_Ex.blk 4 (s' := ((17, [some (.ref 42), some (.int p0), some (.int p1), some (.int p2), some (.int p3), some (.int (((p0 / (rh_UN p2.toNatClampNeg)) - (p0 / (rh_UN p2.toNatClampNeg)) / (9 : Int32) * (9 : Int32)) + p3))], [.int (((p0 / (rh_UN p2.toNatClampNeg)) - (p0 / (rh_UN p2.toNatClampNeg)) / (9 : Int32) * (9 : Int32)) + p3)]), (h, g, cw_R sv))) rfl ?_
  by_cases q3 : (((p0 / (rh_UN p2.toNatClampNeg)) - (p0 / (rh_UN p2.toNatClampNeg)) / (9 : Int32) * (9 : Int32)) + p3) < 0
  · rw [if_pos q3] at hf
    refine rh_Ex.stp (s' := ((45, [some (.ref 42), some (.int p0), some (.int p1), some (.int p2), some (.int p3), some (.int (((p0 / (rh_UN p2.toNatClampNeg)) - (p0 / (rh_UN p2.toNatClampNeg)) / (9 : Int32) * (9 : Int32)) + p3))], []), (h, g, cw_R sv))) rfl (st_iflt_p q3) ?_
    refine rh_Ex.blk 1 (s' := ((46, [some (.ref 42), some (.int p0), some (.int p1), some (.int p2), some (.int p3), some (.int (((p0 / (rh_UN p2.toNatClampNeg)) - (p0 / (rh_UN p2.toNatClampNeg)) / (9 : Int32) * (9 : Int32)) + p3))], [.int (-1 : Int32)]), (h, g, cw_R sv))) rfl ?_
    obtain rfl := Option.some.inj hf
    exact rh_Ex.ret rfl rfl
  · rw [if_neg q3] at hf
    refine rh_Ex.stp (s' := ((20, [some (.ref 42), some (.int p0), some (.int p1), some (.int p2), some (.int p3), some (.int (((p0 / (rh_UN p2.toNatClampNeg)) - (p0 / (rh_UN p2.toNatClampNeg)) / (9 : Int32) * (9 : Int32)) + p3))], []), (h, g, cw_R sv))) rfl (st_iflt_n q3) ?_
    refine rh_Ex.blk 2 (s' := ((24, [some (.ref 42), some (.int p0), some (.int p1), some (.int p2), some (.int p3), some (.int (((p0 / (rh_UN p2.toNatClampNeg)) - (p0 / (rh_UN p2.toNatClampNeg)) / (9 : Int32) * (9 : Int32)) + p3))], [.int (9 : Int32), .int (((p0 / (rh_UN p2.toNatClampNeg)) - (p0 / (rh_UN p2.toNatClampNeg)) / (9 : Int32) * (9 : Int32)) + p3)]), (h, g, cw_R sv))) rfl ?_
    by_cases q4 : (9 : Int32) ≤ (((p0 / (rh_UN p2.toNatClampNeg)) - (p0 / (rh_UN p2.toNatClampNeg)) / (9 : Int32) * (9 : Int32)) + p3)
    · rw [if_pos q4] at hf
      refine rh_Ex.stp (s' := ((45, [some (.ref 42), some (.int p0), some (.int p1), some (.int p2), some (.int p3), some (.int (((p0 / (rh_UN p2.toNatClampNeg)) - (p0 / (rh_UN p2.toNatClampNeg)) / (9 : Int32) * (9 : Int32)) + p3))], []), (h, g, cw_R sv))) rfl (st_icge_p q4) ?_
      refine rh_Ex.blk 1 (s' := ((46, [some (.ref 42), some (.int p0), some (.int p1), some (.int p2), some (.int p3), some (.int (((p0 / (rh_UN p2.toNatClampNeg)) - (p0 / (rh_UN p2.toNatClampNeg)) / (9 : Int32) * (9 : Int32)) + p3))], [.int (-1 : Int32)]), (h, g, cw_R sv))) rfl ?_
      obtain rfl := Option.some.inj hf
      exact rh_Ex.ret rfl rfl
    · rw [if_neg q4] at hf
      refine rh_Ex.stp (s' := ((27, [some (.ref 42), some (.int p0), some (.int p1), some (.int p2), some (.int p3), some (.int (((p0 / (rh_UN p2.toNatClampNeg)) - (p0 / (rh_UN p2.toNatClampNeg)) / (9 : Int32) * (9 : Int32)) + p3))], []), (h, g, cw_R sv))) rfl (st_icge_n q4) ?_
      refine rh_Ex.blk 6 (s' := ((36, [some (.ref 42), some (.int p0), some (.int p1), some (.int p2), some (.int p3), some (.int (((p0 / (rh_UN p2.toNatClampNeg)) - (p0 / (rh_UN p2.toNatClampNeg)) / (9 : Int32) * (9 : Int32)) + p3))], [.int p2, .ref 44, .int p3, .int p1, .ref 42]), (h, g, cw_R sv))) rfl ?_
      obtain ⟨q5, hf⟩ := rh_gq hf
      refine rh_Ex.stp (s' := ((37, [some (.ref 42), some (.int p0), some (.int p1), some (.int p2), some (.int p3), some (.int (((p0 / (rh_UN p2.toNatClampNeg)) - (p0 / (rh_UN p2.toNatClampNeg)) / (9 : Int32) * (9 : Int32)) + p3))], [.int (h 44 p2.toNatClampNeg), .int p3, .int p1, .ref 42]), (h, g, cw_R sv))) rfl (st_iald (n := 9) rfl q5) ?_
      refine rh_Ex.blk 2 (s' := ((39, [some (.ref 42), some (.int p0), some (.int p1), some (.int p2), some (.int p3), some (.int (((p0 / (rh_UN p2.toNatClampNeg)) - (p0 / (rh_UN p2.toNatClampNeg)) / (9 : Int32) * (9 : Int32)) + p3))], [.int (p1 + (p3 * (h 44 p2.toNatClampNeg))), .ref 42]), (h, g, cw_R sv))) rfl ?_
      refine rh_Ex.call (j := 78) (rc := some 8) [.ref 42, .int (p1 + (p3 * (h 44 p2.toNatClampNeg)))] [] (some (.int (f_St_bearsLean h (p1 + (p3 * (h 44 p2.toNatClampNeg)))))) rfl rfl rfl (Nat.le_of_ble_eq_true rfl) (R_St_bearsLean d sv h g (p1 + (p3 * (h 44 p2.toNatClampNeg))) rfl) ?_
      show rh_Ex _ _ _ ((42, [some (.ref 42), some (.int p0), some (.int p1), some (.int p2), some (.int p3), some (.int (((p0 / (rh_UN p2.toNatClampNeg)) - (p0 / (rh_UN p2.toNatClampNeg)) / (9 : Int32) * (9 : Int32)) + p3))], [.int (f_St_bearsLean h (p1 + (p3 * (h 44 p2.toNatClampNeg))))]), (h, g, cw_R sv)) _ _
      by_cases q6 : (f_St_bearsLean h (p1 + (p3 * (h 44 p2.toNatClampNeg)))) = 0
      · rw [if_pos q6] at hf
        refine rh_Ex.stp (s' := ((45, [some (.ref 42), some (.int p0), some (.int p1), some (.int p2), some (.int p3), some (.int (((p0 / (rh_UN p2.toNatClampNeg)) - (p0 / (rh_UN p2.toNatClampNeg)) / (9 : Int32) * (9 : Int32)) + p3))], []), (h, g, cw_R sv))) rfl (st_ifne_p q6) ?_
        refine rh_Ex.blk 1 (s' := ((46, [some (.ref 42), some (.int p0), some (.int p1), some (.int p2), some (.int p3), some (.int (((p0 / (rh_UN p2.toNatClampNeg)) - (p0 / (rh_UN p2.toNatClampNeg)) / (9 : Int32) * (9 : Int32)) + p3))], [.int (-1 : Int32)]), (h, g, cw_R sv))) rfl ?_
        obtain rfl := Option.some.inj hf
        exact rh_Ex.ret rfl rfl
      · rw [if_neg q6] at hf
        refine rh_Ex.stp (s' := ((47, [some (.ref 42), some (.int p0), some (.int p1), some (.int p2), some (.int p3), some (.int (((p0 / (rh_UN p2.toNatClampNeg)) - (p0 / (rh_UN p2.toNatClampNeg)) / (9 : Int32) * (9 : Int32)) + p3))], []), (h, g, cw_R sv))) rfl (st_ifne_n q6) ?_
        refine rh_Ex.blk 4 (s' := ((54, [some (.ref 42), some (.int p0), some (.int p1), some (.int p2), some (.int p3), some (.int (((p0 / (rh_UN p2.toNatClampNeg)) - (p0 / (rh_UN p2.toNatClampNeg)) / (9 : Int32) * (9 : Int32)) + p3))], [.int p2, .ref 1001, .int p3, .int p0]), (h, g, cw_R sv))) rfl ?_
        obtain ⟨q7, hf⟩ := rh_gq hf
        refine rh_Ex.stp (s' := ((55, [some (.ref 42), some (.int p0), some (.int p1), some (.int p2), some (.int p3), some (.int (((p0 / (rh_UN p2.toNatClampNeg)) - (p0 / (rh_UN p2.toNatClampNeg)) / (9 : Int32) * (9 : Int32)) + p3))], [.int (rh_UN p2.toNatClampNeg), .int p3, .int p0]), (h, g, cw_R sv))) rfl (st_ials q7) ?_
        refine rh_Ex.blk 2 (s' := ((57, [some (.ref 42), some (.int p0), some (.int p1), some (.int p2), some (.int p3), some (.int (((p0 / (rh_UN p2.toNatClampNeg)) - (p0 / (rh_UN p2.toNatClampNeg)) / (9 : Int32) * (9 : Int32)) + p3))], [.int (p0 + (p3 * (rh_UN p2.toNatClampNeg)))]), (h, g, cw_R sv))) rfl ?_
        obtain rfl := Option.some.inj hf
        exact rh_Ex.ret rfl rfl
def b_St_slotOf_11 (u1 : Int32) (u2 : Int32) (h : Nat → Nat → Int32) : (Int32 × Int32) → Option ((Int32 × Int32) ⊕ ((Int32) ⊕ (Int32))) := fun s11 =>
  if (1024 : Int32) ≤ s11.2 then
    some (.inr (.inl s11.1))
  else
    rh_g (0 ≤ s11.1.toInt ∧ s11.1.toInt < ((1024 : Nat) : Int)) (
      if (h 48 s11.1.toNatClampNeg) = 0 then
        some (.inr (.inr s11.1))
      else
        rh_g (0 ≤ (((u1 * (500 : Int32)) + (h 48 s11.1.toNatClampNeg)) - (1 : Int32)).toInt ∧ (((u1 * (500 : Int32)) + (h 48 s11.1.toNatClampNeg)) - (1 : Int32)).toInt < ((10500 : Nat) : Int)) (
          if (h 45 (((u1 * (500 : Int32)) + (h 48 s11.1.toNatClampNeg)) - (1 : Int32)).toNatClampNeg) = u2 then
            some (.inr (.inr s11.1))
          else
            some (.inl ((s11.1 + (1 : Int32)) &&& (1023 : Int32), s11.2 + (1 : Int32)))
        )
    )
def f_St_slotOf (h : Nat → Nat → Int32) (p0 : Int32) (p1 : Int32) : Option (Int32) :=
  (rh_loop (b_St_slotOf_11 p0 p1 h) rh_N (((p1 * (-1640531535 : Int32)).toUInt32 >>> ((22 : Int32).toUInt32 &&& Int32.toUInt32 31)).toInt32, (0 : Int32))).bind (fun r7 => match r7 with
    | .inl e8 =>
      some (e8)
    | .inr t9 => some t9)
set_option maxRecDepth 20000 in
set_option maxHeartbeats 4000000 in
theorem lb_St_slotOf_11 (d : Nat) (sv : Option Nat) (u1 : Int32) (u2 : Int32) (h : Nat → Nat → Int32) (g : Nat → Nat → Int64) (v9 : Option Value) (h9 : rh_H) : ∀ s11 x9, b_St_slotOf_11 u1 u2 h s11 = some x9 → Sum.elim (fun s11 => rh_Ex (rh_M rh_PT (cw_L ++ cw_X) (d + 0)) (cw_L ++ cw_X) pg_X9_slotOf ((11, [some (.ref 42), some (.int u1), some (.int u2), some (.int s11.1), some (.int s11.2), none], []), (h, g, cw_R sv)) v9 h9) (Sum.elim (fun e9 => rh_Ex (rh_M rh_PT (cw_L ++ cw_X) (d + 0)) (cw_L ++ cw_X) pg_X9_slotOf ((67, [none, none, none, some (.int e9), none, none], []), (h, g, cw_R sv)) v9 h9) (fun t9 => v9 = (some (.int t9)) ∧ h9 = (h, g, cw_R sv))) x9 → rh_Ex (rh_M rh_PT (cw_L ++ cw_X) (d + 0)) (cw_L ++ cw_X) pg_X9_slotOf ((11, [some (.ref 42), some (.int u1), some (.int u2), some (.int s11.1), some (.int s11.2), none], []), (h, g, cw_R sv)) v9 h9 := by
  intro s11 x9 hf hk
  unfold b_St_slotOf_11 at hf
  refine rh_Ex.blk 2 (s' := ((16, [some (.ref 42), some (.int u1), some (.int u2), some (.int s11.1), some (.int s11.2), none], [.int (1024 : Int32), .int s11.2]), (h, g, cw_R sv))) rfl ?_
  by_cases q2 : (1024 : Int32) ≤ s11.2
  · rw [if_pos q2] at hf
    refine rh_Ex.stp (s' := ((67, [some (.ref 42), some (.int u1), some (.int u2), some (.int s11.1), some (.int s11.2), none], []), (h, g, cw_R sv))) rfl (st_icge_p q2) ?_
    obtain rfl := Option.some.inj hf
    refine rh_Ex.fgt [none, none, none, some (.int s11.1), none, none] ⟨rfl, trivial⟩ ?_
    exact hk
  · rw [if_neg q2] at hf
    refine rh_Ex.stp (s' := ((19, [some (.ref 42), some (.int u1), some (.int u2), some (.int s11.1), some (.int s11.2), none], []), (h, g, cw_R sv))) rfl (st_icge_n q2) ?_
    refine rh_Ex.blk 3 (s' := ((24, [some (.ref 42), some (.int u1), some (.int u2), some (.int s11.1), some (.int s11.2), none], [.int s11.1, .ref 48]), (h, g, cw_R sv))) rfl ?_
    obtain ⟨q3, hf⟩ := rh_gq hf
    refine rh_Ex.stp (s' := ((25, [some (.ref 42), some (.int u1), some (.int u2), some (.int s11.1), some (.int s11.2), none], [.int (h 48 s11.1.toNatClampNeg)]), (h, g, cw_R sv))) rfl (st_iald (n := 1024) rfl q3) ?_
    refine rh_Ex.blk 2 (s' := ((29, [some (.ref 42), some (.int u1), some (.int u2), some (.int s11.1), some (.int s11.2), some (.int (h 48 s11.1.toNatClampNeg))], [.int (h 48 s11.1.toNatClampNeg)]), (h, g, cw_R sv))) rfl ?_
    by_cases q4 : (h 48 s11.1.toNatClampNeg) = 0
    · rw [if_pos q4] at hf
      refine rh_Ex.stp (s' := ((51, [some (.ref 42), some (.int u1), some (.int u2), some (.int s11.1), some (.int s11.2), some (.int (h 48 s11.1.toNatClampNeg))], []), (h, g, cw_R sv))) rfl (st_ifeq_p q4) ?_
      refine rh_Ex.blk 1 (s' := ((52, [some (.ref 42), some (.int u1), some (.int u2), some (.int s11.1), some (.int s11.2), some (.int (h 48 s11.1.toNatClampNeg))], [.int s11.1]), (h, g, cw_R sv))) rfl ?_
      obtain rfl := Option.some.inj hf
      obtain ⟨rfl, rfl⟩ := hk
      exact rh_Ex.ret rfl rfl
    · rw [if_neg q4] at hf
      refine rh_Ex.stp (s' := ((32, [some (.ref 42), some (.int u1), some (.int u2), some (.int s11.1), some (.int s11.2), some (.int (h 48 s11.1.toNatClampNeg))], []), (h, g, cw_R sv))) rfl (st_ifeq_n q4) ?_
      refine rh_Ex.blk 9 (s' := ((46, [some (.ref 42), some (.int u1), some (.int u2), some (.int s11.1), some (.int s11.2), some (.int (h 48 s11.1.toNatClampNeg))], [.int (((u1 * (500 : Int32)) + (h 48 s11.1.toNatClampNeg)) - (1 : Int32)), .ref 45]), (h, g, cw_R sv))) rfl ?_
      obtain ⟨q5, hf⟩ := rh_gq hf
      refine rh_Ex.stp (s' := ((47, [some (.ref 42), some (.int u1), some (.int u2), some (.int s11.1), some (.int s11.2), some (.int (h 48 s11.1.toNatClampNeg))], [.int (h 45 (((u1 * (500 : Int32)) + (h 48 s11.1.toNatClampNeg)) - (1 : Int32)).toNatClampNeg)]), (h, g, cw_R sv))) rfl (st_iald (n := 10500) rfl q5) ?_
      refine rh_Ex.blk 1 (s' := ((48, [some (.ref 42), some (.int u1), some (.int u2), some (.int s11.1), some (.int s11.2), some (.int (h 48 s11.1.toNatClampNeg))], [.int u2, .int (h 45 (((u1 * (500 : Int32)) + (h 48 s11.1.toNatClampNeg)) - (1 : Int32)).toNatClampNeg)]), (h, g, cw_R sv))) rfl ?_
      by_cases q6 : (h 45 (((u1 * (500 : Int32)) + (h 48 s11.1.toNatClampNeg)) - (1 : Int32)).toNatClampNeg) = u2
      · rw [if_pos q6] at hf
        refine rh_Ex.stp (s' := ((51, [some (.ref 42), some (.int u1), some (.int u2), some (.int s11.1), some (.int s11.2), some (.int (h 48 s11.1.toNatClampNeg))], []), (h, g, cw_R sv))) rfl (st_icne_p q6) ?_
        refine rh_Ex.blk 1 (s' := ((52, [some (.ref 42), some (.int u1), some (.int u2), some (.int s11.1), some (.int s11.2), some (.int (h 48 s11.1.toNatClampNeg))], [.int s11.1]), (h, g, cw_R sv))) rfl ?_
        obtain rfl := Option.some.inj hf
        obtain ⟨rfl, rfl⟩ := hk
        exact rh_Ex.ret rfl rfl
      · rw [if_neg q6] at hf
        refine rh_Ex.stp (s' := ((53, [some (.ref 42), some (.int u1), some (.int u2), some (.int s11.1), some (.int s11.2), some (.int (h 48 s11.1.toNatClampNeg))], []), (h, g, cw_R sv))) rfl (st_icne_n q6) ?_
        refine rh_Ex.blk 8 (s' := ((11, [some (.ref 42), some (.int u1), some (.int u2), some (.int ((s11.1 + (1 : Int32)) &&& (1023 : Int32))), some (.int (s11.2 + (1 : Int32))), some (.int (h 48 s11.1.toNatClampNeg))], []), (h, g, cw_R sv))) rfl ?_
        obtain rfl := Option.some.inj hf
        refine rh_Ex.fgt [some (.ref 42), some (.int u1), some (.int u2), some (.int ((s11.1 + (1 : Int32)) &&& (1023 : Int32))), some (.int (s11.2 + (1 : Int32))), none] ⟨rfl, rfl, rfl, rfl, rfl, trivial⟩ ?_
        exact hk
set_option maxRecDepth 20000 in
set_option maxHeartbeats 4000000 in
theorem R_St_slotOf (d : Nat) (sv : Option Nat) (h : Nat → Nat → Int32) (g : Nat → Nat → Int64) (p0 : Int32) (p1 : Int32) {z9 : Int32} (hf : f_St_slotOf h p0 p1 = some z9) : rh_M rh_PT (cw_L ++ cw_X) (d + 1) 80 [.ref 42, .int p0, .int p1] (h, g, cw_R sv) (some (.int z9)) (h, g, cw_R sv) := by
  unfold f_St_slotOf at hf
  refine rh_go pt_80 (Nat.le_of_ble_eq_true rfl) (lv := [some (.ref 42), some (.int p0), some (.int p1), none, none, none]) rfl ?_
  refine rh_Ex.blk 8 (s' := ((11, [some (.ref 42), some (.int p0), some (.int p1), some (.int (((p1 * (-1640531535 : Int32)).toUInt32 >>> ((22 : Int32).toUInt32 &&& Int32.toUInt32 31)).toInt32)), some (.int (0 : Int32)), none], []), (h, g, cw_R sv))) rfl ?_
  obtain ⟨r7, hr7, hf⟩ := rh_bq hf
  refine rh_Ex.fgt [some (.ref 42), some (.int p0), some (.int p1), some (.int (((p1 * (-1640531535 : Int32)).toUInt32 >>> ((22 : Int32).toUInt32 &&& Int32.toUInt32 31)).toInt32)), some (.int (0 : Int32)), none] ⟨rfl, rfl, rfl, rfl, rfl, trivial⟩ ?_
  refine rh_Ex.loop _ _ _ (lb_St_slotOf_11 d sv p0 p1 h  g _ _) rh_N _ r7 hr7 ?_
  rcases r7 with e8 | t9
  · dsimp only at hf
    refine rh_Ex.blk 1 (s' := ((68, [none, none, none, some (.int e8), none, none], [.int e8]), (h, g, cw_R sv))) rfl ?_
    obtain rfl := Option.some.inj hf
    exact rh_Ex.ret rfl rfl
  · dsimp only at hf
    obtain rfl := Option.some.inj hf
    exact ⟨rfl, rfl⟩
def f_St_addWay (h : Nat → Nat → Int32) (p0 : Int32) (p1 : Int32) : Option (Int32 × (Nat → Nat → Int32)) :=
  if p1 = (-1 : Int32) then
    some (((1 : Int32), h))
  else
    (f_St_slotOf h p0 p1).bind (fun x2 =>
      rh_g (0 ≤ x2.toInt ∧ x2.toInt < ((1024 : Nat) : Int)) (
        if (h 48 x2.toNatClampNeg) = 0 then
          rh_g (0 ≤ p0.toInt ∧ p0.toInt < ((21 : Nat) : Int)) (
            if (h 46 p0.toNatClampNeg) = (500 : Int32) then
              some (((0 : Int32), h))
            else
              rh_g (0 ≤ p0.toInt ∧ p0.toInt < ((21 : Nat) : Int)) (
                rh_g (0 ≤ ((p0 * (500 : Int32)) + (h 46 p0.toNatClampNeg)).toInt ∧ ((p0 * (500 : Int32)) + (h 46 p0.toNatClampNeg)).toInt < ((10500 : Nat) : Int)) (
                  rh_g (0 ≤ p0.toInt ∧ p0.toInt < ((21 : Nat) : Int)) (
                    rh_g (0 ≤ p0.toInt ∧ p0.toInt < ((21 : Nat) : Int)) (
                      rh_g (0 ≤ p0.toInt ∧ p0.toInt < ((21 : Nat) : Int)) (
                        rh_g (0 ≤ x2.toInt ∧ x2.toInt < ((1024 : Nat) : Int)) (
                          some (((1 : Int32), rh_up (rh_up (rh_up h 45 ((p0 * (500 : Int32)) + (h 46 p0.toNatClampNeg)).toNatClampNeg p1) 46 p0.toNatClampNeg (((rh_up h 45 ((p0 * (500 : Int32)) + (h 46 p0.toNatClampNeg)).toNatClampNeg p1) 46 p0.toNatClampNeg) + (1 : Int32))) 48 x2.toNatClampNeg ((rh_up (rh_up h 45 ((p0 * (500 : Int32)) + (h 46 p0.toNatClampNeg)).toNatClampNeg p1) 46 p0.toNatClampNeg (((rh_up h 45 ((p0 * (500 : Int32)) + (h 46 p0.toNatClampNeg)).toNatClampNeg p1) 46 p0.toNatClampNeg) + (1 : Int32))) 46 p0.toNatClampNeg)))
                        )
                      )
                    )
                  )
                )
              )
          )
        else
          some (((1 : Int32), h))
      )
    )
set_option maxRecDepth 20000 in
set_option maxHeartbeats 4000000 in
theorem R_St_addWay (d : Nat) (sv : Option Nat) (h : Nat → Nat → Int32) (g : Nat → Nat → Int64) (p0 : Int32) (p1 : Int32) {z9 : Int32 × (Nat → Nat → Int32)} (hf : f_St_addWay h p0 p1 = some z9) : rh_M rh_PT (cw_L ++ cw_X) (d + 2) 81 [.ref 42, .int p0, .int p1] (h, g, cw_R sv) (some (.int z9.1)) (z9.2, g, cw_R sv) := by
  unfold f_St_addWay at hf
  refine rh_go pt_81 (Nat.le_of_ble_eq_true rfl) (lv := [some (.ref 42), some (.int p0), some (.int p1), none]) rfl ?_
  refine rh_Ex.blk 2 (s' := ((2, [some (.ref 42), some (.int p0), some (.int p1), none], [.int (-1 : Int32), .int p1]), (h, g, cw_R sv))) rfl ?_
  by_cases q1 : p1 = (-1 : Int32)
  · rw [if_pos q1] at hf
    refine rh_Ex.stp (s' := ((5, [some (.ref 42), some (.int p0), some (.int p1), none], []), (h, g, cw_R sv))) rfl (st_icne_p q1) ?_
    refine rh_Ex.blk 1 (s' := ((6, [some (.ref 42), some (.int p0), some (.int p1), none], [.int (1 : Int32)]), (h, g, cw_R sv))) rfl ?_
    obtain rfl := Option.some.inj hf
    exact rh_Ex.ret rfl ⟨rfl, Or.inr rfl⟩
  · rw [if_neg q1] at hf
    refine rh_Ex.stp (s' := ((7, [some (.ref 42), some (.int p0), some (.int p1), none], []), (h, g, cw_R sv))) rfl (st_icne_n q1) ?_
    refine rh_Ex.blk 3 (s' := ((10, [some (.ref 42), some (.int p0), some (.int p1), none], [.int p1, .int p0, .ref 42]), (h, g, cw_R sv))) rfl ?_
    obtain ⟨x2, hx2, hf⟩ := rh_bq hf
    refine rh_Ex.call (j := 80) (rc := some 8) [.ref 42, .int p0, .int p1] [] (some (.int x2)) rfl rfl rfl (Nat.le_of_ble_eq_true rfl) (R_St_slotOf d sv h g p0 p1 hx2) ?_
    show rh_Ex _ _ _ ((13, [some (.ref 42), some (.int p0), some (.int p1), none], [.int x2]), (h, g, cw_R sv)) _ _
    refine rh_Ex.blk 4 (s' := ((19, [some (.ref 42), some (.int p0), some (.int p1), some (.int x2)], [.int x2, .ref 48]), (h, g, cw_R sv))) rfl ?_
    obtain ⟨q3, hf⟩ := rh_gq hf
    refine rh_Ex.stp (s' := ((20, [some (.ref 42), some (.int p0), some (.int p1), some (.int x2)], [.int (h 48 x2.toNatClampNeg)]), (h, g, cw_R sv))) rfl (st_iald (n := 1024) rfl q3) ?_
    by_cases q4 : (h 48 x2.toNatClampNeg) = 0
    · rw [if_pos q4] at hf
      refine rh_Ex.stp (s' := ((25, [some (.ref 42), some (.int p0), some (.int p1), some (.int x2)], []), (h, g, cw_R sv))) rfl (st_ifeq_p q4) ?_
      refine rh_Ex.blk 3 (s' := ((30, [some (.ref 42), some (.int p0), some (.int p1), some (.int x2)], [.int p0, .ref 46]), (h, g, cw_R sv))) rfl ?_
      obtain ⟨q5, hf⟩ := rh_gq hf
      refine rh_Ex.stp (s' := ((31, [some (.ref 42), some (.int p0), some (.int p1), some (.int x2)], [.int (h 46 p0.toNatClampNeg)]), (h, g, cw_R sv))) rfl (st_iald (n := 21) rfl q5) ?_
      refine rh_Ex.blk 1 (s' := ((34, [some (.ref 42), some (.int p0), some (.int p1), some (.int x2)], [.int (500 : Int32), .int (h 46 p0.toNatClampNeg)]), (h, g, cw_R sv))) rfl ?_
      by_cases q6 : (h 46 p0.toNatClampNeg) = (500 : Int32)
      · rw [if_pos q6] at hf
        refine rh_Ex.stp (s' := ((37, [some (.ref 42), some (.int p0), some (.int p1), some (.int x2)], []), (h, g, cw_R sv))) rfl (st_icne_p q6) ?_
        refine rh_Ex.blk 1 (s' := ((38, [some (.ref 42), some (.int p0), some (.int p1), some (.int x2)], [.int (0 : Int32)]), (h, g, cw_R sv))) rfl ?_
        obtain rfl := Option.some.inj hf
        exact rh_Ex.ret rfl ⟨rfl, Or.inl rfl⟩
      · rw [if_neg q6] at hf
        refine rh_Ex.stp (s' := ((39, [some (.ref 42), some (.int p0), some (.int p1), some (.int x2)], []), (h, g, cw_R sv))) rfl (st_icne_n q6) ?_
        refine rh_Ex.blk 8 (s' := ((53, [some (.ref 42), some (.int p0), some (.int p1), some (.int x2)], [.int p0, .ref 46, .int (p0 * (500 : Int32)), .ref 45]), (h, g, cw_R sv))) rfl ?_
        obtain ⟨q7, hf⟩ := rh_gq hf
        refine rh_Ex.stp (s' := ((54, [some (.ref 42), some (.int p0), some (.int p1), some (.int x2)], [.int (h 46 p0.toNatClampNeg), .int (p0 * (500 : Int32)), .ref 45]), (h, g, cw_R sv))) rfl (st_iald (n := 21) rfl q7) ?_
        refine rh_Ex.blk 2 (s' := ((56, [some (.ref 42), some (.int p0), some (.int p1), some (.int x2)], [.int p1, .int ((p0 * (500 : Int32)) + (h 46 p0.toNatClampNeg)), .ref 45]), (h, g, cw_R sv))) rfl ?_
        obtain ⟨q8, hf⟩ := rh_gq hf
        refine rh_Ex.stp (s' := ((57, [some (.ref 42), some (.int p0), some (.int p1), some (.int x2)], []), (rh_up h 45 ((p0 * (500 : Int32)) + (h 46 p0.toNatClampNeg)).toNatClampNeg p1, g, cw_R sv))) rfl (st_iast (n := 10500) rfl q8) ?_
        refine rh_Ex.blk 4 (s' := ((63, [some (.ref 42), some (.int p0), some (.int p1), some (.int x2)], [.int p0, .ref 46, .int p0, .ref 46]), (rh_up h 45 ((p0 * (500 : Int32)) + (h 46 p0.toNatClampNeg)).toNatClampNeg p1, g, cw_R sv))) rfl ?_
        obtain ⟨q9, hf⟩ := rh_gq hf
        refine rh_Ex.stp (s' := ((64, [some (.ref 42), some (.int p0), some (.int p1), some (.int x2)], [.int ((rh_up h 45 ((p0 * (500 : Int32)) + (h 46 p0.toNatClampNeg)).toNatClampNeg p1) 46 p0.toNatClampNeg), .int p0, .ref 46]), (rh_up h 45 ((p0 * (500 : Int32)) + (h 46 p0.toNatClampNeg)).toNatClampNeg p1, g, cw_R sv))) rfl (st_iald (n := 21) rfl q9) ?_
        refine rh_Ex.blk 2 (s' := ((66, [some (.ref 42), some (.int p0), some (.int p1), some (.int x2)], [.int (((rh_up h 45 ((p0 * (500 : Int32)) + (h 46 p0.toNatClampNeg)).toNatClampNeg p1) 46 p0.toNatClampNeg) + (1 : Int32)), .int p0, .ref 46]), (rh_up h 45 ((p0 * (500 : Int32)) + (h 46 p0.toNatClampNeg)).toNatClampNeg p1, g, cw_R sv))) rfl ?_
        obtain ⟨q10, hf⟩ := rh_gq hf
        refine rh_Ex.stp (s' := ((67, [some (.ref 42), some (.int p0), some (.int p1), some (.int x2)], []), (rh_up (rh_up h 45 ((p0 * (500 : Int32)) + (h 46 p0.toNatClampNeg)).toNatClampNeg p1) 46 p0.toNatClampNeg (((rh_up h 45 ((p0 * (500 : Int32)) + (h 46 p0.toNatClampNeg)).toNatClampNeg p1) 46 p0.toNatClampNeg) + (1 : Int32)), g, cw_R sv))) rfl (st_iast (n := 21) rfl q10) ?_
        refine rh_Ex.blk 6 (s' := ((77, [some (.ref 42), some (.int p0), some (.int p1), some (.int x2)], [.int p0, .ref 46, .int x2, .ref 48]), (rh_up (rh_up h 45 ((p0 * (500 : Int32)) + (h 46 p0.toNatClampNeg)).toNatClampNeg p1) 46 p0.toNatClampNeg (((rh_up h 45 ((p0 * (500 : Int32)) + (h 46 p0.toNatClampNeg)).toNatClampNeg p1) 46 p0.toNatClampNeg) + (1 : Int32)), g, cw_R sv))) rfl ?_
        obtain ⟨q11, hf⟩ := rh_gq hf
        refine rh_Ex.stp (s' := ((78, [some (.ref 42), some (.int p0), some (.int p1), some (.int x2)], [.int ((rh_up (rh_up h 45 ((p0 * (500 : Int32)) + (h 46 p0.toNatClampNeg)).toNatClampNeg p1) 46 p0.toNatClampNeg (((rh_up h 45 ((p0 * (500 : Int32)) + (h 46 p0.toNatClampNeg)).toNatClampNeg p1) 46 p0.toNatClampNeg) + (1 : Int32))) 46 p0.toNatClampNeg), .int x2, .ref 48]), (rh_up (rh_up h 45 ((p0 * (500 : Int32)) + (h 46 p0.toNatClampNeg)).toNatClampNeg p1) 46 p0.toNatClampNeg (((rh_up h 45 ((p0 * (500 : Int32)) + (h 46 p0.toNatClampNeg)).toNatClampNeg p1) 46 p0.toNatClampNeg) + (1 : Int32)), g, cw_R sv))) rfl (st_iald (n := 21) rfl q11) ?_
        obtain ⟨q12, hf⟩ := rh_gq hf
        refine rh_Ex.stp (s' := ((79, [some (.ref 42), some (.int p0), some (.int p1), some (.int x2)], []), (rh_up (rh_up (rh_up h 45 ((p0 * (500 : Int32)) + (h 46 p0.toNatClampNeg)).toNatClampNeg p1) 46 p0.toNatClampNeg (((rh_up h 45 ((p0 * (500 : Int32)) + (h 46 p0.toNatClampNeg)).toNatClampNeg p1) 46 p0.toNatClampNeg) + (1 : Int32))) 48 x2.toNatClampNeg ((rh_up (rh_up h 45 ((p0 * (500 : Int32)) + (h 46 p0.toNatClampNeg)).toNatClampNeg p1) 46 p0.toNatClampNeg (((rh_up h 45 ((p0 * (500 : Int32)) + (h 46 p0.toNatClampNeg)).toNatClampNeg p1) 46 p0.toNatClampNeg) + (1 : Int32))) 46 p0.toNatClampNeg), g, cw_R sv))) rfl (st_iast (n := 1024) rfl q12) ?_
        refine rh_Ex.blk 1 (s' := ((80, [some (.ref 42), some (.int p0), some (.int p1), some (.int x2)], [.int (1 : Int32)]), (rh_up (rh_up (rh_up h 45 ((p0 * (500 : Int32)) + (h 46 p0.toNatClampNeg)).toNatClampNeg p1) 46 p0.toNatClampNeg (((rh_up h 45 ((p0 * (500 : Int32)) + (h 46 p0.toNatClampNeg)).toNatClampNeg p1) 46 p0.toNatClampNeg) + (1 : Int32))) 48 x2.toNatClampNeg ((rh_up (rh_up h 45 ((p0 * (500 : Int32)) + (h 46 p0.toNatClampNeg)).toNatClampNeg p1) 46 p0.toNatClampNeg (((rh_up h 45 ((p0 * (500 : Int32)) + (h 46 p0.toNatClampNeg)).toNatClampNeg p1) 46 p0.toNatClampNeg) + (1 : Int32))) 46 p0.toNatClampNeg), g, cw_R sv))) rfl ?_
        obtain rfl := Option.some.inj hf
        exact rh_Ex.ret rfl ⟨rfl, Or.inr rfl⟩
    · rw [if_neg q4] at hf
      refine rh_Ex.stp (s' := ((23, [some (.ref 42), some (.int p0), some (.int p1), some (.int x2)], []), (h, g, cw_R sv))) rfl (st_ifeq_n q4) ?_
      refine rh_Ex.blk 1 (s' := ((24, [some (.ref 42), some (.int p0), some (.int p1), some (.int x2)], [.int (1 : Int32)]), (h, g, cw_R sv))) rfl ?_
      obtain rfl := Option.some.inj hf
      exact rh_Ex.ret rfl ⟨rfl, Or.inr rfl⟩
def b_Ar_fill_48_5 (u1 : Int32) (u3 : Int32) : (Int32 × (Nat → Nat → Int32)) → Option ((Int32 × (Nat → Nat → Int32)) ⊕ ((Nat → Nat → Int32))) := fun s5 =>
  if u3 ≤ s5.1 then
    some (.inr s5.2)
  else
    rh_g (0 ≤ s5.1.toInt ∧ s5.1.toInt < ((1024 : Nat) : Int)) (
      some (.inl (s5.1 + (1 : Int32), rh_up s5.2 48 s5.1.toNatClampNeg u1))
    )
def f_Ar_fill_48 (h : Nat → Nat → Int32) (p0 : Int32) : Option ((Nat → Nat → Int32)) :=
  (rh_loop (b_Ar_fill_48_5 p0 (1024 : Int32)) rh_N ((0 : Int32), h)).bind (fun r4 =>
    some (r4)
  )
set_option maxRecDepth 20000 in
set_option maxHeartbeats 4000000 in
theorem lb_Ar_fill_48_5 (d : Nat) (sv : Option Nat) (u1 : Int32) (u3 : Int32) (g : Nat → Nat → Int64) (v9 : Option Value) (h9 : rh_H) : ∀ s5 x9, b_Ar_fill_48_5 u1 u3 s5 = some x9 → Sum.elim (fun s5 => rh_Ex (rh_M rh_PT (cw_L ++ cw_X) (d + 0)) (cw_L ++ cw_X) pg_J7_fill_53178 ((5, [some (.ref 48), some (.int u1), some (.int s5.1), some (.int u3)], []), (s5.2, g, cw_R sv)) v9 h9) (fun e9 => rh_Ex (rh_M rh_PT (cw_L ++ cw_X) (d + 0)) (cw_L ++ cw_X) pg_J7_fill_53178 ((20, [none, none, none, none], []), (e9, g, cw_R sv)) v9 h9) x9 → rh_Ex (rh_M rh_PT (cw_L ++ cw_X) (d + 0)) (cw_L ++ cw_X) pg_J7_fill_53178 ((5, [some (.ref 48), some (.int u1), some (.int s5.1), some (.int u3)], []), (s5.2, g, cw_R sv)) v9 h9 := by
  intro s5 x9 hf hk
  unfold b_Ar_fill_48_5 at hf
  refine rh_Ex.blk 2 (s' := ((7, [some (.ref 48), some (.int u1), some (.int s5.1), some (.int u3)], [.int u3, .int s5.1]), (s5.2, g, cw_R sv))) rfl ?_
  by_cases q2 : u3 ≤ s5.1
  · rw [if_pos q2] at hf
    refine rh_Ex.stp (s' := ((20, [some (.ref 48), some (.int u1), some (.int s5.1), some (.int u3)], []), (s5.2, g, cw_R sv))) rfl (st_icge_p q2) ?_
    obtain rfl := Option.some.inj hf
    refine rh_Ex.fgt [none, none, none, none] trivial ?_
    exact hk
  · rw [if_neg q2] at hf
    refine rh_Ex.stp (s' := ((10, [some (.ref 48), some (.int u1), some (.int s5.1), some (.int u3)], []), (s5.2, g, cw_R sv))) rfl (st_icge_n q2) ?_
    refine rh_Ex.blk 3 (s' := ((13, [some (.ref 48), some (.int u1), some (.int s5.1), some (.int u3)], [.int u1, .int s5.1, .ref 48]), (s5.2, g, cw_R sv))) rfl ?_
    obtain ⟨q3, hf⟩ := rh_gq hf
    refine rh_Ex.stp (s' := ((14, [some (.ref 48), some (.int u1), some (.int s5.1), some (.int u3)], []), (rh_up s5.2 48 s5.1.toNatClampNeg u1, g, cw_R sv))) rfl (st_iast (n := 1024) rfl q3) ?_
    refine rh_Ex.blk 2 (s' := ((5, [some (.ref 48), some (.int u1), some (.int (s5.1 + (1 : Int32))), some (.int u3)], []), (rh_up s5.2 48 s5.1.toNatClampNeg u1, g, cw_R sv))) rfl ?_
    obtain rfl := Option.some.inj hf
    refine rh_Ex.fgt [some (.ref 48), some (.int u1), some (.int (s5.1 + (1 : Int32))), some (.int u3)] ⟨rfl, rfl, rfl, rfl, trivial⟩ ?_
    exact hk
set_option maxRecDepth 20000 in
set_option maxHeartbeats 4000000 in
theorem R_Ar_fill_48 (d : Nat) (sv : Option Nat) (h : Nat → Nat → Int32) (g : Nat → Nat → Int64) (p0 : Int32) {z9 : (Nat → Nat → Int32)} (hf : f_Ar_fill_48 h p0 = some z9) : rh_M rh_PT (cw_L ++ cw_X) (d + 1) 301 [.ref 48, .int p0] (h, g, cw_R sv) none (z9, g, cw_R sv) := by
  unfold f_Ar_fill_48 at hf
  refine rh_go pt_301 (Nat.le_of_ble_eq_true rfl) (lv := [some (.ref 48), some (.int p0), none, none]) rfl ?_
  refine rh_Ex.blk 5 (s' := ((5, [some (.ref 48), some (.int p0), some (.int (0 : Int32)), some (.int (1024 : Int32))], []), (h, g, cw_R sv))) rfl ?_
  obtain ⟨r4, hr4, hf⟩ := rh_bq hf
  refine rh_Ex.fgt [some (.ref 48), some (.int p0), some (.int (0 : Int32)), some (.int (1024 : Int32))] ⟨rfl, rfl, rfl, rfl, trivial⟩ ?_
  refine rh_Ex.loop _ _ _ (lb_Ar_fill_48_5 d sv p0 (1024 : Int32)  g _ _) rh_N _ r4 hr4 ?_
  obtain rfl := Option.some.inj hf
  exact rh_Ex.ret rfl trivial
