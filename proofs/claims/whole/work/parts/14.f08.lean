def f_La_loadIfNext (h : Nat → Nat → Int32) (p0 : Int32) (p1 : Int32) (p2 : Int32) : Option (Int32 × (Nat → Nat → Int32)) :=
  (f_Cr_weightAt h p2 ((f_La_dawn h) + ((f_In_bitCount p0) - (f_In_bitCount p1)))).bind (fun x1 =>
    rh_g (0 ≤ (p1 &&& (((1 : Int32) <<< (p2 &&& 31)) ^^^ (-1 : Int32))).toInt ∧ (p1 &&& (((1 : Int32) <<< (p2 &&& 31)) ^^^ (-1 : Int32))).toInt < ((512 : Nat) : Int)) (
      some ((x1.1 + (x1.2 41 (p1 &&& (((1 : Int32) <<< (p2 &&& 31)) ^^^ (-1 : Int32))).toNatClampNeg), x1.2))
    )
  )
set_option maxRecDepth 20000 in
set_option maxHeartbeats 4000000 in
theorem R_La_loadIfNext (d : Nat) (xx : rh_L) (sv : Option Nat) (h : Nat → Nat → Int32) (g : Nat → Nat → Int64) (p0 : Int32) (p1 : Int32) (p2 : Int32) {z9 : Int32 × (Nat → Nat → Int32)} (hf : f_La_loadIfNext h p0 p1 p2 = some z9) : rh_M rh_PT (cw_L ++ xx) (d + 4) 175 [.ref 0, .int p0, .int p1, .int p2] (h, g, cw_R sv) (some (.int z9.1)) (z9.2, g, cw_R sv) := by
  unfold f_La_loadIfNext at hf
  refine rh_go pt_175 (Nat.le_of_ble_eq_true rfl) (lv := [some (.ref 0), some (.int p0), some (.int p1), some (.int p2), none]) rfl ?_
  refine rh_Ex.blk 1 (s' := ((1, [some (.ref 0), some (.int p0), some (.int p1), some (.int p2), none], [.int p0]), (h, g, cw_R sv))) rfl ?_
  refine rh_Ex.call (j := 298) (rc := none) [.int p0] [] (some (.int (f_In_bitCount p0))) rfl rfl trivial (Nat.le_of_ble_eq_true rfl) (R_In_bitCount (d + 2) (cw_L ++ xx) (cw_R sv) h g p0 rfl) ?_
  show rh_Ex _ _ _ ((4, [some (.ref 0), some (.int p0), some (.int p1), some (.int p2), none], [.int (f_In_bitCount p0)]), (h, g, cw_R sv)) _ _
  refine rh_Ex.blk 1 (s' := ((5, [some (.ref 0), some (.int p0), some (.int p1), some (.int p2), none], [.int p1, .int (f_In_bitCount p0)]), (h, g, cw_R sv))) rfl ?_
  refine rh_Ex.call (j := 298) (rc := none) [.int p1] [.int (f_In_bitCount p0)] (some (.int (f_In_bitCount p1))) rfl rfl trivial (Nat.le_of_ble_eq_true rfl) (R_In_bitCount (d + 2) (cw_L ++ xx) (cw_R sv) h g p1 rfl) ?_
  show rh_Ex _ _ _ ((8, [some (.ref 0), some (.int p0), some (.int p1), some (.int p2), none], [.int (f_In_bitCount p1), .int (f_In_bitCount p0)]), (h, g, cw_R sv)) _ _
  refine rh_Ex.blk 6 (s' := ((17, [some (.ref 0), some (.int p0), some (.int p1), some (.int p2), some (.int ((f_In_bitCount p0) - (f_In_bitCount p1)))], [.ref 0, .int p2, .ref 4]), (h, g, cw_R sv))) rfl ?_
  refine rh_Ex.call (j := 159) (rc := some 10) [.ref 0] [.int p2, .ref 4] (some (.int (f_La_dawn h))) rfl rfl rfl (Nat.le_of_ble_eq_true rfl) (R_La_dawn (d + 2) xx sv h g  rfl) ?_
  show rh_Ex _ _ _ ((20, [some (.ref 0), some (.int p0), some (.int p1), some (.int p2), some (.int ((f_In_bitCount p0) - (f_In_bitCount p1)))], [.int (f_La_dawn h), .int p2, .ref 4]), (h, g, cw_R sv)) _ _
  refine rh_Ex.blk 2 (s' := ((23, [some (.ref 0), some (.int p0), some (.int p1), some (.int p2), some (.int ((f_In_bitCount p0) - (f_In_bitCount p1)))], [.int ((f_La_dawn h) + ((f_In_bitCount p0) - (f_In_bitCount p1))), .int p2, .ref 4]), (h, g, cw_R sv))) rfl ?_
  obtain ⟨x1, hx1, hf⟩ := rh_bq hf
  refine rh_Ex.call (j := 5) (rc := some 0) [.ref 4, .int p2, .int ((f_La_dawn h) + ((f_In_bitCount p0) - (f_In_bitCount p1)))] [] (some (.int x1.1)) rfl rfl rfl (Nat.le_of_ble_eq_true rfl) (R_Cr_weightAt d xx sv h g p2 ((f_La_dawn h) + ((f_In_bitCount p0) - (f_In_bitCount p1))) hx1) ?_
  show rh_Ex _ _ _ ((26, [some (.ref 0), some (.int p0), some (.int p1), some (.int p2), some (.int ((f_In_bitCount p0) - (f_In_bitCount p1)))], [.int x1.1]), (x1.2, g, cw_R sv)) _ _
  refine rh_Ex.blk 9 (s' := ((37, [some (.ref 0), some (.int p0), some (.int p1), some (.int p2), some (.int ((f_In_bitCount p0) - (f_In_bitCount p1)))], [.int (p1 &&& (((1 : Int32) <<< (p2 &&& 31)) ^^^ (-1 : Int32))), .ref 41, .int x1.1]), (x1.2, g, cw_R sv))) rfl ?_
  obtain ⟨q2, hf⟩ := rh_gq hf
  refine rh_Ex.stp (s' := ((38, [some (.ref 0), some (.int p0), some (.int p1), some (.int p2), some (.int ((f_In_bitCount p0) - (f_In_bitCount p1)))], [.int (x1.2 41 (p1 &&& (((1 : Int32) <<< (p2 &&& 31)) ^^^ (-1 : Int32))).toNatClampNeg), .int x1.1]), (x1.2, g, cw_R sv))) rfl (st_iald (n := 512) rfl q2) ?_
  refine rh_Ex.blk 1 (s' := ((39, [some (.ref 0), some (.int p0), some (.int p1), some (.int p2), some (.int ((f_In_bitCount p0) - (f_In_bitCount p1)))], [.int (x1.1 + (x1.2 41 (p1 &&& (((1 : Int32) <<< (p2 &&& 31)) ^^^ (-1 : Int32))).toNatClampNeg))]), (x1.2, g, cw_R sv))) rfl ?_
  obtain rfl := Option.some.inj hf
  exact rh_Ex.ret rfl rfl
def b_La_leastLoad_6 (u1 : Int32) (u2 : Int32) : (Int32 × Int32 × (Nat → Nat → Int32)) → Option ((Int32 × Int32 × (Nat → Nat → Int32)) ⊕ (Int32 × (Nat → Nat → Int32))) := fun s6 =>
  if (s6.2.2 4 0) ≤ s6.2.1 then
    some (.inr (s6.1, s6.2.2))
  else
    if ((u2 >>> (s6.2.1 &&& 31)) &&& (1 : Int32)) = 0 then
      some (.inl (s6.1, s6.2.1 + (1 : Int32), s6.2.2))
    else
      (f_La_loadIfNext s6.2.2 u1 u2 s6.2.1).bind (fun x4 =>
        some (.inl ((if x4.1 < s6.1 then x4.1 else s6.1), s6.2.1 + (1 : Int32), x4.2))
      )
def f_La_leastLoad (h : Nat → Nat → Int32) (p0 : Int32) (p1 : Int32) : Option (Int32 × (Nat → Nat → Int32)) :=
  (rh_loop (b_La_leastLoad_6 p0 p1) rh_N ((1000000000 : Int32), (0 : Int32), h)).bind (fun r5 =>
    some ((r5.1, r5.2))
  )
set_option maxRecDepth 20000 in
set_option maxHeartbeats 4000000 in
theorem lb_La_leastLoad_6 (d : Nat) (xx : rh_L) (sv : Option Nat) (u1 : Int32) (u2 : Int32) (g : Nat → Nat → Int64) (v9 : Option Value) (h9 : rh_H) : ∀ s6 x9, b_La_leastLoad_6 u1 u2 s6 = some x9 → Sum.elim (fun s6 => rh_Ex (rh_M rh_PT (cw_L ++ xx) (d + 4)) (cw_L ++ xx) pg_X11_leastLoad ((6, [some (.ref 0), some (.int u1), some (.int u2), some (.int s6.1), some (.int s6.2.1)], []), (s6.2.2, g, cw_R sv)) v9 h9) (fun e9 => rh_Ex (rh_M rh_PT (cw_L ++ xx) (d + 4)) (cw_L ++ xx) pg_X11_leastLoad ((46, [none, none, none, some (.int e9.1), none], []), (e9.2, g, cw_R sv)) v9 h9) x9 → rh_Ex (rh_M rh_PT (cw_L ++ xx) (d + 4)) (cw_L ++ xx) pg_X11_leastLoad ((6, [some (.ref 0), some (.int u1), some (.int u2), some (.int s6.1), some (.int s6.2.1)], []), (s6.2.2, g, cw_R sv)) v9 h9 := by
  intro s6 x9 hf hk
  unfold b_La_leastLoad_6 at hf
  refine rh_Ex.blk 4 (s' := ((15, [some (.ref 0), some (.int u1), some (.int u2), some (.int s6.1), some (.int s6.2.1)], [.int (s6.2.2 4 0), .int s6.2.1]), (s6.2.2, g, cw_R sv))) rfl ?_
  by_cases q2 : (s6.2.2 4 0) ≤ s6.2.1
  · rw [if_pos q2] at hf
    refine rh_Ex.stp (s' := ((46, [some (.ref 0), some (.int u1), some (.int u2), some (.int s6.1), some (.int s6.2.1)], []), (s6.2.2, g, cw_R sv))) rfl (st_icge_p q2) ?_
    obtain rfl := Option.some.inj hf
    refine rh_Ex.fgt [none, none, none, some (.int s6.1), none] ⟨rfl, trivial⟩ ?_
    exact hk
  · rw [if_neg q2] at hf
    refine rh_Ex.stp (s' := ((18, [some (.ref 0), some (.int u1), some (.int u2), some (.int s6.1), some (.int s6.2.1)], []), (s6.2.2, g, cw_R sv))) rfl (st_icge_n q2) ?_
    refine rh_Ex.blk 5 (s' := ((24, [some (.ref 0), some (.int u1), some (.int u2), some (.int s6.1), some (.int s6.2.1)], [.int ((u2 >>> (s6.2.1 &&& 31)) &&& (1 : Int32))]), (s6.2.2, g, cw_R sv))) rfl ?_
    by_cases q3 : ((u2 >>> (s6.2.1 &&& 31)) &&& (1 : Int32)) = 0
    · rw [if_pos q3] at hf
      refine rh_Ex.stp (s' := ((40, [some (.ref 0), some (.int u1), some (.int u2), some (.int s6.1), some (.int s6.2.1)], []), (s6.2.2, g, cw_R sv))) rfl (st_ifeq_p q3) ?_
      refine rh_Ex.blk 2 (s' := ((6, [some (.ref 0), some (.int u1), some (.int u2), some (.int s6.1), some (.int (s6.2.1 + (1 : Int32)))], []), (s6.2.2, g, cw_R sv))) rfl ?_
      obtain rfl := Option.some.inj hf
      refine rh_Ex.fgt [some (.ref 0), some (.int u1), some (.int u2), some (.int s6.1), some (.int (s6.2.1 + (1 : Int32)))] ⟨rfl, rfl, rfl, rfl, rfl, trivial⟩ ?_
      exact hk
    · rw [if_neg q3] at hf
      refine rh_Ex.stp (s' := ((27, [some (.ref 0), some (.int u1), some (.int u2), some (.int s6.1), some (.int s6.2.1)], []), (s6.2.2, g, cw_R sv))) rfl (st_ifeq_n q3) ?_
      refine rh_Ex.blk 5 (s' := ((33, [some (.ref 0), some (.int u1), some (.int u2), some (.int s6.1), some (.int s6.2.1)], [.int s6.2.1, .int u2, .int u1, .ref 0, .int s6.1]), (s6.2.2, g, cw_R sv))) rfl ?_
      obtain ⟨x4, hx4, hf⟩ := rh_bq hf
      refine rh_Ex.call (j := 175) (rc := some 10) [.ref 0, .int u1, .int u2, .int s6.2.1] [.int s6.1] (some (.int x4.1)) rfl rfl rfl (Nat.le_of_ble_eq_true rfl) (R_La_loadIfNext d xx sv s6.2.2 g u1 u2 s6.2.1 hx4) ?_
      show rh_Ex _ _ _ ((36, [some (.ref 0), some (.int u1), some (.int u2), some (.int s6.1), some (.int s6.2.1)], [.int x4.1, .int s6.1]), (x4.2, g, cw_R sv)) _ _
      refine rh_Ex.stp (s' := ((39, [some (.ref 0), some (.int u1), some (.int u2), some (.int s6.1), some (.int s6.2.1)], [.int (if x4.1 < s6.1 then x4.1 else s6.1)]), (x4.2, g, cw_R sv))) rfl (st_mmin (Nat.le_of_ble_eq_true rfl)) ?_
      refine rh_Ex.blk 3 (s' := ((6, [some (.ref 0), some (.int u1), some (.int u2), some (.int (if x4.1 < s6.1 then x4.1 else s6.1)), some (.int (s6.2.1 + (1 : Int32)))], []), (x4.2, g, cw_R sv))) rfl ?_
      obtain rfl := Option.some.inj hf
      refine rh_Ex.fgt [some (.ref 0), some (.int u1), some (.int u2), some (.int (if x4.1 < s6.1 then x4.1 else s6.1)), some (.int (s6.2.1 + (1 : Int32)))] ⟨rfl, rfl, rfl, rfl, rfl, trivial⟩ ?_
      exact hk
set_option maxRecDepth 20000 in
set_option maxHeartbeats 4000000 in
theorem R_La_leastLoad (d : Nat) (xx : rh_L) (sv : Option Nat) (h : Nat → Nat → Int32) (g : Nat → Nat → Int64) (p0 : Int32) (p1 : Int32) {z9 : Int32 × (Nat → Nat → Int32)} (hf : f_La_leastLoad h p0 p1 = some z9) : rh_M rh_PT (cw_L ++ xx) (d + 5) 176 [.ref 0, .int p0, .int p1] (h, g, cw_R sv) (some (.int z9.1)) (z9.2, g, cw_R sv) := by
  unfold f_La_leastLoad at hf
  refine rh_go pt_176 (Nat.le_of_ble_eq_true rfl) (lv := [some (.ref 0), some (.int p0), some (.int p1), none, none]) rfl ?_
  refine rh_Ex.blk 4 (s' := ((6, [some (.ref 0), some (.int p0), some (.int p1), some (.int (1000000000 : Int32)), some (.int (0 : Int32))], []), (h, g, cw_R sv))) rfl ?_
  obtain ⟨r5, hr5, hf⟩ := rh_bq hf
  refine rh_Ex.fgt [some (.ref 0), some (.int p0), some (.int p1), some (.int (1000000000 : Int32)), some (.int (0 : Int32))] ⟨rfl, rfl, rfl, rfl, rfl, trivial⟩ ?_
  refine rh_Ex.loop _ _ _ (lb_La_leastLoad_6 d xx sv p0 p1  g _ _) rh_N _ r5 hr5 ?_
  refine rh_Ex.blk 1 (s' := ((47, [none, none, none, some (.int r5.1), none], [.int r5.1]), (r5.2, g, cw_R sv))) rfl ?_
  obtain rfl := Option.some.inj hf
  exact rh_Ex.ret rfl rfl
def b_La_nextCarried_2 (u1 : Int32) (u2 : Int32) : (Int32 × (Nat → Nat → Int32)) → Option ((Int32 × (Nat → Nat → Int32)) ⊕ (((Nat → Nat → Int32)) ⊕ (Int32 × (Nat → Nat → Int32)))) := fun s2 =>
  if (s2.2 4 0) ≤ s2.1 then
    some (.inr (.inl s2.2))
  else
    if ((u2 >>> (s2.1 &&& 31)) &&& (1 : Int32)) = 0 then
      some (.inl (s2.1 + (1 : Int32), s2.2))
    else
      (f_La_loadIfNext s2.2 u1 u2 s2.1).bind (fun x4 =>
        rh_g (0 ≤ u2.toInt ∧ u2.toInt < ((512 : Nat) : Int)) (
          if x4.1 = (x4.2 41 u2.toNatClampNeg) then
            some (.inr (.inr (s2.1, x4.2)))
          else
            some (.inl (s2.1 + (1 : Int32), x4.2))
        )
      )
def f_La_nextCarried (h : Nat → Nat → Int32) (p0 : Int32) (p1 : Int32) : Option (Int32 × (Nat → Nat → Int32)) :=
  (rh_loop (b_La_nextCarried_2 p0 p1) rh_N ((0 : Int32), h)).bind (fun r7 => match r7 with
    | .inl e8 =>
      some (((0 : Int32), e8))
    | .inr t9 => some t9)
set_option maxRecDepth 20000 in
set_option maxHeartbeats 4000000 in
theorem lb_La_nextCarried_2 (d : Nat) (xx : rh_L) (sv : Option Nat) (u1 : Int32) (u2 : Int32) (g : Nat → Nat → Int64) (v9 : Option Value) (h9 : rh_H) : ∀ s2 x9, b_La_nextCarried_2 u1 u2 s2 = some x9 → Sum.elim (fun s2 => rh_Ex (rh_M rh_PT (cw_L ++ xx) (d + 4)) (cw_L ++ xx) pg_X11_nextCarried ((2, [some (.ref 0), some (.int u1), some (.int u2), some (.int s2.1)], []), (s2.2, g, cw_R sv)) v9 h9) (Sum.elim (fun e9 => rh_Ex (rh_M rh_PT (cw_L ++ xx) (d + 4)) (cw_L ++ xx) pg_X11_nextCarried ((45, [none, none, none, none], []), (e9, g, cw_R sv)) v9 h9) (fun t9 => v9 = (some (.int t9.1)) ∧ h9 = (t9.2, g, cw_R sv))) x9 → rh_Ex (rh_M rh_PT (cw_L ++ xx) (d + 4)) (cw_L ++ xx) pg_X11_nextCarried ((2, [some (.ref 0), some (.int u1), some (.int u2), some (.int s2.1)], []), (s2.2, g, cw_R sv)) v9 h9 := by
  intro s2 x9 hf hk
  unfold b_La_nextCarried_2 at hf
  refine rh_Ex.blk 4 (s' := ((10, [some (.ref 0), some (.int u1), some (.int u2), some (.int s2.1)], [.int (s2.2 4 0), .int s2.1]), (s2.2, g, cw_R sv))) rfl ?_
  by_cases q2 : (s2.2 4 0) ≤ s2.1
  · rw [if_pos q2] at hf
    refine rh_Ex.stp (s' := ((45, [some (.ref 0), some (.int u1), some (.int u2), some (.int s2.1)], []), (s2.2, g, cw_R sv))) rfl (st_icge_p q2) ?_
    obtain rfl := Option.some.inj hf
    refine rh_Ex.fgt [none, none, none, none] trivial ?_
    exact hk
  · rw [if_neg q2] at hf
    refine rh_Ex.stp (s' := ((13, [some (.ref 0), some (.int u1), some (.int u2), some (.int s2.1)], []), (s2.2, g, cw_R sv))) rfl (st_icge_n q2) ?_
    refine rh_Ex.blk 5 (s' := ((18, [some (.ref 0), some (.int u1), some (.int u2), some (.int s2.1)], [.int ((u2 >>> (s2.1 &&& 31)) &&& (1 : Int32))]), (s2.2, g, cw_R sv))) rfl ?_
    by_cases q3 : ((u2 >>> (s2.1 &&& 31)) &&& (1 : Int32)) = 0
    · rw [if_pos q3] at hf
      refine rh_Ex.stp (s' := ((39, [some (.ref 0), some (.int u1), some (.int u2), some (.int s2.1)], []), (s2.2, g, cw_R sv))) rfl (st_ifeq_p q3) ?_
      refine rh_Ex.blk 2 (s' := ((2, [some (.ref 0), some (.int u1), some (.int u2), some (.int (s2.1 + (1 : Int32)))], []), (s2.2, g, cw_R sv))) rfl ?_
      obtain rfl := Option.some.inj hf
      refine rh_Ex.fgt [some (.ref 0), some (.int u1), some (.int u2), some (.int (s2.1 + (1 : Int32)))] ⟨rfl, rfl, rfl, rfl, trivial⟩ ?_
      exact hk
    · rw [if_neg q3] at hf
      refine rh_Ex.stp (s' := ((21, [some (.ref 0), some (.int u1), some (.int u2), some (.int s2.1)], []), (s2.2, g, cw_R sv))) rfl (st_ifeq_n q3) ?_
      refine rh_Ex.blk 4 (s' := ((25, [some (.ref 0), some (.int u1), some (.int u2), some (.int s2.1)], [.int s2.1, .int u2, .int u1, .ref 0]), (s2.2, g, cw_R sv))) rfl ?_
      obtain ⟨x4, hx4, hf⟩ := rh_bq hf
      refine rh_Ex.call (j := 175) (rc := some 10) [.ref 0, .int u1, .int u2, .int s2.1] [] (some (.int x4.1)) rfl rfl rfl (Nat.le_of_ble_eq_true rfl) (R_La_loadIfNext d xx sv s2.2 g u1 u2 s2.1 hx4) ?_
      show rh_Ex _ _ _ ((28, [some (.ref 0), some (.int u1), some (.int u2), some (.int s2.1)], [.int x4.1]), (x4.2, g, cw_R sv)) _ _
      refine rh_Ex.blk 3 (s' := ((33, [some (.ref 0), some (.int u1), some (.int u2), some (.int s2.1)], [.int u2, .ref 41, .int x4.1]), (x4.2, g, cw_R sv))) rfl ?_
      obtain ⟨q5, hf⟩ := rh_gq hf
      refine rh_Ex.stp (s' := ((34, [some (.ref 0), some (.int u1), some (.int u2), some (.int s2.1)], [.int (x4.2 41 u2.toNatClampNeg), .int x4.1]), (x4.2, g, cw_R sv))) rfl (st_iald (n := 512) rfl q5) ?_
      by_cases q6 : x4.1 = (x4.2 41 u2.toNatClampNeg)
      · rw [if_pos q6] at hf
        refine rh_Ex.stp (s' := ((37, [some (.ref 0), some (.int u1), some (.int u2), some (.int s2.1)], []), (x4.2, g, cw_R sv))) rfl (st_icne_p q6) ?_
        refine rh_Ex.blk 1 (s' := ((38, [some (.ref 0), some (.int u1), some (.int u2), some (.int s2.1)], [.int s2.1]), (x4.2, g, cw_R sv))) rfl ?_
        obtain rfl := Option.some.inj hf
        obtain ⟨rfl, rfl⟩ := hk
        exact rh_Ex.ret rfl rfl
      · rw [if_neg q6] at hf
        refine rh_Ex.stp (s' := ((39, [some (.ref 0), some (.int u1), some (.int u2), some (.int s2.1)], []), (x4.2, g, cw_R sv))) rfl (st_icne_n q6) ?_
        refine rh_Ex.blk 2 (s' := ((2, [some (.ref 0), some (.int u1), some (.int u2), some (.int (s2.1 + (1 : Int32)))], []), (x4.2, g, cw_R sv))) rfl ?_
        obtain rfl := Option.some.inj hf
        refine rh_Ex.fgt [some (.ref 0), some (.int u1), some (.int u2), some (.int (s2.1 + (1 : Int32)))] ⟨rfl, rfl, rfl, rfl, trivial⟩ ?_
        exact hk
set_option maxRecDepth 20000 in
set_option maxHeartbeats 4000000 in
theorem R_La_nextCarried (d : Nat) (xx : rh_L) (sv : Option Nat) (h : Nat → Nat → Int32) (g : Nat → Nat → Int64) (p0 : Int32) (p1 : Int32) {z9 : Int32 × (Nat → Nat → Int32)} (hf : f_La_nextCarried h p0 p1 = some z9) : rh_M rh_PT (cw_L ++ xx) (d + 5) 177 [.ref 0, .int p0, .int p1] (h, g, cw_R sv) (some (.int z9.1)) (z9.2, g, cw_R sv) := by
  unfold f_La_nextCarried at hf
  refine rh_go pt_177 (Nat.le_of_ble_eq_true rfl) (lv := [some (.ref 0), some (.int p0), some (.int p1), none]) rfl ?_
  refine rh_Ex.blk 2 (s' := ((2, [some (.ref 0), some (.int p0), some (.int p1), some (.int (0 : Int32))], []), (h, g, cw_R sv))) rfl ?_
  obtain ⟨r7, hr7, hf⟩ := rh_bq hf
  refine rh_Ex.fgt [some (.ref 0), some (.int p0), some (.int p1), some (.int (0 : Int32))] ⟨rfl, rfl, rfl, rfl, trivial⟩ ?_
  refine rh_Ex.loop _ _ _ (lb_La_nextCarried_2 d xx sv p0 p1  g _ _) rh_N _ r7 hr7 ?_
  rcases r7 with e8 | t9
  · dsimp only at hf
    refine rh_Ex.blk 1 (s' := ((46, [none, none, none, none], [.int (0 : Int32)]), (e8, g, cw_R sv))) rfl ?_
    obtain rfl := Option.some.inj hf
    exact rh_Ex.ret rfl rfl
  · dsimp only at hf
    obtain rfl := Option.some.inj hf
    exact ⟨rfl, rfl⟩
def b_La_order_35 (u1 : Int32) : (Int32 × (Nat → Nat → Int32)) → Option ((Int32 × (Nat → Nat → Int32)) ⊕ ((Nat → Nat → Int32))) := fun s35 =>
  if u1 < s35.1 then
    some (.inr s35.2)
  else
    if (s35.1 &&& (u1 ^^^ (-1 : Int32))) = 0 then
      (f_La_leastLoad s35.2 u1 s35.1).bind (fun x6 =>
        rh_g (0 ≤ s35.1.toInt ∧ s35.1.toInt < ((512 : Nat) : Int)) (
          some (.inl (s35.1 + (1 : Int32), rh_up x6.2 41 s35.1.toNatClampNeg x6.1))
        )
      )
    else
      some (.inl (s35.1 + (1 : Int32), s35.2))
def b_La_order_80 (u1 : Int32) : (Int32 × Int32 × (Nat → Nat → Int32)) → Option ((Int32 × Int32 × (Nat → Nat → Int32)) ⊕ ((Nat → Nat → Int32))) := fun s80 =>
  if s80.2.1 ≤ 0 then
    some (.inr s80.2.2)
  else
    (f_La_nextCarried s80.2.2 u1 s80.1).bind (fun x11 =>
      (f_Ro_add x11.2 x11.1).bind (fun x12 =>
        some (.inl (s80.1 &&& (((1 : Int32) <<< (x11.1 &&& 31)) ^^^ (-1 : Int32)), s80.2.1 + (-1 : Int32), x12))
      )
    )
def f_La_order (h : Nat → Nat → Int32) (p0 : Int32) : Option (Int32 × (Nat → Nat → Int32)) :=
  if (f_Cr_holds h p0) = 0 then
    some (((-1 : Int32), h))
  else
    if (f_La_within (f_In_bitCount p0) (1 : Int32) (7 : Int32)) = 0 then
      some (((-1 : Int32), h))
    else
      (rh_loop (b_La_order_35 p0) rh_N ((1 : Int32), rh_up h 41 (0 : Int32).toNatClampNeg (0 : Int32))).bind (fun r8 =>
        (rh_loop (b_La_order_80 p0) rh_N (p0, (f_In_bitCount p0), (f_Ro_begin r8))).bind (fun r13 =>
          rh_g (0 ≤ p0.toInt ∧ p0.toInt < ((512 : Nat) : Int)) (
            some ((r13 41 p0.toNatClampNeg, r13))
          )
        )
      )
set_option maxRecDepth 20000 in
set_option maxHeartbeats 4000000 in
theorem lb_La_order_35 (d : Nat) (xx : rh_L) (sv : Option Nat) (u1 : Int32) (g : Nat → Nat → Int64) (v9 : Option Value) (h9 : rh_H) : ∀ s35 x9, b_La_order_35 u1 s35 = some x9 → Sum.elim (fun s35 => rh_Ex (rh_M rh_PT (cw_L ++ xx) (d + 5)) (cw_L ++ xx) pg_X11_order ((35, [some (.ref 0), some (.int u1), some (.int s35.1), none, none], []), (s35.2, g, cw_R sv)) v9 h9) (fun e9 => rh_Ex (rh_M rh_PT (cw_L ++ xx) (d + 5)) (cw_L ++ xx) pg_X11_order ((66, [some (.ref 0), some (.int u1), none, none, none], []), (e9, g, cw_R sv)) v9 h9) x9 → rh_Ex (rh_M rh_PT (cw_L ++ xx) (d + 5)) (cw_L ++ xx) pg_X11_order ((35, [some (.ref 0), some (.int u1), some (.int s35.1), none, none], []), (s35.2, g, cw_R sv)) v9 h9 := by
  intro s35 x9 hf hk
  unfold b_La_order_35 at hf
  refine rh_Ex.blk 2 (s' := ((37, [some (.ref 0), some (.int u1), some (.int s35.1), none, none], [.int u1, .int s35.1]), (s35.2, g, cw_R sv))) rfl ?_
  by_cases q4 : u1 < s35.1
  · rw [if_pos q4] at hf
    refine rh_Ex.stp (s' := ((66, [some (.ref 0), some (.int u1), some (.int s35.1), none, none], []), (s35.2, g, cw_R sv))) rfl (st_icgt_p q4) ?_
    obtain rfl := Option.some.inj hf
    refine rh_Ex.fgt [some (.ref 0), some (.int u1), none, none, none] ⟨rfl, rfl, trivial⟩ ?_
    exact hk
  · rw [if_neg q4] at hf
    refine rh_Ex.stp (s' := ((40, [some (.ref 0), some (.int u1), some (.int s35.1), none, none], []), (s35.2, g, cw_R sv))) rfl (st_icgt_n q4) ?_
    refine rh_Ex.blk 5 (s' := ((45, [some (.ref 0), some (.int u1), some (.int s35.1), none, none], [.int (s35.1 &&& (u1 ^^^ (-1 : Int32)))]), (s35.2, g, cw_R sv))) rfl ?_
    by_cases q5 : (s35.1 &&& (u1 ^^^ (-1 : Int32))) = 0
    · rw [if_pos q5] at hf
      refine rh_Ex.stp (s' := ((48, [some (.ref 0), some (.int u1), some (.int s35.1), none, none], []), (s35.2, g, cw_R sv))) rfl (st_ifne_p q5) ?_
      refine rh_Ex.blk 6 (s' := ((56, [some (.ref 0), some (.int u1), some (.int s35.1), none, none], [.int s35.1, .int u1, .ref 0, .int s35.1, .ref 41]), (s35.2, g, cw_R sv))) rfl ?_
      obtain ⟨x6, hx6, hf⟩ := rh_bq hf
      refine rh_Ex.call (j := 176) (rc := some 10) [.ref 0, .int u1, .int s35.1] [.int s35.1, .ref 41] (some (.int x6.1)) rfl rfl rfl (Nat.le_of_ble_eq_true rfl) (R_La_leastLoad d xx sv s35.2 g u1 s35.1 hx6) ?_
      show rh_Ex _ _ _ ((59, [some (.ref 0), some (.int u1), some (.int s35.1), none, none], [.int x6.1, .int s35.1, .ref 41]), (x6.2, g, cw_R sv)) _ _
      obtain ⟨q7, hf⟩ := rh_gq hf
      refine rh_Ex.stp (s' := ((60, [some (.ref 0), some (.int u1), some (.int s35.1), none, none], []), (rh_up x6.2 41 s35.1.toNatClampNeg x6.1, g, cw_R sv))) rfl (st_iast (n := 512) rfl q7) ?_
      refine rh_Ex.blk 2 (s' := ((35, [some (.ref 0), some (.int u1), some (.int (s35.1 + (1 : Int32))), none, none], []), (rh_up x6.2 41 s35.1.toNatClampNeg x6.1, g, cw_R sv))) rfl ?_
      obtain rfl := Option.some.inj hf
      refine rh_Ex.fgt [some (.ref 0), some (.int u1), some (.int (s35.1 + (1 : Int32))), none, none] ⟨rfl, rfl, rfl, trivial⟩ ?_
      exact hk
    · rw [if_neg q5] at hf
      refine rh_Ex.stp (s' := ((60, [some (.ref 0), some (.int u1), some (.int s35.1), none, none], []), (s35.2, g, cw_R sv))) rfl (st_ifne_n q5) ?_
      refine rh_Ex.blk 2 (s' := ((35, [some (.ref 0), some (.int u1), some (.int (s35.1 + (1 : Int32))), none, none], []), (s35.2, g, cw_R sv))) rfl ?_
      obtain rfl := Option.some.inj hf
      refine rh_Ex.fgt [some (.ref 0), some (.int u1), some (.int (s35.1 + (1 : Int32))), none, none] ⟨rfl, rfl, rfl, trivial⟩ ?_
      exact hk
set_option maxRecDepth 20000 in
set_option maxHeartbeats 4000000 in
theorem lb_La_order_80 (d : Nat) (xx : rh_L) (sv : Option Nat) (u1 : Int32) (g : Nat → Nat → Int64) (v9 : Option Value) (h9 : rh_H) : ∀ s80 x9, b_La_order_80 u1 s80 = some x9 → Sum.elim (fun s80 => rh_Ex (rh_M rh_PT (cw_L ++ xx) (d + 5)) (cw_L ++ xx) pg_X11_order ((80, [some (.ref 0), some (.int u1), some (.int s80.1), some (.int s80.2.1), none], []), (s80.2.2, g, cw_R sv)) v9 h9) (fun e9 => rh_Ex (rh_M rh_PT (cw_L ++ xx) (d + 5)) (cw_L ++ xx) pg_X11_order ((116, [some (.ref 0), some (.int u1), none, none, none], []), (e9, g, cw_R sv)) v9 h9) x9 → rh_Ex (rh_M rh_PT (cw_L ++ xx) (d + 5)) (cw_L ++ xx) pg_X11_order ((80, [some (.ref 0), some (.int u1), some (.int s80.1), some (.int s80.2.1), none], []), (s80.2.2, g, cw_R sv)) v9 h9 := by
  intro s80 x9 hf hk
  unfold b_La_order_80 at hf
  refine rh_Ex.blk 1 (s' := ((81, [some (.ref 0), some (.int u1), some (.int s80.1), some (.int s80.2.1), none], [.int s80.2.1]), (s80.2.2, g, cw_R sv))) rfl ?_
  by_cases q10 : s80.2.1 ≤ 0
  · rw [if_pos q10] at hf
    refine rh_Ex.stp (s' := ((116, [some (.ref 0), some (.int u1), some (.int s80.1), some (.int s80.2.1), none], []), (s80.2.2, g, cw_R sv))) rfl (st_ifle_p q10) ?_
    obtain rfl := Option.some.inj hf
    refine rh_Ex.fgt [some (.ref 0), some (.int u1), none, none, none] ⟨rfl, rfl, trivial⟩ ?_
    exact hk
  · rw [if_neg q10] at hf
    refine rh_Ex.stp (s' := ((84, [some (.ref 0), some (.int u1), some (.int s80.1), some (.int s80.2.1), none], []), (s80.2.2, g, cw_R sv))) rfl (st_ifle_n q10) ?_
    refine rh_Ex.blk 3 (s' := ((87, [some (.ref 0), some (.int u1), some (.int s80.1), some (.int s80.2.1), none], [.int s80.1, .int u1, .ref 0]), (s80.2.2, g, cw_R sv))) rfl ?_
    obtain ⟨x11, hx11, hf⟩ := rh_bq hf
    refine rh_Ex.call (j := 177) (rc := some 10) [.ref 0, .int u1, .int s80.1] [] (some (.int x11.1)) rfl rfl rfl (Nat.le_of_ble_eq_true rfl) (R_La_nextCarried d xx sv s80.2.2 g u1 s80.1 hx11) ?_
    show rh_Ex _ _ _ ((90, [some (.ref 0), some (.int u1), some (.int s80.1), some (.int s80.2.1), none], [.int x11.1]), (x11.2, g, cw_R sv)) _ _
    refine rh_Ex.blk 4 (s' := ((98, [some (.ref 0), some (.int u1), some (.int s80.1), some (.int s80.2.1), some (.int x11.1)], [.int x11.1, .ref 2]), (x11.2, g, cw_R sv))) rfl ?_
    obtain ⟨x12, hx12, hf⟩ := rh_bq hf
    refine rh_Ex.call (j := 69) (rc := some 6) [.ref 2, .int x11.1] [] none rfl rfl rfl (Nat.le_of_ble_eq_true rfl) (R_Ro_add (d + 4) xx sv x11.2 g x11.1 hx12) ?_
    show rh_Ex _ _ _ ((101, [some (.ref 0), some (.int u1), some (.int s80.1), some (.int s80.2.1), some (.int x11.1)], []), (x12, g, cw_R sv)) _ _
    refine rh_Ex.blk 10 (s' := ((80, [some (.ref 0), some (.int u1), some (.int (s80.1 &&& (((1 : Int32) <<< (x11.1 &&& 31)) ^^^ (-1 : Int32)))), some (.int (s80.2.1 + (-1 : Int32))), some (.int x11.1)], []), (x12, g, cw_R sv))) rfl ?_
    obtain rfl := Option.some.inj hf
    refine rh_Ex.fgt [some (.ref 0), some (.int u1), some (.int (s80.1 &&& (((1 : Int32) <<< (x11.1 &&& 31)) ^^^ (-1 : Int32)))), some (.int (s80.2.1 + (-1 : Int32))), none] ⟨rfl, rfl, rfl, rfl, trivial⟩ ?_
    exact hk
set_option maxRecDepth 20000 in
set_option maxHeartbeats 4000000 in
theorem R_La_order (d : Nat) (xx : rh_L) (sv : Option Nat) (h : Nat → Nat → Int32) (g : Nat → Nat → Int64) (p0 : Int32) {z9 : Int32 × (Nat → Nat → Int32)} (hf : f_La_order h p0 = some z9) : rh_M rh_PT (cw_L ++ xx) (d + 6) 150 [.ref 0, .int p0] (h, g, cw_R sv) (some (.int z9.1)) (z9.2, g, cw_R sv) := by
  unfold f_La_order at hf
  refine rh_go pt_150 (Nat.le_of_ble_eq_true rfl) (lv := [some (.ref 0), some (.int p0), none, none, none]) rfl ?_
  refine rh_Ex.blk 3 (s' := ((5, [some (.ref 0), some (.int p0), none, none, none], [.int p0, .ref 4]), (h, g, cw_R sv))) rfl ?_
  refine rh_Ex.call (j := 1) (rc := some 0) [.ref 4, .int p0] [] (some (.int (f_Cr_holds h p0))) rfl rfl rfl (Nat.le_of_ble_eq_true rfl) (R_Cr_holds (d + 3) xx sv h g p0 rfl) ?_
  show rh_Ex _ _ _ ((8, [some (.ref 0), some (.int p0), none, none, none], [.int (f_Cr_holds h p0)]), (h, g, cw_R sv)) _ _
  by_cases q1 : (f_Cr_holds h p0) = 0
  · rw [if_pos q1] at hf
    refine rh_Ex.stp (s' := ((24, [some (.ref 0), some (.int p0), none, none, none], []), (h, g, cw_R sv))) rfl (st_ifeq_p q1) ?_
    refine rh_Ex.blk 1 (s' := ((25, [some (.ref 0), some (.int p0), none, none, none], [.int (-1 : Int32)]), (h, g, cw_R sv))) rfl ?_
    obtain rfl := Option.some.inj hf
    exact rh_Ex.ret rfl rfl
  · rw [if_neg q1] at hf
    refine rh_Ex.stp (s' := ((11, [some (.ref 0), some (.int p0), none, none, none], []), (h, g, cw_R sv))) rfl (st_ifeq_n q1) ?_
    refine rh_Ex.blk 1 (s' := ((12, [some (.ref 0), some (.int p0), none, none, none], [.int p0]), (h, g, cw_R sv))) rfl ?_
    refine rh_Ex.call (j := 298) (rc := none) [.int p0] [] (some (.int (f_In_bitCount p0))) rfl rfl trivial (Nat.le_of_ble_eq_true rfl) (R_In_bitCount (d + 4) (cw_L ++ xx) (cw_R sv) h g p0 rfl) ?_
    show rh_Ex _ _ _ ((15, [some (.ref 0), some (.int p0), none, none, none], [.int (f_In_bitCount p0)]), (h, g, cw_R sv)) _ _
    refine rh_Ex.blk 2 (s' := ((18, [some (.ref 0), some (.int p0), none, none, none], [.int (7 : Int32), .int (1 : Int32), .int (f_In_bitCount p0)]), (h, g, cw_R sv))) rfl ?_
    refine rh_Ex.call (j := 155) (rc := none) [.int (f_In_bitCount p0), .int (1 : Int32), .int (7 : Int32)] [] (some (.int (f_La_within (f_In_bitCount p0) (1 : Int32) (7 : Int32)))) rfl rfl trivial (Nat.le_of_ble_eq_true rfl) (R_La_within (d + 4) (cw_L ++ xx) (cw_R sv) h g (f_In_bitCount p0) (1 : Int32) (7 : Int32) rfl) ?_
    show rh_Ex _ _ _ ((21, [some (.ref 0), some (.int p0), none, none, none], [.int (f_La_within (f_In_bitCount p0) (1 : Int32) (7 : Int32))]), (h, g, cw_R sv)) _ _
    by_cases q2 : (f_La_within (f_In_bitCount p0) (1 : Int32) (7 : Int32)) = 0
    · rw [if_pos q2] at hf
      refine rh_Ex.stp (s' := ((24, [some (.ref 0), some (.int p0), none, none, none], []), (h, g, cw_R sv))) rfl (st_ifne_p q2) ?_
      refine rh_Ex.blk 1 (s' := ((25, [some (.ref 0), some (.int p0), none, none, none], [.int (-1 : Int32)]), (h, g, cw_R sv))) rfl ?_
      obtain rfl := Option.some.inj hf
      exact rh_Ex.ret rfl rfl
    · rw [if_neg q2] at hf
      refine rh_Ex.stp (s' := ((26, [some (.ref 0), some (.int p0), none, none, none], []), (h, g, cw_R sv))) rfl (st_ifne_n q2) ?_
      refine rh_Ex.blk 4 (s' := ((32, [some (.ref 0), some (.int p0), none, none, none], [.int (0 : Int32), .int (0 : Int32), .ref 41]), (h, g, cw_R sv))) rfl ?_
      refine rh_Ex.stp (s' := ((33, [some (.ref 0), some (.int p0), none, none, none], []), (rh_up h 41 (0 : Int32).toNatClampNeg (0 : Int32), g, cw_R sv))) rfl (st_iast (n := 512) rfl (by decide)) ?_
      refine rh_Ex.blk 2 (s' := ((35, [some (.ref 0), some (.int p0), some (.int (1 : Int32)), none, none], []), (rh_up h 41 (0 : Int32).toNatClampNeg (0 : Int32), g, cw_R sv))) rfl ?_
      obtain ⟨r8, hr8, hf⟩ := rh_bq hf
      refine rh_Ex.fgt [some (.ref 0), some (.int p0), some (.int (1 : Int32)), none, none] ⟨rfl, rfl, rfl, trivial⟩ ?_
      refine rh_Ex.loop _ _ _ (lb_La_order_35 d xx sv p0  g _ _) rh_N _ r8 hr8 ?_
      refine rh_Ex.blk 2 (s' := ((70, [some (.ref 0), some (.int p0), none, none, none], [.ref 2]), (r8, g, cw_R sv))) rfl ?_
      refine rh_Ex.call (j := 68) (rc := some 6) [.ref 2] [] none rfl rfl rfl (Nat.le_of_ble_eq_true rfl) (R_Ro_begin (d + 4) xx sv r8 g  rfl) ?_
      show rh_Ex _ _ _ ((73, [some (.ref 0), some (.int p0), none, none, none], []), ((f_Ro_begin r8), g, cw_R sv)) _ _
      refine rh_Ex.blk 3 (s' := ((76, [some (.ref 0), some (.int p0), some (.int p0), none, none], [.int p0]), ((f_Ro_begin r8), g, cw_R sv))) rfl ?_
      refine rh_Ex.call (j := 298) (rc := none) [.int p0] [] (some (.int (f_In_bitCount p0))) rfl rfl trivial (Nat.le_of_ble_eq_true rfl) (R_In_bitCount (d + 4) (cw_L ++ xx) (cw_R sv) (f_Ro_begin r8) g p0 rfl) ?_
      show rh_Ex _ _ _ ((79, [some (.ref 0), some (.int p0), some (.int p0), none, none], [.int (f_In_bitCount p0)]), ((f_Ro_begin r8), g, cw_R sv)) _ _
      refine rh_Ex.blk 1 (s' := ((80, [some (.ref 0), some (.int p0), some (.int p0), some (.int (f_In_bitCount p0)), none], []), ((f_Ro_begin r8), g, cw_R sv))) rfl ?_
      obtain ⟨r13, hr13, hf⟩ := rh_bq hf
      refine rh_Ex.fgt [some (.ref 0), some (.int p0), some (.int p0), some (.int (f_In_bitCount p0)), none] ⟨rfl, rfl, rfl, rfl, trivial⟩ ?_
      refine rh_Ex.loop _ _ _ (lb_La_order_80 d xx sv p0  g _ _) rh_N _ r13 hr13 ?_
      refine rh_Ex.blk 3 (s' := ((121, [some (.ref 0), some (.int p0), none, none, none], [.int p0, .ref 41]), (r13, g, cw_R sv))) rfl ?_
      obtain ⟨q14, hf⟩ := rh_gq hf
      refine rh_Ex.stp (s' := ((122, [some (.ref 0), some (.int p0), none, none, none], [.int (r13 41 p0.toNatClampNeg)]), (r13, g, cw_R sv))) rfl (st_iald (n := 512) rfl q14) ?_
      obtain rfl := Option.some.inj hf
      exact rh_Ex.ret rfl rfl
def f_La_keep (h : Nat → Nat → Int32) (p0 : Int32) : Option (Int32 × (Nat → Nat → Int32)) :=
  if (f_La_within p0 (0 : Int32) (1 : Int32)) = 0 then
    some (((0 : Int32), h))
  else
    (f_De_store h p0).bind (fun x2 =>
      some (((1 : Int32), x2))
    )
set_option maxRecDepth 20000 in
set_option maxHeartbeats 4000000 in
theorem R_La_keep (d : Nat) (xx : rh_L) (sv : Option Nat) (h : Nat → Nat → Int32) (g : Nat → Nat → Int64) (p0 : Int32) {z9 : Int32 × (Nat → Nat → Int32)} (hf : f_La_keep h p0 = some z9) : rh_M rh_PT (cw_L ++ xx) (d + 3) 151 [.ref 0, .int p0] (h, g, cw_R sv) (some (.int z9.1)) (z9.2, g, cw_R sv) := by
  unfold f_La_keep at hf
  refine rh_go pt_151 (Nat.le_of_ble_eq_true rfl) (lv := [some (.ref 0), some (.int p0)]) rfl ?_
  refine rh_Ex.blk 3 (s' := ((3, [some (.ref 0), some (.int p0)], [.int (1 : Int32), .int (0 : Int32), .int p0]), (h, g, cw_R sv))) rfl ?_
  refine rh_Ex.call (j := 155) (rc := none) [.int p0, .int (0 : Int32), .int (1 : Int32)] [] (some (.int (f_La_within p0 (0 : Int32) (1 : Int32)))) rfl rfl trivial (Nat.le_of_ble_eq_true rfl) (R_La_within (d + 1) (cw_L ++ xx) (cw_R sv) h g p0 (0 : Int32) (1 : Int32) rfl) ?_
  show rh_Ex _ _ _ ((6, [some (.ref 0), some (.int p0)], [.int (f_La_within p0 (0 : Int32) (1 : Int32))]), (h, g, cw_R sv)) _ _
  by_cases q1 : (f_La_within p0 (0 : Int32) (1 : Int32)) = 0
  · rw [if_pos q1] at hf
    refine rh_Ex.stp (s' := ((9, [some (.ref 0), some (.int p0)], []), (h, g, cw_R sv))) rfl (st_ifne_p q1) ?_
    refine rh_Ex.blk 1 (s' := ((10, [some (.ref 0), some (.int p0)], [.int (0 : Int32)]), (h, g, cw_R sv))) rfl ?_
    obtain rfl := Option.some.inj hf
    exact rh_Ex.ret rfl ⟨rfl, Or.inl rfl⟩
  · rw [if_neg q1] at hf
    refine rh_Ex.stp (s' := ((11, [some (.ref 0), some (.int p0)], []), (h, g, cw_R sv))) rfl (st_ifne_n q1) ?_
    refine rh_Ex.blk 3 (s' := ((16, [some (.ref 0), some (.int p0)], [.int p0, .ref 13]), (h, g, cw_R sv))) rfl ?_
    obtain ⟨x2, hx2, hf⟩ := rh_bq hf
    refine rh_Ex.call (j := 27) (rc := some 2) [.ref 13, .int p0] [] none rfl rfl rfl (Nat.le_of_ble_eq_true rfl) (R_De_store d xx sv h g p0 hx2) ?_
    show rh_Ex _ _ _ ((19, [some (.ref 0), some (.int p0)], []), (x2, g, cw_R sv)) _ _
    refine rh_Ex.blk 1 (s' := ((20, [some (.ref 0), some (.int p0)], [.int (1 : Int32)]), (x2, g, cw_R sv))) rfl ?_
    obtain rfl := Option.some.inj hf
    exact rh_Ex.ret rfl ⟨rfl, Or.inr rfl⟩
def f_La_again (h : Nat → Nat → Int32) (p0 : Int32) : Option (Int32 × (Nat → Nat → Int32)) :=
  if (f_La_within p0 (0 : Int32) (1 : Int32)) = 0 then
    some (((0 : Int32), h))
  else
    rh_g (0 ≤ p0.toInt ∧ p0.toInt < ((2 : Nat) : Int)) (
      if (h 18 p0.toNatClampNeg) = 0 then
        some (((0 : Int32), h))
      else
        (f_De_restore h p0).bind (fun x4 =>
          some (((1 : Int32), (f_De_forgetPast x4)))
        )
    )
set_option maxRecDepth 20000 in
set_option maxHeartbeats 4000000 in
theorem R_La_again (d : Nat) (xx : rh_L) (sv : Option Nat) (h : Nat → Nat → Int32) (g : Nat → Nat → Int64) (p0 : Int32) {z9 : Int32 × (Nat → Nat → Int32)} (hf : f_La_again h p0 = some z9) : rh_M rh_PT (cw_L ++ xx) (d + 3) 152 [.ref 0, .int p0] (h, g, cw_R sv) (some (.int z9.1)) (z9.2, g, cw_R sv) := by
  unfold f_La_again at hf
  refine rh_go pt_152 (Nat.le_of_ble_eq_true rfl) (lv := [some (.ref 0), some (.int p0)]) rfl ?_
  refine rh_Ex.blk 3 (s' := ((3, [some (.ref 0), some (.int p0)], [.int (1 : Int32), .int (0 : Int32), .int p0]), (h, g, cw_R sv))) rfl ?_
  refine rh_Ex.call (j := 155) (rc := none) [.int p0, .int (0 : Int32), .int (1 : Int32)] [] (some (.int (f_La_within p0 (0 : Int32) (1 : Int32)))) rfl rfl trivial (Nat.le_of_ble_eq_true rfl) (R_La_within (d + 1) (cw_L ++ xx) (cw_R sv) h g p0 (0 : Int32) (1 : Int32) rfl) ?_
  show rh_Ex _ _ _ ((6, [some (.ref 0), some (.int p0)], [.int (f_La_within p0 (0 : Int32) (1 : Int32))]), (h, g, cw_R sv)) _ _
  by_cases q1 : (f_La_within p0 (0 : Int32) (1 : Int32)) = 0
  · rw [if_pos q1] at hf
    refine rh_Ex.stp (s' := ((21, [some (.ref 0), some (.int p0)], []), (h, g, cw_R sv))) rfl (st_ifeq_p q1) ?_
    refine rh_Ex.blk 1 (s' := ((22, [some (.ref 0), some (.int p0)], [.int (0 : Int32)]), (h, g, cw_R sv))) rfl ?_
    obtain rfl := Option.some.inj hf
    exact rh_Ex.ret rfl ⟨rfl, Or.inl rfl⟩
  · rw [if_neg q1] at hf
    refine rh_Ex.stp (s' := ((9, [some (.ref 0), some (.int p0)], []), (h, g, cw_R sv))) rfl (st_ifeq_n q1) ?_
    refine rh_Ex.blk 4 (s' := ((17, [some (.ref 0), some (.int p0)], [.int p0, .ref 18]), (h, g, cw_R sv))) rfl ?_
    obtain ⟨q2, hf⟩ := rh_gq hf
    refine rh_Ex.stp (s' := ((18, [some (.ref 0), some (.int p0)], [.int (h 18 p0.toNatClampNeg)]), (h, g, cw_R sv))) rfl (st_zald (n := 2) rfl q2) ?_
    by_cases q3 : (h 18 p0.toNatClampNeg) = 0
    · rw [if_pos q3] at hf
      refine rh_Ex.stp (s' := ((21, [some (.ref 0), some (.int p0)], []), (h, g, cw_R sv))) rfl (st_ifne_p q3) ?_
      refine rh_Ex.blk 1 (s' := ((22, [some (.ref 0), some (.int p0)], [.int (0 : Int32)]), (h, g, cw_R sv))) rfl ?_
      obtain rfl := Option.some.inj hf
      exact rh_Ex.ret rfl ⟨rfl, Or.inl rfl⟩
    · rw [if_neg q3] at hf
      refine rh_Ex.stp (s' := ((23, [some (.ref 0), some (.int p0)], []), (h, g, cw_R sv))) rfl (st_ifne_n q3) ?_
      refine rh_Ex.blk 3 (s' := ((28, [some (.ref 0), some (.int p0)], [.int p0, .ref 13]), (h, g, cw_R sv))) rfl ?_
      obtain ⟨x4, hx4, hf⟩ := rh_bq hf
      refine rh_Ex.call (j := 28) (rc := some 2) [.ref 13, .int p0] [] none rfl rfl rfl (Nat.le_of_ble_eq_true rfl) (R_De_restore d xx sv h g p0 hx4) ?_
      show rh_Ex _ _ _ ((31, [some (.ref 0), some (.int p0)], []), (x4, g, cw_R sv)) _ _
      refine rh_Ex.blk 2 (s' := ((35, [some (.ref 0), some (.int p0)], [.ref 13]), (x4, g, cw_R sv))) rfl ?_
      refine rh_Ex.call (j := 26) (rc := some 2) [.ref 13] [] none rfl rfl rfl (Nat.le_of_ble_eq_true rfl) (R_De_forgetPast (d + 1) xx sv x4 g  rfl) ?_
      show rh_Ex _ _ _ ((38, [some (.ref 0), some (.int p0)], []), ((f_De_forgetPast x4), g, cw_R sv)) _ _
      refine rh_Ex.blk 1 (s' := ((39, [some (.ref 0), some (.int p0)], [.int (1 : Int32)]), ((f_De_forgetPast x4), g, cw_R sv))) rfl ?_
      obtain rfl := Option.some.inj hf
      exact rh_Ex.ret rfl ⟨rfl, Or.inr rfl⟩
def f_La_count (h : Nat → Nat → Int32) (p0 : Int32) : Option (Int32 × (Nat → Nat → Int32)) :=
  if ((0 : Int) = p0.toInt) then
    some ((h 4 0, h))
  else
    if ((1 : Int) = p0.toInt) then
      some ((h 13 1, h))
    else
      if ((2 : Int) = p0.toInt) then
        some (((h 13 1) - (h 13 1) / (9 : Int32) * (9 : Int32), h))
      else
        if ((3 : Int) = p0.toInt) then
          some (((h 13 1) / (9 : Int32), h))
        else
          if ((4 : Int) = p0.toInt) then
            some ((h 13 2, h))
          else
            if ((5 : Int) = p0.toInt) then
              (f_La_load h).bind (fun x7 =>
                some ((x7.1, x7.2))
              )
            else
              if ((6 : Int) = p0.toInt) then
                some ((h 25 0, h))
              else
                if ((7 : Int) = p0.toInt) then
                  some ((h 34 1, h))
                else
                  if ((8 : Int) = p0.toInt) then
                    some ((h 13 6, h))
                  else
                    if ((9 : Int) = p0.toInt) then
                      some ((h 2 1, h))
                    else
                      if ((10 : Int) = p0.toInt) then
                        some ((h 0 1, h))
                      else
                        if ((11 : Int) = p0.toInt) then
                          rh_g (0 ≤ (p0 - (11 : Int32)).toInt ∧ (p0 - (11 : Int32)).toInt < ((3 : Nat) : Int)) (
                            some ((h 40 (p0 - (11 : Int32)).toNatClampNeg, h))
                          )
                        else
                          if ((12 : Int) = p0.toInt) then
                            rh_g (0 ≤ (p0 - (11 : Int32)).toInt ∧ (p0 - (11 : Int32)).toInt < ((3 : Nat) : Int)) (
                              some ((h 40 (p0 - (11 : Int32)).toNatClampNeg, h))
                            )
                          else
                            if ((13 : Int) = p0.toInt) then
                              rh_g (0 ≤ (p0 - (11 : Int32)).toInt ∧ (p0 - (11 : Int32)).toInt < ((3 : Nat) : Int)) (
                                some ((h 40 (p0 - (11 : Int32)).toNatClampNeg, h))
                              )
                            else
                              some (((-1 : Int32), h))
set_option maxRecDepth 20000 in
set_option maxHeartbeats 4000000 in
theorem R_La_count (d : Nat) (xx : rh_L) (sv : Option Nat) (h : Nat → Nat → Int32) (g : Nat → Nat → Int64) (p0 : Int32) {z9 : Int32 × (Nat → Nat → Int32)} (hf : f_La_count h p0 = some z9) : rh_M rh_PT (cw_L ++ xx) (d + 6) 153 [.ref 0, .int p0] (h, g, cw_R sv) (some (.int z9.1)) (z9.2, g, cw_R sv) := by
  unfold f_La_count at hf
  refine rh_go pt_153 (Nat.le_of_ble_eq_true rfl) (lv := [some (.ref 0), some (.int p0)]) rfl ?_
  refine rh_Ex.blk 1 (s' := ((1, [some (.ref 0), some (.int p0)], [.int p0]), (h, g, cw_R sv))) rfl ?_
  refine rh_Ex.stp (s' := ((rh_tw 0 [72, 80, 88, 99, 110, 118, 123, 131, 139, 147, 155, 160, 160, 160] 170 p0, [some (.ref 0), some (.int p0)], []), (h, g, cw_R sv))) rfl rfl ?_
  by_cases q1 : ((0 : Int) = p0.toInt)
  · rw [if_pos q1] at hf
    rw [rh_tw, if_pos (show (0 : Int) = p0.toInt from q1)]
    refine rh_Ex.blk 3 (s' := ((79, [some (.ref 0), some (.int p0)], [.int (h 4 0)]), (h, g, cw_R sv))) rfl ?_
    obtain rfl := Option.some.inj hf
    exact rh_Ex.ret rfl rfl
  · rw [if_neg q1] at hf
    rw [rh_tw, if_neg (show ¬ (0 : Int) = p0.toInt from q1)]
    by_cases q2 : ((1 : Int) = p0.toInt)
    · rw [if_pos q2] at hf
      rw [rh_tw, if_pos (show (0 + 1 : Int) = p0.toInt from q2)]
      refine rh_Ex.blk 3 (s' := ((87, [some (.ref 0), some (.int p0)], [.int (h 13 1)]), (h, g, cw_R sv))) rfl ?_
      obtain rfl := Option.some.inj hf
      exact rh_Ex.ret rfl rfl
    · rw [if_neg q2] at hf
      rw [rh_tw, if_neg (show ¬ (0 + 1 : Int) = p0.toInt from q2)]
      by_cases q3 : ((2 : Int) = p0.toInt)
      · rw [if_pos q3] at hf
        rw [rh_tw, if_pos (show (0 + 1 + 1 : Int) = p0.toInt from q3)]
        refine rh_Ex.blk 4 (s' := ((97, [some (.ref 0), some (.int p0)], [.int (9 : Int32), .int (h 13 1)]), (h, g, cw_R sv))) rfl ?_
        refine rh_Ex.stp (s' := ((98, [some (.ref 0), some (.int p0)], [.int ((h 13 1) - (h 13 1) / (9 : Int32) * (9 : Int32))]), (h, g, cw_R sv))) rfl (st_irem (by decide)) ?_
        obtain rfl := Option.some.inj hf
        exact rh_Ex.ret rfl rfl
      · rw [if_neg q3] at hf
        rw [rh_tw, if_neg (show ¬ (0 + 1 + 1 : Int) = p0.toInt from q3)]
        by_cases q4 : ((3 : Int) = p0.toInt)
        · rw [if_pos q4] at hf
          rw [rh_tw, if_pos (show (0 + 1 + 1 + 1 : Int) = p0.toInt from q4)]
          refine rh_Ex.blk 4 (s' := ((108, [some (.ref 0), some (.int p0)], [.int (9 : Int32), .int (h 13 1)]), (h, g, cw_R sv))) rfl ?_
          refine rh_Ex.stp (s' := ((109, [some (.ref 0), some (.int p0)], [.int ((h 13 1) / (9 : Int32))]), (h, g, cw_R sv))) rfl (st_idiv (by decide)) ?_
          obtain rfl := Option.some.inj hf
          exact rh_Ex.ret rfl rfl
        · rw [if_neg q4] at hf
          rw [rh_tw, if_neg (show ¬ (0 + 1 + 1 + 1 : Int) = p0.toInt from q4)]
          by_cases q5 : ((4 : Int) = p0.toInt)
          · rw [if_pos q5] at hf
            rw [rh_tw, if_pos (show (0 + 1 + 1 + 1 + 1 : Int) = p0.toInt from q5)]
            refine rh_Ex.blk 3 (s' := ((117, [some (.ref 0), some (.int p0)], [.int (h 13 2)]), (h, g, cw_R sv))) rfl ?_
            obtain rfl := Option.some.inj hf
            exact rh_Ex.ret rfl rfl
          · rw [if_neg q5] at hf
            rw [rh_tw, if_neg (show ¬ (0 + 1 + 1 + 1 + 1 : Int) = p0.toInt from q5)]
            by_cases q6 : ((5 : Int) = p0.toInt)
            · rw [if_pos q6] at hf
              rw [rh_tw, if_pos (show (0 + 1 + 1 + 1 + 1 + 1 : Int) = p0.toInt from q6)]
              refine rh_Ex.blk 1 (s' := ((119, [some (.ref 0), some (.int p0)], [.ref 0]), (h, g, cw_R sv))) rfl ?_
              obtain ⟨x7, hx7, hf⟩ := rh_bq hf
              refine rh_Ex.call (j := 160) (rc := some 10) [.ref 0] [] (some (.int x7.1)) rfl rfl rfl (Nat.le_of_ble_eq_true rfl) (R_La_load d xx sv h g  hx7) ?_
              show rh_Ex _ _ _ ((122, [some (.ref 0), some (.int p0)], [.int x7.1]), (x7.2, g, cw_R sv)) _ _
              obtain rfl := Option.some.inj hf
              exact rh_Ex.ret rfl rfl
            · rw [if_neg q6] at hf
              rw [rh_tw, if_neg (show ¬ (0 + 1 + 1 + 1 + 1 + 1 : Int) = p0.toInt from q6)]
              by_cases q8 : ((6 : Int) = p0.toInt)
              · rw [if_pos q8] at hf
                rw [rh_tw, if_pos (show (0 + 1 + 1 + 1 + 1 + 1 + 1 : Int) = p0.toInt from q8)]
                refine rh_Ex.blk 3 (s' := ((130, [some (.ref 0), some (.int p0)], [.int (h 25 0)]), (h, g, cw_R sv))) rfl ?_
                obtain rfl := Option.some.inj hf
                exact rh_Ex.ret rfl rfl
              · rw [if_neg q8] at hf
                rw [rh_tw, if_neg (show ¬ (0 + 1 + 1 + 1 + 1 + 1 + 1 : Int) = p0.toInt from q8)]
                by_cases q9 : ((7 : Int) = p0.toInt)
                · rw [if_pos q9] at hf
                  rw [rh_tw, if_pos (show (0 + 1 + 1 + 1 + 1 + 1 + 1 + 1 : Int) = p0.toInt from q9)]
                  refine rh_Ex.blk 3 (s' := ((138, [some (.ref 0), some (.int p0)], [.int (h 34 1)]), (h, g, cw_R sv))) rfl ?_
                  obtain rfl := Option.some.inj hf
                  exact rh_Ex.ret rfl rfl
                · rw [if_neg q9] at hf
                  rw [rh_tw, if_neg (show ¬ (0 + 1 + 1 + 1 + 1 + 1 + 1 + 1 : Int) = p0.toInt from q9)]
                  by_cases q10 : ((8 : Int) = p0.toInt)
                  · rw [if_pos q10] at hf
                    rw [rh_tw, if_pos (show (0 + 1 + 1 + 1 + 1 + 1 + 1 + 1 + 1 : Int) = p0.toInt from q10)]
                    refine rh_Ex.blk 3 (s' := ((146, [some (.ref 0), some (.int p0)], [.int (h 13 6)]), (h, g, cw_R sv))) rfl ?_
                    obtain rfl := Option.some.inj hf
                    exact rh_Ex.ret rfl rfl
                  · rw [if_neg q10] at hf
                    rw [rh_tw, if_neg (show ¬ (0 + 1 + 1 + 1 + 1 + 1 + 1 + 1 + 1 : Int) = p0.toInt from q10)]
                    by_cases q11 : ((9 : Int) = p0.toInt)
                    · rw [if_pos q11] at hf
                      rw [rh_tw, if_pos (show (0 + 1 + 1 + 1 + 1 + 1 + 1 + 1 + 1 + 1 : Int) = p0.toInt from q11)]
                      refine rh_Ex.blk 3 (s' := ((154, [some (.ref 0), some (.int p0)], [.int (h 2 1)]), (h, g, cw_R sv))) rfl ?_
                      obtain rfl := Option.some.inj hf
                      exact rh_Ex.ret rfl rfl
                    · rw [if_neg q11] at hf
                      rw [rh_tw, if_neg (show ¬ (0 + 1 + 1 + 1 + 1 + 1 + 1 + 1 + 1 + 1 : Int) = p0.toInt from q11)]
                      by_cases q12 : ((10 : Int) = p0.toInt)
                      · rw [if_pos q12] at hf
                        rw [rh_tw, if_pos (show (0 + 1 + 1 + 1 + 1 + 1 + 1 + 1 + 1 + 1 + 1 : Int) = p0.toInt from q12)]
                        refine rh_Ex.blk 2 (s' := ((159, [some (.ref 0), some (.int p0)], [.int (h 0 1)]), (h, g, cw_R sv))) rfl ?_
                        obtain rfl := Option.some.inj hf
                        exact rh_Ex.ret rfl rfl
                      · rw [if_neg q12] at hf
                        rw [rh_tw, if_neg (show ¬ (0 + 1 + 1 + 1 + 1 + 1 + 1 + 1 + 1 + 1 + 1 : Int) = p0.toInt from q12)]
                        by_cases q13 : ((11 : Int) = p0.toInt)
                        · rw [if_pos q13] at hf
                          rw [rh_tw, if_pos (show (0 + 1 + 1 + 1 + 1 + 1 + 1 + 1 + 1 + 1 + 1 + 1 : Int) = p0.toInt from q13)]
                          refine rh_Ex.blk 5 (s' := ((168, [some (.ref 0), some (.int p0)], [.int (p0 - (11 : Int32)), .ref 40]), (h, g, cw_R sv))) rfl ?_
                          obtain ⟨q14, hf⟩ := rh_gq hf
                          refine rh_Ex.stp (s' := ((169, [some (.ref 0), some (.int p0)], [.int (h 40 (p0 - (11 : Int32)).toNatClampNeg)]), (h, g, cw_R sv))) rfl (st_iald (n := 3) rfl q14) ?_
                          obtain rfl := Option.some.inj hf
                          exact rh_Ex.ret rfl rfl
                        · rw [if_neg q13] at hf
                          rw [rh_tw, if_neg (show ¬ (0 + 1 + 1 + 1 + 1 + 1 + 1 + 1 + 1 + 1 + 1 + 1 : Int) = p0.toInt from q13)]
                          by_cases q15 : ((12 : Int) = p0.toInt)
                          · rw [if_pos q15] at hf
                            rw [rh_tw, if_pos (show (0 + 1 + 1 + 1 + 1 + 1 + 1 + 1 + 1 + 1 + 1 + 1 + 1 : Int) = p0.toInt from q15)]
                            refine rh_Ex.blk 5 (s' := ((168, [some (.ref 0), some (.int p0)], [.int (p0 - (11 : Int32)), .ref 40]), (h, g, cw_R sv))) rfl ?_
                            obtain ⟨q16, hf⟩ := rh_gq hf
                            refine rh_Ex.stp (s' := ((169, [some (.ref 0), some (.int p0)], [.int (h 40 (p0 - (11 : Int32)).toNatClampNeg)]), (h, g, cw_R sv))) rfl (st_iald (n := 3) rfl q16) ?_
                            obtain rfl := Option.some.inj hf
                            exact rh_Ex.ret rfl rfl
                          · rw [if_neg q15] at hf
                            rw [rh_tw, if_neg (show ¬ (0 + 1 + 1 + 1 + 1 + 1 + 1 + 1 + 1 + 1 + 1 + 1 + 1 : Int) = p0.toInt from q15)]
                            by_cases q17 : ((13 : Int) = p0.toInt)
                            · rw [if_pos q17] at hf
                              rw [rh_tw, if_pos (show (0 + 1 + 1 + 1 + 1 + 1 + 1 + 1 + 1 + 1 + 1 + 1 + 1 + 1 : Int) = p0.toInt from q17)]
                              refine rh_Ex.blk 5 (s' := ((168, [some (.ref 0), some (.int p0)], [.int (p0 - (11 : Int32)), .ref 40]), (h, g, cw_R sv))) rfl ?_
                              obtain ⟨q18, hf⟩ := rh_gq hf
                              refine rh_Ex.stp (s' := ((169, [some (.ref 0), some (.int p0)], [.int (h 40 (p0 - (11 : Int32)).toNatClampNeg)]), (h, g, cw_R sv))) rfl (st_iald (n := 3) rfl q18) ?_
                              obtain rfl := Option.some.inj hf
                              exact rh_Ex.ret rfl rfl
                            · rw [if_neg q17] at hf
                              rw [rh_tw, if_neg (show ¬ (0 + 1 + 1 + 1 + 1 + 1 + 1 + 1 + 1 + 1 + 1 + 1 + 1 + 1 : Int) = p0.toInt from q17)]
                              rw [rh_tw]
                              refine rh_Ex.blk 1 (s' := ((171, [some (.ref 0), some (.int p0)], [.int (-1 : Int32)]), (h, g, cw_R sv))) rfl ?_
                              obtain rfl := Option.some.inj hf
                              exact rh_Ex.ret rfl rfl
def f_La_row (h : Nat → Nat → Int32) (p0 : Int32) : Option (Int32) :=
  if p0 < 0 then
    none
  else
    if p0 < (h 2 1) then
      rh_g (0 ≤ p0.toInt ∧ p0.toInt < ((11 : Nat) : Int)) (
        some ((h 3 p0.toNatClampNeg))
      )
    else
      none
set_option maxRecDepth 20000 in
set_option maxHeartbeats 4000000 in
theorem R_La_row (d : Nat) (xx : rh_L) (sv : Option Nat) (h : Nat → Nat → Int32) (g : Nat → Nat → Int64) (p0 : Int32) {z9 : Int32} (hf : f_La_row h p0 = some z9) : rh_M rh_PT (cw_L ++ xx) (d + 1) 154 [.ref 0, .int p0] (h, g, cw_R sv) (some (.int z9)) (h, g, cw_R sv) := by
  unfold f_La_row at hf
  refine rh_go pt_154 (Nat.le_of_ble_eq_true rfl) (lv := [some (.ref 0), some (.int p0)]) rfl ?_
  refine rh_Ex.blk 1 (s' := ((1, [some (.ref 0), some (.int p0)], [.int p0]), (h, g, cw_R sv))) rfl ?_
  by_cases q1 : p0 < 0
  · rw [if_pos q1] at hf
    refine rh_Ex.stp (s' := ((15, [some (.ref 0), some (.int p0)], []), (h, g, cw_R sv))) rfl (st_iflt_p q1) ?_
    cases hf
  · rw [if_neg q1] at hf
    refine rh_Ex.stp (s' := ((4, [some (.ref 0), some (.int p0)], []), (h, g, cw_R sv))) rfl (st_iflt_n q1) ?_
    refine rh_Ex.blk 4 (s' := ((12, [some (.ref 0), some (.int p0)], [.int (h 2 1), .int p0]), (h, g, cw_R sv))) rfl ?_
    by_cases q2 : p0 < (h 2 1)
    · rw [if_pos q2] at hf
      refine rh_Ex.stp (s' := ((23, [some (.ref 0), some (.int p0)], []), (h, g, cw_R sv))) rfl (st_iclt_p q2) ?_
      refine rh_Ex.blk 4 (s' := ((31, [some (.ref 0), some (.int p0)], [.int p0, .ref 3]), (h, g, cw_R sv))) rfl ?_
      obtain ⟨q3, hf⟩ := rh_gq hf
      refine rh_Ex.stp (s' := ((32, [some (.ref 0), some (.int p0)], [.int (h 3 p0.toNatClampNeg)]), (h, g, cw_R sv))) rfl (st_iald (n := 11) rfl q3) ?_
      obtain rfl := Option.some.inj hf
      exact rh_Ex.ret rfl rfl
    · rw [if_neg q2] at hf
      refine rh_Ex.stp (s' := ((15, [some (.ref 0), some (.int p0)], []), (h, g, cw_R sv))) rfl (st_iclt_n q2) ?_
      cases hf
def f_Mo_thrown (h : Nat → Nat → Int32) : Int32 :=
  (h 0 9)
set_option maxRecDepth 20000 in
set_option maxHeartbeats 4000000 in
theorem R_Mo_thrown (d : Nat) (rd : Option Nat) (h : Nat → Nat → Int32) (g : Nat → Nat → Int64)  {z9 : Int32} (hf : f_Mo_thrown h = z9) : rh_M rh_PT mw_L (d + 1) 178 [.ref 0] (h, g, mw_R rd) (some (.int z9)) (h, g, mw_R rd) := by
  unfold f_Mo_thrown at hf
  refine rh_go pt_178 (Nat.le_of_ble_eq_true rfl) (lv := [some (.ref 0)]) rfl ?_
  refine rh_Ex.blk 2 (s' := ((4, [some (.ref 0)], [.int (h 0 9)]), (h, g, mw_R rd))) rfl ?_
  subst hf
  exact rh_Ex.ret rfl rfl
def f_Mo_in (p0 : Int32) (p1 : Int32) (p2 : Int32) : Int32 :=
  if p0 < p1 then
    (0 : Int32)
  else
    if p2 < p0 then
      (0 : Int32)
    else
      (1 : Int32)
set_option maxRecDepth 20000 in
set_option maxHeartbeats 4000000 in
theorem R_Mo_in (d : Nat) (LL : rh_L) (rr : Nat → Nat → Option Nat) (h : Nat → Nat → Int32) (g : Nat → Nat → Int64) (p0 : Int32) (p1 : Int32) (p2 : Int32) {z9 : Int32} (hf : f_Mo_in p0 p1 p2 = z9) : rh_M rh_PT LL (d + 1) 179 [.int p0, .int p1, .int p2] (h, g, rr) (some (.int z9)) (h, g, rr) := by
  unfold f_Mo_in at hf
  refine rh_go pt_179 (Nat.le_of_ble_eq_true rfl) (lv := [some (.int p0), some (.int p1), some (.int p2)]) rfl ?_
  refine rh_Ex.blk 2 (s' := ((2, [some (.int p0), some (.int p1), some (.int p2)], [.int p1, .int p0]), (h, g, rr))) rfl ?_
  by_cases q1 : p0 < p1
  · rw [if_pos q1] at hf
    refine rh_Ex.stp (s' := ((14, [some (.int p0), some (.int p1), some (.int p2)], []), (h, g, rr))) rfl (st_iclt_p q1) ?_
    refine rh_Ex.blk 1 (s' := ((15, [some (.int p0), some (.int p1), some (.int p2)], [.int (0 : Int32)]), (h, g, rr))) rfl ?_
    subst hf
    exact rh_Ex.ret rfl ⟨rfl, Or.inl rfl⟩
  · rw [if_neg q1] at hf
    refine rh_Ex.stp (s' := ((5, [some (.int p0), some (.int p1), some (.int p2)], []), (h, g, rr))) rfl (st_iclt_n q1) ?_
    refine rh_Ex.blk 2 (s' := ((7, [some (.int p0), some (.int p1), some (.int p2)], [.int p2, .int p0]), (h, g, rr))) rfl ?_
    by_cases q2 : p2 < p0
    · rw [if_pos q2] at hf
      refine rh_Ex.stp (s' := ((14, [some (.int p0), some (.int p1), some (.int p2)], []), (h, g, rr))) rfl (st_icgt_p q2) ?_
      refine rh_Ex.blk 1 (s' := ((15, [some (.int p0), some (.int p1), some (.int p2)], [.int (0 : Int32)]), (h, g, rr))) rfl ?_
      subst hf
      exact rh_Ex.ret rfl ⟨rfl, Or.inl rfl⟩
    · rw [if_neg q2] at hf
      refine rh_Ex.stp (s' := ((10, [some (.int p0), some (.int p1), some (.int p2)], []), (h, g, rr))) rfl (st_icgt_n q2) ?_
      refine rh_Ex.blk 2 (s' := ((15, [some (.int p0), some (.int p1), some (.int p2)], [.int (1 : Int32)]), (h, g, rr))) rfl ?_
      subst hf
      exact rh_Ex.ret rfl ⟨rfl, Or.inr rfl⟩
def f_Mo_has (p0 : Int32) (p1 : Int32) : Int32 :=
  if ((p0 >>> (p1 &&& 31)) &&& (1 : Int32)) = (1 : Int32) then
    (1 : Int32)
  else
    (0 : Int32)
set_option maxRecDepth 20000 in
set_option maxHeartbeats 4000000 in
theorem R_Mo_has (d : Nat) (LL : rh_L) (rr : Nat → Nat → Option Nat) (h : Nat → Nat → Int32) (g : Nat → Nat → Int64) (p0 : Int32) (p1 : Int32) {z9 : Int32} (hf : f_Mo_has p0 p1 = z9) : rh_M rh_PT LL (d + 1) 180 [.int p0, .int p1] (h, g, rr) (some (.int z9)) (h, g, rr) := by
  unfold f_Mo_has at hf
  refine rh_go pt_180 (Nat.le_of_ble_eq_true rfl) (lv := [some (.int p0), some (.int p1)]) rfl ?_
  refine rh_Ex.blk 6 (s' := ((6, [some (.int p0), some (.int p1)], [.int (1 : Int32), .int ((p0 >>> (p1 &&& 31)) &&& (1 : Int32))]), (h, g, rr))) rfl ?_
  by_cases q1 : ((p0 >>> (p1 &&& 31)) &&& (1 : Int32)) = (1 : Int32)
  · rw [if_pos q1] at hf
    refine rh_Ex.stp (s' := ((9, [some (.int p0), some (.int p1)], []), (h, g, rr))) rfl (st_icne_p q1) ?_
    refine rh_Ex.blk 2 (s' := ((14, [some (.int p0), some (.int p1)], [.int (1 : Int32)]), (h, g, rr))) rfl ?_
    subst hf
    exact rh_Ex.ret rfl ⟨rfl, Or.inr rfl⟩
  · rw [if_neg q1] at hf
    refine rh_Ex.stp (s' := ((13, [some (.int p0), some (.int p1)], []), (h, g, rr))) rfl (st_icne_n q1) ?_
    refine rh_Ex.blk 1 (s' := ((14, [some (.int p0), some (.int p1)], [.int (0 : Int32)]), (h, g, rr))) rfl ?_
    subst hf
    exact rh_Ex.ret rfl ⟨rfl, Or.inl rfl⟩
def f_Mo_lost (h : Nat → Nat → Int32) : Int32 × (Nat → Nat → Int32) :=
  ((0 : Int32), rh_up h 0 9 (1 : Int32))
set_option maxRecDepth 20000 in
set_option maxHeartbeats 4000000 in
theorem R_Mo_lost (d : Nat) (rd : Option Nat) (h : Nat → Nat → Int32) (g : Nat → Nat → Int64)  {z9 : Int32 × (Nat → Nat → Int32)} (hf : f_Mo_lost h = z9) : rh_M rh_PT mw_L (d + 1) 181 [.ref 0] (h, g, mw_R rd) (some (.int z9.1)) (z9.2, g, mw_R rd) := by
  unfold f_Mo_lost at hf
  refine rh_go pt_181 (Nat.le_of_ble_eq_true rfl) (lv := [some (.ref 0)]) rfl ?_
  refine rh_Ex.blk 4 (s' := ((6, [some (.ref 0)], [.int (0 : Int32)]), (rh_up h 0 9 (1 : Int32), g, mw_R rd))) rfl ?_
  subst hf
  exact rh_Ex.ret rfl rfl
def f_Mo_tell (h : Nat → Nat → Int32) (p0 : Int32) : Option ((Nat → Nat → Int32)) :=
  rh_g (0 ≤ (h 0 8).toInt ∧ (h 0 8).toInt < ((16 : Nat) : Int)) (
    some ((rh_up (rh_up h 5 (h 0 8).toNatClampNeg p0) 0 8 ((h 0 8) + (1 : Int32))))
  )
set_option maxRecDepth 20000 in
set_option maxHeartbeats 4000000 in
theorem R_Mo_tell (d : Nat) (rd : Option Nat) (h : Nat → Nat → Int32) (g : Nat → Nat → Int64) (p0 : Int32) {z9 : (Nat → Nat → Int32)} (hf : f_Mo_tell h p0 = some z9) : rh_M rh_PT mw_L (d + 1) 182 [.ref 0, .int p0] (h, g, mw_R rd) none (z9, g, mw_R rd) := by
  unfold f_Mo_tell at hf
  refine rh_go pt_182 (Nat.le_of_ble_eq_true rfl) (lv := [some (.ref 0), some (.int p0)]) rfl ?_
  refine rh_Ex.blk 5 (s' := ((9, [some (.ref 0), some (.int p0)], [.int p0, .int (h 0 8), .ref 5]), (h, g, mw_R rd))) rfl ?_
  obtain ⟨q1, hf⟩ := rh_gq hf
  refine rh_Ex.stp (s' := ((10, [some (.ref 0), some (.int p0)], []), (rh_up h 5 (h 0 8).toNatClampNeg p0, g, mw_R rd))) rfl (st_iast (n := 16) rfl q1) ?_
  refine rh_Ex.blk 6 (s' := ((20, [some (.ref 0), some (.int p0)], []), (rh_up (rh_up h 5 (h 0 8).toNatClampNeg p0) 0 8 ((h 0 8) + (1 : Int32)), g, mw_R rd))) rfl ?_
  obtain rfl := Option.some.inj hf
  exact rh_Ex.ret rfl trivial
def f_Mo_isOne (h : Nat → Nat → Int32) (p0 : Int32) : Option (Int32) :=
  rh_g ((f_Mo_in p0 (0 : Int32) ((h 0 1) - (1 : Int32))) = 0 ∨ (f_Mo_in p0 (0 : Int32) ((h 0 1) - (1 : Int32))) = 1) (
    some ((f_Mo_in p0 (0 : Int32) ((h 0 1) - (1 : Int32))))
  )
set_option maxRecDepth 20000 in
set_option maxHeartbeats 4000000 in
theorem R_Mo_isOne (d : Nat) (rd : Option Nat) (h : Nat → Nat → Int32) (g : Nat → Nat → Int64) (p0 : Int32) {z9 : Int32} (hf : f_Mo_isOne h p0 = some z9) : rh_M rh_PT mw_L (d + 2) 183 [.ref 0, .int p0] (h, g, mw_R rd) (some (.int z9)) (h, g, mw_R rd) := by
  unfold f_Mo_isOne at hf
  refine rh_go pt_183 (Nat.le_of_ble_eq_true rfl) (lv := [some (.ref 0), some (.int p0)]) rfl ?_
  refine rh_Ex.blk 6 (s' := ((8, [some (.ref 0), some (.int p0)], [.int ((h 0 1) - (1 : Int32)), .int (0 : Int32), .int p0]), (h, g, mw_R rd))) rfl ?_
  refine rh_Ex.call (j := 179) (rc := none) [.int p0, .int (0 : Int32), .int ((h 0 1) - (1 : Int32))] [] (some (.int (f_Mo_in p0 (0 : Int32) ((h 0 1) - (1 : Int32))))) rfl rfl trivial (Nat.le_of_ble_eq_true rfl) (R_Mo_in d mw_L (mw_R rd) h g p0 (0 : Int32) ((h 0 1) - (1 : Int32)) rfl) ?_
  show rh_Ex _ _ _ ((11, [some (.ref 0), some (.int p0)], [.int (f_Mo_in p0 (0 : Int32) ((h 0 1) - (1 : Int32)))]), (h, g, mw_R rd)) _ _
  obtain ⟨q1, hf⟩ := rh_gq hf
  obtain rfl := Option.some.inj hf
  exact rh_Ex.ret rfl ⟨rfl, q1⟩
def f_Mo_everybody (h : Nat → Nat → Int32) : Int32 :=
  (((1 : Int32) <<< ((h 0 1) &&& 31)) - (1 : Int32))
set_option maxRecDepth 20000 in
set_option maxHeartbeats 4000000 in
theorem R_Mo_everybody (d : Nat) (rd : Option Nat) (h : Nat → Nat → Int32) (g : Nat → Nat → Int64)  {z9 : Int32} (hf : f_Mo_everybody h = z9) : rh_M rh_PT mw_L (d + 1) 184 [.ref 0] (h, g, mw_R rd) (some (.int z9)) (h, g, mw_R rd) := by
  unfold f_Mo_everybody at hf
  refine rh_go pt_184 (Nat.le_of_ble_eq_true rfl) (lv := [some (.ref 0)]) rfl ?_
  refine rh_Ex.blk 6 (s' := ((8, [some (.ref 0)], [.int (((1 : Int32) <<< ((h 0 1) &&& 31)) - (1 : Int32))]), (h, g, mw_R rd))) rfl ?_
  subst hf
  exact rh_Ex.ret rfl rfl
def f_Mo_areFolk (h : Nat → Nat → Int32) (p0 : Int32) : Option (Int32) :=
  rh_g ((f_Mo_in p0 (0 : Int32) (f_Mo_everybody h)) = 0 ∨ (f_Mo_in p0 (0 : Int32) (f_Mo_everybody h)) = 1) (
    some ((f_Mo_in p0 (0 : Int32) (f_Mo_everybody h)))
  )
set_option maxRecDepth 20000 in
set_option maxHeartbeats 4000000 in
theorem R_Mo_areFolk (d : Nat) (rd : Option Nat) (h : Nat → Nat → Int32) (g : Nat → Nat → Int64) (p0 : Int32) {z9 : Int32} (hf : f_Mo_areFolk h p0 = some z9) : rh_M rh_PT mw_L (d + 2) 185 [.ref 0, .int p0] (h, g, mw_R rd) (some (.int z9)) (h, g, mw_R rd) := by
  unfold f_Mo_areFolk at hf
  refine rh_go pt_185 (Nat.le_of_ble_eq_true rfl) (lv := [some (.ref 0), some (.int p0)]) rfl ?_
  refine rh_Ex.blk 3 (s' := ((3, [some (.ref 0), some (.int p0)], [.ref 0, .int (0 : Int32), .int p0]), (h, g, mw_R rd))) rfl ?_
  refine rh_Ex.call (j := 184) (rc := some 11) [.ref 0] [.int (0 : Int32), .int p0] (some (.int (f_Mo_everybody h))) rfl rfl rfl (Nat.le_of_ble_eq_true rfl) (R_Mo_everybody d rd h g  rfl) ?_
  show rh_Ex _ _ _ ((6, [some (.ref 0), some (.int p0)], [.int (f_Mo_everybody h), .int (0 : Int32), .int p0]), (h, g, mw_R rd)) _ _
  refine rh_Ex.call (j := 179) (rc := none) [.int p0, .int (0 : Int32), .int (f_Mo_everybody h)] [] (some (.int (f_Mo_in p0 (0 : Int32) (f_Mo_everybody h)))) rfl rfl trivial (Nat.le_of_ble_eq_true rfl) (R_Mo_in d mw_L (mw_R rd) h g p0 (0 : Int32) (f_Mo_everybody h) rfl) ?_
  show rh_Ex _ _ _ ((9, [some (.ref 0), some (.int p0)], [.int (f_Mo_in p0 (0 : Int32) (f_Mo_everybody h))]), (h, g, mw_R rd)) _ _
  obtain ⟨q1, hf⟩ := rh_gq hf
  obtain rfl := Option.some.inj hf
  exact rh_Ex.ret rfl ⟨rfl, q1⟩
def f_Mo_isBell (p0 : Int32) : Option (Int32) :=
  rh_g ((f_Mo_in p0 (0 : Int32) (8 : Int32)) = 0 ∨ (f_Mo_in p0 (0 : Int32) (8 : Int32)) = 1) (
    some ((f_Mo_in p0 (0 : Int32) (8 : Int32)))
  )
set_option maxRecDepth 20000 in
set_option maxHeartbeats 4000000 in
theorem R_Mo_isBell (d : Nat) (LL : rh_L) (rr : Nat → Nat → Option Nat) (h : Nat → Nat → Int32) (g : Nat → Nat → Int64) (p0 : Int32) {z9 : Int32} (hf : f_Mo_isBell p0 = some z9) : rh_M rh_PT LL (d + 2) 186 [.int p0] (h, g, rr) (some (.int z9)) (h, g, rr) := by
  unfold f_Mo_isBell at hf
  refine rh_go pt_186 (Nat.le_of_ble_eq_true rfl) (lv := [some (.int p0)]) rfl ?_
  refine rh_Ex.blk 3 (s' := ((4, [some (.int p0)], [.int (8 : Int32), .int (0 : Int32), .int p0]), (h, g, rr))) rfl ?_
  refine rh_Ex.call (j := 179) (rc := none) [.int p0, .int (0 : Int32), .int (8 : Int32)] [] (some (.int (f_Mo_in p0 (0 : Int32) (8 : Int32)))) rfl rfl trivial (Nat.le_of_ble_eq_true rfl) (R_Mo_in d LL (rr) h g p0 (0 : Int32) (8 : Int32) rfl) ?_
  show rh_Ex _ _ _ ((7, [some (.int p0)], [.int (f_Mo_in p0 (0 : Int32) (8 : Int32))]), (h, g, rr)) _ _
  obtain ⟨q1, hf⟩ := rh_gq hf
  obtain rfl := Option.some.inj hf
  exact rh_Ex.ret rfl ⟨rfl, q1⟩
def f_Mo_isHeavy (p0 : Int32) : Option (Int32) :=
  rh_g ((f_Mo_in p0 (0 : Int32) (9999 : Int32)) = 0 ∨ (f_Mo_in p0 (0 : Int32) (9999 : Int32)) = 1) (
    some ((f_Mo_in p0 (0 : Int32) (9999 : Int32)))
  )
set_option maxRecDepth 20000 in
set_option maxHeartbeats 4000000 in
theorem R_Mo_isHeavy (d : Nat) (LL : rh_L) (rr : Nat → Nat → Option Nat) (h : Nat → Nat → Int32) (g : Nat → Nat → Int64) (p0 : Int32) {z9 : Int32} (hf : f_Mo_isHeavy p0 = some z9) : rh_M rh_PT LL (d + 2) 187 [.int p0] (h, g, rr) (some (.int z9)) (h, g, rr) := by
  unfold f_Mo_isHeavy at hf
  refine rh_go pt_187 (Nat.le_of_ble_eq_true rfl) (lv := [some (.int p0)]) rfl ?_
  refine rh_Ex.blk 3 (s' := ((5, [some (.int p0)], [.int (9999 : Int32), .int (0 : Int32), .int p0]), (h, g, rr))) rfl ?_
  refine rh_Ex.call (j := 179) (rc := none) [.int p0, .int (0 : Int32), .int (9999 : Int32)] [] (some (.int (f_Mo_in p0 (0 : Int32) (9999 : Int32)))) rfl rfl trivial (Nat.le_of_ble_eq_true rfl) (R_Mo_in d LL (rr) h g p0 (0 : Int32) (9999 : Int32) rfl) ?_
  show rh_Ex _ _ _ ((8, [some (.int p0)], [.int (f_Mo_in p0 (0 : Int32) (9999 : Int32))]), (h, g, rr)) _ _
  obtain ⟨q1, hf⟩ := rh_gq hf
  obtain rfl := Option.some.inj hf
  exact rh_Ex.ret rfl ⟨rfl, q1⟩
def b_Mo_sign_20 (u1 : Int32) : (Int32 × (Nat → Nat → Int32)) → Option ((Int32 × (Nat → Nat → Int32)) ⊕ ((Nat → Nat → Int32))) := fun s20 =>
  if s20.1 < 0 then
    some (.inr s20.2)
  else
    rh_g (0 ≤ (s20.2 0 6).toInt ∧ (s20.2 0 6).toInt < ((80 : Nat) : Int)) (
      some (.inl (s20.1 + (-1 : Int32), rh_up (rh_up s20.2 0 6 ((s20.2 0 6) + (1 : Int32))) 4 (s20.2 0 6).toNatClampNeg (((u1 >>> (((8 : Int32) * s20.1) &&& 31)).toInt8.toInt32).toInt8.toInt32)))
    )
def f_Mo_sign (h : Nat → Nat → Int32) (p0 : Int32) : Option (Int32 × (Nat → Nat → Int32)) :=
  if ((h 0 6) + (4 : Int32)) ≤ (80 : Int32) then
    (rh_loop (b_Mo_sign_20 p0) rh_N ((3 : Int32), rh_up h 0 9 (0 : Int32))).bind (fun r5 =>
      some ((r5 0 6, r5))
    )
  else
    some (((-1 : Int32), rh_up h 0 9 (0 : Int32)))
set_option maxRecDepth 20000 in
set_option maxHeartbeats 4000000 in
theorem lb_Mo_sign_20 (d : Nat) (rd : Option Nat) (u1 : Int32) (g : Nat → Nat → Int64) (v9 : Option Value) (h9 : rh_H) : ∀ s20 x9, b_Mo_sign_20 u1 s20 = some x9 → Sum.elim (fun s20 => rh_Ex (rh_M rh_PT mw_L (d + 0)) mw_L pg_X12_sign ((20, [some (.ref 0), some (.int u1), some (.int s20.1)], []), (s20.2, g, mw_R rd)) v9 h9) (fun e9 => rh_Ex (rh_M rh_PT mw_L (d + 0)) mw_L pg_X12_sign ((53, [some (.ref 0), none, none], []), (e9, g, mw_R rd)) v9 h9) x9 → rh_Ex (rh_M rh_PT mw_L (d + 0)) mw_L pg_X12_sign ((20, [some (.ref 0), some (.int u1), some (.int s20.1)], []), (s20.2, g, mw_R rd)) v9 h9 := by
  intro s20 x9 hf hk
  unfold b_Mo_sign_20 at hf
  refine rh_Ex.blk 1 (s' := ((21, [some (.ref 0), some (.int u1), some (.int s20.1)], [.int s20.1]), (s20.2, g, mw_R rd))) rfl ?_
  by_cases q3 : s20.1 < 0
  · rw [if_pos q3] at hf
    refine rh_Ex.stp (s' := ((53, [some (.ref 0), some (.int u1), some (.int s20.1)], []), (s20.2, g, mw_R rd))) rfl (st_iflt_p q3) ?_
    obtain rfl := Option.some.inj hf
    refine rh_Ex.fgt [some (.ref 0), none, none] ⟨rfl, trivial⟩ ?_
    exact hk
  · rw [if_neg q3] at hf
    refine rh_Ex.stp (s' := ((24, [some (.ref 0), some (.int u1), some (.int s20.1)], []), (s20.2, g, mw_R rd))) rfl (st_iflt_n q3) ?_
    refine rh_Ex.blk 15 (s' := ((46, [some (.ref 0), some (.int u1), some (.int s20.1)], [.int ((u1 >>> (((8 : Int32) * s20.1) &&& 31)).toInt8.toInt32), .int (s20.2 0 6), .ref 4]), (rh_up s20.2 0 6 ((s20.2 0 6) + (1 : Int32)), g, mw_R rd))) rfl ?_
    obtain ⟨q4, hf⟩ := rh_gq hf
    refine rh_Ex.stp (s' := ((47, [some (.ref 0), some (.int u1), some (.int s20.1)], []), (rh_up (rh_up s20.2 0 6 ((s20.2 0 6) + (1 : Int32))) 4 (s20.2 0 6).toNatClampNeg (((u1 >>> (((8 : Int32) * s20.1) &&& 31)).toInt8.toInt32).toInt8.toInt32), g, mw_R rd))) rfl (st_bast (n := 80) rfl q4) ?_
    refine rh_Ex.blk 2 (s' := ((20, [some (.ref 0), some (.int u1), some (.int (s20.1 + (-1 : Int32)))], []), (rh_up (rh_up s20.2 0 6 ((s20.2 0 6) + (1 : Int32))) 4 (s20.2 0 6).toNatClampNeg (((u1 >>> (((8 : Int32) * s20.1) &&& 31)).toInt8.toInt32).toInt8.toInt32), g, mw_R rd))) rfl ?_
    obtain rfl := Option.some.inj hf
    refine rh_Ex.fgt [some (.ref 0), some (.int u1), some (.int (s20.1 + (-1 : Int32)))] ⟨rfl, rfl, rfl, trivial⟩ ?_
    exact hk
set_option maxRecDepth 20000 in
set_option maxHeartbeats 4000000 in
theorem R_Mo_sign (d : Nat) (rd : Option Nat) (h : Nat → Nat → Int32) (g : Nat → Nat → Int64) (p0 : Int32) {z9 : Int32 × (Nat → Nat → Int32)} (hf : f_Mo_sign h p0 = some z9) : rh_M rh_PT mw_L (d + 1) 188 [.ref 0, .int p0] (h, g, mw_R rd) (some (.int z9.1)) (z9.2, g, mw_R rd) := by
  unfold f_Mo_sign at hf
  refine rh_go pt_188 (Nat.le_of_ble_eq_true rfl) (lv := [some (.ref 0), some (.int p0), none]) rfl ?_
  refine rh_Ex.blk 8 (s' := ((13, [some (.ref 0), some (.int p0), none], [.int (80 : Int32), .int ((h 0 6) + (4 : Int32))]), (rh_up h 0 9 (0 : Int32), g, mw_R rd))) rfl ?_
  by_cases q1 : ((h 0 6) + (4 : Int32)) ≤ (80 : Int32)
  · rw [if_pos q1] at hf
    refine rh_Ex.stp (s' := ((18, [some (.ref 0), some (.int p0), none], []), (rh_up h 0 9 (0 : Int32), g, mw_R rd))) rfl (st_icle_p q1) ?_
    refine rh_Ex.blk 2 (s' := ((20, [some (.ref 0), some (.int p0), some (.int (3 : Int32))], []), (rh_up h 0 9 (0 : Int32), g, mw_R rd))) rfl ?_
    obtain ⟨r5, hr5, hf⟩ := rh_bq hf
    refine rh_Ex.fgt [some (.ref 0), some (.int p0), some (.int (3 : Int32))] ⟨rfl, rfl, rfl, trivial⟩ ?_
    refine rh_Ex.loop _ _ _ (lb_Mo_sign_20 d rd p0  g _ _) rh_N _ r5 hr5 ?_
    refine rh_Ex.blk 2 (s' := ((57, [some (.ref 0), none, none], [.int (r5 0 6)]), (r5, g, mw_R rd))) rfl ?_
    obtain rfl := Option.some.inj hf
    exact rh_Ex.ret rfl rfl
  · rw [if_neg q1] at hf
    refine rh_Ex.stp (s' := ((16, [some (.ref 0), some (.int p0), none], []), (rh_up h 0 9 (0 : Int32), g, mw_R rd))) rfl (st_icle_n q1) ?_
    refine rh_Ex.blk 1 (s' := ((17, [some (.ref 0), some (.int p0), none], [.int (-1 : Int32)]), (rh_up h 0 9 (0 : Int32), g, mw_R rd))) rfl ?_
    obtain rfl := Option.some.inj hf
    exact rh_Ex.ret rfl rfl
def f_Mo_end (h : Nat → Nat → Int32) (p0 : Int32) : Int32 × (Nat → Nat → Int32) :=
  if (f_Mo_in p0 (0 : Int32) (h 0 6)) = 0 then
    ((0 : Int32), rh_up h 0 9 (0 : Int32))
  else
    ((1 : Int32), rh_up (rh_up h 0 9 (0 : Int32)) 0 6 p0)
set_option maxRecDepth 20000 in
set_option maxHeartbeats 4000000 in
theorem R_Mo_end (d : Nat) (rd : Option Nat) (h : Nat → Nat → Int32) (g : Nat → Nat → Int64) (p0 : Int32) {z9 : Int32 × (Nat → Nat → Int32)} (hf : f_Mo_end h p0 = z9) : rh_M rh_PT mw_L (d + 2) 189 [.ref 0, .int p0] (h, g, mw_R rd) (some (.int z9.1)) (z9.2, g, mw_R rd) := by
  unfold f_Mo_end at hf
  refine rh_go pt_189 (Nat.le_of_ble_eq_true rfl) (lv := [some (.ref 0), some (.int p0)]) rfl ?_
  refine rh_Ex.blk 7 (s' := ((11, [some (.ref 0), some (.int p0)], [.int (h 0 6), .int (0 : Int32), .int p0]), (rh_up h 0 9 (0 : Int32), g, mw_R rd))) rfl ?_
  refine rh_Ex.call (j := 179) (rc := none) [.int p0, .int (0 : Int32), .int (h 0 6)] [] (some (.int (f_Mo_in p0 (0 : Int32) (h 0 6)))) rfl rfl trivial (Nat.le_of_ble_eq_true rfl) (R_Mo_in d mw_L (mw_R rd) (rh_up h 0 9 (0 : Int32)) g p0 (0 : Int32) (h 0 6) rfl) ?_
  show rh_Ex _ _ _ ((14, [some (.ref 0), some (.int p0)], [.int (f_Mo_in p0 (0 : Int32) (h 0 6))]), (rh_up h 0 9 (0 : Int32), g, mw_R rd)) _ _
  by_cases q1 : (f_Mo_in p0 (0 : Int32) (h 0 6)) = 0
  · rw [if_pos q1] at hf
    refine rh_Ex.stp (s' := ((17, [some (.ref 0), some (.int p0)], []), (rh_up h 0 9 (0 : Int32), g, mw_R rd))) rfl (st_ifne_p q1) ?_
    refine rh_Ex.blk 1 (s' := ((18, [some (.ref 0), some (.int p0)], [.int (0 : Int32)]), (rh_up h 0 9 (0 : Int32), g, mw_R rd))) rfl ?_
    subst hf
    exact rh_Ex.ret rfl ⟨rfl, Or.inl rfl⟩
  · rw [if_neg q1] at hf
    refine rh_Ex.stp (s' := ((19, [some (.ref 0), some (.int p0)], []), (rh_up h 0 9 (0 : Int32), g, mw_R rd))) rfl (st_ifne_n q1) ?_
    refine rh_Ex.blk 4 (s' := ((25, [some (.ref 0), some (.int p0)], [.int (1 : Int32)]), (rh_up (rh_up h 0 9 (0 : Int32)) 0 6 p0, g, mw_R rd))) rfl ?_
    subst hf
    exact rh_Ex.ret rfl ⟨rfl, Or.inr rfl⟩
def f_Mo_fine (h : Nat → Nat → Int32) : Int32 :=
  if (h 0 14) = (-1 : Int32) then
    (1 : Int32)
  else
    (0 : Int32)
set_option maxRecDepth 20000 in
set_option maxHeartbeats 4000000 in
theorem R_Mo_fine (d : Nat) (rd : Option Nat) (h : Nat → Nat → Int32) (g : Nat → Nat → Int64)  {z9 : Int32} (hf : f_Mo_fine h = z9) : rh_M rh_PT mw_L (d + 1) 192 [.ref 0] (h, g, mw_R rd) (some (.int z9)) (h, g, mw_R rd) := by
  unfold f_Mo_fine at hf
  refine rh_go pt_192 (Nat.le_of_ble_eq_true rfl) (lv := [some (.ref 0)]) rfl ?_
  refine rh_Ex.blk 3 (s' := ((5, [some (.ref 0)], [.int (-1 : Int32), .int (h 0 14)]), (h, g, mw_R rd))) rfl ?_
  by_cases q1 : (h 0 14) = (-1 : Int32)
  · rw [if_pos q1] at hf
    refine rh_Ex.stp (s' := ((8, [some (.ref 0)], []), (h, g, mw_R rd))) rfl (st_icne_p q1) ?_
    refine rh_Ex.blk 2 (s' := ((13, [some (.ref 0)], [.int (1 : Int32)]), (h, g, mw_R rd))) rfl ?_
    subst hf
    exact rh_Ex.ret rfl ⟨rfl, Or.inr rfl⟩
  · rw [if_neg q1] at hf
    refine rh_Ex.stp (s' := ((12, [some (.ref 0)], []), (h, g, mw_R rd))) rfl (st_icne_n q1) ?_
    refine rh_Ex.blk 1 (s' := ((13, [some (.ref 0)], [.int (0 : Int32)]), (h, g, mw_R rd))) rfl ?_
    subst hf
    exact rh_Ex.ret rfl ⟨rfl, Or.inl rfl⟩
def f_Mo_fault (h : Nat → Nat → Int32) (p0 : Int32) : (Nat → Nat → Int32) :=
  if (f_Mo_fine h) = 0 then
    h
  else
    (rh_up h 0 14 p0)
set_option maxRecDepth 20000 in
set_option maxHeartbeats 4000000 in
theorem R_Mo_fault (d : Nat) (rd : Option Nat) (h : Nat → Nat → Int32) (g : Nat → Nat → Int64) (p0 : Int32) {z9 : (Nat → Nat → Int32)} (hf : f_Mo_fault h p0 = z9) : rh_M rh_PT mw_L (d + 2) 193 [.ref 0, .int p0] (h, g, mw_R rd) none (z9, g, mw_R rd) := by
  unfold f_Mo_fault at hf
  refine rh_go pt_193 (Nat.le_of_ble_eq_true rfl) (lv := [some (.ref 0), some (.int p0)]) rfl ?_
  refine rh_Ex.blk 1 (s' := ((1, [some (.ref 0), some (.int p0)], [.ref 0]), (h, g, mw_R rd))) rfl ?_
  refine rh_Ex.call (j := 192) (rc := some 11) [.ref 0] [] (some (.int (f_Mo_fine h))) rfl rfl rfl (Nat.le_of_ble_eq_true rfl) (R_Mo_fine d rd h g  rfl) ?_
  show rh_Ex _ _ _ ((4, [some (.ref 0), some (.int p0)], [.int (f_Mo_fine h)]), (h, g, mw_R rd)) _ _
  by_cases q1 : (f_Mo_fine h) = 0
  · rw [if_pos q1] at hf
    refine rh_Ex.stp (s' := ((12, [some (.ref 0), some (.int p0)], []), (h, g, mw_R rd))) rfl (st_ifeq_p q1) ?_
    subst hf
    exact rh_Ex.ret rfl trivial
  · rw [if_neg q1] at hf
    refine rh_Ex.stp (s' := ((7, [some (.ref 0), some (.int p0)], []), (h, g, mw_R rd))) rfl (st_ifeq_n q1) ?_
    refine rh_Ex.blk 3 (s' := ((12, [some (.ref 0), some (.int p0)], []), (rh_up h 0 14 p0, g, mw_R rd))) rfl ?_
    subst hf
    exact rh_Ex.ret rfl trivial
def f_Mo_begin_4 (h : Nat → Nat → Int32) (p0 : Int32) (p1 : Int32) : (Nat → Nat → Int32) :=
  (rh_up (rh_up (rh_up (rh_up h 0 11 p0) 0 12 p1) 0 13 (0 : Int32)) 0 14 (-1 : Int32))
set_option maxRecDepth 20000 in
set_option maxHeartbeats 4000000 in
theorem R_Mo_begin_4 (d : Nat) (rd : Option Nat) (h : Nat → Nat → Int32) (g : Nat → Nat → Int64) (p0 : Int32) (p1 : Int32) {z9 : (Nat → Nat → Int32)} (hf : f_Mo_begin_4 h p0 p1 = z9) : rh_M rh_PT mw_L (d + 1) 190 [.ref 0, .ref 4, .int p0, .int p1] (h, g, mw_R rd) none (z9, g, mw_R (some 4)) := by
  unfold f_Mo_begin_4 at hf
  refine rh_go pt_190 (Nat.le_of_ble_eq_true rfl) (lv := [some (.ref 0), some (.ref 4), some (.int p0), some (.int p1)]) rfl ?_
  refine rh_Ex.blk 2 (s' := ((2, [some (.ref 0), some (.ref 4), some (.int p0), some (.int p1)], [.ref 4, .ref 0]), (h, g, mw_R rd))) rfl ?_
  refine rh_Ex.blk 1 (s' := ((5, [some (.ref 0), some (.ref 4), some (.int p0), some (.int p1)], []), (h, g, rh_up (mw_R rd) 0 10 (some 4)))) rfl ?_
  rw [mw_set]
  refine rh_Ex.blk 12 (s' := ((25, [some (.ref 0), some (.ref 4), some (.int p0), some (.int p1)], []), (rh_up (rh_up (rh_up (rh_up h 0 11 p0) 0 12 p1) 0 13 (0 : Int32)) 0 14 (-1 : Int32), g, mw_R (some 4)))) rfl ?_
  subst hf
  exact rh_Ex.ret rfl trivial
def f_Mo_here_r4 (h : Nat → Nat → Int32) : Option (Int32) :=
  if (h 0 11) ≤ (h 0 13) then
    some ((-1 : Int32))
  else
    if (h 0 12) ≤ (h 0 13) then
      some ((-1 : Int32))
    else
      rh_g (0 ≤ (h 0 13).toInt ∧ (h 0 13).toInt < ((80 : Nat) : Int)) (
        some (((h 4 (h 0 13).toNatClampNeg) &&& (255 : Int32)))
      )
set_option maxRecDepth 20000 in
set_option maxHeartbeats 4000000 in
theorem R_Mo_here_r4 (d : Nat) (h : Nat → Nat → Int32) (g : Nat → Nat → Int64)  {z9 : Int32} (hf : f_Mo_here_r4 h = some z9) : rh_M rh_PT mw_L (d + 1) 191 [.ref 0] (h, g, mw_R (some 4)) (some (.int z9)) (h, g, mw_R (some 4)) := by
  unfold f_Mo_here_r4 at hf
  refine rh_go pt_191 (Nat.le_of_ble_eq_true rfl) (lv := [some (.ref 0)]) rfl ?_
  refine rh_Ex.blk 4 (s' := ((8, [some (.ref 0)], [.int (h 0 11), .int (h 0 13)]), (h, g, mw_R (some 4)))) rfl ?_
  by_cases q1 : (h 0 11) ≤ (h 0 13)
  · rw [if_pos q1] at hf
    refine rh_Ex.stp (s' := ((38, [some (.ref 0)], []), (h, g, mw_R (some 4)))) rfl (st_icge_p q1) ?_
    refine rh_Ex.blk 1 (s' := ((39, [some (.ref 0)], [.int (-1 : Int32)]), (h, g, mw_R (some 4)))) rfl ?_
    obtain rfl := Option.some.inj hf
    exact rh_Ex.ret rfl rfl
  · rw [if_neg q1] at hf
    refine rh_Ex.stp (s' := ((11, [some (.ref 0)], []), (h, g, mw_R (some 4)))) rfl (st_icge_n q1) ?_
    refine rh_Ex.blk 4 (s' := ((19, [some (.ref 0)], [.int (h 0 12), .int (h 0 13)]), (h, g, mw_R (some 4)))) rfl ?_
    by_cases q2 : (h 0 12) ≤ (h 0 13)
    · rw [if_pos q2] at hf
      refine rh_Ex.stp (s' := ((38, [some (.ref 0)], []), (h, g, mw_R (some 4)))) rfl (st_icge_p q2) ?_
      refine rh_Ex.blk 1 (s' := ((39, [some (.ref 0)], [.int (-1 : Int32)]), (h, g, mw_R (some 4)))) rfl ?_
      obtain rfl := Option.some.inj hf
      exact rh_Ex.ret rfl rfl
    · rw [if_neg q2] at hf
      refine rh_Ex.stp (s' := ((22, [some (.ref 0)], []), (h, g, mw_R (some 4)))) rfl (st_icge_n q2) ?_
      refine rh_Ex.blk 4 (s' := ((30, [some (.ref 0)], [.int (h 0 13), .ref 4]), (h, g, mw_R (some 4)))) rfl ?_
      obtain ⟨q3, hf⟩ := rh_gq hf
      refine rh_Ex.stp (s' := ((31, [some (.ref 0)], [.int (h 4 (h 0 13).toNatClampNeg)]), (h, g, mw_R (some 4)))) rfl (st_bald (n := 80) rfl q3) ?_
      refine rh_Ex.blk 3 (s' := ((39, [some (.ref 0)], [.int ((h 4 (h 0 13).toNatClampNeg) &&& (255 : Int32))]), (h, g, mw_R (some 4)))) rfl ?_
      obtain rfl := Option.some.inj hf
      exact rh_Ex.ret rfl rfl
def f_Mo_passes_r4 (h : Nat → Nat → Int32) (p0 : Int32) : Option (Int32 × (Nat → Nat → Int32)) :=
  if (f_Mo_fine h) = 0 then
    some (((0 : Int32), h))
  else
    (f_Mo_here_r4 h).bind (fun x2 =>
      if x2 = p0 then
        some (((1 : Int32), rh_up h 0 13 ((h 0 13) + (1 : Int32))))
      else
        some (((0 : Int32), h))
    )
set_option maxRecDepth 20000 in
set_option maxHeartbeats 4000000 in
theorem R_Mo_passes_r4 (d : Nat) (h : Nat → Nat → Int32) (g : Nat → Nat → Int64) (p0 : Int32) {z9 : Int32 × (Nat → Nat → Int32)} (hf : f_Mo_passes_r4 h p0 = some z9) : rh_M rh_PT mw_L (d + 2) 194 [.ref 0, .int p0] (h, g, mw_R (some 4)) (some (.int z9.1)) (z9.2, g, mw_R (some 4)) := by
  unfold f_Mo_passes_r4 at hf
  refine rh_go pt_194 (Nat.le_of_ble_eq_true rfl) (lv := [some (.ref 0), some (.int p0)]) rfl ?_
  refine rh_Ex.blk 1 (s' := ((1, [some (.ref 0), some (.int p0)], [.ref 0]), (h, g, mw_R (some 4)))) rfl ?_
  refine rh_Ex.call (j := 192) (rc := some 11) [.ref 0] [] (some (.int (f_Mo_fine h))) rfl rfl rfl (Nat.le_of_ble_eq_true rfl) (R_Mo_fine d (some 4) h g  rfl) ?_
  show rh_Ex _ _ _ ((4, [some (.ref 0), some (.int p0)], [.int (f_Mo_fine h)]), (h, g, mw_R (some 4))) _ _
  by_cases q1 : (f_Mo_fine h) = 0
  · rw [if_pos q1] at hf
    refine rh_Ex.stp (s' := ((15, [some (.ref 0), some (.int p0)], []), (h, g, mw_R (some 4)))) rfl (st_ifeq_p q1) ?_
    refine rh_Ex.blk 1 (s' := ((16, [some (.ref 0), some (.int p0)], [.int (0 : Int32)]), (h, g, mw_R (some 4)))) rfl ?_
    obtain rfl := Option.some.inj hf
    exact rh_Ex.ret rfl ⟨rfl, Or.inl rfl⟩
  · rw [if_neg q1] at hf
    refine rh_Ex.stp (s' := ((7, [some (.ref 0), some (.int p0)], []), (h, g, mw_R (some 4)))) rfl (st_ifeq_n q1) ?_
    refine rh_Ex.blk 1 (s' := ((8, [some (.ref 0), some (.int p0)], [.ref 0]), (h, g, mw_R (some 4)))) rfl ?_
    obtain ⟨x2, hx2, hf⟩ := rh_bq hf
    refine rh_Ex.call (j := 191) (rc := some 11) [.ref 0] [] (some (.int x2)) rfl rfl rfl (Nat.le_of_ble_eq_true rfl) (R_Mo_here_r4 d h g  hx2) ?_
    show rh_Ex _ _ _ ((11, [some (.ref 0), some (.int p0)], [.int x2]), (h, g, mw_R (some 4))) _ _
    refine rh_Ex.blk 1 (s' := ((12, [some (.ref 0), some (.int p0)], [.int p0, .int x2]), (h, g, mw_R (some 4)))) rfl ?_
    by_cases q3 : x2 = p0
    · rw [if_pos q3] at hf
      refine rh_Ex.stp (s' := ((17, [some (.ref 0), some (.int p0)], []), (h, g, mw_R (some 4)))) rfl (st_iceq_p q3) ?_
      refine rh_Ex.blk 7 (s' := ((28, [some (.ref 0), some (.int p0)], [.int (1 : Int32)]), (rh_up h 0 13 ((h 0 13) + (1 : Int32)), g, mw_R (some 4)))) rfl ?_
      obtain rfl := Option.some.inj hf
      exact rh_Ex.ret rfl ⟨rfl, Or.inr rfl⟩
    · rw [if_neg q3] at hf
      refine rh_Ex.stp (s' := ((15, [some (.ref 0), some (.int p0)], []), (h, g, mw_R (some 4)))) rfl (st_iceq_n q3) ?_
      refine rh_Ex.blk 1 (s' := ((16, [some (.ref 0), some (.int p0)], [.int (0 : Int32)]), (h, g, mw_R (some 4)))) rfl ?_
      obtain rfl := Option.some.inj hf
      exact rh_Ex.ret rfl ⟨rfl, Or.inl rfl⟩
def b_Mo_number_r4_16 (u1 : Int32) (u2 : Int32) : (Int32 × (Nat → Nat → Int32)) → Option ((Int32 × (Nat → Nat → Int32)) ⊕ (Int32 × (Nat → Nat → Int32))) := fun s16 =>
  if (u2 + u1) ≤ (s16.2 0 13) then
    some (.inr (s16.1, s16.2))
  else
    (f_Mo_here_r4 s16.2).bind (fun x4 =>
      if (f_Mo_in x4 (48 : Int32) (57 : Int32)) = 0 then
        some (.inr (s16.1, s16.2))
      else
        (f_Mo_here_r4 s16.2).bind (fun x6 =>
          some (.inl ((((10 : Int32) * s16.1) + x6) - (48 : Int32), rh_up s16.2 0 13 ((s16.2 0 13) + (1 : Int32))))
        )
    )
def f_Mo_number_r4 (h : Nat → Nat → Int32) (p0 : Int32) : Option (Int32 × (Nat → Nat → Int32)) :=
  if (f_Mo_fine h) = 0 then
    some (((0 : Int32), h))
  else
    (rh_loop (b_Mo_number_r4_16 p0 (h 0 13)) rh_N ((0 : Int32), h)).bind (fun r7 =>
      if (r7.2 0 13) = (h 0 13) then
        some ((r7.1, (f_Mo_fault r7.2 (r7.2 0 13))))
      else
        some ((r7.1, r7.2))
    )
set_option maxRecDepth 20000 in
set_option maxHeartbeats 4000000 in
theorem lb_Mo_number_r4_16 (d : Nat) (u1 : Int32) (u2 : Int32) (g : Nat → Nat → Int64) (v9 : Option Value) (h9 : rh_H) : ∀ s16 x9, b_Mo_number_r4_16 u1 u2 s16 = some x9 → Sum.elim (fun s16 => rh_Ex (rh_M rh_PT mw_L (d + 2)) mw_L pg_X12_number ((16, [some (.ref 0), some (.int u1), some (.int u2), some (.int s16.1)], []), (s16.2, g, mw_R (some 4))) v9 h9) (fun e9 => rh_Ex (rh_M rh_PT mw_L (d + 2)) mw_L pg_X12_number ((66, [some (.ref 0), none, some (.int u2), some (.int e9.1)], []), (e9.2, g, mw_R (some 4))) v9 h9) x9 → rh_Ex (rh_M rh_PT mw_L (d + 2)) mw_L pg_X12_number ((16, [some (.ref 0), some (.int u1), some (.int u2), some (.int s16.1)], []), (s16.2, g, mw_R (some 4))) v9 h9 := by
  intro s16 x9 hf hk
  unfold b_Mo_number_r4_16 at hf
  refine rh_Ex.blk 5 (s' := ((23, [some (.ref 0), some (.int u1), some (.int u2), some (.int s16.1)], [.int (u2 + u1), .int (s16.2 0 13)]), (s16.2, g, mw_R (some 4)))) rfl ?_
  by_cases q3 : (u2 + u1) ≤ (s16.2 0 13)
  · rw [if_pos q3] at hf
    refine rh_Ex.stp (s' := ((66, [some (.ref 0), some (.int u1), some (.int u2), some (.int s16.1)], []), (s16.2, g, mw_R (some 4)))) rfl (st_icge_p q3) ?_
    obtain rfl := Option.some.inj hf
    refine rh_Ex.fgt [some (.ref 0), none, some (.int u2), some (.int s16.1)] ⟨rfl, rfl, rfl, trivial⟩ ?_
    exact hk
  · rw [if_neg q3] at hf
    refine rh_Ex.stp (s' := ((26, [some (.ref 0), some (.int u1), some (.int u2), some (.int s16.1)], []), (s16.2, g, mw_R (some 4)))) rfl (st_icge_n q3) ?_
    refine rh_Ex.blk 1 (s' := ((27, [some (.ref 0), some (.int u1), some (.int u2), some (.int s16.1)], [.ref 0]), (s16.2, g, mw_R (some 4)))) rfl ?_
    obtain ⟨x4, hx4, hf⟩ := rh_bq hf
    refine rh_Ex.call (j := 191) (rc := some 11) [.ref 0] [] (some (.int x4)) rfl rfl rfl (Nat.le_of_ble_eq_true rfl) (R_Mo_here_r4 (d + 1) s16.2 g  hx4) ?_
    show rh_Ex _ _ _ ((30, [some (.ref 0), some (.int u1), some (.int u2), some (.int s16.1)], [.int x4]), (s16.2, g, mw_R (some 4))) _ _
    refine rh_Ex.blk 2 (s' := ((34, [some (.ref 0), some (.int u1), some (.int u2), some (.int s16.1)], [.int (57 : Int32), .int (48 : Int32), .int x4]), (s16.2, g, mw_R (some 4)))) rfl ?_
    refine rh_Ex.call (j := 179) (rc := none) [.int x4, .int (48 : Int32), .int (57 : Int32)] [] (some (.int (f_Mo_in x4 (48 : Int32) (57 : Int32)))) rfl rfl trivial (Nat.le_of_ble_eq_true rfl) (R_Mo_in (d + 1) mw_L (mw_R (some 4)) s16.2 g x4 (48 : Int32) (57 : Int32) rfl) ?_
    show rh_Ex _ _ _ ((37, [some (.ref 0), some (.int u1), some (.int u2), some (.int s16.1)], [.int (f_Mo_in x4 (48 : Int32) (57 : Int32))]), (s16.2, g, mw_R (some 4))) _ _
    by_cases q5 : (f_Mo_in x4 (48 : Int32) (57 : Int32)) = 0
    · rw [if_pos q5] at hf
      refine rh_Ex.stp (s' := ((66, [some (.ref 0), some (.int u1), some (.int u2), some (.int s16.1)], []), (s16.2, g, mw_R (some 4)))) rfl (st_ifeq_p q5) ?_
      obtain rfl := Option.some.inj hf
      refine rh_Ex.fgt [some (.ref 0), none, some (.int u2), some (.int s16.1)] ⟨rfl, rfl, rfl, trivial⟩ ?_
      exact hk
    · rw [if_neg q5] at hf
      refine rh_Ex.stp (s' := ((40, [some (.ref 0), some (.int u1), some (.int u2), some (.int s16.1)], []), (s16.2, g, mw_R (some 4)))) rfl (st_ifeq_n q5) ?_
      refine rh_Ex.blk 4 (s' := ((45, [some (.ref 0), some (.int u1), some (.int u2), some (.int s16.1)], [.ref 0, .int ((10 : Int32) * s16.1)]), (s16.2, g, mw_R (some 4)))) rfl ?_
      obtain ⟨x6, hx6, hf⟩ := rh_bq hf
      refine rh_Ex.call (j := 191) (rc := some 11) [.ref 0] [.int ((10 : Int32) * s16.1)] (some (.int x6)) rfl rfl rfl (Nat.le_of_ble_eq_true rfl) (R_Mo_here_r4 (d + 1) s16.2 g  hx6) ?_
      show rh_Ex _ _ _ ((48, [some (.ref 0), some (.int u1), some (.int u2), some (.int s16.1)], [.int x6, .int ((10 : Int32) * s16.1)]), (s16.2, g, mw_R (some 4))) _ _
      refine rh_Ex.blk 11 (s' := ((16, [some (.ref 0), some (.int u1), some (.int u2), some (.int ((((10 : Int32) * s16.1) + x6) - (48 : Int32)))], []), (rh_up s16.2 0 13 ((s16.2 0 13) + (1 : Int32)), g, mw_R (some 4)))) rfl ?_
      obtain rfl := Option.some.inj hf
      refine rh_Ex.fgt [some (.ref 0), some (.int u1), some (.int u2), some (.int ((((10 : Int32) * s16.1) + x6) - (48 : Int32)))] ⟨rfl, rfl, rfl, rfl, trivial⟩ ?_
      exact hk
set_option maxRecDepth 20000 in
set_option maxHeartbeats 4000000 in
theorem R_Mo_number_r4 (d : Nat) (h : Nat → Nat → Int32) (g : Nat → Nat → Int64) (p0 : Int32) {z9 : Int32 × (Nat → Nat → Int32)} (hf : f_Mo_number_r4 h p0 = some z9) : rh_M rh_PT mw_L (d + 3) 196 [.ref 0, .int p0] (h, g, mw_R (some 4)) (some (.int z9.1)) (z9.2, g, mw_R (some 4)) := by
  unfold f_Mo_number_r4 at hf
  refine rh_go pt_196 (Nat.le_of_ble_eq_true rfl) (lv := [some (.ref 0), some (.int p0), none, none]) rfl ?_
  refine rh_Ex.blk 1 (s' := ((1, [some (.ref 0), some (.int p0), none, none], [.ref 0]), (h, g, mw_R (some 4)))) rfl ?_
  refine rh_Ex.call (j := 192) (rc := some 11) [.ref 0] [] (some (.int (f_Mo_fine h))) rfl rfl rfl (Nat.le_of_ble_eq_true rfl) (R_Mo_fine (d + 1) (some 4) h g  rfl) ?_
  show rh_Ex _ _ _ ((4, [some (.ref 0), some (.int p0), none, none], [.int (f_Mo_fine h)]), (h, g, mw_R (some 4))) _ _
  by_cases q1 : (f_Mo_fine h) = 0
  · rw [if_pos q1] at hf
    refine rh_Ex.stp (s' := ((7, [some (.ref 0), some (.int p0), none, none], []), (h, g, mw_R (some 4)))) rfl (st_ifne_p q1) ?_
    refine rh_Ex.blk 1 (s' := ((8, [some (.ref 0), some (.int p0), none, none], [.int (0 : Int32)]), (h, g, mw_R (some 4)))) rfl ?_
    obtain rfl := Option.some.inj hf
    exact rh_Ex.ret rfl rfl
  · rw [if_neg q1] at hf
    refine rh_Ex.stp (s' := ((9, [some (.ref 0), some (.int p0), none, none], []), (h, g, mw_R (some 4)))) rfl (st_ifne_n q1) ?_
    refine rh_Ex.blk 5 (s' := ((16, [some (.ref 0), some (.int p0), some (.int (h 0 13)), some (.int (0 : Int32))], []), (h, g, mw_R (some 4)))) rfl ?_
    obtain ⟨r7, hr7, hf⟩ := rh_bq hf
    refine rh_Ex.fgt [some (.ref 0), some (.int p0), some (.int (h 0 13)), some (.int (0 : Int32))] ⟨rfl, rfl, rfl, rfl, trivial⟩ ?_
    refine rh_Ex.loop _ _ _ (lb_Mo_number_r4_16 d p0 (h 0 13)  g _ _) rh_N _ r7 hr7 ?_
    refine rh_Ex.blk 3 (s' := ((71, [some (.ref 0), none, some (.int (h 0 13)), some (.int r7.1)], [.int (h 0 13), .int (r7.2 0 13)]), (r7.2, g, mw_R (some 4)))) rfl ?_
    by_cases q8 : (r7.2 0 13) = (h 0 13)
    · rw [if_pos q8] at hf
      refine rh_Ex.stp (s' := ((74, [some (.ref 0), none, some (.int (h 0 13)), some (.int r7.1)], []), (r7.2, g, mw_R (some 4)))) rfl (st_icne_p q8) ?_
      refine rh_Ex.blk 3 (s' := ((79, [some (.ref 0), none, some (.int (h 0 13)), some (.int r7.1)], [.int (r7.2 0 13), .ref 0]), (r7.2, g, mw_R (some 4)))) rfl ?_
      refine rh_Ex.call (j := 193) (rc := some 11) [.ref 0, .int (r7.2 0 13)] [] none rfl rfl rfl (Nat.le_of_ble_eq_true rfl) (R_Mo_fault d (some 4) r7.2 g (r7.2 0 13) rfl) ?_
      show rh_Ex _ _ _ ((82, [some (.ref 0), none, some (.int (h 0 13)), some (.int r7.1)], []), ((f_Mo_fault r7.2 (r7.2 0 13)), g, mw_R (some 4))) _ _
      refine rh_Ex.blk 1 (s' := ((83, [some (.ref 0), none, some (.int (h 0 13)), some (.int r7.1)], [.int r7.1]), ((f_Mo_fault r7.2 (r7.2 0 13)), g, mw_R (some 4)))) rfl ?_
      obtain rfl := Option.some.inj hf
      exact rh_Ex.ret rfl rfl
    · rw [if_neg q8] at hf
      refine rh_Ex.stp (s' := ((82, [some (.ref 0), none, some (.int (h 0 13)), some (.int r7.1)], []), (r7.2, g, mw_R (some 4)))) rfl (st_icne_n q8) ?_
      refine rh_Ex.blk 1 (s' := ((83, [some (.ref 0), none, some (.int (h 0 13)), some (.int r7.1)], [.int r7.1]), (r7.2, g, mw_R (some 4)))) rfl ?_
      obtain rfl := Option.some.inj hf
      exact rh_Ex.ret rfl rfl
def j_Mo_readOne_r4_46 (h : Nat → Nat → Int32) (p0 : Int32) : Option ((Nat → Nat → Int32)) :=
  (f_Mo_number_r4 (rh_up h 0 13 ((h 0 13) + (1 : Int32))) (3 : Int32)).bind (fun x6 =>
    rh_g (0 ≤ (p0 + (1 : Int32)).toInt ∧ (p0 + (1 : Int32)).toInt < ((18 : Nat) : Int)) (
      if (f_Mo_fine (rh_up x6.2 6 (p0 + (1 : Int32)).toNatClampNeg x6.1)) = 0 then
        some ((rh_up x6.2 6 (p0 + (1 : Int32)).toNatClampNeg x6.1))
      else
        rh_g (0 ≤ (p0 + (1 : Int32)).toInt ∧ (p0 + (1 : Int32)).toInt < ((18 : Nat) : Int)) (
          if ((rh_up x6.2 6 (p0 + (1 : Int32)).toNatClampNeg x6.1) 6 (p0 + (1 : Int32)).toNatClampNeg) = 0 then
            some ((f_Mo_fault (rh_up x6.2 6 (p0 + (1 : Int32)).toNatClampNeg x6.1) ((x6.2 0 13) - (1 : Int32))))
          else
            some ((rh_up x6.2 6 (p0 + (1 : Int32)).toNatClampNeg x6.1))
        )
    )
  )
def j_Mo_readOne_r4_19 (h : Nat → Nat → Int32) (p0 : Int32) (k1 : Int32) (k2 : Int32) : Option ((Nat → Nat → Int32)) :=
  rh_g (0 ≤ k1.toInt ∧ k1.toInt < ((18 : Nat) : Int)) (
    (f_Mo_here_r4 (rh_up h 6 k1.toNatClampNeg k2)).bind (fun x4 =>
      if x4 = (112 : Int32) then
        j_Mo_readOne_r4_46 (rh_up h 6 k1.toNatClampNeg k2) p0
      else
        (f_Mo_here_r4 (rh_up h 6 k1.toNatClampNeg k2)).bind (fun x11 =>
          if x11 = (116 : Int32) then
            j_Mo_readOne_r4_46 (rh_up h 6 k1.toNatClampNeg k2) p0
          else
            j_Mo_readOne_r4_46 (f_Mo_fault (rh_up h 6 k1.toNatClampNeg k2) (h 0 13)) p0
        )
    )
  )
def f_Mo_readOne_r4 (h : Nat → Nat → Int32) (p0 : Int32) : Option ((Nat → Nat → Int32)) :=
  (f_Mo_here_r4 h).bind (fun x1 =>
    if x1 = (112 : Int32) then
      j_Mo_readOne_r4_19 h p0 p0 (1 : Int32)
    else
      j_Mo_readOne_r4_19 h p0 p0 (0 : Int32)
  )
set_option maxRecDepth 20000 in
set_option maxHeartbeats 4000000 in
theorem lj_Mo_readOne_r4_46 (d : Nat) (h : Nat → Nat → Int32) (p0 : Int32) (g : Nat → Nat → Int64) {z9 : (Nat → Nat → Int32)} (hf : j_Mo_readOne_r4_46 h p0 = some z9) : rh_Ex (rh_M rh_PT mw_L (d + 3)) mw_L pg_X12_readOne ((46, [some (.ref 0), some (.int p0)], []), (h, g, mw_R (some 4))) none (z9, g, mw_R (some 4)) := by
  unfold j_Mo_readOne_r4_46 at hf
  refine rh_Ex.blk 13 (s' := ((65, [some (.ref 0), some (.int p0)], [.int (3 : Int32), .ref 0, .int (p0 + (1 : Int32)), .ref 6]), (rh_up h 0 13 ((h 0 13) + (1 : Int32)), g, mw_R (some 4)))) rfl ?_
  obtain ⟨x6, hx6, hf⟩ := rh_bq hf
  refine rh_Ex.call (j := 196) (rc := some 11) [.ref 0, .int (3 : Int32)] [.int (p0 + (1 : Int32)), .ref 6] (some (.int x6.1)) rfl rfl rfl (Nat.le_of_ble_eq_true rfl) (R_Mo_number_r4 d (rh_up h 0 13 ((h 0 13) + (1 : Int32))) g (3 : Int32) hx6) ?_
  show rh_Ex _ _ _ ((68, [some (.ref 0), some (.int p0)], [.int x6.1, .int (p0 + (1 : Int32)), .ref 6]), (x6.2, g, mw_R (some 4))) _ _
  obtain ⟨q7, hf⟩ := rh_gq hf
  refine rh_Ex.stp (s' := ((69, [some (.ref 0), some (.int p0)], []), (rh_up x6.2 6 (p0 + (1 : Int32)).toNatClampNeg x6.1, g, mw_R (some 4)))) rfl (st_iast (n := 18) rfl q7) ?_
  refine rh_Ex.blk 1 (s' := ((70, [some (.ref 0), some (.int p0)], [.ref 0]), (rh_up x6.2 6 (p0 + (1 : Int32)).toNatClampNeg x6.1, g, mw_R (some 4)))) rfl ?_
  refine rh_Ex.call (j := 192) (rc := some 11) [.ref 0] [] (some (.int (f_Mo_fine (rh_up x6.2 6 (p0 + (1 : Int32)).toNatClampNeg x6.1)))) rfl rfl rfl (Nat.le_of_ble_eq_true rfl) (R_Mo_fine (d + 2) (some 4) (rh_up x6.2 6 (p0 + (1 : Int32)).toNatClampNeg x6.1) g  rfl) ?_
  show rh_Ex _ _ _ ((73, [some (.ref 0), some (.int p0)], [.int (f_Mo_fine (rh_up x6.2 6 (p0 + (1 : Int32)).toNatClampNeg x6.1))]), (rh_up x6.2 6 (p0 + (1 : Int32)).toNatClampNeg x6.1, g, mw_R (some 4))) _ _
  by_cases q8 : (f_Mo_fine (rh_up x6.2 6 (p0 + (1 : Int32)).toNatClampNeg x6.1)) = 0
  · rw [if_pos q8] at hf
    refine rh_Ex.stp (s' := ((97, [some (.ref 0), some (.int p0)], []), (rh_up x6.2 6 (p0 + (1 : Int32)).toNatClampNeg x6.1, g, mw_R (some 4)))) rfl (st_ifeq_p q8) ?_
    obtain rfl := Option.some.inj hf
    exact rh_Ex.ret rfl trivial
  · rw [if_neg q8] at hf
    refine rh_Ex.stp (s' := ((76, [some (.ref 0), some (.int p0)], []), (rh_up x6.2 6 (p0 + (1 : Int32)).toNatClampNeg x6.1, g, mw_R (some 4)))) rfl (st_ifeq_n q8) ?_
    refine rh_Ex.blk 5 (s' := ((83, [some (.ref 0), some (.int p0)], [.int (p0 + (1 : Int32)), .ref 6]), (rh_up x6.2 6 (p0 + (1 : Int32)).toNatClampNeg x6.1, g, mw_R (some 4)))) rfl ?_
    obtain ⟨q9, hf⟩ := rh_gq hf
    refine rh_Ex.stp (s' := ((84, [some (.ref 0), some (.int p0)], [.int ((rh_up x6.2 6 (p0 + (1 : Int32)).toNatClampNeg x6.1) 6 (p0 + (1 : Int32)).toNatClampNeg)]), (rh_up x6.2 6 (p0 + (1 : Int32)).toNatClampNeg x6.1, g, mw_R (some 4)))) rfl (st_iald (n := 18) rfl q9) ?_
    by_cases q10 : ((rh_up x6.2 6 (p0 + (1 : Int32)).toNatClampNeg x6.1) 6 (p0 + (1 : Int32)).toNatClampNeg) = 0
    · rw [if_pos q10] at hf
      refine rh_Ex.stp (s' := ((87, [some (.ref 0), some (.int p0)], []), (rh_up x6.2 6 (p0 + (1 : Int32)).toNatClampNeg x6.1, g, mw_R (some 4)))) rfl (st_ifne_p q10) ?_
      refine rh_Ex.blk 5 (s' := ((94, [some (.ref 0), some (.int p0)], [.int ((x6.2 0 13) - (1 : Int32)), .ref 0]), (rh_up x6.2 6 (p0 + (1 : Int32)).toNatClampNeg x6.1, g, mw_R (some 4)))) rfl ?_
      refine rh_Ex.call (j := 193) (rc := some 11) [.ref 0, .int ((x6.2 0 13) - (1 : Int32))] [] none rfl rfl rfl (Nat.le_of_ble_eq_true rfl) (R_Mo_fault (d + 1) (some 4) (rh_up x6.2 6 (p0 + (1 : Int32)).toNatClampNeg x6.1) g ((x6.2 0 13) - (1 : Int32)) rfl) ?_
      show rh_Ex _ _ _ ((97, [some (.ref 0), some (.int p0)], []), ((f_Mo_fault (rh_up x6.2 6 (p0 + (1 : Int32)).toNatClampNeg x6.1) ((x6.2 0 13) - (1 : Int32))), g, mw_R (some 4))) _ _
      obtain rfl := Option.some.inj hf
      exact rh_Ex.ret rfl trivial
    · rw [if_neg q10] at hf
      refine rh_Ex.stp (s' := ((97, [some (.ref 0), some (.int p0)], []), (rh_up x6.2 6 (p0 + (1 : Int32)).toNatClampNeg x6.1, g, mw_R (some 4)))) rfl (st_ifne_n q10) ?_
      obtain rfl := Option.some.inj hf
      exact rh_Ex.ret rfl trivial
set_option maxRecDepth 20000 in
set_option maxHeartbeats 4000000 in
theorem lj_Mo_readOne_r4_19 (d : Nat) (h : Nat → Nat → Int32) (p0 : Int32) (k1 : Int32) (k2 : Int32) (g : Nat → Nat → Int64) {z9 : (Nat → Nat → Int32)} (hf : j_Mo_readOne_r4_19 h p0 k1 k2 = some z9) : rh_Ex (rh_M rh_PT mw_L (d + 3)) mw_L pg_X12_readOne ((19, [some (.ref 0), some (.int p0)], [.int k2, .int k1, .ref 6]), (h, g, mw_R (some 4))) none (z9, g, mw_R (some 4)) := by
  unfold j_Mo_readOne_r4_19 at hf
  obtain ⟨q3, hf⟩ := rh_gq hf
  refine rh_Ex.stp (s' := ((20, [some (.ref 0), some (.int p0)], []), (rh_up h 6 k1.toNatClampNeg k2, g, mw_R (some 4)))) rfl (st_iast (n := 18) rfl q3) ?_
  refine rh_Ex.blk 1 (s' := ((21, [some (.ref 0), some (.int p0)], [.ref 0]), (rh_up h 6 k1.toNatClampNeg k2, g, mw_R (some 4)))) rfl ?_
  obtain ⟨x4, hx4, hf⟩ := rh_bq hf
  refine rh_Ex.call (j := 191) (rc := some 11) [.ref 0] [] (some (.int x4)) rfl rfl rfl (Nat.le_of_ble_eq_true rfl) (R_Mo_here_r4 (d + 2) (rh_up h 6 k1.toNatClampNeg k2) g  hx4) ?_
  show rh_Ex _ _ _ ((24, [some (.ref 0), some (.int p0)], [.int x4]), (rh_up h 6 k1.toNatClampNeg k2, g, mw_R (some 4))) _ _
  refine rh_Ex.blk 1 (s' := ((26, [some (.ref 0), some (.int p0)], [.int (112 : Int32), .int x4]), (rh_up h 6 k1.toNatClampNeg k2, g, mw_R (some 4)))) rfl ?_
  by_cases q5 : x4 = (112 : Int32)
  · rw [if_pos q5] at hf
    refine rh_Ex.stp (s' := ((46, [some (.ref 0), some (.int p0)], []), (rh_up h 6 k1.toNatClampNeg k2, g, mw_R (some 4)))) rfl (st_iceq_p q5) ?_
    refine rh_Ex.fgt [some (.ref 0), some (.int p0)] ⟨rfl, rfl, trivial⟩ ?_
    exact lj_Mo_readOne_r4_46 d (rh_up h 6 k1.toNatClampNeg k2) p0 g hf
  · rw [if_neg q5] at hf
    refine rh_Ex.stp (s' := ((29, [some (.ref 0), some (.int p0)], []), (rh_up h 6 k1.toNatClampNeg k2, g, mw_R (some 4)))) rfl (st_iceq_n q5) ?_
    refine rh_Ex.blk 1 (s' := ((30, [some (.ref 0), some (.int p0)], [.ref 0]), (rh_up h 6 k1.toNatClampNeg k2, g, mw_R (some 4)))) rfl ?_
    obtain ⟨x11, hx11, hf⟩ := rh_bq hf
    refine rh_Ex.call (j := 191) (rc := some 11) [.ref 0] [] (some (.int x11)) rfl rfl rfl (Nat.le_of_ble_eq_true rfl) (R_Mo_here_r4 (d + 2) (rh_up h 6 k1.toNatClampNeg k2) g  hx11) ?_
    show rh_Ex _ _ _ ((33, [some (.ref 0), some (.int p0)], [.int x11]), (rh_up h 6 k1.toNatClampNeg k2, g, mw_R (some 4))) _ _
    refine rh_Ex.blk 1 (s' := ((35, [some (.ref 0), some (.int p0)], [.int (116 : Int32), .int x11]), (rh_up h 6 k1.toNatClampNeg k2, g, mw_R (some 4)))) rfl ?_
    by_cases q12 : x11 = (116 : Int32)
    · rw [if_pos q12] at hf
      refine rh_Ex.stp (s' := ((46, [some (.ref 0), some (.int p0)], []), (rh_up h 6 k1.toNatClampNeg k2, g, mw_R (some 4)))) rfl (st_iceq_p q12) ?_
      refine rh_Ex.fgt [some (.ref 0), some (.int p0)] ⟨rfl, rfl, trivial⟩ ?_
      exact lj_Mo_readOne_r4_46 d (rh_up h 6 k1.toNatClampNeg k2) p0 g hf
    · rw [if_neg q12] at hf
      refine rh_Ex.stp (s' := ((38, [some (.ref 0), some (.int p0)], []), (rh_up h 6 k1.toNatClampNeg k2, g, mw_R (some 4)))) rfl (st_iceq_n q12) ?_
      refine rh_Ex.blk 3 (s' := ((43, [some (.ref 0), some (.int p0)], [.int (h 0 13), .ref 0]), (rh_up h 6 k1.toNatClampNeg k2, g, mw_R (some 4)))) rfl ?_
      refine rh_Ex.call (j := 193) (rc := some 11) [.ref 0, .int (h 0 13)] [] none rfl rfl rfl (Nat.le_of_ble_eq_true rfl) (R_Mo_fault (d + 1) (some 4) (rh_up h 6 k1.toNatClampNeg k2) g (h 0 13) rfl) ?_
      show rh_Ex _ _ _ ((46, [some (.ref 0), some (.int p0)], []), ((f_Mo_fault (rh_up h 6 k1.toNatClampNeg k2) (h 0 13)), g, mw_R (some 4))) _ _
      refine rh_Ex.fgt [some (.ref 0), some (.int p0)] ⟨rfl, rfl, trivial⟩ ?_
      exact lj_Mo_readOne_r4_46 d (f_Mo_fault (rh_up h 6 k1.toNatClampNeg k2) (h 0 13)) p0 g hf
set_option maxRecDepth 20000 in
set_option maxHeartbeats 4000000 in
theorem R_Mo_readOne_r4 (d : Nat) (h : Nat → Nat → Int32) (g : Nat → Nat → Int64) (p0 : Int32) {z9 : (Nat → Nat → Int32)} (hf : f_Mo_readOne_r4 h p0 = some z9) : rh_M rh_PT mw_L (d + 4) 199 [.ref 0, .int p0] (h, g, mw_R (some 4)) none (z9, g, mw_R (some 4)) := by
  unfold f_Mo_readOne_r4 at hf
  refine rh_go pt_199 (Nat.le_of_ble_eq_true rfl) (lv := [some (.ref 0), some (.int p0)]) rfl ?_
  refine rh_Ex.blk 4 (s' := ((6, [some (.ref 0), some (.int p0)], [.ref 0, .int p0, .ref 6]), (h, g, mw_R (some 4)))) rfl ?_
  obtain ⟨x1, hx1, hf⟩ := rh_bq hf
  refine rh_Ex.call (j := 191) (rc := some 11) [.ref 0] [.int p0, .ref 6] (some (.int x1)) rfl rfl rfl (Nat.le_of_ble_eq_true rfl) (R_Mo_here_r4 (d + 2) h g  hx1) ?_
  show rh_Ex _ _ _ ((9, [some (.ref 0), some (.int p0)], [.int x1, .int p0, .ref 6]), (h, g, mw_R (some 4))) _ _
  refine rh_Ex.blk 1 (s' := ((11, [some (.ref 0), some (.int p0)], [.int (112 : Int32), .int x1, .int p0, .ref 6]), (h, g, mw_R (some 4)))) rfl ?_
  by_cases q2 : x1 = (112 : Int32)
  · rw [if_pos q2] at hf
    refine rh_Ex.stp (s' := ((14, [some (.ref 0), some (.int p0)], [.int p0, .ref 6]), (h, g, mw_R (some 4)))) rfl (st_icne_p q2) ?_
    refine rh_Ex.blk 2 (s' := ((19, [some (.ref 0), some (.int p0)], [.int (1 : Int32), .int p0, .ref 6]), (h, g, mw_R (some 4)))) rfl ?_
    refine rh_Ex.fgt [some (.ref 0), some (.int p0)] ⟨rfl, rfl, trivial⟩ ?_
    exact lj_Mo_readOne_r4_19 d h p0 p0 (1 : Int32) g hf
  · rw [if_neg q2] at hf
    refine rh_Ex.stp (s' := ((18, [some (.ref 0), some (.int p0)], [.int p0, .ref 6]), (h, g, mw_R (some 4)))) rfl (st_icne_n q2) ?_
    refine rh_Ex.blk 1 (s' := ((19, [some (.ref 0), some (.int p0)], [.int (0 : Int32), .int p0, .ref 6]), (h, g, mw_R (some 4)))) rfl ?_
    refine rh_Ex.fgt [some (.ref 0), some (.int p0)] ⟨rfl, rfl, trivial⟩ ?_
    exact lj_Mo_readOne_r4_19 d h p0 p0 (0 : Int32) g hf
def b_Mo_folk_37  : (Int32 × Int32 × (Nat → Nat → Int32)) → Option ((Int32 × Int32 × (Nat → Nat → Int32)) ⊕ (Int32 × (Nat → Nat → Int32))) := fun s37 =>
  if s37.2.1 = 0 then
    some (.inr (s37.1, s37.2.2))
  else
    if (f_Mo_fine s37.2.2) = 0 then
      some (.inr (s37.1, s37.2.2))
    else
      if ((s37.2.2 0 1) + s37.1) = (9 : Int32) then
        (f_Mo_passes_r4 (f_Mo_fault s37.2.2 (s37.2.2 0 13)) (59 : Int32)).bind (fun x6 =>
          some (.inl (s37.1 + (1 : Int32), x6.1, x6.2))
        )
      else
        (f_Mo_readOne_r4 s37.2.2 ((2 : Int32) * s37.1)).bind (fun x7 =>
          (f_Mo_passes_r4 x7 (59 : Int32)).bind (fun x8 =>
            some (.inl (s37.1 + (1 : Int32), x8.1, x8.2))
          )
        )
def b_Mo_folk_125 (u1 : Int32) : (Int32 × (Nat → Nat → Int32)) → Option ((Int32 × (Nat → Nat → Int32)) ⊕ ((Nat → Nat → Int32))) := fun s125 =>
  if u1 ≤ s125.1 then
    some (.inr s125.2)
  else
    rh_g (0 ≤ ((2 : Int32) * s125.1).toInt ∧ ((2 : Int32) * s125.1).toInt < ((18 : Nat) : Int)) (
      rh_g (0 ≤ (((2 : Int32) * s125.1) + (1 : Int32)).toInt ∧ (((2 : Int32) * s125.1) + (1 : Int32)).toInt < ((18 : Nat) : Int)) (
        rh_g (0 ≤ (s125.2 0 1).toInt ∧ (s125.2 0 1).toInt < ((9 : Nat) : Int)) (
          rh_g (0 ≤ (s125.2 0 1).toInt ∧ (s125.2 0 1).toInt < ((11 : Nat) : Int)) (
            some (.inl (s125.1 + (1 : Int32), rh_up (rh_up (rh_up (rh_up s125.2 0 2 ((s125.2 0 2) ||| ((s125.2 6 ((2 : Int32) * s125.1).toNatClampNeg) <<< ((s125.2 0 1) &&& 31)))) 2 (s125.2 0 1).toNatClampNeg ((rh_up s125.2 0 2 ((s125.2 0 2) ||| ((s125.2 6 ((2 : Int32) * s125.1).toNatClampNeg) <<< ((s125.2 0 1) &&& 31)))) 6 (((2 : Int32) * s125.1) + (1 : Int32)).toNatClampNeg)) 1 (s125.2 0 1).toNatClampNeg (0 : Int32)) 0 1 ((s125.2 0 1) + (1 : Int32))))
          )
        )
      )
    )
def j_Mo_folk_109 (h : Nat → Nat → Int32) (j1 : Int32) : Option (Int32 × (Nat → Nat → Int32) × (Option Nat)) :=
  if (f_Mo_fine h) = 0 then
    some (((-1 : Int32) - (h 0 14), h, (some 4)))
  else
    (rh_loop (b_Mo_folk_125 j1) rh_N ((0 : Int32), h)).bind (fun r18 =>
      some ((j1, rh_up (rh_up r18 0 24 (0 : Int32)) 0 49 ((r18 0 49) + (1 : Int32)), (some 4)))
    )
def j_Mo_folk_90 (h : Nat → Nat → Int32) (j1 : Int32) : Option (Int32 × (Nat → Nat → Int32) × (Option Nat)) :=
  if (h 0 11) ≤ (h 0 13) then
    j_Mo_folk_109 h j1
  else
    j_Mo_folk_109 (f_Mo_fault h (h 0 13)) j1
def f_Mo_folk (h : Nat → Nat → Int32) (rd : Option Nat) : Option (Int32 × (Nat → Nat → Int32) × (Option Nat)) :=
  if ((f_Mo_begin_4 (rh_up h 0 9 (0 : Int32)) (h 0 6) (76 : Int32)) 0 11) = 0 then
    some (((0 : Int32), rh_up (f_Mo_begin_4 (rh_up h 0 9 (0 : Int32)) (h 0 6) (76 : Int32)) 0 6 (0 : Int32), (some 4)))
  else
    (rh_loop (b_Mo_folk_37 ) rh_N ((0 : Int32), (1 : Int32), rh_up (f_Mo_begin_4 (rh_up h 0 9 (0 : Int32)) (h 0 6) (76 : Int32)) 0 6 (0 : Int32))).bind (fun r9 =>
      j_Mo_folk_90 r9.2 r9.1
    )
set_option maxRecDepth 20000 in
set_option maxHeartbeats 4000000 in
theorem lb_Mo_folk_37 (d : Nat)  (g : Nat → Nat → Int64) (v9 : Option Value) (h9 : rh_H) : ∀ s37 x9, b_Mo_folk_37  s37 = some x9 → Sum.elim (fun s37 => rh_Ex (rh_M rh_PT mw_L (d + 4)) mw_L pg_X12_folk ((37, [some (.ref 0), some (.int s37.1), some (.int s37.2.1), none], []), (s37.2.2, g, mw_R (some 4))) v9 h9) (fun e9 => rh_Ex (rh_M rh_PT mw_L (d + 4)) mw_L pg_X12_folk ((90, [some (.ref 0), some (.int e9.1), none, none], []), (e9.2, g, mw_R (some 4))) v9 h9) x9 → rh_Ex (rh_M rh_PT mw_L (d + 4)) mw_L pg_X12_folk ((37, [some (.ref 0), some (.int s37.1), some (.int s37.2.1), none], []), (s37.2.2, g, mw_R (some 4))) v9 h9 := by
  intro s37 x9 hf hk
  unfold b_Mo_folk_37 at hf
  refine rh_Ex.blk 1 (s' := ((38, [some (.ref 0), some (.int s37.1), some (.int s37.2.1), none], [.int s37.2.1]), (s37.2.2, g, mw_R (some 4)))) rfl ?_
  by_cases q3 : s37.2.1 = 0
  · rw [if_pos q3] at hf
    refine rh_Ex.stp (s' := ((90, [some (.ref 0), some (.int s37.1), some (.int s37.2.1), none], []), (s37.2.2, g, mw_R (some 4)))) rfl (st_ifeq_p q3) ?_
    obtain rfl := Option.some.inj hf
    refine rh_Ex.fgt [some (.ref 0), some (.int s37.1), none, none] ⟨rfl, rfl, trivial⟩ ?_
    exact hk
  · rw [if_neg q3] at hf
    refine rh_Ex.stp (s' := ((41, [some (.ref 0), some (.int s37.1), some (.int s37.2.1), none], []), (s37.2.2, g, mw_R (some 4)))) rfl (st_ifeq_n q3) ?_
    refine rh_Ex.blk 1 (s' := ((42, [some (.ref 0), some (.int s37.1), some (.int s37.2.1), none], [.ref 0]), (s37.2.2, g, mw_R (some 4)))) rfl ?_
    refine rh_Ex.call (j := 192) (rc := some 11) [.ref 0] [] (some (.int (f_Mo_fine s37.2.2))) rfl rfl rfl (Nat.le_of_ble_eq_true rfl) (R_Mo_fine (d + 3) (some 4) s37.2.2 g  rfl) ?_
    show rh_Ex _ _ _ ((45, [some (.ref 0), some (.int s37.1), some (.int s37.2.1), none], [.int (f_Mo_fine s37.2.2)]), (s37.2.2, g, mw_R (some 4))) _ _
    by_cases q4 : (f_Mo_fine s37.2.2) = 0
    · rw [if_pos q4] at hf
      refine rh_Ex.stp (s' := ((90, [some (.ref 0), some (.int s37.1), some (.int s37.2.1), none], []), (s37.2.2, g, mw_R (some 4)))) rfl (st_ifeq_p q4) ?_
      obtain rfl := Option.some.inj hf
      refine rh_Ex.fgt [some (.ref 0), some (.int s37.1), none, none] ⟨rfl, rfl, trivial⟩ ?_
      exact hk
    · rw [if_neg q4] at hf
      refine rh_Ex.stp (s' := ((48, [some (.ref 0), some (.int s37.1), some (.int s37.2.1), none], []), (s37.2.2, g, mw_R (some 4)))) rfl (st_ifeq_n q4) ?_
      refine rh_Ex.blk 5 (s' := ((56, [some (.ref 0), some (.int s37.1), some (.int s37.2.1), none], [.int (9 : Int32), .int ((s37.2.2 0 1) + s37.1)]), (s37.2.2, g, mw_R (some 4)))) rfl ?_
      by_cases q5 : ((s37.2.2 0 1) + s37.1) = (9 : Int32)
      · rw [if_pos q5] at hf
        refine rh_Ex.stp (s' := ((59, [some (.ref 0), some (.int s37.1), some (.int s37.2.1), none], []), (s37.2.2, g, mw_R (some 4)))) rfl (st_icne_p q5) ?_
        refine rh_Ex.blk 3 (s' := ((64, [some (.ref 0), some (.int s37.1), some (.int s37.2.1), none], [.int (s37.2.2 0 13), .ref 0]), (s37.2.2, g, mw_R (some 4)))) rfl ?_
        refine rh_Ex.call (j := 193) (rc := some 11) [.ref 0, .int (s37.2.2 0 13)] [] none rfl rfl rfl (Nat.le_of_ble_eq_true rfl) (R_Mo_fault (d + 2) (some 4) s37.2.2 g (s37.2.2 0 13) rfl) ?_
        show rh_Ex _ _ _ ((67, [some (.ref 0), some (.int s37.1), some (.int s37.2.1), none], []), ((f_Mo_fault s37.2.2 (s37.2.2 0 13)), g, mw_R (some 4))) _ _
        refine rh_Ex.blk 4 (s' := ((83, [some (.ref 0), some (.int (s37.1 + (1 : Int32))), some (.int s37.2.1), none], [.int (59 : Int32), .ref 0]), ((f_Mo_fault s37.2.2 (s37.2.2 0 13)), g, mw_R (some 4)))) rfl ?_
        obtain ⟨x6, hx6, hf⟩ := rh_bq hf
        refine rh_Ex.call (j := 194) (rc := some 11) [.ref 0, .int (59 : Int32)] [] (some (.int x6.1)) rfl rfl rfl (Nat.le_of_ble_eq_true rfl) (R_Mo_passes_r4 (d + 2) (f_Mo_fault s37.2.2 (s37.2.2 0 13)) g (59 : Int32) hx6) ?_
        show rh_Ex _ _ _ ((86, [some (.ref 0), some (.int (s37.1 + (1 : Int32))), some (.int s37.2.1), none], [.int x6.1]), (x6.2, g, mw_R (some 4))) _ _
        refine rh_Ex.blk 2 (s' := ((37, [some (.ref 0), some (.int (s37.1 + (1 : Int32))), some (.int x6.1), none], []), (x6.2, g, mw_R (some 4)))) rfl ?_
        obtain rfl := Option.some.inj hf
        refine rh_Ex.fgt [some (.ref 0), some (.int (s37.1 + (1 : Int32))), some (.int x6.1), none] ⟨rfl, rfl, rfl, trivial⟩ ?_
        exact hk
      · rw [if_neg q5] at hf
        refine rh_Ex.stp (s' := ((70, [some (.ref 0), some (.int s37.1), some (.int s37.2.1), none], []), (s37.2.2, g, mw_R (some 4)))) rfl (st_icne_n q5) ?_
        refine rh_Ex.blk 4 (s' := ((74, [some (.ref 0), some (.int s37.1), some (.int s37.2.1), none], [.int ((2 : Int32) * s37.1), .ref 0]), (s37.2.2, g, mw_R (some 4)))) rfl ?_
        obtain ⟨x7, hx7, hf⟩ := rh_bq hf
        refine rh_Ex.call (j := 199) (rc := some 11) [.ref 0, .int ((2 : Int32) * s37.1)] [] none rfl rfl rfl (Nat.le_of_ble_eq_true rfl) (R_Mo_readOne_r4 d s37.2.2 g ((2 : Int32) * s37.1) hx7) ?_
        show rh_Ex _ _ _ ((77, [some (.ref 0), some (.int s37.1), some (.int s37.2.1), none], []), (x7, g, mw_R (some 4))) _ _
        refine rh_Ex.blk 3 (s' := ((83, [some (.ref 0), some (.int (s37.1 + (1 : Int32))), some (.int s37.2.1), none], [.int (59 : Int32), .ref 0]), (x7, g, mw_R (some 4)))) rfl ?_
        obtain ⟨x8, hx8, hf⟩ := rh_bq hf
        refine rh_Ex.call (j := 194) (rc := some 11) [.ref 0, .int (59 : Int32)] [] (some (.int x8.1)) rfl rfl rfl (Nat.le_of_ble_eq_true rfl) (R_Mo_passes_r4 (d + 2) x7 g (59 : Int32) hx8) ?_
        show rh_Ex _ _ _ ((86, [some (.ref 0), some (.int (s37.1 + (1 : Int32))), some (.int s37.2.1), none], [.int x8.1]), (x8.2, g, mw_R (some 4))) _ _
        refine rh_Ex.blk 2 (s' := ((37, [some (.ref 0), some (.int (s37.1 + (1 : Int32))), some (.int x8.1), none], []), (x8.2, g, mw_R (some 4)))) rfl ?_
        obtain rfl := Option.some.inj hf
        refine rh_Ex.fgt [some (.ref 0), some (.int (s37.1 + (1 : Int32))), some (.int x8.1), none] ⟨rfl, rfl, rfl, trivial⟩ ?_
        exact hk
set_option maxRecDepth 20000 in
set_option maxHeartbeats 4000000 in
theorem lb_Mo_folk_125 (d : Nat) (u1 : Int32) (g : Nat → Nat → Int64) (v9 : Option Value) (h9 : rh_H) : ∀ s125 x9, b_Mo_folk_125 u1 s125 = some x9 → Sum.elim (fun s125 => rh_Ex (rh_M rh_PT mw_L (d + 4)) mw_L pg_X12_folk ((125, [some (.ref 0), some (.int u1), none, some (.int s125.1)], []), (s125.2, g, mw_R (some 4))) v9 h9) (fun e9 => rh_Ex (rh_M rh_PT mw_L (d + 4)) mw_L pg_X12_folk ((197, [some (.ref 0), some (.int u1), none, none], []), (e9, g, mw_R (some 4))) v9 h9) x9 → rh_Ex (rh_M rh_PT mw_L (d + 4)) mw_L pg_X12_folk ((125, [some (.ref 0), some (.int u1), none, some (.int s125.1)], []), (s125.2, g, mw_R (some 4))) v9 h9 := by
  intro s125 x9 hf hk
  unfold b_Mo_folk_125 at hf
  refine rh_Ex.blk 2 (s' := ((127, [some (.ref 0), some (.int u1), none, some (.int s125.1)], [.int u1, .int s125.1]), (s125.2, g, mw_R (some 4)))) rfl ?_
  by_cases q13 : u1 ≤ s125.1
  · rw [if_pos q13] at hf
    refine rh_Ex.stp (s' := ((197, [some (.ref 0), some (.int u1), none, some (.int s125.1)], []), (s125.2, g, mw_R (some 4)))) rfl (st_icge_p q13) ?_
    obtain rfl := Option.some.inj hf
    refine rh_Ex.fgt [some (.ref 0), some (.int u1), none, none] ⟨rfl, rfl, trivial⟩ ?_
    exact hk
  · rw [if_neg q13] at hf
    refine rh_Ex.stp (s' := ((130, [some (.ref 0), some (.int u1), none, some (.int s125.1)], []), (s125.2, g, mw_R (some 4)))) rfl (st_icge_n q13) ?_
    refine rh_Ex.blk 8 (s' := ((142, [some (.ref 0), some (.int u1), none, some (.int s125.1)], [.int ((2 : Int32) * s125.1), .ref 6, .int (s125.2 0 2), .ref 0]), (s125.2, g, mw_R (some 4)))) rfl ?_
    obtain ⟨q14, hf⟩ := rh_gq hf
    refine rh_Ex.stp (s' := ((143, [some (.ref 0), some (.int u1), none, some (.int s125.1)], [.int (s125.2 6 ((2 : Int32) * s125.1).toNatClampNeg), .int (s125.2 0 2), .ref 0]), (s125.2, g, mw_R (some 4)))) rfl (st_iald (n := 18) rfl q14) ?_
    refine rh_Ex.blk 16 (s' := ((169, [some (.ref 0), some (.int u1), none, some (.int s125.1)], [.int (((2 : Int32) * s125.1) + (1 : Int32)), .ref 6, .int (s125.2 0 1), .ref 2]), (rh_up s125.2 0 2 ((s125.2 0 2) ||| ((s125.2 6 ((2 : Int32) * s125.1).toNatClampNeg) <<< ((s125.2 0 1) &&& 31))), g, mw_R (some 4)))) rfl ?_
    obtain ⟨q15, hf⟩ := rh_gq hf
    refine rh_Ex.stp (s' := ((170, [some (.ref 0), some (.int u1), none, some (.int s125.1)], [.int ((rh_up s125.2 0 2 ((s125.2 0 2) ||| ((s125.2 6 ((2 : Int32) * s125.1).toNatClampNeg) <<< ((s125.2 0 1) &&& 31)))) 6 (((2 : Int32) * s125.1) + (1 : Int32)).toNatClampNeg), .int (s125.2 0 1), .ref 2]), (rh_up s125.2 0 2 ((s125.2 0 2) ||| ((s125.2 6 ((2 : Int32) * s125.1).toNatClampNeg) <<< ((s125.2 0 1) &&& 31))), g, mw_R (some 4)))) rfl (st_iald (n := 18) rfl q15) ?_
    obtain ⟨q16, hf⟩ := rh_gq hf
    refine rh_Ex.stp (s' := ((171, [some (.ref 0), some (.int u1), none, some (.int s125.1)], []), (rh_up (rh_up s125.2 0 2 ((s125.2 0 2) ||| ((s125.2 6 ((2 : Int32) * s125.1).toNatClampNeg) <<< ((s125.2 0 1) &&& 31)))) 2 (s125.2 0 1).toNatClampNeg ((rh_up s125.2 0 2 ((s125.2 0 2) ||| ((s125.2 6 ((2 : Int32) * s125.1).toNatClampNeg) <<< ((s125.2 0 1) &&& 31)))) 6 (((2 : Int32) * s125.1) + (1 : Int32)).toNatClampNeg), g, mw_R (some 4)))) rfl (st_iast (n := 9) rfl q16) ?_
    refine rh_Ex.blk 5 (s' := ((180, [some (.ref 0), some (.int u1), none, some (.int s125.1)], [.int (0 : Int32), .int (s125.2 0 1), .ref 1]), (rh_up (rh_up s125.2 0 2 ((s125.2 0 2) ||| ((s125.2 6 ((2 : Int32) * s125.1).toNatClampNeg) <<< ((s125.2 0 1) &&& 31)))) 2 (s125.2 0 1).toNatClampNeg ((rh_up s125.2 0 2 ((s125.2 0 2) ||| ((s125.2 6 ((2 : Int32) * s125.1).toNatClampNeg) <<< ((s125.2 0 1) &&& 31)))) 6 (((2 : Int32) * s125.1) + (1 : Int32)).toNatClampNeg), g, mw_R (some 4)))) rfl ?_
    obtain ⟨q17, hf⟩ := rh_gq hf
    refine rh_Ex.stp (s' := ((181, [some (.ref 0), some (.int u1), none, some (.int s125.1)], []), (rh_up (rh_up (rh_up s125.2 0 2 ((s125.2 0 2) ||| ((s125.2 6 ((2 : Int32) * s125.1).toNatClampNeg) <<< ((s125.2 0 1) &&& 31)))) 2 (s125.2 0 1).toNatClampNeg ((rh_up s125.2 0 2 ((s125.2 0 2) ||| ((s125.2 6 ((2 : Int32) * s125.1).toNatClampNeg) <<< ((s125.2 0 1) &&& 31)))) 6 (((2 : Int32) * s125.1) + (1 : Int32)).toNatClampNeg)) 1 (s125.2 0 1).toNatClampNeg (0 : Int32), g, mw_R (some 4)))) rfl (st_iast (n := 11) rfl q17) ?_
    refine rh_Ex.blk 8 (s' := ((125, [some (.ref 0), some (.int u1), none, some (.int (s125.1 + (1 : Int32)))], []), (rh_up (rh_up (rh_up (rh_up s125.2 0 2 ((s125.2 0 2) ||| ((s125.2 6 ((2 : Int32) * s125.1).toNatClampNeg) <<< ((s125.2 0 1) &&& 31)))) 2 (s125.2 0 1).toNatClampNeg ((rh_up s125.2 0 2 ((s125.2 0 2) ||| ((s125.2 6 ((2 : Int32) * s125.1).toNatClampNeg) <<< ((s125.2 0 1) &&& 31)))) 6 (((2 : Int32) * s125.1) + (1 : Int32)).toNatClampNeg)) 1 (s125.2 0 1).toNatClampNeg (0 : Int32)) 0 1 ((s125.2 0 1) + (1 : Int32)), g, mw_R (some 4)))) rfl ?_
    obtain rfl := Option.some.inj hf
    refine rh_Ex.fgt [some (.ref 0), some (.int u1), none, some (.int (s125.1 + (1 : Int32)))] ⟨rfl, rfl, rfl, trivial⟩ ?_
    exact hk
set_option maxRecDepth 20000 in
set_option maxHeartbeats 4000000 in
theorem lj_Mo_folk_109 (d : Nat) (h : Nat → Nat → Int32) (j1 : Int32) (g : Nat → Nat → Int64) {z9 : Int32 × (Nat → Nat → Int32) × (Option Nat)} (hf : j_Mo_folk_109 h j1 = some z9) : rh_Ex (rh_M rh_PT mw_L (d + 4)) mw_L pg_X12_folk ((109, [some (.ref 0), some (.int j1), none, none], []), (h, g, mw_R (some 4))) (some (.int z9.1)) (z9.2.1, g, mw_R z9.2.2) := by
  unfold j_Mo_folk_109 at hf
  refine rh_Ex.blk 1 (s' := ((110, [some (.ref 0), some (.int j1), none, none], [.ref 0]), (h, g, mw_R (some 4)))) rfl ?_
  refine rh_Ex.call (j := 192) (rc := some 11) [.ref 0] [] (some (.int (f_Mo_fine h))) rfl rfl rfl (Nat.le_of_ble_eq_true rfl) (R_Mo_fine (d + 3) (some 4) h g  rfl) ?_
  show rh_Ex _ _ _ ((113, [some (.ref 0), some (.int j1), none, none], [.int (f_Mo_fine h)]), (h, g, mw_R (some 4))) _ _
  by_cases q11 : (f_Mo_fine h) = 0
  · rw [if_pos q11] at hf
    refine rh_Ex.stp (s' := ((116, [some (.ref 0), some (.int j1), none, none], []), (h, g, mw_R (some 4)))) rfl (st_ifne_p q11) ?_
    refine rh_Ex.blk 4 (s' := ((122, [some (.ref 0), some (.int j1), none, none], [.int ((-1 : Int32) - (h 0 14))]), (h, g, mw_R (some 4)))) rfl ?_
    obtain rfl := Option.some.inj hf
    exact rh_Ex.ret rfl rfl
  · rw [if_neg q11] at hf
    refine rh_Ex.stp (s' := ((123, [some (.ref 0), some (.int j1), none, none], []), (h, g, mw_R (some 4)))) rfl (st_ifne_n q11) ?_
    refine rh_Ex.blk 2 (s' := ((125, [some (.ref 0), some (.int j1), none, some (.int (0 : Int32))], []), (h, g, mw_R (some 4)))) rfl ?_
    obtain ⟨r18, hr18, hf⟩ := rh_bq hf
    refine rh_Ex.fgt [some (.ref 0), some (.int j1), none, some (.int (0 : Int32))] ⟨rfl, rfl, rfl, trivial⟩ ?_
    refine rh_Ex.loop _ _ _ (lb_Mo_folk_125 d j1  g _ _) rh_N _ r18 hr18 ?_
    refine rh_Ex.blk 10 (s' := ((213, [some (.ref 0), some (.int j1), none, none], [.int j1]), (rh_up (rh_up r18 0 24 (0 : Int32)) 0 49 ((r18 0 49) + (1 : Int32)), g, mw_R (some 4)))) rfl ?_
    obtain rfl := Option.some.inj hf
    exact rh_Ex.ret rfl rfl
set_option maxRecDepth 20000 in
set_option maxHeartbeats 4000000 in
theorem lj_Mo_folk_90 (d : Nat) (h : Nat → Nat → Int32) (j1 : Int32) (g : Nat → Nat → Int64) {z9 : Int32 × (Nat → Nat → Int32) × (Option Nat)} (hf : j_Mo_folk_90 h j1 = some z9) : rh_Ex (rh_M rh_PT mw_L (d + 4)) mw_L pg_X12_folk ((90, [some (.ref 0), some (.int j1), none, none], []), (h, g, mw_R (some 4))) (some (.int z9.1)) (z9.2.1, g, mw_R z9.2.2) := by
  unfold j_Mo_folk_90 at hf
  refine rh_Ex.blk 4 (s' := ((98, [some (.ref 0), some (.int j1), none, none], [.int (h 0 11), .int (h 0 13)]), (h, g, mw_R (some 4)))) rfl ?_
  by_cases q10 : (h 0 11) ≤ (h 0 13)
  · rw [if_pos q10] at hf
    refine rh_Ex.stp (s' := ((109, [some (.ref 0), some (.int j1), none, none], []), (h, g, mw_R (some 4)))) rfl (st_icge_p q10) ?_
    refine rh_Ex.fgt [some (.ref 0), some (.int j1), none, none] ⟨rfl, rfl, trivial⟩ ?_
    exact lj_Mo_folk_109 d h j1 g hf
  · rw [if_neg q10] at hf
    refine rh_Ex.stp (s' := ((101, [some (.ref 0), some (.int j1), none, none], []), (h, g, mw_R (some 4)))) rfl (st_icge_n q10) ?_
    refine rh_Ex.blk 3 (s' := ((106, [some (.ref 0), some (.int j1), none, none], [.int (h 0 13), .ref 0]), (h, g, mw_R (some 4)))) rfl ?_
    refine rh_Ex.call (j := 193) (rc := some 11) [.ref 0, .int (h 0 13)] [] none rfl rfl rfl (Nat.le_of_ble_eq_true rfl) (R_Mo_fault (d + 2) (some 4) h g (h 0 13) rfl) ?_
    show rh_Ex _ _ _ ((109, [some (.ref 0), some (.int j1), none, none], []), ((f_Mo_fault h (h 0 13)), g, mw_R (some 4))) _ _
    refine rh_Ex.fgt [some (.ref 0), some (.int j1), none, none] ⟨rfl, rfl, trivial⟩ ?_
    exact lj_Mo_folk_109 d (f_Mo_fault h (h 0 13)) j1 g hf
set_option maxRecDepth 20000 in
set_option maxHeartbeats 4000000 in
theorem R_Mo_folk (d : Nat) (rd : Option Nat) (h : Nat → Nat → Int32) (g : Nat → Nat → Int64)  {z9 : Int32 × (Nat → Nat → Int32) × (Option Nat)} (hf : f_Mo_folk h rd = some z9) : rh_M rh_PT mw_L (d + 5) 198 [.ref 0] (h, g, mw_R rd) (some (.int z9.1)) (z9.2.1, g, mw_R z9.2.2) := by
  unfold f_Mo_folk at hf
  refine rh_go pt_198 (Nat.le_of_ble_eq_true rfl) (lv := [some (.ref 0), none, none, none]) rfl ?_
  refine rh_Ex.blk 9 (s' := ((16, [some (.ref 0), none, none, none], [.int (76 : Int32), .int (h 0 6), .ref 4, .ref 0]), (rh_up h 0 9 (0 : Int32), g, mw_R rd))) rfl ?_
  refine rh_Ex.call (j := 190) (rc := some 11) [.ref 0, .ref 4, .int (h 0 6), .int (76 : Int32)] [] none rfl rfl rfl (Nat.le_of_ble_eq_true rfl) (R_Mo_begin_4 (d + 3) rd (rh_up h 0 9 (0 : Int32)) g (h 0 6) (76 : Int32) rfl) ?_
  show rh_Ex _ _ _ ((19, [some (.ref 0), none, none, none], []), ((f_Mo_begin_4 (rh_up h 0 9 (0 : Int32)) (h 0 6) (76 : Int32)), g, mw_R (some 4))) _ _
  refine rh_Ex.blk 5 (s' := ((28, [some (.ref 0), none, none, none], [.int ((f_Mo_begin_4 (rh_up h 0 9 (0 : Int32)) (h 0 6) (76 : Int32)) 0 11)]), (rh_up (f_Mo_begin_4 (rh_up h 0 9 (0 : Int32)) (h 0 6) (76 : Int32)) 0 6 (0 : Int32), g, mw_R (some 4)))) rfl ?_
  by_cases q1 : ((f_Mo_begin_4 (rh_up h 0 9 (0 : Int32)) (h 0 6) (76 : Int32)) 0 11) = 0
  · rw [if_pos q1] at hf
    refine rh_Ex.stp (s' := ((31, [some (.ref 0), none, none, none], []), (rh_up (f_Mo_begin_4 (rh_up h 0 9 (0 : Int32)) (h 0 6) (76 : Int32)) 0 6 (0 : Int32), g, mw_R (some 4)))) rfl (st_ifne_p q1) ?_
    refine rh_Ex.blk 1 (s' := ((32, [some (.ref 0), none, none, none], [.int (0 : Int32)]), (rh_up (f_Mo_begin_4 (rh_up h 0 9 (0 : Int32)) (h 0 6) (76 : Int32)) 0 6 (0 : Int32), g, mw_R (some 4)))) rfl ?_
    obtain rfl := Option.some.inj hf
    exact rh_Ex.ret rfl rfl
  · rw [if_neg q1] at hf
    refine rh_Ex.stp (s' := ((33, [some (.ref 0), none, none, none], []), (rh_up (f_Mo_begin_4 (rh_up h 0 9 (0 : Int32)) (h 0 6) (76 : Int32)) 0 6 (0 : Int32), g, mw_R (some 4)))) rfl (st_ifne_n q1) ?_
    refine rh_Ex.blk 4 (s' := ((37, [some (.ref 0), some (.int (0 : Int32)), some (.int (1 : Int32)), none], []), (rh_up (f_Mo_begin_4 (rh_up h 0 9 (0 : Int32)) (h 0 6) (76 : Int32)) 0 6 (0 : Int32), g, mw_R (some 4)))) rfl ?_
    obtain ⟨r9, hr9, hf⟩ := rh_bq hf
    refine rh_Ex.fgt [some (.ref 0), some (.int (0 : Int32)), some (.int (1 : Int32)), none] ⟨rfl, rfl, rfl, trivial⟩ ?_
    refine rh_Ex.loop _ _ _ (lb_Mo_folk_37 d   g _ _) rh_N _ r9 hr9 ?_
    refine rh_Ex.fgt [some (.ref 0), some (.int r9.1), none, none] ⟨rfl, rfl, trivial⟩ ?_
    exact lj_Mo_folk_90 d r9.2 r9.1 g hf
def j_Mo_product_r4_45 (T : (Nat → Nat → Int32) → Int32 → Option (Int32 × (Nat → Nat → Int32))) (h : Nat → Nat → Int32) (u1 : Int32) (j2 : Int32) (k0 : Int32) : Option ((Int32 × (Nat → Nat → Int32)) ⊕ (Int32 × (Nat → Nat → Int32))) :=
  (T (rh_up h 0 13 ((h 0 13) + (1 : Int32))) u1).bind (fun x8 =>
    if k0 = 0 then
      if x8.1 = 0 then
        some (.inl ((0 : Int32), x8.2))
      else
        rh_g (¬ x8.1 = 0) (
          some (.inl (j2 / x8.1, x8.2))
        )
    else
      some (.inl (j2 * x8.1, x8.2))
  )
def j_Mo_product_r4_31 (T : (Nat → Nat → Int32) → Int32 → Option (Int32 × (Nat → Nat → Int32))) (h : Nat → Nat → Int32) (u1 : Int32) (j2 : Int32) : Option ((Int32 × (Nat → Nat → Int32)) ⊕ (Int32 × (Nat → Nat → Int32))) :=
  (f_Mo_here_r4 h).bind (fun x6 =>
    if x6 = (42 : Int32) then
      j_Mo_product_r4_45 T h u1 j2 (1 : Int32)
    else
      j_Mo_product_r4_45 T h u1 j2 (0 : Int32)
  )
def b_Mo_product_r4_6 (T : (Nat → Nat → Int32) → Int32 → Option (Int32 × (Nat → Nat → Int32))) (u1 : Int32) : (Int32 × (Nat → Nat → Int32)) → Option ((Int32 × (Nat → Nat → Int32)) ⊕ (Int32 × (Nat → Nat → Int32))) := fun s6 =>
  if (f_Mo_fine s6.2) = 0 then
    some (.inr (s6.1, s6.2))
  else
    (f_Mo_here_r4 s6.2).bind (fun x4 =>
      if x4 = (42 : Int32) then
        j_Mo_product_r4_31 T s6.2 u1 s6.1
      else
        (f_Mo_here_r4 s6.2).bind (fun x12 =>
          if x12 = (47 : Int32) then
            j_Mo_product_r4_31 T s6.2 u1 s6.1
          else
            some (.inr (s6.1, s6.2))
        )
    )
def f_Mo_product_r4 (T : (Nat → Nat → Int32) → Int32 → Option (Int32 × (Nat → Nat → Int32))) (h : Nat → Nat → Int32) (p0 : Int32) : Option (Int32 × (Nat → Nat → Int32)) :=
  (T h p0).bind (fun x1 =>
    (rh_loop (b_Mo_product_r4_6 T p0) rh_N (x1.1, x1.2)).bind (fun r14 =>
      some ((r14.1, r14.2))
    )
  )
set_option maxRecDepth 20000 in
set_option maxHeartbeats 4000000 in
theorem lj_Mo_product_r4_45 (d : Nat) (T : (Nat → Nat → Int32) → Int32 → Option (Int32 × (Nat → Nat → Int32))) (hT : ∀ (h : Nat → Nat → Int32) (g : Nat → Nat → Int64) (a0 : Int32) z, T h a0 = some z → rh_M rh_PT mw_L (d + 6) 203 [.ref 0, .int a0] (h, g, mw_R (some 4)) (some (.int z.1)) (z.2, g, mw_R (some 4))) (h : Nat → Nat → Int32) (u1 : Int32) (j2 : Int32) (k0 : Int32) (g : Nat → Nat → Int64) (v9 : Option Value) (h9 : rh_H) (x9 : (Int32 × (Nat → Nat → Int32)) ⊕ (Int32 × (Nat → Nat → Int32))) (hf : j_Mo_product_r4_45 T h u1 j2 k0 = some x9) (hk : Sum.elim (fun s6 => rh_Ex (rh_M rh_PT mw_L (d + 6)) mw_L pg_X12_product ((6, [some (.ref 0), some (.int u1), some (.int s6.1), none, none], []), (s6.2, g, mw_R (some 4))) v9 h9) (fun e9 => rh_Ex (rh_M rh_PT mw_L (d + 6)) mw_L pg_X12_product ((91, [none, none, some (.int e9.1), none, none], []), (e9.2, g, mw_R (some 4))) v9 h9) x9) : rh_Ex (rh_M rh_PT mw_L (d + 6)) mw_L pg_X12_product ((45, [some (.ref 0), some (.int u1), some (.int j2), none, none], [.int k0]), (h, g, mw_R (some 4))) v9 h9 := by
  unfold j_Mo_product_r4_45 at hf
  refine rh_Ex.blk 9 (s' := ((58, [some (.ref 0), some (.int u1), some (.int j2), some (.int k0), none], [.int u1, .ref 0]), (rh_up h 0 13 ((h 0 13) + (1 : Int32)), g, mw_R (some 4)))) rfl ?_
  obtain ⟨x8, hx8, hf⟩ := rh_bq hf
  refine rh_Ex.call (j := 203) (rc := some 11) [.ref 0, .int u1] [] (some (.int x8.1)) rfl rfl rfl (Nat.le_of_ble_eq_true rfl) (rh_M_le (Nat.add_le_add_left (Nat.le_of_ble_eq_true rfl) d) (hT (rh_up h 0 13 ((h 0 13) + (1 : Int32))) g u1 _ hx8)) ?_
  show rh_Ex _ _ _ ((61, [some (.ref 0), some (.int u1), some (.int j2), some (.int k0), none], [.int x8.1]), (x8.2, g, mw_R (some 4))) _ _
  refine rh_Ex.blk 2 (s' := ((64, [some (.ref 0), some (.int u1), some (.int j2), some (.int k0), some (.int x8.1)], [.int k0]), (x8.2, g, mw_R (some 4)))) rfl ?_
  by_cases q9 : k0 = 0
  · rw [if_pos q9] at hf
    refine rh_Ex.stp (s' := ((74, [some (.ref 0), some (.int u1), some (.int j2), some (.int k0), some (.int x8.1)], []), (x8.2, g, mw_R (some 4)))) rfl (st_ifeq_p q9) ?_
    refine rh_Ex.blk 1 (s' := ((76, [some (.ref 0), some (.int u1), some (.int j2), some (.int k0), some (.int x8.1)], [.int x8.1]), (x8.2, g, mw_R (some 4)))) rfl ?_
    by_cases q10 : x8.1 = 0
    · rw [if_pos q10] at hf
      refine rh_Ex.stp (s' := ((79, [some (.ref 0), some (.int u1), some (.int j2), some (.int k0), some (.int x8.1)], []), (x8.2, g, mw_R (some 4)))) rfl (st_ifne_p q10) ?_
      refine rh_Ex.blk 4 (s' := ((6, [some (.ref 0), some (.int u1), some (.int (0 : Int32)), some (.int k0), some (.int x8.1)], []), (x8.2, g, mw_R (some 4)))) rfl ?_
      obtain rfl := Option.some.inj hf
      refine rh_Ex.fgt [some (.ref 0), some (.int u1), some (.int (0 : Int32)), none, none] ⟨rfl, rfl, rfl, trivial⟩ ?_
      exact hk
    · rw [if_neg q10] at hf
      refine rh_Ex.stp (s' := ((83, [some (.ref 0), some (.int u1), some (.int j2), some (.int k0), some (.int x8.1)], []), (x8.2, g, mw_R (some 4)))) rfl (st_ifne_n q10) ?_
      refine rh_Ex.blk 2 (s' := ((86, [some (.ref 0), some (.int u1), some (.int j2), some (.int k0), some (.int x8.1)], [.int x8.1, .int j2]), (x8.2, g, mw_R (some 4)))) rfl ?_
      obtain ⟨q11, hf⟩ := rh_gq hf
      refine rh_Ex.stp (s' := ((87, [some (.ref 0), some (.int u1), some (.int j2), some (.int k0), some (.int x8.1)], [.int (j2 / x8.1)]), (x8.2, g, mw_R (some 4)))) rfl (st_idiv q11) ?_
      refine rh_Ex.blk 2 (s' := ((6, [some (.ref 0), some (.int u1), some (.int (j2 / x8.1)), some (.int k0), some (.int x8.1)], []), (x8.2, g, mw_R (some 4)))) rfl ?_
      obtain rfl := Option.some.inj hf
      refine rh_Ex.fgt [some (.ref 0), some (.int u1), some (.int (j2 / x8.1)), none, none] ⟨rfl, rfl, rfl, trivial⟩ ?_
      exact hk
  · rw [if_neg q9] at hf
    refine rh_Ex.stp (s' := ((67, [some (.ref 0), some (.int u1), some (.int j2), some (.int k0), some (.int x8.1)], []), (x8.2, g, mw_R (some 4)))) rfl (st_ifeq_n q9) ?_
    refine rh_Ex.blk 6 (s' := ((6, [some (.ref 0), some (.int u1), some (.int (j2 * x8.1)), some (.int k0), some (.int x8.1)], []), (x8.2, g, mw_R (some 4)))) rfl ?_
    obtain rfl := Option.some.inj hf
    refine rh_Ex.fgt [some (.ref 0), some (.int u1), some (.int (j2 * x8.1)), none, none] ⟨rfl, rfl, rfl, trivial⟩ ?_
    exact hk
set_option maxRecDepth 20000 in
set_option maxHeartbeats 4000000 in
theorem lj_Mo_product_r4_31 (d : Nat) (T : (Nat → Nat → Int32) → Int32 → Option (Int32 × (Nat → Nat → Int32))) (hT : ∀ (h : Nat → Nat → Int32) (g : Nat → Nat → Int64) (a0 : Int32) z, T h a0 = some z → rh_M rh_PT mw_L (d + 6) 203 [.ref 0, .int a0] (h, g, mw_R (some 4)) (some (.int z.1)) (z.2, g, mw_R (some 4))) (h : Nat → Nat → Int32) (u1 : Int32) (j2 : Int32) (g : Nat → Nat → Int64) (v9 : Option Value) (h9 : rh_H) (x9 : (Int32 × (Nat → Nat → Int32)) ⊕ (Int32 × (Nat → Nat → Int32))) (hf : j_Mo_product_r4_31 T h u1 j2 = some x9) (hk : Sum.elim (fun s6 => rh_Ex (rh_M rh_PT mw_L (d + 6)) mw_L pg_X12_product ((6, [some (.ref 0), some (.int u1), some (.int s6.1), none, none], []), (s6.2, g, mw_R (some 4))) v9 h9) (fun e9 => rh_Ex (rh_M rh_PT mw_L (d + 6)) mw_L pg_X12_product ((91, [none, none, some (.int e9.1), none, none], []), (e9.2, g, mw_R (some 4))) v9 h9) x9) : rh_Ex (rh_M rh_PT mw_L (d + 6)) mw_L pg_X12_product ((31, [some (.ref 0), some (.int u1), some (.int j2), none, none], []), (h, g, mw_R (some 4))) v9 h9 := by
  unfold j_Mo_product_r4_31 at hf
  refine rh_Ex.blk 1 (s' := ((32, [some (.ref 0), some (.int u1), some (.int j2), none, none], [.ref 0]), (h, g, mw_R (some 4)))) rfl ?_
  obtain ⟨x6, hx6, hf⟩ := rh_bq hf
  refine rh_Ex.call (j := 191) (rc := some 11) [.ref 0] [] (some (.int x6)) rfl rfl rfl (Nat.le_of_ble_eq_true rfl) (R_Mo_here_r4 (d + 5) h g  hx6) ?_
  show rh_Ex _ _ _ ((35, [some (.ref 0), some (.int u1), some (.int j2), none, none], [.int x6]), (h, g, mw_R (some 4))) _ _
  refine rh_Ex.blk 1 (s' := ((37, [some (.ref 0), some (.int u1), some (.int j2), none, none], [.int (42 : Int32), .int x6]), (h, g, mw_R (some 4)))) rfl ?_
  by_cases q7 : x6 = (42 : Int32)
  · rw [if_pos q7] at hf
    refine rh_Ex.stp (s' := ((40, [some (.ref 0), some (.int u1), some (.int j2), none, none], []), (h, g, mw_R (some 4)))) rfl (st_icne_p q7) ?_
    refine rh_Ex.blk 2 (s' := ((45, [some (.ref 0), some (.int u1), some (.int j2), none, none], [.int (1 : Int32)]), (h, g, mw_R (some 4)))) rfl ?_
    refine rh_Ex.fgt [some (.ref 0), some (.int u1), some (.int j2), none, none] ⟨rfl, rfl, rfl, trivial⟩ ?_
    exact lj_Mo_product_r4_45 d T hT h u1 j2 (1 : Int32) g _ _ _ hf hk
  · rw [if_neg q7] at hf
    refine rh_Ex.stp (s' := ((44, [some (.ref 0), some (.int u1), some (.int j2), none, none], []), (h, g, mw_R (some 4)))) rfl (st_icne_n q7) ?_
    refine rh_Ex.blk 1 (s' := ((45, [some (.ref 0), some (.int u1), some (.int j2), none, none], [.int (0 : Int32)]), (h, g, mw_R (some 4)))) rfl ?_
    refine rh_Ex.fgt [some (.ref 0), some (.int u1), some (.int j2), none, none] ⟨rfl, rfl, rfl, trivial⟩ ?_
    exact lj_Mo_product_r4_45 d T hT h u1 j2 (0 : Int32) g _ _ _ hf hk
set_option maxRecDepth 20000 in
set_option maxHeartbeats 4000000 in
theorem lb_Mo_product_r4_6 (d : Nat) (T : (Nat → Nat → Int32) → Int32 → Option (Int32 × (Nat → Nat → Int32))) (hT : ∀ (h : Nat → Nat → Int32) (g : Nat → Nat → Int64) (a0 : Int32) z, T h a0 = some z → rh_M rh_PT mw_L (d + 6) 203 [.ref 0, .int a0] (h, g, mw_R (some 4)) (some (.int z.1)) (z.2, g, mw_R (some 4))) (u1 : Int32) (g : Nat → Nat → Int64) (v9 : Option Value) (h9 : rh_H) : ∀ s6 x9, b_Mo_product_r4_6 T u1 s6 = some x9 → Sum.elim (fun s6 => rh_Ex (rh_M rh_PT mw_L (d + 6)) mw_L pg_X12_product ((6, [some (.ref 0), some (.int u1), some (.int s6.1), none, none], []), (s6.2, g, mw_R (some 4))) v9 h9) (fun e9 => rh_Ex (rh_M rh_PT mw_L (d + 6)) mw_L pg_X12_product ((91, [none, none, some (.int e9.1), none, none], []), (e9.2, g, mw_R (some 4))) v9 h9) x9 → rh_Ex (rh_M rh_PT mw_L (d + 6)) mw_L pg_X12_product ((6, [some (.ref 0), some (.int u1), some (.int s6.1), none, none], []), (s6.2, g, mw_R (some 4))) v9 h9 := by
  intro s6 x9 hf hk
  unfold b_Mo_product_r4_6 at hf
  refine rh_Ex.blk 1 (s' := ((7, [some (.ref 0), some (.int u1), some (.int s6.1), none, none], [.ref 0]), (s6.2, g, mw_R (some 4)))) rfl ?_
  refine rh_Ex.call (j := 192) (rc := some 11) [.ref 0] [] (some (.int (f_Mo_fine s6.2))) rfl rfl rfl (Nat.le_of_ble_eq_true rfl) (R_Mo_fine (d + 5) (some 4) s6.2 g  rfl) ?_
  show rh_Ex _ _ _ ((10, [some (.ref 0), some (.int u1), some (.int s6.1), none, none], [.int (f_Mo_fine s6.2)]), (s6.2, g, mw_R (some 4))) _ _
  by_cases q3 : (f_Mo_fine s6.2) = 0
  · rw [if_pos q3] at hf
    refine rh_Ex.stp (s' := ((91, [some (.ref 0), some (.int u1), some (.int s6.1), none, none], []), (s6.2, g, mw_R (some 4)))) rfl (st_ifeq_p q3) ?_
    obtain rfl := Option.some.inj hf
    refine rh_Ex.fgt [none, none, some (.int s6.1), none, none] ⟨rfl, trivial⟩ ?_
    exact hk
  · rw [if_neg q3] at hf
    refine rh_Ex.stp (s' := ((13, [some (.ref 0), some (.int u1), some (.int s6.1), none, none], []), (s6.2, g, mw_R (some 4)))) rfl (st_ifeq_n q3) ?_
    refine rh_Ex.blk 1 (s' := ((14, [some (.ref 0), some (.int u1), some (.int s6.1), none, none], [.ref 0]), (s6.2, g, mw_R (some 4)))) rfl ?_
    obtain ⟨x4, hx4, hf⟩ := rh_bq hf
    refine rh_Ex.call (j := 191) (rc := some 11) [.ref 0] [] (some (.int x4)) rfl rfl rfl (Nat.le_of_ble_eq_true rfl) (R_Mo_here_r4 (d + 5) s6.2 g  hx4) ?_
    show rh_Ex _ _ _ ((17, [some (.ref 0), some (.int u1), some (.int s6.1), none, none], [.int x4]), (s6.2, g, mw_R (some 4))) _ _
    refine rh_Ex.blk 1 (s' := ((19, [some (.ref 0), some (.int u1), some (.int s6.1), none, none], [.int (42 : Int32), .int x4]), (s6.2, g, mw_R (some 4)))) rfl ?_
    by_cases q5 : x4 = (42 : Int32)
    · rw [if_pos q5] at hf
      refine rh_Ex.stp (s' := ((31, [some (.ref 0), some (.int u1), some (.int s6.1), none, none], []), (s6.2, g, mw_R (some 4)))) rfl (st_iceq_p q5) ?_
      refine rh_Ex.fgt [some (.ref 0), some (.int u1), some (.int s6.1), none, none] ⟨rfl, rfl, rfl, trivial⟩ ?_
      exact lj_Mo_product_r4_31 d T hT s6.2 u1 s6.1 g _ _ _ hf hk
    · rw [if_neg q5] at hf
      refine rh_Ex.stp (s' := ((22, [some (.ref 0), some (.int u1), some (.int s6.1), none, none], []), (s6.2, g, mw_R (some 4)))) rfl (st_iceq_n q5) ?_
      refine rh_Ex.blk 1 (s' := ((23, [some (.ref 0), some (.int u1), some (.int s6.1), none, none], [.ref 0]), (s6.2, g, mw_R (some 4)))) rfl ?_
      obtain ⟨x12, hx12, hf⟩ := rh_bq hf
      refine rh_Ex.call (j := 191) (rc := some 11) [.ref 0] [] (some (.int x12)) rfl rfl rfl (Nat.le_of_ble_eq_true rfl) (R_Mo_here_r4 (d + 5) s6.2 g  hx12) ?_
      show rh_Ex _ _ _ ((26, [some (.ref 0), some (.int u1), some (.int s6.1), none, none], [.int x12]), (s6.2, g, mw_R (some 4))) _ _
      refine rh_Ex.blk 1 (s' := ((28, [some (.ref 0), some (.int u1), some (.int s6.1), none, none], [.int (47 : Int32), .int x12]), (s6.2, g, mw_R (some 4)))) rfl ?_
      by_cases q13 : x12 = (47 : Int32)
      · rw [if_pos q13] at hf
        refine rh_Ex.stp (s' := ((31, [some (.ref 0), some (.int u1), some (.int s6.1), none, none], []), (s6.2, g, mw_R (some 4)))) rfl (st_icne_p q13) ?_
        refine rh_Ex.fgt [some (.ref 0), some (.int u1), some (.int s6.1), none, none] ⟨rfl, rfl, rfl, trivial⟩ ?_
        exact lj_Mo_product_r4_31 d T hT s6.2 u1 s6.1 g _ _ _ hf hk
      · rw [if_neg q13] at hf
        refine rh_Ex.stp (s' := ((91, [some (.ref 0), some (.int u1), some (.int s6.1), none, none], []), (s6.2, g, mw_R (some 4)))) rfl (st_icne_n q13) ?_
        obtain rfl := Option.some.inj hf
        refine rh_Ex.fgt [none, none, some (.int s6.1), none, none] ⟨rfl, trivial⟩ ?_
        exact hk
set_option maxRecDepth 20000 in
set_option maxHeartbeats 4000000 in
theorem R_Mo_product_r4 (d : Nat) (T : (Nat → Nat → Int32) → Int32 → Option (Int32 × (Nat → Nat → Int32))) (hT : ∀ (h : Nat → Nat → Int32) (g : Nat → Nat → Int64) (a0 : Int32) z, T h a0 = some z → rh_M rh_PT mw_L (d + 6) 203 [.ref 0, .int a0] (h, g, mw_R (some 4)) (some (.int z.1)) (z.2, g, mw_R (some 4))) (h : Nat → Nat → Int32) (g : Nat → Nat → Int64) (p0 : Int32) {z9 : Int32 × (Nat → Nat → Int32)} (hf : f_Mo_product_r4 T h p0 = some z9) : rh_M rh_PT mw_L (d + 7) 202 [.ref 0, .int p0] (h, g, mw_R (some 4)) (some (.int z9.1)) (z9.2, g, mw_R (some 4)) := by
  unfold f_Mo_product_r4 at hf
  refine rh_go pt_202 (Nat.le_of_ble_eq_true rfl) (lv := [some (.ref 0), some (.int p0), none, none, none]) rfl ?_
  refine rh_Ex.blk 2 (s' := ((2, [some (.ref 0), some (.int p0), none, none, none], [.int p0, .ref 0]), (h, g, mw_R (some 4)))) rfl ?_
  obtain ⟨x1, hx1, hf⟩ := rh_bq hf
  refine rh_Ex.call (j := 203) (rc := some 11) [.ref 0, .int p0] [] (some (.int x1.1)) rfl rfl rfl (Nat.le_of_ble_eq_true rfl) (rh_M_le (Nat.add_le_add_left (Nat.le_of_ble_eq_true rfl) d) (hT h g p0 _ hx1)) ?_
  show rh_Ex _ _ _ ((5, [some (.ref 0), some (.int p0), none, none, none], [.int x1.1]), (x1.2, g, mw_R (some 4))) _ _
  refine rh_Ex.blk 1 (s' := ((6, [some (.ref 0), some (.int p0), some (.int x1.1), none, none], []), (x1.2, g, mw_R (some 4)))) rfl ?_
  obtain ⟨r14, hr14, hf⟩ := rh_bq hf
  refine rh_Ex.fgt [some (.ref 0), some (.int p0), some (.int x1.1), none, none] ⟨rfl, rfl, rfl, trivial⟩ ?_
  refine rh_Ex.loop _ _ _ (lb_Mo_product_r4_6 d T hT p0  g _ _) rh_N _ r14 hr14 ?_
  refine rh_Ex.blk 1 (s' := ((92, [none, none, some (.int r14.1), none, none], [.int r14.1]), (r14.2, g, mw_R (some 4)))) rfl ?_
  obtain rfl := Option.some.inj hf
  exact rh_Ex.ret rfl rfl
def j_Mo_sum_r4_31 (T : (Nat → Nat → Int32) → Int32 → Option (Int32 × (Nat → Nat → Int32))) (h : Nat → Nat → Int32) (u1 : Int32) (j2 : Int32) : Option ((Int32 × (Nat → Nat → Int32)) ⊕ (Int32 × (Nat → Nat → Int32))) :=
  (f_Mo_here_r4 h).bind (fun x6 =>
    if x6 = (43 : Int32) then
      (f_Mo_product_r4 T (rh_up h 0 13 ((h 0 13) + (1 : Int32))) u1).bind (fun x8 =>
        if (1 : Int32) = 0 then
          some (.inl (j2 - x8.1, x8.2))
        else
          some (.inl (j2 + x8.1, x8.2))
      )
    else
      (f_Mo_product_r4 T (rh_up h 0 13 ((h 0 13) + (1 : Int32))) u1).bind (fun x10 =>
        if (0 : Int32) = 0 then
          some (.inl (j2 - x10.1, x10.2))
        else
          some (.inl (j2 + x10.1, x10.2))
      )
  )
def b_Mo_sum_r4_6 (T : (Nat → Nat → Int32) → Int32 → Option (Int32 × (Nat → Nat → Int32))) (u1 : Int32) : (Int32 × (Nat → Nat → Int32)) → Option ((Int32 × (Nat → Nat → Int32)) ⊕ (Int32 × (Nat → Nat → Int32))) := fun s6 =>
  if (f_Mo_fine s6.2) = 0 then
    some (.inr (s6.1, s6.2))
  else
    (f_Mo_here_r4 s6.2).bind (fun x4 =>
      if x4 = (43 : Int32) then
        j_Mo_sum_r4_31 T s6.2 u1 s6.1
      else
        (f_Mo_here_r4 s6.2).bind (fun x12 =>
          if x12 = (45 : Int32) then
            j_Mo_sum_r4_31 T s6.2 u1 s6.1
          else
            some (.inr (s6.1, s6.2))
        )
    )
def f_Mo_sum_r4 (T : (Nat → Nat → Int32) → Int32 → Option (Int32 × (Nat → Nat → Int32))) (h : Nat → Nat → Int32) (p0 : Int32) : Option (Int32 × (Nat → Nat → Int32)) :=
  (f_Mo_product_r4 T h p0).bind (fun x1 =>
    (rh_loop (b_Mo_sum_r4_6 T p0) rh_N (x1.1, x1.2)).bind (fun r14 =>
      some ((r14.1, r14.2))
    )
  )
set_option maxRecDepth 20000 in
set_option maxHeartbeats 4000000 in
theorem lj_Mo_sum_r4_31 (d : Nat) (T : (Nat → Nat → Int32) → Int32 → Option (Int32 × (Nat → Nat → Int32))) (hT : ∀ (h : Nat → Nat → Int32) (g : Nat → Nat → Int64) (a0 : Int32) z, T h a0 = some z → rh_M rh_PT mw_L (d + 6) 203 [.ref 0, .int a0] (h, g, mw_R (some 4)) (some (.int z.1)) (z.2, g, mw_R (some 4))) (h : Nat → Nat → Int32) (u1 : Int32) (j2 : Int32) (g : Nat → Nat → Int64) (v9 : Option Value) (h9 : rh_H) (x9 : (Int32 × (Nat → Nat → Int32)) ⊕ (Int32 × (Nat → Nat → Int32))) (hf : j_Mo_sum_r4_31 T h u1 j2 = some x9) (hk : Sum.elim (fun s6 => rh_Ex (rh_M rh_PT mw_L (d + 7)) mw_L pg_X12_sum ((6, [some (.ref 0), some (.int u1), some (.int s6.1), none, none], []), (s6.2, g, mw_R (some 4))) v9 h9) (fun e9 => rh_Ex (rh_M rh_PT mw_L (d + 7)) mw_L pg_X12_sum ((82, [none, none, some (.int e9.1), none, none], []), (e9.2, g, mw_R (some 4))) v9 h9) x9) : rh_Ex (rh_M rh_PT mw_L (d + 7)) mw_L pg_X12_sum ((31, [some (.ref 0), some (.int u1), some (.int j2), none, none], []), (h, g, mw_R (some 4))) v9 h9 := by
  unfold j_Mo_sum_r4_31 at hf
  refine rh_Ex.blk 1 (s' := ((32, [some (.ref 0), some (.int u1), some (.int j2), none, none], [.ref 0]), (h, g, mw_R (some 4)))) rfl ?_
  obtain ⟨x6, hx6, hf⟩ := rh_bq hf
  refine rh_Ex.call (j := 191) (rc := some 11) [.ref 0] [] (some (.int x6)) rfl rfl rfl (Nat.le_of_ble_eq_true rfl) (R_Mo_here_r4 (d + 6) h g  hx6) ?_
  show rh_Ex _ _ _ ((35, [some (.ref 0), some (.int u1), some (.int j2), none, none], [.int x6]), (h, g, mw_R (some 4))) _ _
  refine rh_Ex.blk 1 (s' := ((37, [some (.ref 0), some (.int u1), some (.int j2), none, none], [.int (43 : Int32), .int x6]), (h, g, mw_R (some 4)))) rfl ?_
  by_cases q7 : x6 = (43 : Int32)
  · rw [if_pos q7] at hf
    refine rh_Ex.stp (s' := ((40, [some (.ref 0), some (.int u1), some (.int j2), none, none], []), (h, g, mw_R (some 4)))) rfl (st_icne_p q7) ?_
    refine rh_Ex.blk 11 (s' := ((58, [some (.ref 0), some (.int u1), some (.int j2), some (.int (1 : Int32)), none], [.int u1, .ref 0]), (rh_up h 0 13 ((h 0 13) + (1 : Int32)), g, mw_R (some 4)))) rfl ?_
    obtain ⟨x8, hx8, hf⟩ := rh_bq hf
    refine rh_Ex.call (j := 202) (rc := some 11) [.ref 0, .int u1] [] (some (.int x8.1)) rfl rfl rfl (Nat.le_of_ble_eq_true rfl) (R_Mo_product_r4 d T hT (rh_up h 0 13 ((h 0 13) + (1 : Int32))) g u1 hx8) ?_
    show rh_Ex _ _ _ ((61, [some (.ref 0), some (.int u1), some (.int j2), some (.int (1 : Int32)), none], [.int x8.1]), (x8.2, g, mw_R (some 4))) _ _
    refine rh_Ex.blk 2 (s' := ((64, [some (.ref 0), some (.int u1), some (.int j2), some (.int (1 : Int32)), some (.int x8.1)], [.int (1 : Int32)]), (x8.2, g, mw_R (some 4)))) rfl ?_
    by_cases q9 : (1 : Int32) = 0
    · rw [if_pos q9] at hf
      refine rh_Ex.stp (s' := ((74, [some (.ref 0), some (.int u1), some (.int j2), some (.int (1 : Int32)), some (.int x8.1)], []), (x8.2, g, mw_R (some 4)))) rfl (st_ifeq_p q9) ?_
      refine rh_Ex.blk 5 (s' := ((6, [some (.ref 0), some (.int u1), some (.int (j2 - x8.1)), some (.int (1 : Int32)), some (.int x8.1)], []), (x8.2, g, mw_R (some 4)))) rfl ?_
      obtain rfl := Option.some.inj hf
      refine rh_Ex.fgt [some (.ref 0), some (.int u1), some (.int (j2 - x8.1)), none, none] ⟨rfl, rfl, rfl, trivial⟩ ?_
      exact hk
    · rw [if_neg q9] at hf
      refine rh_Ex.stp (s' := ((67, [some (.ref 0), some (.int u1), some (.int j2), some (.int (1 : Int32)), some (.int x8.1)], []), (x8.2, g, mw_R (some 4)))) rfl (st_ifeq_n q9) ?_
      refine rh_Ex.blk 6 (s' := ((6, [some (.ref 0), some (.int u1), some (.int (j2 + x8.1)), some (.int (1 : Int32)), some (.int x8.1)], []), (x8.2, g, mw_R (some 4)))) rfl ?_
      obtain rfl := Option.some.inj hf
      refine rh_Ex.fgt [some (.ref 0), some (.int u1), some (.int (j2 + x8.1)), none, none] ⟨rfl, rfl, rfl, trivial⟩ ?_
      exact hk
  · rw [if_neg q7] at hf
    refine rh_Ex.stp (s' := ((44, [some (.ref 0), some (.int u1), some (.int j2), none, none], []), (h, g, mw_R (some 4)))) rfl (st_icne_n q7) ?_
    refine rh_Ex.blk 10 (s' := ((58, [some (.ref 0), some (.int u1), some (.int j2), some (.int (0 : Int32)), none], [.int u1, .ref 0]), (rh_up h 0 13 ((h 0 13) + (1 : Int32)), g, mw_R (some 4)))) rfl ?_
    obtain ⟨x10, hx10, hf⟩ := rh_bq hf
    refine rh_Ex.call (j := 202) (rc := some 11) [.ref 0, .int u1] [] (some (.int x10.1)) rfl rfl rfl (Nat.le_of_ble_eq_true rfl) (R_Mo_product_r4 d T hT (rh_up h 0 13 ((h 0 13) + (1 : Int32))) g u1 hx10) ?_
    show rh_Ex _ _ _ ((61, [some (.ref 0), some (.int u1), some (.int j2), some (.int (0 : Int32)), none], [.int x10.1]), (x10.2, g, mw_R (some 4))) _ _
    refine rh_Ex.blk 2 (s' := ((64, [some (.ref 0), some (.int u1), some (.int j2), some (.int (0 : Int32)), some (.int x10.1)], [.int (0 : Int32)]), (x10.2, g, mw_R (some 4)))) rfl ?_
    by_cases q11 : (0 : Int32) = 0
    · rw [if_pos q11] at hf
      refine rh_Ex.stp (s' := ((74, [some (.ref 0), some (.int u1), some (.int j2), some (.int (0 : Int32)), some (.int x10.1)], []), (x10.2, g, mw_R (some 4)))) rfl (st_ifeq_p q11) ?_
      refine rh_Ex.blk 5 (s' := ((6, [some (.ref 0), some (.int u1), some (.int (j2 - x10.1)), some (.int (0 : Int32)), some (.int x10.1)], []), (x10.2, g, mw_R (some 4)))) rfl ?_
      obtain rfl := Option.some.inj hf
      refine rh_Ex.fgt [some (.ref 0), some (.int u1), some (.int (j2 - x10.1)), none, none] ⟨rfl, rfl, rfl, trivial⟩ ?_
      exact hk
    · rw [if_neg q11] at hf
      refine rh_Ex.stp (s' := ((67, [some (.ref 0), some (.int u1), some (.int j2), some (.int (0 : Int32)), some (.int x10.1)], []), (x10.2, g, mw_R (some 4)))) rfl (st_ifeq_n q11) ?_
      refine rh_Ex.blk 6 (s' := ((6, [some (.ref 0), some (.int u1), some (.int (j2 + x10.1)), some (.int (0 : Int32)), some (.int x10.1)], []), (x10.2, g, mw_R (some 4)))) rfl ?_
      obtain rfl := Option.some.inj hf
      refine rh_Ex.fgt [some (.ref 0), some (.int u1), some (.int (j2 + x10.1)), none, none] ⟨rfl, rfl, rfl, trivial⟩ ?_
      exact hk
set_option maxRecDepth 20000 in
set_option maxHeartbeats 4000000 in
theorem lb_Mo_sum_r4_6 (d : Nat) (T : (Nat → Nat → Int32) → Int32 → Option (Int32 × (Nat → Nat → Int32))) (hT : ∀ (h : Nat → Nat → Int32) (g : Nat → Nat → Int64) (a0 : Int32) z, T h a0 = some z → rh_M rh_PT mw_L (d + 6) 203 [.ref 0, .int a0] (h, g, mw_R (some 4)) (some (.int z.1)) (z.2, g, mw_R (some 4))) (u1 : Int32) (g : Nat → Nat → Int64) (v9 : Option Value) (h9 : rh_H) : ∀ s6 x9, b_Mo_sum_r4_6 T u1 s6 = some x9 → Sum.elim (fun s6 => rh_Ex (rh_M rh_PT mw_L (d + 7)) mw_L pg_X12_sum ((6, [some (.ref 0), some (.int u1), some (.int s6.1), none, none], []), (s6.2, g, mw_R (some 4))) v9 h9) (fun e9 => rh_Ex (rh_M rh_PT mw_L (d + 7)) mw_L pg_X12_sum ((82, [none, none, some (.int e9.1), none, none], []), (e9.2, g, mw_R (some 4))) v9 h9) x9 → rh_Ex (rh_M rh_PT mw_L (d + 7)) mw_L pg_X12_sum ((6, [some (.ref 0), some (.int u1), some (.int s6.1), none, none], []), (s6.2, g, mw_R (some 4))) v9 h9 := by
  intro s6 x9 hf hk
  unfold b_Mo_sum_r4_6 at hf
  refine rh_Ex.blk 1 (s' := ((7, [some (.ref 0), some (.int u1), some (.int s6.1), none, none], [.ref 0]), (s6.2, g, mw_R (some 4)))) rfl ?_
  refine rh_Ex.call (j := 192) (rc := some 11) [.ref 0] [] (some (.int (f_Mo_fine s6.2))) rfl rfl rfl (Nat.le_of_ble_eq_true rfl) (R_Mo_fine (d + 6) (some 4) s6.2 g  rfl) ?_
  show rh_Ex _ _ _ ((10, [some (.ref 0), some (.int u1), some (.int s6.1), none, none], [.int (f_Mo_fine s6.2)]), (s6.2, g, mw_R (some 4))) _ _
  by_cases q3 : (f_Mo_fine s6.2) = 0
  · rw [if_pos q3] at hf
    refine rh_Ex.stp (s' := ((82, [some (.ref 0), some (.int u1), some (.int s6.1), none, none], []), (s6.2, g, mw_R (some 4)))) rfl (st_ifeq_p q3) ?_
    obtain rfl := Option.some.inj hf
    refine rh_Ex.fgt [none, none, some (.int s6.1), none, none] ⟨rfl, trivial⟩ ?_
    exact hk
  · rw [if_neg q3] at hf
    refine rh_Ex.stp (s' := ((13, [some (.ref 0), some (.int u1), some (.int s6.1), none, none], []), (s6.2, g, mw_R (some 4)))) rfl (st_ifeq_n q3) ?_
    refine rh_Ex.blk 1 (s' := ((14, [some (.ref 0), some (.int u1), some (.int s6.1), none, none], [.ref 0]), (s6.2, g, mw_R (some 4)))) rfl ?_
    obtain ⟨x4, hx4, hf⟩ := rh_bq hf
    refine rh_Ex.call (j := 191) (rc := some 11) [.ref 0] [] (some (.int x4)) rfl rfl rfl (Nat.le_of_ble_eq_true rfl) (R_Mo_here_r4 (d + 6) s6.2 g  hx4) ?_
    show rh_Ex _ _ _ ((17, [some (.ref 0), some (.int u1), some (.int s6.1), none, none], [.int x4]), (s6.2, g, mw_R (some 4))) _ _
    refine rh_Ex.blk 1 (s' := ((19, [some (.ref 0), some (.int u1), some (.int s6.1), none, none], [.int (43 : Int32), .int x4]), (s6.2, g, mw_R (some 4)))) rfl ?_
    by_cases q5 : x4 = (43 : Int32)
    · rw [if_pos q5] at hf
      refine rh_Ex.stp (s' := ((31, [some (.ref 0), some (.int u1), some (.int s6.1), none, none], []), (s6.2, g, mw_R (some 4)))) rfl (st_iceq_p q5) ?_
      refine rh_Ex.fgt [some (.ref 0), some (.int u1), some (.int s6.1), none, none] ⟨rfl, rfl, rfl, trivial⟩ ?_
      exact lj_Mo_sum_r4_31 d T hT s6.2 u1 s6.1 g _ _ _ hf hk
    · rw [if_neg q5] at hf
      refine rh_Ex.stp (s' := ((22, [some (.ref 0), some (.int u1), some (.int s6.1), none, none], []), (s6.2, g, mw_R (some 4)))) rfl (st_iceq_n q5) ?_
      refine rh_Ex.blk 1 (s' := ((23, [some (.ref 0), some (.int u1), some (.int s6.1), none, none], [.ref 0]), (s6.2, g, mw_R (some 4)))) rfl ?_
      obtain ⟨x12, hx12, hf⟩ := rh_bq hf
      refine rh_Ex.call (j := 191) (rc := some 11) [.ref 0] [] (some (.int x12)) rfl rfl rfl (Nat.le_of_ble_eq_true rfl) (R_Mo_here_r4 (d + 6) s6.2 g  hx12) ?_
      show rh_Ex _ _ _ ((26, [some (.ref 0), some (.int u1), some (.int s6.1), none, none], [.int x12]), (s6.2, g, mw_R (some 4))) _ _
      refine rh_Ex.blk 1 (s' := ((28, [some (.ref 0), some (.int u1), some (.int s6.1), none, none], [.int (45 : Int32), .int x12]), (s6.2, g, mw_R (some 4)))) rfl ?_
      by_cases q13 : x12 = (45 : Int32)
      · rw [if_pos q13] at hf
        refine rh_Ex.stp (s' := ((31, [some (.ref 0), some (.int u1), some (.int s6.1), none, none], []), (s6.2, g, mw_R (some 4)))) rfl (st_icne_p q13) ?_
        refine rh_Ex.fgt [some (.ref 0), some (.int u1), some (.int s6.1), none, none] ⟨rfl, rfl, rfl, trivial⟩ ?_
        exact lj_Mo_sum_r4_31 d T hT s6.2 u1 s6.1 g _ _ _ hf hk
      · rw [if_neg q13] at hf
        refine rh_Ex.stp (s' := ((82, [some (.ref 0), some (.int u1), some (.int s6.1), none, none], []), (s6.2, g, mw_R (some 4)))) rfl (st_icne_n q13) ?_
        obtain rfl := Option.some.inj hf
        refine rh_Ex.fgt [none, none, some (.int s6.1), none, none] ⟨rfl, trivial⟩ ?_
        exact hk
set_option maxRecDepth 20000 in
set_option maxHeartbeats 4000000 in
theorem R_Mo_sum_r4 (d : Nat) (T : (Nat → Nat → Int32) → Int32 → Option (Int32 × (Nat → Nat → Int32))) (hT : ∀ (h : Nat → Nat → Int32) (g : Nat → Nat → Int64) (a0 : Int32) z, T h a0 = some z → rh_M rh_PT mw_L (d + 6) 203 [.ref 0, .int a0] (h, g, mw_R (some 4)) (some (.int z.1)) (z.2, g, mw_R (some 4))) (h : Nat → Nat → Int32) (g : Nat → Nat → Int64) (p0 : Int32) {z9 : Int32 × (Nat → Nat → Int32)} (hf : f_Mo_sum_r4 T h p0 = some z9) : rh_M rh_PT mw_L (d + 8) 201 [.ref 0, .int p0] (h, g, mw_R (some 4)) (some (.int z9.1)) (z9.2, g, mw_R (some 4)) := by
  unfold f_Mo_sum_r4 at hf
  refine rh_go pt_201 (Nat.le_of_ble_eq_true rfl) (lv := [some (.ref 0), some (.int p0), none, none, none]) rfl ?_
  refine rh_Ex.blk 2 (s' := ((2, [some (.ref 0), some (.int p0), none, none, none], [.int p0, .ref 0]), (h, g, mw_R (some 4)))) rfl ?_
  obtain ⟨x1, hx1, hf⟩ := rh_bq hf
  refine rh_Ex.call (j := 202) (rc := some 11) [.ref 0, .int p0] [] (some (.int x1.1)) rfl rfl rfl (Nat.le_of_ble_eq_true rfl) (R_Mo_product_r4 d T hT h g p0 hx1) ?_
  show rh_Ex _ _ _ ((5, [some (.ref 0), some (.int p0), none, none, none], [.int x1.1]), (x1.2, g, mw_R (some 4))) _ _
  refine rh_Ex.blk 1 (s' := ((6, [some (.ref 0), some (.int p0), some (.int x1.1), none, none], []), (x1.2, g, mw_R (some 4)))) rfl ?_
  obtain ⟨r14, hr14, hf⟩ := rh_bq hf
  refine rh_Ex.fgt [some (.ref 0), some (.int p0), some (.int x1.1), none, none] ⟨rfl, rfl, rfl, trivial⟩ ?_
  refine rh_Ex.loop _ _ _ (lb_Mo_sum_r4_6 d T hT p0  g _ _) rh_N _ r14 hr14 ?_
  refine rh_Ex.blk 1 (s' := ((83, [none, none, some (.int r14.1), none, none], [.int r14.1]), (r14.2, g, mw_R (some 4)))) rfl ?_
  obtain rfl := Option.some.inj hf
  exact rh_Ex.ret rfl rfl
