def f_In_bitCount (p0 : Int32) : Int32 :=
  ((((((((p0 - (((p0.toUInt32 >>> ((1 : Int32).toUInt32 &&& Int32.toUInt32 31)).toInt32) &&& (1431655765 : Int32))) &&& (858993459 : Int32)) + ((((p0 - (((p0.toUInt32 >>> ((1 : Int32).toUInt32 &&& Int32.toUInt32 31)).toInt32) &&& (1431655765 : Int32))).toUInt32 >>> ((2 : Int32).toUInt32 &&& Int32.toUInt32 31)).toInt32) &&& (858993459 : Int32))) + (((((p0 - (((p0.toUInt32 >>> ((1 : Int32).toUInt32 &&& Int32.toUInt32 31)).toInt32) &&& (1431655765 : Int32))) &&& (858993459 : Int32)) + ((((p0 - (((p0.toUInt32 >>> ((1 : Int32).toUInt32 &&& Int32.toUInt32 31)).toInt32) &&& (1431655765 : Int32))).toUInt32 >>> ((2 : Int32).toUInt32 &&& Int32.toUInt32 31)).toInt32) &&& (858993459 : Int32))).toUInt32 >>> ((4 : Int32).toUInt32 &&& Int32.toUInt32 31)).toInt32)) &&& (252645135 : Int32)) + (((((((p0 - (((p0.toUInt32 >>> ((1 : Int32).toUInt32 &&& Int32.toUInt32 31)).toInt32) &&& (1431655765 : Int32))) &&& (858993459 : Int32)) + ((((p0 - (((p0.toUInt32 >>> ((1 : Int32).toUInt32 &&& Int32.toUInt32 31)).toInt32) &&& (1431655765 : Int32))).toUInt32 >>> ((2 : Int32).toUInt32 &&& Int32.toUInt32 31)).toInt32) &&& (858993459 : Int32))) + (((((p0 - (((p0.toUInt32 >>> ((1 : Int32).toUInt32 &&& Int32.toUInt32 31)).toInt32) &&& (1431655765 : Int32))) &&& (858993459 : Int32)) + ((((p0 - (((p0.toUInt32 >>> ((1 : Int32).toUInt32 &&& Int32.toUInt32 31)).toInt32) &&& (1431655765 : Int32))).toUInt32 >>> ((2 : Int32).toUInt32 &&& Int32.toUInt32 31)).toInt32) &&& (858993459 : Int32))).toUInt32 >>> ((4 : Int32).toUInt32 &&& Int32.toUInt32 31)).toInt32)) &&& (252645135 : Int32)).toUInt32 >>> ((8 : Int32).toUInt32 &&& Int32.toUInt32 31)).toInt32)) + ((((((((p0 - (((p0.toUInt32 >>> ((1 : Int32).toUInt32 &&& Int32.toUInt32 31)).toInt32) &&& (1431655765 : Int32))) &&& (858993459 : Int32)) + ((((p0 - (((p0.toUInt32 >>> ((1 : Int32).toUInt32 &&& Int32.toUInt32 31)).toInt32) &&& (1431655765 : Int32))).toUInt32 >>> ((2 : Int32).toUInt32 &&& Int32.toUInt32 31)).toInt32) &&& (858993459 : Int32))) + (((((p0 - (((p0.toUInt32 >>> ((1 : Int32).toUInt32 &&& Int32.toUInt32 31)).toInt32) &&& (1431655765 : Int32))) &&& (858993459 : Int32)) + ((((p0 - (((p0.toUInt32 >>> ((1 : Int32).toUInt32 &&& Int32.toUInt32 31)).toInt32) &&& (1431655765 : Int32))).toUInt32 >>> ((2 : Int32).toUInt32 &&& Int32.toUInt32 31)).toInt32) &&& (858993459 : Int32))).toUInt32 >>> ((4 : Int32).toUInt32 &&& Int32.toUInt32 31)).toInt32)) &&& (252645135 : Int32)) + (((((((p0 - (((p0.toUInt32 >>> ((1 : Int32).toUInt32 &&& Int32.toUInt32 31)).toInt32) &&& (1431655765 : Int32))) &&& (858993459 : Int32)) + ((((p0 - (((p0.toUInt32 >>> ((1 : Int32).toUInt32 &&& Int32.toUInt32 31)).toInt32) &&& (1431655765 : Int32))).toUInt32 >>> ((2 : Int32).toUInt32 &&& Int32.toUInt32 31)).toInt32) &&& (858993459 : Int32))) + (((((p0 - (((p0.toUInt32 >>> ((1 : Int32).toUInt32 &&& Int32.toUInt32 31)).toInt32) &&& (1431655765 : Int32))) &&& (858993459 : Int32)) + ((((p0 - (((p0.toUInt32 >>> ((1 : Int32).toUInt32 &&& Int32.toUInt32 31)).toInt32) &&& (1431655765 : Int32))).toUInt32 >>> ((2 : Int32).toUInt32 &&& Int32.toUInt32 31)).toInt32) &&& (858993459 : Int32))).toUInt32 >>> ((4 : Int32).toUInt32 &&& Int32.toUInt32 31)).toInt32)) &&& (252645135 : Int32)).toUInt32 >>> ((8 : Int32).toUInt32 &&& Int32.toUInt32 31)).toInt32)).toUInt32 >>> ((16 : Int32).toUInt32 &&& Int32.toUInt32 31)).toInt32)) &&& (63 : Int32))
set_option maxRecDepth 20000 in
set_option maxHeartbeats 4000000 in
theorem R_In_bitCount (d : Nat) (LL : rh_L) (rr : Nat → Nat → Option Nat) (h : Nat → Nat → Int32) (g : Nat → Nat → Int64) (p0 : Int32) {z9 : Int32} (hf : f_In_bitCount p0 = z9) : rh_M rh_PT LL (d + 1) 298 [.int p0] (h, g, rr) (some (.int z9)) (h, g, rr) := by
  unfold f_In_bitCount at hf
  refine rh_go pt_298 (Nat.le_of_ble_eq_true rfl) (lv := [some (.int p0)]) rfl ?_
  refine rh_Ex.blk 41 (s' := ((52, [some (.int (((((((p0 - (((p0.toUInt32 >>> ((1 : Int32).toUInt32 &&& Int32.toUInt32 31)).toInt32) &&& (1431655765 : Int32))) &&& (858993459 : Int32)) + ((((p0 - (((p0.toUInt32 >>> ((1 : Int32).toUInt32 &&& Int32.toUInt32 31)).toInt32) &&& (1431655765 : Int32))).toUInt32 >>> ((2 : Int32).toUInt32 &&& Int32.toUInt32 31)).toInt32) &&& (858993459 : Int32))) + (((((p0 - (((p0.toUInt32 >>> ((1 : Int32).toUInt32 &&& Int32.toUInt32 31)).toInt32) &&& (1431655765 : Int32))) &&& (858993459 : Int32)) + ((((p0 - (((p0.toUInt32 >>> ((1 : Int32).toUInt32 &&& Int32.toUInt32 31)).toInt32) &&& (1431655765 : Int32))).toUInt32 >>> ((2 : Int32).toUInt32 &&& Int32.toUInt32 31)).toInt32) &&& (858993459 : Int32))).toUInt32 >>> ((4 : Int32).toUInt32 &&& Int32.toUInt32 31)).toInt32)) &&& (252645135 : Int32)) + (((((((p0 - (((p0.toUInt32 >>> ((1 : Int32).toUInt32 &&& Int32.toUInt32 31)).toInt32) &&& (1431655765 : Int32))) &&& (858993459 : Int32)) + ((((p0 - (((p0.toUInt32 >>> ((1 : Int32).toUInt32 &&& Int32.toUInt32 31)).toInt32) &&& (1431655765 : Int32))).toUInt32 >>> ((2 : Int32).toUInt32 &&& Int32.toUInt32 31)).toInt32) &&& (858993459 : Int32))) + (((((p0 - (((p0.toUInt32 >>> ((1 : Int32).toUInt32 &&& Int32.toUInt32 31)).toInt32) &&& (1431655765 : Int32))) &&& (858993459 : Int32)) + ((((p0 - (((p0.toUInt32 >>> ((1 : Int32).toUInt32 &&& Int32.toUInt32 31)).toInt32) &&& (1431655765 : Int32))).toUInt32 >>> ((2 : Int32).toUInt32 &&& Int32.toUInt32 31)).toInt32) &&& (858993459 : Int32))).toUInt32 >>> ((4 : Int32).toUInt32 &&& Int32.toUInt32 31)).toInt32)) &&& (252645135 : Int32)).toUInt32 >>> ((8 : Int32).toUInt32 &&& Int32.toUInt32 31)).toInt32)) + ((((((((p0 - (((p0.toUInt32 >>> ((1 : Int32).toUInt32 &&& Int32.toUInt32 31)).toInt32) &&& (1431655765 : Int32))) &&& (858993459 : Int32)) + ((((p0 - (((p0.toUInt32 >>> ((1 : Int32).toUInt32 &&& Int32.toUInt32 31)).toInt32) &&& (1431655765 : Int32))).toUInt32 >>> ((2 : Int32).toUInt32 &&& Int32.toUInt32 31)).toInt32) &&& (858993459 : Int32))) + (((((p0 - (((p0.toUInt32 >>> ((1 : Int32).toUInt32 &&& Int32.toUInt32 31)).toInt32) &&& (1431655765 : Int32))) &&& (858993459 : Int32)) + ((((p0 - (((p0.toUInt32 >>> ((1 : Int32).toUInt32 &&& Int32.toUInt32 31)).toInt32) &&& (1431655765 : Int32))).toUInt32 >>> ((2 : Int32).toUInt32 &&& Int32.toUInt32 31)).toInt32) &&& (858993459 : Int32))).toUInt32 >>> ((4 : Int32).toUInt32 &&& Int32.toUInt32 31)).toInt32)) &&& (252645135 : Int32)) + (((((((p0 - (((p0.toUInt32 >>> ((1 : Int32).toUInt32 &&& Int32.toUInt32 31)).toInt32) &&& (1431655765 : Int32))) &&& (858993459 : Int32)) + ((((p0 - (((p0.toUInt32 >>> ((1 : Int32).toUInt32 &&& Int32.toUInt32 31)).toInt32) &&& (1431655765 : Int32))).toUInt32 >>> ((2 : Int32).toUInt32 &&& Int32.toUInt32 31)).toInt32) &&& (858993459 : Int32))) + (((((p0 - (((p0.toUInt32 >>> ((1 : Int32).toUInt32 &&& Int32.toUInt32 31)).toInt32) &&& (1431655765 : Int32))) &&& (858993459 : Int32)) + ((((p0 - (((p0.toUInt32 >>> ((1 : Int32).toUInt32 &&& Int32.toUInt32 31)).toInt32) &&& (1431655765 : Int32))).toUInt32 >>> ((2 : Int32).toUInt32 &&& Int32.toUInt32 31)).toInt32) &&& (858993459 : Int32))).toUInt32 >>> ((4 : Int32).toUInt32 &&& Int32.toUInt32 31)).toInt32)) &&& (252645135 : Int32)).toUInt32 >>> ((8 : Int32).toUInt32 &&& Int32.toUInt32 31)).toInt32)).toUInt32 >>> ((16 : Int32).toUInt32 &&& Int32.toUInt32 31)).toInt32)))], [.int ((((((((p0 - (((p0.toUInt32 >>> ((1 : Int32).toUInt32 &&& Int32.toUInt32 31)).toInt32) &&& (1431655765 : Int32))) &&& (858993459 : Int32)) + ((((p0 - (((p0.toUInt32 >>> ((1 : Int32).toUInt32 &&& Int32.toUInt32 31)).toInt32) &&& (1431655765 : Int32))).toUInt32 >>> ((2 : Int32).toUInt32 &&& Int32.toUInt32 31)).toInt32) &&& (858993459 : Int32))) + (((((p0 - (((p0.toUInt32 >>> ((1 : Int32).toUInt32 &&& Int32.toUInt32 31)).toInt32) &&& (1431655765 : Int32))) &&& (858993459 : Int32)) + ((((p0 - (((p0.toUInt32 >>> ((1 : Int32).toUInt32 &&& Int32.toUInt32 31)).toInt32) &&& (1431655765 : Int32))).toUInt32 >>> ((2 : Int32).toUInt32 &&& Int32.toUInt32 31)).toInt32) &&& (858993459 : Int32))).toUInt32 >>> ((4 : Int32).toUInt32 &&& Int32.toUInt32 31)).toInt32)) &&& (252645135 : Int32)) + (((((((p0 - (((p0.toUInt32 >>> ((1 : Int32).toUInt32 &&& Int32.toUInt32 31)).toInt32) &&& (1431655765 : Int32))) &&& (858993459 : Int32)) + ((((p0 - (((p0.toUInt32 >>> ((1 : Int32).toUInt32 &&& Int32.toUInt32 31)).toInt32) &&& (1431655765 : Int32))).toUInt32 >>> ((2 : Int32).toUInt32 &&& Int32.toUInt32 31)).toInt32) &&& (858993459 : Int32))) + (((((p0 - (((p0.toUInt32 >>> ((1 : Int32).toUInt32 &&& Int32.toUInt32 31)).toInt32) &&& (1431655765 : Int32))) &&& (858993459 : Int32)) + ((((p0 - (((p0.toUInt32 >>> ((1 : Int32).toUInt32 &&& Int32.toUInt32 31)).toInt32) &&& (1431655765 : Int32))).toUInt32 >>> ((2 : Int32).toUInt32 &&& Int32.toUInt32 31)).toInt32) &&& (858993459 : Int32))).toUInt32 >>> ((4 : Int32).toUInt32 &&& Int32.toUInt32 31)).toInt32)) &&& (252645135 : Int32)).toUInt32 >>> ((8 : Int32).toUInt32 &&& Int32.toUInt32 31)).toInt32)) + ((((((((p0 - (((p0.toUInt32 >>> ((1 : Int32).toUInt32 &&& Int32.toUInt32 31)).toInt32) &&& (1431655765 : Int32))) &&& (858993459 : Int32)) + ((((p0 - (((p0.toUInt32 >>> ((1 : Int32).toUInt32 &&& Int32.toUInt32 31)).toInt32) &&& (1431655765 : Int32))).toUInt32 >>> ((2 : Int32).toUInt32 &&& Int32.toUInt32 31)).toInt32) &&& (858993459 : Int32))) + (((((p0 - (((p0.toUInt32 >>> ((1 : Int32).toUInt32 &&& Int32.toUInt32 31)).toInt32) &&& (1431655765 : Int32))) &&& (858993459 : Int32)) + ((((p0 - (((p0.toUInt32 >>> ((1 : Int32).toUInt32 &&& Int32.toUInt32 31)).toInt32) &&& (1431655765 : Int32))).toUInt32 >>> ((2 : Int32).toUInt32 &&& Int32.toUInt32 31)).toInt32) &&& (858993459 : Int32))).toUInt32 >>> ((4 : Int32).toUInt32 &&& Int32.toUInt32 31)).toInt32)) &&& (252645135 : Int32)) + (((((((p0 - (((p0.toUInt32 >>> ((1 : Int32).toUInt32 &&& Int32.toUInt32 31)).toInt32) &&& (1431655765 : Int32))) &&& (858993459 : Int32)) + ((((p0 - (((p0.toUInt32 >>> ((1 : Int32).toUInt32 &&& Int32.toUInt32 31)).toInt32) &&& (1431655765 : Int32))).toUInt32 >>> ((2 : Int32).toUInt32 &&& Int32.toUInt32 31)).toInt32) &&& (858993459 : Int32))) + (((((p0 - (((p0.toUInt32 >>> ((1 : Int32).toUInt32 &&& Int32.toUInt32 31)).toInt32) &&& (1431655765 : Int32))) &&& (858993459 : Int32)) + ((((p0 - (((p0.toUInt32 >>> ((1 : Int32).toUInt32 &&& Int32.toUInt32 31)).toInt32) &&& (1431655765 : Int32))).toUInt32 >>> ((2 : Int32).toUInt32 &&& Int32.toUInt32 31)).toInt32) &&& (858993459 : Int32))).toUInt32 >>> ((4 : Int32).toUInt32 &&& Int32.toUInt32 31)).toInt32)) &&& (252645135 : Int32)).toUInt32 >>> ((8 : Int32).toUInt32 &&& Int32.toUInt32 31)).toInt32)).toUInt32 >>> ((16 : Int32).toUInt32 &&& Int32.toUInt32 31)).toInt32)) &&& (63 : Int32))]), (h, g, rr))) rfl ?_
  subst hf
  exact rh_Ex.ret rfl rfl
def b_Ta_mostAtOnce_2 (g : Nat → Nat → Int64) : (Int32 × (Nat → Nat → Int32)) → Option ((Int32 × (Nat → Nat → Int32)) ⊕ ((Nat → Nat → Int32))) := fun s2 =>
  if (f_Cr_sets s2.2) ≤ s2.1 then
    some (.inr s2.2)
  else
    rh_g (0 ≤ s2.1.toInt ∧ s2.1.toInt < ((512 : Nat) : Int)) (
      (f_Ta_suitedBy s2.2 (s2.2 12 s2.1.toNatClampNeg)).bind (fun x4 =>
        rh_g (0 ≤ s2.1.toInt ∧ s2.1.toInt < ((512 : Nat) : Int)) (
          some (.inl (s2.1 + (1 : Int32), rh_up s2.2 31 s2.1.toNatClampNeg x4))
        )
      )
    )
def b_Ta_mostAtOnce_41 (h : Nat → Nat → Int32) : (Int32 × (Nat → Nat → Int64)) → Option ((Int32 × (Nat → Nat → Int64)) ⊕ ((Nat → Nat → Int64))) := fun s41 =>
  if (f_Cr_sets h) ≤ s41.1 then
    some (.inr s41.2)
  else
    (f_Ta_groupsOf h s41.2 s41.1).bind (fun x9 =>
      rh_g (0 ≤ s41.1.toInt ∧ s41.1.toInt < ((512 : Nat) : Int)) (
        some (.inl (s41.1 + (1 : Int32), rh_up s41.2 30 s41.1.toNatClampNeg x9))
      )
    )
def j_Ta_mostAtOnce_101 (h : Nat → Nat → Int32) (g : Nat → Nat → Int64) (j2 : Int32) (j3 : Int32) (k0 : Int32) : Option ((Int32 × Int32) ⊕ (Int32)) :=
  if k0 = 0 then
    some (.inl (j2, j3 + (1 : Int32)))
  else
    if (f_In_bitCount j3) ≤ (f_In_bitCount j2) then
      some (.inl (j2, j3 + (1 : Int32)))
    else
      some (.inl (j3, j3 + (1 : Int32)))
def b_Ta_mostAtOnce_70 (h : Nat → Nat → Int32) (g : Nat → Nat → Int64) : (Int32 × Int32) → Option ((Int32 × Int32) ⊕ (Int32)) := fun s70 =>
  if (64 : Int32) ≤ s70.2 then
    some (.inr s70.1)
  else
    rh_g (0 ≤ ((f_Cr_sets h) - (1 : Int32)).toInt ∧ ((f_Cr_sets h) - (1 : Int32)).toInt < ((512 : Nat) : Int)) (
      if (lg_cmp ((((g 30 ((f_Cr_sets h) - (1 : Int32)).toNatClampNeg).toUInt64 >>> (s70.2.toInt64.toUInt64 &&& Int64.toUInt64 63)).toInt64) &&& (1 : Int64)) (0 : Int64)) = 0 then
        j_Ta_mostAtOnce_101 h g s70.1 s70.2 (0 : Int32)
      else
        j_Ta_mostAtOnce_101 h g s70.1 s70.2 (1 : Int32)
    )
def f_Ta_mostAtOnce (h : Nat → Nat → Int32) (g : Nat → Nat → Int64) : Option (Int32 × (Nat → Nat → Int32) × (Nat → Nat → Int64)) :=
  (rh_loop (b_Ta_mostAtOnce_2 g) rh_N ((1 : Int32), h)).bind (fun r6 =>
    (rh_loop (b_Ta_mostAtOnce_41 r6) rh_N ((1 : Int32), rh_up g 30 (0 : Int32).toNatClampNeg (1 : Int64))).bind (fun r11 =>
      (rh_loop (b_Ta_mostAtOnce_70 r6 r11) rh_N ((0 : Int32), (0 : Int32))).bind (fun r18 =>
        some ((r18, r6, r11))
      )
    )
  )
set_option maxRecDepth 20000 in
set_option maxHeartbeats 4000000 in
theorem lb_Ta_mostAtOnce_2 (d : Nat) (xx : rh_L) (sv : Option Nat) (g : Nat → Nat → Int64) (v9 : Option Value) (h9 : rh_H) : ∀ s2 x9, b_Ta_mostAtOnce_2 g s2 = some x9 → Sum.elim (fun s2 => rh_Ex (rh_M rh_PT (cw_L ++ xx) (d + 2)) (cw_L ++ xx) pg_X10_mostAtOnce ((2, [some (.ref 25), some (.ref 4), some (.int s2.1), none, none], []), (s2.2, g, cw_R sv)) v9 h9) (fun e9 => rh_Ex (rh_M rh_PT (cw_L ++ xx) (d + 2)) (cw_L ++ xx) pg_X10_mostAtOnce ((32, [some (.ref 25), some (.ref 4), none, none, none], []), (e9, g, cw_R sv)) v9 h9) x9 → rh_Ex (rh_M rh_PT (cw_L ++ xx) (d + 2)) (cw_L ++ xx) pg_X10_mostAtOnce ((2, [some (.ref 25), some (.ref 4), some (.int s2.1), none, none], []), (s2.2, g, cw_R sv)) v9 h9 := by
  intro s2 x9 hf hk
  unfold b_Ta_mostAtOnce_2 at hf
  refine rh_Ex.blk 2 (s' := ((4, [some (.ref 25), some (.ref 4), some (.int s2.1), none, none], [.ref 4, .int s2.1]), (s2.2, g, cw_R sv))) rfl ?_
  refine rh_Ex.call (j := 2) (rc := some 0) [.ref 4] [.int s2.1] (some (.int (f_Cr_sets s2.2))) rfl rfl rfl (Nat.le_of_ble_eq_true rfl) (R_Cr_sets (d + 1) xx sv s2.2 g  rfl) ?_
  show rh_Ex _ _ _ ((7, [some (.ref 25), some (.ref 4), some (.int s2.1), none, none], [.int (f_Cr_sets s2.2), .int s2.1]), (s2.2, g, cw_R sv)) _ _
  by_cases q2 : (f_Cr_sets s2.2) ≤ s2.1
  · rw [if_pos q2] at hf
    refine rh_Ex.stp (s' := ((32, [some (.ref 25), some (.ref 4), some (.int s2.1), none, none], []), (s2.2, g, cw_R sv))) rfl (st_icge_p q2) ?_
    obtain rfl := Option.some.inj hf
    refine rh_Ex.fgt [some (.ref 25), some (.ref 4), none, none, none] ⟨rfl, rfl, trivial⟩ ?_
    exact hk
  · rw [if_neg q2] at hf
    refine rh_Ex.stp (s' := ((10, [some (.ref 25), some (.ref 4), some (.int s2.1), none, none], []), (s2.2, g, cw_R sv))) rfl (st_icge_n q2) ?_
    refine rh_Ex.blk 7 (s' := ((21, [some (.ref 25), some (.ref 4), some (.int s2.1), none, none], [.int s2.1, .ref 12, .ref 25, .int s2.1, .ref 31]), (s2.2, g, cw_R sv))) rfl ?_
    obtain ⟨q3, hf⟩ := rh_gq hf
    refine rh_Ex.stp (s' := ((22, [some (.ref 25), some (.ref 4), some (.int s2.1), none, none], [.int (s2.2 12 s2.1.toNatClampNeg), .ref 25, .int s2.1, .ref 31]), (s2.2, g, cw_R sv))) rfl (st_iald (n := 512) rfl q3) ?_
    obtain ⟨x4, hx4, hf⟩ := rh_bq hf
    refine rh_Ex.call (j := 92) (rc := some 9) [.ref 25, .int (s2.2 12 s2.1.toNatClampNeg)] [.int s2.1, .ref 31] (some (.int x4)) rfl rfl rfl (Nat.le_of_ble_eq_true rfl) (R_Ta_suitedBy d xx sv s2.2 g (s2.2 12 s2.1.toNatClampNeg) hx4) ?_
    show rh_Ex _ _ _ ((25, [some (.ref 25), some (.ref 4), some (.int s2.1), none, none], [.int x4, .int s2.1, .ref 31]), (s2.2, g, cw_R sv)) _ _
    obtain ⟨q5, hf⟩ := rh_gq hf
    refine rh_Ex.stp (s' := ((26, [some (.ref 25), some (.ref 4), some (.int s2.1), none, none], []), (rh_up s2.2 31 s2.1.toNatClampNeg x4, g, cw_R sv))) rfl (st_iast (n := 512) rfl q5) ?_
    refine rh_Ex.blk 2 (s' := ((2, [some (.ref 25), some (.ref 4), some (.int (s2.1 + (1 : Int32))), none, none], []), (rh_up s2.2 31 s2.1.toNatClampNeg x4, g, cw_R sv))) rfl ?_
    obtain rfl := Option.some.inj hf
    refine rh_Ex.fgt [some (.ref 25), some (.ref 4), some (.int (s2.1 + (1 : Int32))), none, none] ⟨rfl, rfl, rfl, trivial⟩ ?_
    exact hk
set_option maxRecDepth 20000 in
set_option maxHeartbeats 4000000 in
theorem lb_Ta_mostAtOnce_41 (d : Nat) (xx : rh_L) (sv : Option Nat) (h : Nat → Nat → Int32) (v9 : Option Value) (h9 : rh_H) : ∀ s41 x9, b_Ta_mostAtOnce_41 h s41 = some x9 → Sum.elim (fun s41 => rh_Ex (rh_M rh_PT (cw_L ++ xx) (d + 2)) (cw_L ++ xx) pg_X10_mostAtOnce ((41, [some (.ref 25), some (.ref 4), some (.int s41.1), none, none], []), (h, s41.2, cw_R sv)) v9 h9) (fun e9 => rh_Ex (rh_M rh_PT (cw_L ++ xx) (d + 2)) (cw_L ++ xx) pg_X10_mostAtOnce ((66, [some (.ref 25), some (.ref 4), none, none, none], []), (h, e9, cw_R sv)) v9 h9) x9 → rh_Ex (rh_M rh_PT (cw_L ++ xx) (d + 2)) (cw_L ++ xx) pg_X10_mostAtOnce ((41, [some (.ref 25), some (.ref 4), some (.int s41.1), none, none], []), (h, s41.2, cw_R sv)) v9 h9 := by
  intro s41 x9 hf hk
  unfold b_Ta_mostAtOnce_41 at hf
  refine rh_Ex.blk 2 (s' := ((43, [some (.ref 25), some (.ref 4), some (.int s41.1), none, none], [.ref 4, .int s41.1]), (h, s41.2, cw_R sv))) rfl ?_
  refine rh_Ex.call (j := 2) (rc := some 0) [.ref 4] [.int s41.1] (some (.int (f_Cr_sets h))) rfl rfl rfl (Nat.le_of_ble_eq_true rfl) (R_Cr_sets (d + 1) xx sv h s41.2  rfl) ?_
  show rh_Ex _ _ _ ((46, [some (.ref 25), some (.ref 4), some (.int s41.1), none, none], [.int (f_Cr_sets h), .int s41.1]), (h, s41.2, cw_R sv)) _ _
  by_cases q8 : (f_Cr_sets h) ≤ s41.1
  · rw [if_pos q8] at hf
    refine rh_Ex.stp (s' := ((66, [some (.ref 25), some (.ref 4), some (.int s41.1), none, none], []), (h, s41.2, cw_R sv))) rfl (st_icge_p q8) ?_
    obtain rfl := Option.some.inj hf
    refine rh_Ex.fgt [some (.ref 25), some (.ref 4), none, none, none] ⟨rfl, rfl, trivial⟩ ?_
    exact hk
  · rw [if_neg q8] at hf
    refine rh_Ex.stp (s' := ((49, [some (.ref 25), some (.ref 4), some (.int s41.1), none, none], []), (h, s41.2, cw_R sv))) rfl (st_icge_n q8) ?_
    refine rh_Ex.blk 5 (s' := ((56, [some (.ref 25), some (.ref 4), some (.int s41.1), none, none], [.int s41.1, .ref 25, .int s41.1, .ref 30]), (h, s41.2, cw_R sv))) rfl ?_
    obtain ⟨x9, hx9, hf⟩ := rh_bq hf
    refine rh_Ex.call (j := 100) (rc := some 9) [.ref 25, .int s41.1] [.int s41.1, .ref 30] (some (.long x9)) rfl rfl rfl (Nat.le_of_ble_eq_true rfl) (R_Ta_groupsOf d xx sv h s41.2 s41.1 hx9) ?_
    show rh_Ex _ _ _ ((59, [some (.ref 25), some (.ref 4), some (.int s41.1), none, none], [.long x9, .int s41.1, .ref 30]), (h, s41.2, cw_R sv)) _ _
    obtain ⟨q10, hf⟩ := rh_gq hf
    refine rh_Ex.stp (s' := ((60, [some (.ref 25), some (.ref 4), some (.int s41.1), none, none], []), (h, rh_up s41.2 30 s41.1.toNatClampNeg x9, cw_R sv))) rfl (st_last (n := 512) rfl q10) ?_
    refine rh_Ex.blk 2 (s' := ((41, [some (.ref 25), some (.ref 4), some (.int (s41.1 + (1 : Int32))), none, none], []), (h, rh_up s41.2 30 s41.1.toNatClampNeg x9, cw_R sv))) rfl ?_
    obtain rfl := Option.some.inj hf
    refine rh_Ex.fgt [some (.ref 25), some (.ref 4), some (.int (s41.1 + (1 : Int32))), none, none] ⟨rfl, rfl, rfl, trivial⟩ ?_
    exact hk
set_option maxRecDepth 20000 in
set_option maxHeartbeats 4000000 in
theorem lj_Ta_mostAtOnce_101 (d : Nat) (xx : rh_L) (sv : Option Nat) (h : Nat → Nat → Int32) (g : Nat → Nat → Int64) (j2 : Int32) (j3 : Int32) (k0 : Int32) (v9 : Option Value) (h9 : rh_H) (x9 : (Int32 × Int32) ⊕ (Int32)) (hf : j_Ta_mostAtOnce_101 h g j2 j3 k0 = some x9) (hk : Sum.elim (fun s70 => rh_Ex (rh_M rh_PT (cw_L ++ xx) (d + 2)) (cw_L ++ xx) pg_X10_mostAtOnce ((70, [some (.ref 25), some (.ref 4), some (.int s70.1), some (.int s70.2), none], []), (h, g, cw_R sv)) v9 h9) (fun e9 => rh_Ex (rh_M rh_PT (cw_L ++ xx) (d + 2)) (cw_L ++ xx) pg_X10_mostAtOnce ((127, [none, none, some (.int e9), none, none], []), (h, g, cw_R sv)) v9 h9) x9) : rh_Ex (rh_M rh_PT (cw_L ++ xx) (d + 2)) (cw_L ++ xx) pg_X10_mostAtOnce ((101, [some (.ref 25), some (.ref 4), some (.int j2), some (.int j3), none], [.int k0]), (h, g, cw_R sv)) v9 h9 := by
  unfold j_Ta_mostAtOnce_101 at hf
  refine rh_Ex.blk 2 (s' := ((105, [some (.ref 25), some (.ref 4), some (.int j2), some (.int j3), some (.int k0)], [.int k0]), (h, g, cw_R sv))) rfl ?_
  by_cases q16 : k0 = 0
  · rw [if_pos q16] at hf
    refine rh_Ex.stp (s' := ((121, [some (.ref 25), some (.ref 4), some (.int j2), some (.int j3), some (.int k0)], []), (h, g, cw_R sv))) rfl (st_ifeq_p q16) ?_
    refine rh_Ex.blk 2 (s' := ((70, [some (.ref 25), some (.ref 4), some (.int j2), some (.int (j3 + (1 : Int32))), some (.int k0)], []), (h, g, cw_R sv))) rfl ?_
    obtain rfl := Option.some.inj hf
    refine rh_Ex.fgt [some (.ref 25), some (.ref 4), some (.int j2), some (.int (j3 + (1 : Int32))), none] ⟨rfl, rfl, rfl, rfl, trivial⟩ ?_
    exact hk
  · rw [if_neg q16] at hf
    refine rh_Ex.stp (s' := ((108, [some (.ref 25), some (.ref 4), some (.int j2), some (.int j3), some (.int k0)], []), (h, g, cw_R sv))) rfl (st_ifeq_n q16) ?_
    refine rh_Ex.blk 1 (s' := ((109, [some (.ref 25), some (.ref 4), some (.int j2), some (.int j3), some (.int k0)], [.int j3]), (h, g, cw_R sv))) rfl ?_
    refine rh_Ex.call (j := 298) (rc := none) [.int j3] [] (some (.int (f_In_bitCount j3))) rfl rfl trivial (Nat.le_of_ble_eq_true rfl) (R_In_bitCount (d + 1) (cw_L ++ xx) (cw_R sv) h g j3 rfl) ?_
    show rh_Ex _ _ _ ((112, [some (.ref 25), some (.ref 4), some (.int j2), some (.int j3), some (.int k0)], [.int (f_In_bitCount j3)]), (h, g, cw_R sv)) _ _
    refine rh_Ex.blk 1 (s' := ((113, [some (.ref 25), some (.ref 4), some (.int j2), some (.int j3), some (.int k0)], [.int j2, .int (f_In_bitCount j3)]), (h, g, cw_R sv))) rfl ?_
    refine rh_Ex.call (j := 298) (rc := none) [.int j2] [.int (f_In_bitCount j3)] (some (.int (f_In_bitCount j2))) rfl rfl trivial (Nat.le_of_ble_eq_true rfl) (R_In_bitCount (d + 1) (cw_L ++ xx) (cw_R sv) h g j2 rfl) ?_
    show rh_Ex _ _ _ ((116, [some (.ref 25), some (.ref 4), some (.int j2), some (.int j3), some (.int k0)], [.int (f_In_bitCount j2), .int (f_In_bitCount j3)]), (h, g, cw_R sv)) _ _
    by_cases q17 : (f_In_bitCount j3) ≤ (f_In_bitCount j2)
    · rw [if_pos q17] at hf
      refine rh_Ex.stp (s' := ((121, [some (.ref 25), some (.ref 4), some (.int j2), some (.int j3), some (.int k0)], []), (h, g, cw_R sv))) rfl (st_icle_p q17) ?_
      refine rh_Ex.blk 2 (s' := ((70, [some (.ref 25), some (.ref 4), some (.int j2), some (.int (j3 + (1 : Int32))), some (.int k0)], []), (h, g, cw_R sv))) rfl ?_
      obtain rfl := Option.some.inj hf
      refine rh_Ex.fgt [some (.ref 25), some (.ref 4), some (.int j2), some (.int (j3 + (1 : Int32))), none] ⟨rfl, rfl, rfl, rfl, trivial⟩ ?_
      exact hk
    · rw [if_neg q17] at hf
      refine rh_Ex.stp (s' := ((119, [some (.ref 25), some (.ref 4), some (.int j2), some (.int j3), some (.int k0)], []), (h, g, cw_R sv))) rfl (st_icle_n q17) ?_
      refine rh_Ex.blk 4 (s' := ((70, [some (.ref 25), some (.ref 4), some (.int j3), some (.int (j3 + (1 : Int32))), some (.int k0)], []), (h, g, cw_R sv))) rfl ?_
      obtain rfl := Option.some.inj hf
      refine rh_Ex.fgt [some (.ref 25), some (.ref 4), some (.int j3), some (.int (j3 + (1 : Int32))), none] ⟨rfl, rfl, rfl, rfl, trivial⟩ ?_
      exact hk
set_option maxRecDepth 20000 in
set_option maxHeartbeats 4000000 in
theorem lb_Ta_mostAtOnce_70 (d : Nat) (xx : rh_L) (sv : Option Nat) (h : Nat → Nat → Int32) (g : Nat → Nat → Int64) (v9 : Option Value) (h9 : rh_H) : ∀ s70 x9, b_Ta_mostAtOnce_70 h g s70 = some x9 → Sum.elim (fun s70 => rh_Ex (rh_M rh_PT (cw_L ++ xx) (d + 2)) (cw_L ++ xx) pg_X10_mostAtOnce ((70, [some (.ref 25), some (.ref 4), some (.int s70.1), some (.int s70.2), none], []), (h, g, cw_R sv)) v9 h9) (fun e9 => rh_Ex (rh_M rh_PT (cw_L ++ xx) (d + 2)) (cw_L ++ xx) pg_X10_mostAtOnce ((127, [none, none, some (.int e9), none, none], []), (h, g, cw_R sv)) v9 h9) x9 → rh_Ex (rh_M rh_PT (cw_L ++ xx) (d + 2)) (cw_L ++ xx) pg_X10_mostAtOnce ((70, [some (.ref 25), some (.ref 4), some (.int s70.1), some (.int s70.2), none], []), (h, g, cw_R sv)) v9 h9 := by
  intro s70 x9 hf hk
  unfold b_Ta_mostAtOnce_70 at hf
  refine rh_Ex.blk 2 (s' := ((73, [some (.ref 25), some (.ref 4), some (.int s70.1), some (.int s70.2), none], [.int (64 : Int32), .int s70.2]), (h, g, cw_R sv))) rfl ?_
  by_cases q13 : (64 : Int32) ≤ s70.2
  · rw [if_pos q13] at hf
    refine rh_Ex.stp (s' := ((127, [some (.ref 25), some (.ref 4), some (.int s70.1), some (.int s70.2), none], []), (h, g, cw_R sv))) rfl (st_icge_p q13) ?_
    obtain rfl := Option.some.inj hf
    refine rh_Ex.fgt [none, none, some (.int s70.1), none, none] ⟨rfl, trivial⟩ ?_
    exact hk
  · rw [if_neg q13] at hf
    refine rh_Ex.stp (s' := ((76, [some (.ref 25), some (.ref 4), some (.int s70.1), some (.int s70.2), none], []), (h, g, cw_R sv))) rfl (st_icge_n q13) ?_
    refine rh_Ex.blk 3 (s' := ((81, [some (.ref 25), some (.ref 4), some (.int s70.1), some (.int s70.2), none], [.ref 4, .ref 30]), (h, g, cw_R sv))) rfl ?_
    refine rh_Ex.call (j := 2) (rc := some 0) [.ref 4] [.ref 30] (some (.int (f_Cr_sets h))) rfl rfl rfl (Nat.le_of_ble_eq_true rfl) (R_Cr_sets (d + 1) xx sv h g  rfl) ?_
    show rh_Ex _ _ _ ((84, [some (.ref 25), some (.ref 4), some (.int s70.1), some (.int s70.2), none], [.int (f_Cr_sets h), .ref 30]), (h, g, cw_R sv)) _ _
    refine rh_Ex.blk 2 (s' := ((86, [some (.ref 25), some (.ref 4), some (.int s70.1), some (.int s70.2), none], [.int ((f_Cr_sets h) - (1 : Int32)), .ref 30]), (h, g, cw_R sv))) rfl ?_
    obtain ⟨q14, hf⟩ := rh_gq hf
    refine rh_Ex.stp (s' := ((87, [some (.ref 25), some (.ref 4), some (.int s70.1), some (.int s70.2), none], [.long (g 30 ((f_Cr_sets h) - (1 : Int32)).toNatClampNeg)]), (h, g, cw_R sv))) rfl (st_lald (n := 512) rfl q14) ?_
    refine rh_Ex.blk 6 (s' := ((93, [some (.ref 25), some (.ref 4), some (.int s70.1), some (.int s70.2), none], [.int (lg_cmp ((((g 30 ((f_Cr_sets h) - (1 : Int32)).toNatClampNeg).toUInt64 >>> (s70.2.toInt64.toUInt64 &&& Int64.toUInt64 63)).toInt64) &&& (1 : Int64)) (0 : Int64))]), (h, g, cw_R sv))) rfl ?_
    by_cases q15 : (lg_cmp ((((g 30 ((f_Cr_sets h) - (1 : Int32)).toNatClampNeg).toUInt64 >>> (s70.2.toInt64.toUInt64 &&& Int64.toUInt64 63)).toInt64) &&& (1 : Int64)) (0 : Int64)) = 0
    · rw [if_pos q15] at hf
      refine rh_Ex.stp (s' := ((100, [some (.ref 25), some (.ref 4), some (.int s70.1), some (.int s70.2), none], []), (h, g, cw_R sv))) rfl (st_ifeq_p q15) ?_
      refine rh_Ex.blk 1 (s' := ((101, [some (.ref 25), some (.ref 4), some (.int s70.1), some (.int s70.2), none], [.int (0 : Int32)]), (h, g, cw_R sv))) rfl ?_
      refine rh_Ex.fgt [some (.ref 25), some (.ref 4), some (.int s70.1), some (.int s70.2), none] ⟨rfl, rfl, rfl, rfl, trivial⟩ ?_
      exact lj_Ta_mostAtOnce_101 d xx sv h g s70.1 s70.2 (0 : Int32) _ _ _ hf hk
    · rw [if_neg q15] at hf
      refine rh_Ex.stp (s' := ((96, [some (.ref 25), some (.ref 4), some (.int s70.1), some (.int s70.2), none], []), (h, g, cw_R sv))) rfl (st_ifeq_n q15) ?_
      refine rh_Ex.blk 2 (s' := ((101, [some (.ref 25), some (.ref 4), some (.int s70.1), some (.int s70.2), none], [.int (1 : Int32)]), (h, g, cw_R sv))) rfl ?_
      refine rh_Ex.fgt [some (.ref 25), some (.ref 4), some (.int s70.1), some (.int s70.2), none] ⟨rfl, rfl, rfl, rfl, trivial⟩ ?_
      exact lj_Ta_mostAtOnce_101 d xx sv h g s70.1 s70.2 (1 : Int32) _ _ _ hf hk
set_option maxRecDepth 20000 in
set_option maxHeartbeats 4000000 in
theorem R_Ta_mostAtOnce (d : Nat) (xx : rh_L) (sv : Option Nat) (h : Nat → Nat → Int32) (g : Nat → Nat → Int64)  {z9 : Int32 × (Nat → Nat → Int32) × (Nat → Nat → Int64)} (hf : f_Ta_mostAtOnce h g = some z9) : rh_M rh_PT (cw_L ++ xx) (d + 3) 99 [.ref 25, .ref 4] (h, g, cw_R sv) (some (.int z9.1)) (z9.2.1, z9.2.2, cw_R sv) := by
  unfold f_Ta_mostAtOnce at hf
  refine rh_go pt_99 (Nat.le_of_ble_eq_true rfl) (lv := [some (.ref 25), some (.ref 4), none, none, none]) rfl ?_
  refine rh_Ex.blk 2 (s' := ((2, [some (.ref 25), some (.ref 4), some (.int (1 : Int32)), none, none], []), (h, g, cw_R sv))) rfl ?_
  obtain ⟨r6, hr6, hf⟩ := rh_bq hf
  refine rh_Ex.fgt [some (.ref 25), some (.ref 4), some (.int (1 : Int32)), none, none] ⟨rfl, rfl, rfl, trivial⟩ ?_
  refine rh_Ex.loop _ _ _ (lb_Ta_mostAtOnce_2 d xx sv g   _ _) rh_N _ r6 hr6 ?_
  refine rh_Ex.blk 4 (s' := ((38, [some (.ref 25), some (.ref 4), none, none, none], [.long (1 : Int64), .int (0 : Int32), .ref 30]), (r6, g, cw_R sv))) rfl ?_
  refine rh_Ex.stp (s' := ((39, [some (.ref 25), some (.ref 4), none, none, none], []), (r6, rh_up g 30 (0 : Int32).toNatClampNeg (1 : Int64), cw_R sv))) rfl (st_last (n := 512) rfl (by decide)) ?_
  refine rh_Ex.blk 2 (s' := ((41, [some (.ref 25), some (.ref 4), some (.int (1 : Int32)), none, none], []), (r6, rh_up g 30 (0 : Int32).toNatClampNeg (1 : Int64), cw_R sv))) rfl ?_
  obtain ⟨r11, hr11, hf⟩ := rh_bq hf
  refine rh_Ex.fgt [some (.ref 25), some (.ref 4), some (.int (1 : Int32)), none, none] ⟨rfl, rfl, rfl, trivial⟩ ?_
  refine rh_Ex.loop _ _ _ (lb_Ta_mostAtOnce_41 d xx sv r6   _ _) rh_N _ r11 hr11 ?_
  refine rh_Ex.blk 4 (s' := ((70, [some (.ref 25), some (.ref 4), some (.int (0 : Int32)), some (.int (0 : Int32)), none], []), (r6, r11, cw_R sv))) rfl ?_
  obtain ⟨r18, hr18, hf⟩ := rh_bq hf
  refine rh_Ex.fgt [some (.ref 25), some (.ref 4), some (.int (0 : Int32)), some (.int (0 : Int32)), none] ⟨rfl, rfl, rfl, rfl, trivial⟩ ?_
  refine rh_Ex.loop _ _ _ (lb_Ta_mostAtOnce_70 d xx sv r6 r11   _ _) rh_N _ r18 hr18 ?_
  refine rh_Ex.blk 1 (s' := ((128, [none, none, some (.int r18), none, none], [.int r18]), (r6, r11, cw_R sv))) rfl ?_
  obtain rfl := Option.some.inj hf
  exact rh_Ex.ret rfl rfl
def b_La_sign_19 (u1 : Int32) : (Int32 × (Nat → Nat → Int32)) → Option ((Int32 × (Nat → Nat → Int32)) ⊕ ((Nat → Nat → Int32))) := fun s19 =>
  if s19.1 < 0 then
    some (.inr s19.2)
  else
    rh_g (0 ≤ (s19.2 0 1).toInt ∧ (s19.2 0 1).toInt < ((80 : Nat) : Int)) (
      some (.inl (s19.1 + (-8 : Int32), rh_up (rh_up s19.2 1 (s19.2 0 1).toNatClampNeg (((u1.toUInt32 >>> (s19.1.toUInt32 &&& Int32.toUInt32 31)).toInt32) &&& (255 : Int32))) 0 1 ((s19.2 0 1) + (1 : Int32))))
    )
def f_La_sign (h : Nat → Nat → Int32) (p0 : Int32) : Option (Int32 × (Nat → Nat → Int32)) :=
  if ((h 0 1) + (4 : Int32)) ≤ (80 : Int32) then
    (rh_loop (b_La_sign_19 p0) rh_N ((24 : Int32), h)).bind (fun r5 =>
      some ((r5 0 1, r5))
    )
  else
    some (((-1 : Int32), h))
set_option maxRecDepth 20000 in
set_option maxHeartbeats 4000000 in
theorem lb_La_sign_19 (d : Nat) (xx : rh_L) (sv : Option Nat) (u1 : Int32) (g : Nat → Nat → Int64) (v9 : Option Value) (h9 : rh_H) : ∀ s19 x9, b_La_sign_19 u1 s19 = some x9 → Sum.elim (fun s19 => rh_Ex (rh_M rh_PT (cw_L ++ xx) (d + 0)) (cw_L ++ xx) pg_X11_sign ((19, [some (.ref 0), some (.int u1), some (.int s19.1)], []), (s19.2, g, cw_R sv)) v9 h9) (fun e9 => rh_Ex (rh_M rh_PT (cw_L ++ xx) (d + 0)) (cw_L ++ xx) pg_X11_sign ((55, [some (.ref 0), none, none], []), (e9, g, cw_R sv)) v9 h9) x9 → rh_Ex (rh_M rh_PT (cw_L ++ xx) (d + 0)) (cw_L ++ xx) pg_X11_sign ((19, [some (.ref 0), some (.int u1), some (.int s19.1)], []), (s19.2, g, cw_R sv)) v9 h9 := by
  intro s19 x9 hf hk
  unfold b_La_sign_19 at hf
  refine rh_Ex.blk 1 (s' := ((20, [some (.ref 0), some (.int u1), some (.int s19.1)], [.int s19.1]), (s19.2, g, cw_R sv))) rfl ?_
  by_cases q3 : s19.1 < 0
  · rw [if_pos q3] at hf
    refine rh_Ex.stp (s' := ((55, [some (.ref 0), some (.int u1), some (.int s19.1)], []), (s19.2, g, cw_R sv))) rfl (st_iflt_p q3) ?_
    obtain rfl := Option.some.inj hf
    refine rh_Ex.fgt [some (.ref 0), none, none] ⟨rfl, trivial⟩ ?_
    exact hk
  · rw [if_neg q3] at hf
    refine rh_Ex.stp (s' := ((23, [some (.ref 0), some (.int u1), some (.int s19.1)], []), (s19.2, g, cw_R sv))) rfl (st_iflt_n q3) ?_
    refine rh_Ex.blk 9 (s' := ((38, [some (.ref 0), some (.int u1), some (.int s19.1)], [.int (((u1.toUInt32 >>> (s19.1.toUInt32 &&& Int32.toUInt32 31)).toInt32) &&& (255 : Int32)), .int (s19.2 0 1), .ref 1]), (s19.2, g, cw_R sv))) rfl ?_
    obtain ⟨q4, hf⟩ := rh_gq hf
    refine rh_Ex.stp (s' := ((39, [some (.ref 0), some (.int u1), some (.int s19.1)], []), (rh_up s19.2 1 (s19.2 0 1).toNatClampNeg (((u1.toUInt32 >>> (s19.1.toUInt32 &&& Int32.toUInt32 31)).toInt32) &&& (255 : Int32)), g, cw_R sv))) rfl (st_iast (n := 80) rfl q4) ?_
    refine rh_Ex.blk 8 (s' := ((19, [some (.ref 0), some (.int u1), some (.int (s19.1 + (-8 : Int32)))], []), (rh_up (rh_up s19.2 1 (s19.2 0 1).toNatClampNeg (((u1.toUInt32 >>> (s19.1.toUInt32 &&& Int32.toUInt32 31)).toInt32) &&& (255 : Int32))) 0 1 ((s19.2 0 1) + (1 : Int32)), g, cw_R sv))) rfl ?_
    obtain rfl := Option.some.inj hf
    refine rh_Ex.fgt [some (.ref 0), some (.int u1), some (.int (s19.1 + (-8 : Int32)))] ⟨rfl, rfl, rfl, trivial⟩ ?_
    exact hk
set_option maxRecDepth 20000 in
set_option maxHeartbeats 4000000 in
theorem R_La_sign (d : Nat) (xx : rh_L) (sv : Option Nat) (h : Nat → Nat → Int32) (g : Nat → Nat → Int64) (p0 : Int32) {z9 : Int32 × (Nat → Nat → Int32)} (hf : f_La_sign h p0 = some z9) : rh_M rh_PT (cw_L ++ xx) (d + 1) 101 [.ref 0, .int p0] (h, g, cw_R sv) (some (.int z9.1)) (z9.2, g, cw_R sv) := by
  unfold f_La_sign at hf
  refine rh_go pt_101 (Nat.le_of_ble_eq_true rfl) (lv := [some (.ref 0), some (.int p0), none]) rfl ?_
  refine rh_Ex.blk 7 (s' := ((11, [some (.ref 0), some (.int p0), none], [.int (80 : Int32), .int ((h 0 1) + (4 : Int32))]), (h, g, cw_R sv))) rfl ?_
  by_cases q1 : ((h 0 1) + (4 : Int32)) ≤ (80 : Int32)
  · rw [if_pos q1] at hf
    refine rh_Ex.stp (s' := ((16, [some (.ref 0), some (.int p0), none], []), (h, g, cw_R sv))) rfl (st_icle_p q1) ?_
    refine rh_Ex.blk 2 (s' := ((19, [some (.ref 0), some (.int p0), some (.int (24 : Int32))], []), (h, g, cw_R sv))) rfl ?_
    obtain ⟨r5, hr5, hf⟩ := rh_bq hf
    refine rh_Ex.fgt [some (.ref 0), some (.int p0), some (.int (24 : Int32))] ⟨rfl, rfl, rfl, trivial⟩ ?_
    refine rh_Ex.loop _ _ _ (lb_La_sign_19 d xx sv p0  g _ _) rh_N _ r5 hr5 ?_
    refine rh_Ex.blk 2 (s' := ((59, [some (.ref 0), none, none], [.int (r5 0 1)]), (r5, g, cw_R sv))) rfl ?_
    obtain rfl := Option.some.inj hf
    exact rh_Ex.ret rfl rfl
  · rw [if_neg q1] at hf
    refine rh_Ex.stp (s' := ((14, [some (.ref 0), some (.int p0), none], []), (h, g, cw_R sv))) rfl (st_icle_n q1) ?_
    refine rh_Ex.blk 1 (s' := ((15, [some (.ref 0), some (.int p0), none], [.int (-1 : Int32)]), (h, g, cw_R sv))) rfl ?_
    obtain rfl := Option.some.inj hf
    exact rh_Ex.ret rfl rfl
def f_La_end (h : Nat → Nat → Int32) (p0 : Int32) : Int32 × (Nat → Nat → Int32) :=
  if p0 < 0 then
    ((0 : Int32), h)
  else
    if p0 ≤ (h 0 1) then
      ((1 : Int32), rh_up h 0 1 p0)
    else
      ((0 : Int32), h)
set_option maxRecDepth 20000 in
set_option maxHeartbeats 4000000 in
theorem R_La_end (d : Nat) (xx : rh_L) (sv : Option Nat) (h : Nat → Nat → Int32) (g : Nat → Nat → Int64) (p0 : Int32) {z9 : Int32 × (Nat → Nat → Int32)} (hf : f_La_end h p0 = z9) : rh_M rh_PT (cw_L ++ xx) (d + 1) 102 [.ref 0, .int p0] (h, g, cw_R sv) (some (.int z9.1)) (z9.2, g, cw_R sv) := by
  unfold f_La_end at hf
  refine rh_go pt_102 (Nat.le_of_ble_eq_true rfl) (lv := [some (.ref 0), some (.int p0)]) rfl ?_
  refine rh_Ex.blk 1 (s' := ((1, [some (.ref 0), some (.int p0)], [.int p0]), (h, g, cw_R sv))) rfl ?_
  by_cases q1 : p0 < 0
  · rw [if_pos q1] at hf
    refine rh_Ex.stp (s' := ((12, [some (.ref 0), some (.int p0)], []), (h, g, cw_R sv))) rfl (st_iflt_p q1) ?_
    refine rh_Ex.blk 1 (s' := ((13, [some (.ref 0), some (.int p0)], [.int (0 : Int32)]), (h, g, cw_R sv))) rfl ?_
    subst hf
    exact rh_Ex.ret rfl ⟨rfl, Or.inl rfl⟩
  · rw [if_neg q1] at hf
    refine rh_Ex.stp (s' := ((4, [some (.ref 0), some (.int p0)], []), (h, g, cw_R sv))) rfl (st_iflt_n q1) ?_
    refine rh_Ex.blk 3 (s' := ((9, [some (.ref 0), some (.int p0)], [.int (h 0 1), .int p0]), (h, g, cw_R sv))) rfl ?_
    by_cases q2 : p0 ≤ (h 0 1)
    · rw [if_pos q2] at hf
      refine rh_Ex.stp (s' := ((14, [some (.ref 0), some (.int p0)], []), (h, g, cw_R sv))) rfl (st_icle_p q2) ?_
      refine rh_Ex.blk 4 (s' := ((20, [some (.ref 0), some (.int p0)], [.int (1 : Int32)]), (rh_up h 0 1 p0, g, cw_R sv))) rfl ?_
      subst hf
      exact rh_Ex.ret rfl ⟨rfl, Or.inr rfl⟩
    · rw [if_neg q2] at hf
      refine rh_Ex.stp (s' := ((12, [some (.ref 0), some (.int p0)], []), (h, g, cw_R sv))) rfl (st_icle_n q2) ?_
      refine rh_Ex.blk 1 (s' := ((13, [some (.ref 0), some (.int p0)], [.int (0 : Int32)]), (h, g, cw_R sv))) rfl ?_
      subst hf
      exact rh_Ex.ret rfl ⟨rfl, Or.inl rfl⟩
def f_La_takeText (h : Nat → Nat → Int32) : Int32 × (Nat → Nat → Int32) :=
  (h 0 1, rh_up h 0 1 (0 : Int32))
set_option maxRecDepth 20000 in
set_option maxHeartbeats 4000000 in
theorem R_La_takeText (d : Nat) (xx : rh_L) (sv : Option Nat) (h : Nat → Nat → Int32) (g : Nat → Nat → Int64)  {z9 : Int32 × (Nat → Nat → Int32)} (hf : f_La_takeText h = z9) : rh_M rh_PT (cw_L ++ xx) (d + 1) 158 [.ref 0] (h, g, cw_R sv) (some (.int z9.1)) (z9.2, g, cw_R sv) := by
  unfold f_La_takeText at hf
  refine rh_go pt_158 (Nat.le_of_ble_eq_true rfl) (lv := [some (.ref 0), none]) rfl ?_
  refine rh_Ex.blk 7 (s' := ((11, [some (.ref 0), some (.int (h 0 1))], [.int (h 0 1)]), (rh_up h 0 1 (0 : Int32), g, cw_R sv))) rfl ?_
  subst hf
  exact rh_Ex.ret rfl rfl
def b_Re_readThrough_Fr_19_1_19 (u2 : Int32) (u3 : Int32) (u4 : Int32) : (Int32 × (Nat → Nat → Int32)) → Option ((Int32 × (Nat → Nat → Int32)) ⊕ (((Nat → Nat → Int32)) ⊕ (Int32 × (Nat → Nat → Int32)))) := fun s19 =>
  if u4 ≤ s19.1 then
    some (.inr (.inl s19.2))
  else
    rh_g (0 ≤ s19.1.toInt ∧ s19.1.toInt < ((80 : Nat) : Int)) (
      (f_Fr_takes s19.2 (s19.2 1 s19.1.toNatClampNeg)).bind (fun x4 =>
        if x4.1 = 0 then
          (f_Fr_faultAt x4.2 s19.1).bind (fun x6 =>
            some (.inr (.inr ((-1 : Int32) - x6, x4.2)))
          )
        else
          some (.inl (s19.1 + (1 : Int32), x4.2))
      )
    )
def f_Re_readThrough_Fr_19_1 (h : Nat → Nat → Int32) (p0 : Int32) (p1 : Int32) : Option (Int32 × (Nat → Nat → Int32)) :=
  (rh_loop (b_Re_readThrough_Fr_19_1_19 p0 p1 (if (80 : Int32) < (if p1 < p0 then p1 else p0) then (80 : Int32) else (if p1 < p0 then p1 else p0))) rh_N ((0 : Int32), (f_Fr_begin h))).bind (fun r7 => match r7 with
    | .inl e8 =>
      if p0 ≤ p1 then
        (f_Fr_canEnd e8).bind (fun x11 =>
          if x11 = 0 then
            (f_Fr_faultAt e8 p0).bind (fun x13 =>
              some (((-1 : Int32) - x13, e8))
            )
          else
            some (((0 : Int32), e8))
        )
      else
        some (((-1 : Int32) - p1, e8))
    | .inr t9 => some t9)
set_option maxRecDepth 20000 in
set_option maxHeartbeats 4000000 in
theorem lb_Re_readThrough_Fr_19_1_19 (d : Nat) (xx : rh_L) (sv : Option Nat) (u2 : Int32) (u3 : Int32) (u4 : Int32) (g : Nat → Nat → Int64) (v9 : Option Value) (h9 : rh_H) : ∀ s19 x9, b_Re_readThrough_Fr_19_1_19 u2 u3 u4 s19 = some x9 → Sum.elim (fun s19 => rh_Ex (rh_M rh_PT (cw_L ++ xx) (d + 2)) (cw_L ++ xx) pg_X5_readThrough_RX3 ((19, [some (.ref 19), some (.ref 1), some (.int u2), some (.int u3), some (.int u4), some (.int s19.1)], []), (s19.2, g, cw_R sv)) v9 h9) (Sum.elim (fun e9 => rh_Ex (rh_M rh_PT (cw_L ++ xx) (d + 2)) (cw_L ++ xx) pg_X5_readThrough_RX3 ((52, [some (.ref 19), none, some (.int u2), some (.int u3), none, none], []), (e9, g, cw_R sv)) v9 h9) (fun t9 => v9 = (some (.int t9.1)) ∧ h9 = (t9.2, g, cw_R sv))) x9 → rh_Ex (rh_M rh_PT (cw_L ++ xx) (d + 2)) (cw_L ++ xx) pg_X5_readThrough_RX3 ((19, [some (.ref 19), some (.ref 1), some (.int u2), some (.int u3), some (.int u4), some (.int s19.1)], []), (s19.2, g, cw_R sv)) v9 h9 := by
  intro s19 x9 hf hk
  unfold b_Re_readThrough_Fr_19_1_19 at hf
  refine rh_Ex.blk 2 (s' := ((23, [some (.ref 19), some (.ref 1), some (.int u2), some (.int u3), some (.int u4), some (.int s19.1)], [.int u4, .int s19.1]), (s19.2, g, cw_R sv))) rfl ?_
  by_cases q2 : u4 ≤ s19.1
  · rw [if_pos q2] at hf
    refine rh_Ex.stp (s' := ((52, [some (.ref 19), some (.ref 1), some (.int u2), some (.int u3), some (.int u4), some (.int s19.1)], []), (s19.2, g, cw_R sv))) rfl (st_icge_p q2) ?_
    obtain rfl := Option.some.inj hf
    refine rh_Ex.fgt [some (.ref 19), none, some (.int u2), some (.int u3), none, none] ⟨rfl, rfl, rfl, trivial⟩ ?_
    exact hk
  · rw [if_neg q2] at hf
    refine rh_Ex.stp (s' := ((26, [some (.ref 19), some (.ref 1), some (.int u2), some (.int u3), some (.int u4), some (.int s19.1)], []), (s19.2, g, cw_R sv))) rfl (st_icge_n q2) ?_
    refine rh_Ex.blk 3 (s' := ((30, [some (.ref 19), some (.ref 1), some (.int u2), some (.int u3), some (.int u4), some (.int s19.1)], [.int s19.1, .ref 1, .ref 19]), (s19.2, g, cw_R sv))) rfl ?_
    obtain ⟨q3, hf⟩ := rh_gq hf
    refine rh_Ex.stp (s' := ((31, [some (.ref 19), some (.ref 1), some (.int u2), some (.int u3), some (.int u4), some (.int s19.1)], [.int (s19.2 1 s19.1.toNatClampNeg), .ref 19]), (s19.2, g, cw_R sv))) rfl (st_iald (n := 80) rfl q3) ?_
    obtain ⟨x4, hx4, hf⟩ := rh_bq hf
    refine rh_Ex.call (j := 32) (rc := some 3) [.ref 19, .int (s19.2 1 s19.1.toNatClampNeg)] [] (some (.int x4.1)) rfl rfl rfl (Nat.le_of_ble_eq_true rfl) (R_Fr_takes d xx sv s19.2 g (s19.2 1 s19.1.toNatClampNeg) hx4) ?_
    show rh_Ex _ _ _ ((34, [some (.ref 19), some (.ref 1), some (.int u2), some (.int u3), some (.int u4), some (.int s19.1)], [.int x4.1]), (x4.2, g, cw_R sv)) _ _
    by_cases q5 : x4.1 = 0
    · rw [if_pos q5] at hf
      refine rh_Ex.stp (s' := ((37, [some (.ref 19), some (.ref 1), some (.int u2), some (.int u3), some (.int u4), some (.int s19.1)], []), (x4.2, g, cw_R sv))) rfl (st_ifne_p q5) ?_
      refine rh_Ex.blk 3 (s' := ((41, [some (.ref 19), some (.ref 1), some (.int u2), some (.int u3), some (.int u4), some (.int s19.1)], [.int s19.1, .ref 19, .int (-1 : Int32)]), (x4.2, g, cw_R sv))) rfl ?_
      obtain ⟨x6, hx6, hf⟩ := rh_bq hf
      refine rh_Ex.call (j := 35) (rc := some 3) [.ref 19, .int s19.1] [.int (-1 : Int32)] (some (.int x6)) rfl rfl rfl (Nat.le_of_ble_eq_true rfl) (R_Fr_faultAt (d + 1) xx sv x4.2 g s19.1 hx6) ?_
      show rh_Ex _ _ _ ((44, [some (.ref 19), some (.ref 1), some (.int u2), some (.int u3), some (.int u4), some (.int s19.1)], [.int x6, .int (-1 : Int32)]), (x4.2, g, cw_R sv)) _ _
      refine rh_Ex.blk 1 (s' := ((45, [some (.ref 19), some (.ref 1), some (.int u2), some (.int u3), some (.int u4), some (.int s19.1)], [.int ((-1 : Int32) - x6)]), (x4.2, g, cw_R sv))) rfl ?_
      obtain rfl := Option.some.inj hf
      obtain ⟨rfl, rfl⟩ := hk
      exact rh_Ex.ret rfl rfl
    · rw [if_neg q5] at hf
      refine rh_Ex.stp (s' := ((46, [some (.ref 19), some (.ref 1), some (.int u2), some (.int u3), some (.int u4), some (.int s19.1)], []), (x4.2, g, cw_R sv))) rfl (st_ifne_n q5) ?_
      refine rh_Ex.blk 2 (s' := ((19, [some (.ref 19), some (.ref 1), some (.int u2), some (.int u3), some (.int u4), some (.int (s19.1 + (1 : Int32)))], []), (x4.2, g, cw_R sv))) rfl ?_
      obtain rfl := Option.some.inj hf
      refine rh_Ex.fgt [some (.ref 19), some (.ref 1), some (.int u2), some (.int u3), some (.int u4), some (.int (s19.1 + (1 : Int32)))] ⟨rfl, rfl, rfl, rfl, rfl, rfl, trivial⟩ ?_
      exact hk
set_option maxRecDepth 20000 in
set_option maxHeartbeats 4000000 in
theorem R_Re_readThrough_Fr_19_1 (d : Nat) (xx : rh_L) (sv : Option Nat) (h : Nat → Nat → Int32) (g : Nat → Nat → Int64) (p0 : Int32) (p1 : Int32) {z9 : Int32 × (Nat → Nat → Int32)} (hf : f_Re_readThrough_Fr_19_1 h p0 p1 = some z9) : rh_M rh_PT (cw_L ++ xx) (d + 3) 53 [.ref 19, .ref 1, .int p0, .int p1] (h, g, cw_R sv) (some (.int z9.1)) (z9.2, g, cw_R sv) := by
  unfold f_Re_readThrough_Fr_19_1 at hf
  refine rh_go pt_53 (Nat.le_of_ble_eq_true rfl) (lv := [some (.ref 19), some (.ref 1), some (.int p0), some (.int p1), none, none]) rfl ?_
  refine rh_Ex.blk 1 (s' := ((1, [some (.ref 19), some (.ref 1), some (.int p0), some (.int p1), none, none], [.ref 19]), (h, g, cw_R sv))) rfl ?_
  refine rh_Ex.call (j := 31) (rc := some 3) [.ref 19] [] none rfl rfl rfl (Nat.le_of_ble_eq_true rfl) (R_Fr_begin (d + 1) xx sv h g  rfl) ?_
  show rh_Ex _ _ _ ((4, [some (.ref 19), some (.ref 1), some (.int p0), some (.int p1), none, none], []), ((f_Fr_begin h), g, cw_R sv)) _ _
  refine rh_Ex.blk 2 (s' := ((6, [some (.ref 19), some (.ref 1), some (.int p0), some (.int p1), none, none], [.int p1, .int p0]), ((f_Fr_begin h), g, cw_R sv))) rfl ?_
  refine rh_Ex.stp (s' := ((9, [some (.ref 19), some (.ref 1), some (.int p0), some (.int p1), none, none], [.int (if p1 < p0 then p1 else p0)]), ((f_Fr_begin h), g, cw_R sv))) rfl (st_mmin (Nat.le_of_ble_eq_true rfl)) ?_
  refine rh_Ex.blk 2 (s' := ((11, [some (.ref 19), some (.ref 1), some (.int p0), some (.int p1), none, none], [.int (80 : Int32), .int (if p1 < p0 then p1 else p0)]), ((f_Fr_begin h), g, cw_R sv))) rfl ?_
  refine rh_Ex.stp (s' := ((14, [some (.ref 19), some (.ref 1), some (.int p0), some (.int p1), none, none], [.int (if (80 : Int32) < (if p1 < p0 then p1 else p0) then (80 : Int32) else (if p1 < p0 then p1 else p0))]), ((f_Fr_begin h), g, cw_R sv))) rfl (st_mmin (Nat.le_of_ble_eq_true rfl)) ?_
  refine rh_Ex.blk 3 (s' := ((19, [some (.ref 19), some (.ref 1), some (.int p0), some (.int p1), some (.int (if (80 : Int32) < (if p1 < p0 then p1 else p0) then (80 : Int32) else (if p1 < p0 then p1 else p0))), some (.int (0 : Int32))], []), ((f_Fr_begin h), g, cw_R sv))) rfl ?_
  obtain ⟨r7, hr7, hf⟩ := rh_bq hf
  refine rh_Ex.fgt [some (.ref 19), some (.ref 1), some (.int p0), some (.int p1), some (.int (if (80 : Int32) < (if p1 < p0 then p1 else p0) then (80 : Int32) else (if p1 < p0 then p1 else p0))), some (.int (0 : Int32))] ⟨rfl, rfl, rfl, rfl, rfl, rfl, trivial⟩ ?_
  refine rh_Ex.loop _ _ _ (lb_Re_readThrough_Fr_19_1_19 d xx sv p0 p1 (if (80 : Int32) < (if p1 < p0 then p1 else p0) then (80 : Int32) else (if p1 < p0 then p1 else p0))  g _ _) rh_N _ r7 hr7 ?_
  rcases r7 with e8 | t9
  · dsimp only at hf
    refine rh_Ex.blk 2 (s' := ((54, [some (.ref 19), none, some (.int p0), some (.int p1), none, none], [.int p1, .int p0]), (e8, g, cw_R sv))) rfl ?_
    by_cases q10 : p0 ≤ p1
    · rw [if_pos q10] at hf
      refine rh_Ex.stp (s' := ((61, [some (.ref 19), none, some (.int p0), some (.int p1), none, none], []), (e8, g, cw_R sv))) rfl (st_icle_p q10) ?_
      refine rh_Ex.blk 1 (s' := ((62, [some (.ref 19), none, some (.int p0), some (.int p1), none, none], [.ref 19]), (e8, g, cw_R sv))) rfl ?_
      obtain ⟨x11, hx11, hf⟩ := rh_bq hf
      refine rh_Ex.call (j := 34) (rc := some 3) [.ref 19] [] (some (.int x11)) rfl rfl rfl (Nat.le_of_ble_eq_true rfl) (R_Fr_canEnd (d + 1) xx sv e8 g  hx11) ?_
      show rh_Ex _ _ _ ((65, [some (.ref 19), none, some (.int p0), some (.int p1), none, none], [.int x11]), (e8, g, cw_R sv)) _ _
      by_cases q12 : x11 = 0
      · rw [if_pos q12] at hf
        refine rh_Ex.stp (s' := ((72, [some (.ref 19), none, some (.int p0), some (.int p1), none, none], []), (e8, g, cw_R sv))) rfl (st_ifeq_p q12) ?_
        refine rh_Ex.blk 3 (s' := ((75, [some (.ref 19), none, some (.int p0), some (.int p1), none, none], [.int p0, .ref 19, .int (-1 : Int32)]), (e8, g, cw_R sv))) rfl ?_
        obtain ⟨x13, hx13, hf⟩ := rh_bq hf
        refine rh_Ex.call (j := 35) (rc := some 3) [.ref 19, .int p0] [.int (-1 : Int32)] (some (.int x13)) rfl rfl rfl (Nat.le_of_ble_eq_true rfl) (R_Fr_faultAt (d + 1) xx sv e8 g p0 hx13) ?_
        show rh_Ex _ _ _ ((78, [some (.ref 19), none, some (.int p0), some (.int p1), none, none], [.int x13, .int (-1 : Int32)]), (e8, g, cw_R sv)) _ _
        refine rh_Ex.blk 1 (s' := ((79, [some (.ref 19), none, some (.int p0), some (.int p1), none, none], [.int ((-1 : Int32) - x13)]), (e8, g, cw_R sv))) rfl ?_
        obtain rfl := Option.some.inj hf
        exact rh_Ex.ret rfl rfl
      · rw [if_neg q12] at hf
        refine rh_Ex.stp (s' := ((68, [some (.ref 19), none, some (.int p0), some (.int p1), none, none], []), (e8, g, cw_R sv))) rfl (st_ifeq_n q12) ?_
        refine rh_Ex.blk 2 (s' := ((79, [some (.ref 19), none, some (.int p0), some (.int p1), none, none], [.int (0 : Int32)]), (e8, g, cw_R sv))) rfl ?_
        obtain rfl := Option.some.inj hf
        exact rh_Ex.ret rfl rfl
    · rw [if_neg q10] at hf
      refine rh_Ex.stp (s' := ((57, [some (.ref 19), none, some (.int p0), some (.int p1), none, none], []), (e8, g, cw_R sv))) rfl (st_icle_n q10) ?_
      refine rh_Ex.blk 3 (s' := ((60, [some (.ref 19), none, some (.int p0), some (.int p1), none, none], [.int ((-1 : Int32) - p1)]), (e8, g, cw_R sv))) rfl ?_
      obtain rfl := Option.some.inj hf
      exact rh_Ex.ret rfl rfl
  · dsimp only at hf
    obtain rfl := Option.some.inj hf
    exact ⟨rfl, rfl⟩
def b_La_folk_51  : (Int32 × (Nat → Nat → Int32)) → Option ((Int32 × (Nat → Nat → Int32)) ⊕ ((Nat → Nat → Int32))) := fun s51 =>
  if (s51.2 19 2) ≤ s51.1 then
    some (.inr s51.2)
  else
    rh_g (0 ≤ s51.1.toInt ∧ s51.1.toInt < ((9 : Nat) : Int)) (
      (f_Cr_join s51.2 (f_Fr_isPerson s51.2 s51.1) (s51.2 20 s51.1.toNatClampNeg)).bind (fun x7 =>
        some (.inl (s51.1 + (1 : Int32), x7))
      )
    )
def f_La_folk (h : Nat → Nat → Int32) : Option (Int32 × (Nat → Nat → Int32)) :=
  if ((f_La_takeText h).1) = 0 then
    some (((0 : Int32), (f_La_takeText h).2))
  else
    (f_Re_readThrough_Fr_19_1 (rh_up ((f_La_takeText h).2) 19 1 ((9 : Int32) - (((f_La_takeText h).2) 4 0))) ((f_La_takeText h).1) (76 : Int32)).bind (fun x2 =>
      if x2.1 = 0 then
        (rh_loop (b_La_folk_51 ) rh_N ((0 : Int32), x2.2)).bind (fun r8 =>
          some (((f_De_forgetKept (f_De_forgetPast r8)) 19 2, (f_De_forgetKept (f_De_forgetPast r8))))
        )
      else
        some ((x2.1, x2.2))
    )
set_option maxRecDepth 20000 in
set_option maxHeartbeats 4000000 in
theorem lb_La_folk_51 (d : Nat) (xx : rh_L) (sv : Option Nat)  (g : Nat → Nat → Int64) (v9 : Option Value) (h9 : rh_H) : ∀ s51 x9, b_La_folk_51  s51 = some x9 → Sum.elim (fun s51 => rh_Ex (rh_M rh_PT (cw_L ++ xx) (d + 3)) (cw_L ++ xx) pg_X11_folk ((51, [some (.ref 0), none, none, some (.int s51.1)], []), (s51.2, g, cw_R sv)) v9 h9) (fun e9 => rh_Ex (rh_M rh_PT (cw_L ++ xx) (d + 3)) (cw_L ++ xx) pg_X11_folk ((92, [some (.ref 0), none, none, none], []), (e9, g, cw_R sv)) v9 h9) x9 → rh_Ex (rh_M rh_PT (cw_L ++ xx) (d + 3)) (cw_L ++ xx) pg_X11_folk ((51, [some (.ref 0), none, none, some (.int s51.1)], []), (s51.2, g, cw_R sv)) v9 h9 := by
  intro s51 x9 hf hk
  unfold b_La_folk_51 at hf
  refine rh_Ex.blk 4 (s' := ((59, [some (.ref 0), none, none, some (.int s51.1)], [.int (s51.2 19 2), .int s51.1]), (s51.2, g, cw_R sv))) rfl ?_
  by_cases q5 : (s51.2 19 2) ≤ s51.1
  · rw [if_pos q5] at hf
    refine rh_Ex.stp (s' := ((92, [some (.ref 0), none, none, some (.int s51.1)], []), (s51.2, g, cw_R sv))) rfl (st_icge_p q5) ?_
    obtain rfl := Option.some.inj hf
    refine rh_Ex.fgt [some (.ref 0), none, none, none] ⟨rfl, trivial⟩ ?_
    exact hk
  · rw [if_neg q5] at hf
    refine rh_Ex.stp (s' := ((62, [some (.ref 0), none, none, some (.int s51.1)], []), (s51.2, g, cw_R sv))) rfl (st_icge_n q5) ?_
    refine rh_Ex.blk 5 (s' := ((71, [some (.ref 0), none, none, some (.int s51.1)], [.int s51.1, .ref 19, .ref 4]), (s51.2, g, cw_R sv))) rfl ?_
    refine rh_Ex.call (j := 30) (rc := some 3) [.ref 19, .int s51.1] [.ref 4] (some (.int (f_Fr_isPerson s51.2 s51.1))) rfl rfl rfl (Nat.le_of_ble_eq_true rfl) (R_Fr_isPerson (d + 2) xx sv s51.2 g s51.1 rfl) ?_
    show rh_Ex _ _ _ ((74, [some (.ref 0), none, none, some (.int s51.1)], [.int (f_Fr_isPerson s51.2 s51.1), .ref 4]), (s51.2, g, cw_R sv)) _ _
    refine rh_Ex.blk 4 (s' := ((82, [some (.ref 0), none, none, some (.int s51.1)], [.int s51.1, .ref 20, .int (f_Fr_isPerson s51.2 s51.1), .ref 4]), (s51.2, g, cw_R sv))) rfl ?_
    obtain ⟨q6, hf⟩ := rh_gq hf
    refine rh_Ex.stp (s' := ((83, [some (.ref 0), none, none, some (.int s51.1)], [.int (s51.2 20 s51.1.toNatClampNeg), .int (f_Fr_isPerson s51.2 s51.1), .ref 4]), (s51.2, g, cw_R sv))) rfl (st_iald (n := 9) rfl q6) ?_
    obtain ⟨x7, hx7, hf⟩ := rh_bq hf
    refine rh_Ex.call (j := 4) (rc := some 0) [.ref 4, .int (f_Fr_isPerson s51.2 s51.1), .int (s51.2 20 s51.1.toNatClampNeg)] [] none rfl rfl rfl (Nat.le_of_ble_eq_true rfl) (R_Cr_join (d + 2) xx sv s51.2 g (f_Fr_isPerson s51.2 s51.1) (s51.2 20 s51.1.toNatClampNeg) hx7) ?_
    show rh_Ex _ _ _ ((86, [some (.ref 0), none, none, some (.int s51.1)], []), (x7, g, cw_R sv)) _ _
    refine rh_Ex.blk 2 (s' := ((51, [some (.ref 0), none, none, some (.int (s51.1 + (1 : Int32)))], []), (x7, g, cw_R sv))) rfl ?_
    obtain rfl := Option.some.inj hf
    refine rh_Ex.fgt [some (.ref 0), none, none, some (.int (s51.1 + (1 : Int32)))] ⟨rfl, rfl, trivial⟩ ?_
    exact hk
set_option maxRecDepth 20000 in
set_option maxHeartbeats 4000000 in
theorem R_La_folk (d : Nat) (xx : rh_L) (sv : Option Nat) (h : Nat → Nat → Int32) (g : Nat → Nat → Int64)  {z9 : Int32 × (Nat → Nat → Int32)} (hf : f_La_folk h = some z9) : rh_M rh_PT (cw_L ++ xx) (d + 4) 103 [.ref 0] (h, g, cw_R sv) (some (.int z9.1)) (z9.2, g, cw_R sv) := by
  unfold f_La_folk at hf
  refine rh_go pt_103 (Nat.le_of_ble_eq_true rfl) (lv := [some (.ref 0), none, none, none]) rfl ?_
  refine rh_Ex.blk 1 (s' := ((1, [some (.ref 0), none, none, none], [.ref 0]), (h, g, cw_R sv))) rfl ?_
  refine rh_Ex.call (j := 158) (rc := some 10) [.ref 0] [] (some (.int ((f_La_takeText h).1))) rfl rfl rfl (Nat.le_of_ble_eq_true rfl) (R_La_takeText (d + 2) xx sv h g  rfl) ?_
  show rh_Ex _ _ _ ((4, [some (.ref 0), none, none, none], [.int ((f_La_takeText h).1)]), ((f_La_takeText h).2, g, cw_R sv)) _ _
  refine rh_Ex.blk 2 (s' := ((6, [some (.ref 0), some (.int ((f_La_takeText h).1)), none, none], [.int ((f_La_takeText h).1)]), ((f_La_takeText h).2, g, cw_R sv))) rfl ?_
  by_cases q1 : ((f_La_takeText h).1) = 0
  · rw [if_pos q1] at hf
    refine rh_Ex.stp (s' := ((9, [some (.ref 0), some (.int ((f_La_takeText h).1)), none, none], []), ((f_La_takeText h).2, g, cw_R sv))) rfl (st_ifne_p q1) ?_
    refine rh_Ex.blk 1 (s' := ((10, [some (.ref 0), some (.int ((f_La_takeText h).1)), none, none], [.int (0 : Int32)]), ((f_La_takeText h).2, g, cw_R sv))) rfl ?_
    obtain rfl := Option.some.inj hf
    exact rh_Ex.ret rfl rfl
  · rw [if_neg q1] at hf
    refine rh_Ex.stp (s' := ((11, [some (.ref 0), some (.int ((f_La_takeText h).1)), none, none], []), ((f_La_takeText h).2, g, cw_R sv))) rfl (st_ifne_n q1) ?_
    refine rh_Ex.blk 14 (s' := ((39, [some (.ref 0), some (.int ((f_La_takeText h).1)), none, none], [.int (76 : Int32), .int ((f_La_takeText h).1), .ref 1, .ref 19]), (rh_up ((f_La_takeText h).2) 19 1 ((9 : Int32) - (((f_La_takeText h).2) 4 0)), g, cw_R sv))) rfl ?_
    obtain ⟨x2, hx2, hf⟩ := rh_bq hf
    refine rh_Ex.call (j := 53) (rc := some 3) [.ref 19, .ref 1, .int ((f_La_takeText h).1), .int (76 : Int32)] [] (some (.int x2.1)) rfl rfl rfl (Nat.le_of_ble_eq_true rfl) (R_Re_readThrough_Fr_19_1 d xx sv (rh_up ((f_La_takeText h).2) 19 1 ((9 : Int32) - (((f_La_takeText h).2) 4 0))) g ((f_La_takeText h).1) (76 : Int32) hx2) ?_
    show rh_Ex _ _ _ ((42, [some (.ref 0), some (.int ((f_La_takeText h).1)), none, none], [.int x2.1]), (x2.2, g, cw_R sv)) _ _
    refine rh_Ex.blk 2 (s' := ((44, [some (.ref 0), some (.int ((f_La_takeText h).1)), some (.int x2.1), none], [.int x2.1]), (x2.2, g, cw_R sv))) rfl ?_
    by_cases q3 : x2.1 = 0
    · rw [if_pos q3] at hf
      refine rh_Ex.stp (s' := ((49, [some (.ref 0), some (.int ((f_La_takeText h).1)), some (.int x2.1), none], []), (x2.2, g, cw_R sv))) rfl (st_ifeq_p q3) ?_
      refine rh_Ex.blk 2 (s' := ((51, [some (.ref 0), some (.int ((f_La_takeText h).1)), some (.int x2.1), some (.int (0 : Int32))], []), (x2.2, g, cw_R sv))) rfl ?_
      obtain ⟨r8, hr8, hf⟩ := rh_bq hf
      refine rh_Ex.fgt [some (.ref 0), none, none, some (.int (0 : Int32))] ⟨rfl, rfl, trivial⟩ ?_
      refine rh_Ex.loop _ _ _ (lb_La_folk_51 d xx sv   g _ _) rh_N _ r8 hr8 ?_
      refine rh_Ex.blk 2 (s' := ((96, [some (.ref 0), none, none, none], [.ref 13]), (r8, g, cw_R sv))) rfl ?_
      refine rh_Ex.call (j := 26) (rc := some 2) [.ref 13] [] none rfl rfl rfl (Nat.le_of_ble_eq_true rfl) (R_De_forgetPast (d + 2) xx sv r8 g  rfl) ?_
      show rh_Ex _ _ _ ((99, [some (.ref 0), none, none, none], []), ((f_De_forgetPast r8), g, cw_R sv)) _ _
      refine rh_Ex.blk 2 (s' := ((103, [some (.ref 0), none, none, none], [.ref 13]), ((f_De_forgetPast r8), g, cw_R sv))) rfl ?_
      refine rh_Ex.call (j := 29) (rc := some 2) [.ref 13] [] none rfl rfl rfl (Nat.le_of_ble_eq_true rfl) (R_De_forgetKept (d + 2) xx sv (f_De_forgetPast r8) g  rfl) ?_
      show rh_Ex _ _ _ ((106, [some (.ref 0), none, none, none], []), ((f_De_forgetKept (f_De_forgetPast r8)), g, cw_R sv)) _ _
      refine rh_Ex.blk 3 (s' := ((113, [some (.ref 0), none, none, none], [.int ((f_De_forgetKept (f_De_forgetPast r8)) 19 2)]), ((f_De_forgetKept (f_De_forgetPast r8)), g, cw_R sv))) rfl ?_
      obtain rfl := Option.some.inj hf
      exact rh_Ex.ret rfl rfl
    · rw [if_neg q3] at hf
      refine rh_Ex.stp (s' := ((47, [some (.ref 0), some (.int ((f_La_takeText h).1)), some (.int x2.1), none], []), (x2.2, g, cw_R sv))) rfl (st_ifeq_n q3) ?_
      refine rh_Ex.blk 1 (s' := ((48, [some (.ref 0), some (.int ((f_La_takeText h).1)), some (.int x2.1), none], [.int x2.1]), (x2.2, g, cw_R sv))) rfl ?_
      obtain rfl := Option.some.inj hf
      exact rh_Ex.ret rfl rfl
def f_Re_faultAt_6 (p0 : Int32) : Int32 :=
  p0
set_option maxRecDepth 20000 in
set_option maxHeartbeats 4000000 in
theorem R_Re_faultAt_6 (d : Nat) (xx : rh_L) (sv : Option Nat) (h : Nat → Nat → Int32) (g : Nat → Nat → Int64) (p0 : Int32) {z9 : Int32} (hf : f_Re_faultAt_6 p0 = z9) : rh_M rh_PT (cw_L ++ xx) (d + 1) 51 [.ref 6, .int p0] (h, g, cw_R sv) (some (.int z9)) (h, g, cw_R sv) := by
  unfold f_Re_faultAt_6 at hf
  refine rh_go pt_51 (Nat.le_of_ble_eq_true rfl) (lv := [some (.ref 6), some (.int p0)]) rfl ?_
  refine rh_Ex.blk 1 (s' := ((1, [some (.ref 6), some (.int p0)], [.int p0]), (h, g, cw_R sv))) rfl ?_
  subst hf
  exact rh_Ex.ret rfl rfl
def b_Re_readThrough_Ha_6_1_19 (u2 : Int32) (u3 : Int32) (u4 : Int32) : (Int32 × (Nat → Nat → Int32)) → Option ((Int32 × (Nat → Nat → Int32)) ⊕ (((Nat → Nat → Int32)) ⊕ (Int32 × (Nat → Nat → Int32)))) := fun s19 =>
  if u4 ≤ s19.1 then
    some (.inr (.inl s19.2))
  else
    rh_g (0 ≤ s19.1.toInt ∧ s19.1.toInt < ((80 : Nat) : Int)) (
      (f_Ha_takes s19.2 (s19.2 1 s19.1.toNatClampNeg)).bind (fun x4 =>
        if x4.1 = 0 then
          some (.inr (.inr ((-1 : Int32) - (f_Re_faultAt_6 s19.1), x4.2)))
        else
          some (.inl (s19.1 + (1 : Int32), x4.2))
      )
    )
def f_Re_readThrough_Ha_6_1 (h : Nat → Nat → Int32) (p0 : Int32) (p1 : Int32) : Option (Int32 × (Nat → Nat → Int32)) :=
  (rh_loop (b_Re_readThrough_Ha_6_1_19 p0 p1 (if (80 : Int32) < (if p1 < p0 then p1 else p0) then (80 : Int32) else (if p1 < p0 then p1 else p0))) rh_N ((0 : Int32), (f_Ha_begin h))).bind (fun r6 => match r6 with
    | .inl e7 =>
      if p0 ≤ p1 then
        if (f_Ha_canEnd e7) = 0 then
          some (((-1 : Int32) - (f_Re_faultAt_6 p0), e7))
        else
          some (((0 : Int32), e7))
      else
        some (((-1 : Int32) - p1, e7))
    | .inr t8 => some t8)
set_option maxRecDepth 20000 in
set_option maxHeartbeats 4000000 in
theorem lb_Re_readThrough_Ha_6_1_19 (d : Nat) (xx : rh_L) (sv : Option Nat) (u2 : Int32) (u3 : Int32) (u4 : Int32) (g : Nat → Nat → Int64) (v9 : Option Value) (h9 : rh_H) : ∀ s19 x9, b_Re_readThrough_Ha_6_1_19 u2 u3 u4 s19 = some x9 → Sum.elim (fun s19 => rh_Ex (rh_M rh_PT (cw_L ++ xx) (d + 4)) (cw_L ++ xx) pg_X5_readThrough_RX4 ((19, [some (.ref 6), some (.ref 1), some (.int u2), some (.int u3), some (.int u4), some (.int s19.1)], []), (s19.2, g, cw_R sv)) v9 h9) (Sum.elim (fun e9 => rh_Ex (rh_M rh_PT (cw_L ++ xx) (d + 4)) (cw_L ++ xx) pg_X5_readThrough_RX4 ((52, [some (.ref 6), none, some (.int u2), some (.int u3), none, none], []), (e9, g, cw_R sv)) v9 h9) (fun t9 => v9 = (some (.int t9.1)) ∧ h9 = (t9.2, g, cw_R sv))) x9 → rh_Ex (rh_M rh_PT (cw_L ++ xx) (d + 4)) (cw_L ++ xx) pg_X5_readThrough_RX4 ((19, [some (.ref 6), some (.ref 1), some (.int u2), some (.int u3), some (.int u4), some (.int s19.1)], []), (s19.2, g, cw_R sv)) v9 h9 := by
  intro s19 x9 hf hk
  unfold b_Re_readThrough_Ha_6_1_19 at hf
  refine rh_Ex.blk 2 (s' := ((23, [some (.ref 6), some (.ref 1), some (.int u2), some (.int u3), some (.int u4), some (.int s19.1)], [.int u4, .int s19.1]), (s19.2, g, cw_R sv))) rfl ?_
  by_cases q2 : u4 ≤ s19.1
  · rw [if_pos q2] at hf
    refine rh_Ex.stp (s' := ((52, [some (.ref 6), some (.ref 1), some (.int u2), some (.int u3), some (.int u4), some (.int s19.1)], []), (s19.2, g, cw_R sv))) rfl (st_icge_p q2) ?_
    obtain rfl := Option.some.inj hf
    refine rh_Ex.fgt [some (.ref 6), none, some (.int u2), some (.int u3), none, none] ⟨rfl, rfl, rfl, trivial⟩ ?_
    exact hk
  · rw [if_neg q2] at hf
    refine rh_Ex.stp (s' := ((26, [some (.ref 6), some (.ref 1), some (.int u2), some (.int u3), some (.int u4), some (.int s19.1)], []), (s19.2, g, cw_R sv))) rfl (st_icge_n q2) ?_
    refine rh_Ex.blk 3 (s' := ((30, [some (.ref 6), some (.ref 1), some (.int u2), some (.int u3), some (.int u4), some (.int s19.1)], [.int s19.1, .ref 1, .ref 6]), (s19.2, g, cw_R sv))) rfl ?_
    obtain ⟨q3, hf⟩ := rh_gq hf
    refine rh_Ex.stp (s' := ((31, [some (.ref 6), some (.ref 1), some (.int u2), some (.int u3), some (.int u4), some (.int s19.1)], [.int (s19.2 1 s19.1.toNatClampNeg), .ref 6]), (s19.2, g, cw_R sv))) rfl (st_iald (n := 80) rfl q3) ?_
    obtain ⟨x4, hx4, hf⟩ := rh_bq hf
    refine rh_Ex.call (j := 44) (rc := some 4) [.ref 6, .int (s19.2 1 s19.1.toNatClampNeg)] [] (some (.int x4.1)) rfl rfl rfl (Nat.le_of_ble_eq_true rfl) (R_Ha_takes d xx sv s19.2 g (s19.2 1 s19.1.toNatClampNeg) hx4) ?_
    show rh_Ex _ _ _ ((34, [some (.ref 6), some (.ref 1), some (.int u2), some (.int u3), some (.int u4), some (.int s19.1)], [.int x4.1]), (x4.2, g, cw_R sv)) _ _
    by_cases q5 : x4.1 = 0
    · rw [if_pos q5] at hf
      refine rh_Ex.stp (s' := ((37, [some (.ref 6), some (.ref 1), some (.int u2), some (.int u3), some (.int u4), some (.int s19.1)], []), (x4.2, g, cw_R sv))) rfl (st_ifne_p q5) ?_
      refine rh_Ex.blk 3 (s' := ((41, [some (.ref 6), some (.ref 1), some (.int u2), some (.int u3), some (.int u4), some (.int s19.1)], [.int s19.1, .ref 6, .int (-1 : Int32)]), (x4.2, g, cw_R sv))) rfl ?_
      refine rh_Ex.call (j := 51) (rc := some 4) [.ref 6, .int s19.1] [.int (-1 : Int32)] (some (.int (f_Re_faultAt_6 s19.1))) rfl rfl rfl (Nat.le_of_ble_eq_true rfl) (R_Re_faultAt_6 (d + 3) xx sv x4.2 g s19.1 rfl) ?_
      show rh_Ex _ _ _ ((44, [some (.ref 6), some (.ref 1), some (.int u2), some (.int u3), some (.int u4), some (.int s19.1)], [.int (f_Re_faultAt_6 s19.1), .int (-1 : Int32)]), (x4.2, g, cw_R sv)) _ _
      refine rh_Ex.blk 1 (s' := ((45, [some (.ref 6), some (.ref 1), some (.int u2), some (.int u3), some (.int u4), some (.int s19.1)], [.int ((-1 : Int32) - (f_Re_faultAt_6 s19.1))]), (x4.2, g, cw_R sv))) rfl ?_
      obtain rfl := Option.some.inj hf
      obtain ⟨rfl, rfl⟩ := hk
      exact rh_Ex.ret rfl rfl
    · rw [if_neg q5] at hf
      refine rh_Ex.stp (s' := ((46, [some (.ref 6), some (.ref 1), some (.int u2), some (.int u3), some (.int u4), some (.int s19.1)], []), (x4.2, g, cw_R sv))) rfl (st_ifne_n q5) ?_
      refine rh_Ex.blk 2 (s' := ((19, [some (.ref 6), some (.ref 1), some (.int u2), some (.int u3), some (.int u4), some (.int (s19.1 + (1 : Int32)))], []), (x4.2, g, cw_R sv))) rfl ?_
      obtain rfl := Option.some.inj hf
      refine rh_Ex.fgt [some (.ref 6), some (.ref 1), some (.int u2), some (.int u3), some (.int u4), some (.int (s19.1 + (1 : Int32)))] ⟨rfl, rfl, rfl, rfl, rfl, rfl, trivial⟩ ?_
      exact hk
set_option maxRecDepth 20000 in
set_option maxHeartbeats 4000000 in
theorem R_Re_readThrough_Ha_6_1 (d : Nat) (xx : rh_L) (sv : Option Nat) (h : Nat → Nat → Int32) (g : Nat → Nat → Int64) (p0 : Int32) (p1 : Int32) {z9 : Int32 × (Nat → Nat → Int32)} (hf : f_Re_readThrough_Ha_6_1 h p0 p1 = some z9) : rh_M rh_PT (cw_L ++ xx) (d + 5) 54 [.ref 6, .ref 1, .int p0, .int p1] (h, g, cw_R sv) (some (.int z9.1)) (z9.2, g, cw_R sv) := by
  unfold f_Re_readThrough_Ha_6_1 at hf
  refine rh_go pt_54 (Nat.le_of_ble_eq_true rfl) (lv := [some (.ref 6), some (.ref 1), some (.int p0), some (.int p1), none, none]) rfl ?_
  refine rh_Ex.blk 1 (s' := ((1, [some (.ref 6), some (.ref 1), some (.int p0), some (.int p1), none, none], [.ref 6]), (h, g, cw_R sv))) rfl ?_
  refine rh_Ex.call (j := 42) (rc := some 4) [.ref 6] [] none rfl rfl rfl (Nat.le_of_ble_eq_true rfl) (R_Ha_begin (d + 3) xx sv h g  rfl) ?_
  show rh_Ex _ _ _ ((4, [some (.ref 6), some (.ref 1), some (.int p0), some (.int p1), none, none], []), ((f_Ha_begin h), g, cw_R sv)) _ _
  refine rh_Ex.blk 2 (s' := ((6, [some (.ref 6), some (.ref 1), some (.int p0), some (.int p1), none, none], [.int p1, .int p0]), ((f_Ha_begin h), g, cw_R sv))) rfl ?_
  refine rh_Ex.stp (s' := ((9, [some (.ref 6), some (.ref 1), some (.int p0), some (.int p1), none, none], [.int (if p1 < p0 then p1 else p0)]), ((f_Ha_begin h), g, cw_R sv))) rfl (st_mmin (Nat.le_of_ble_eq_true rfl)) ?_
  refine rh_Ex.blk 2 (s' := ((11, [some (.ref 6), some (.ref 1), some (.int p0), some (.int p1), none, none], [.int (80 : Int32), .int (if p1 < p0 then p1 else p0)]), ((f_Ha_begin h), g, cw_R sv))) rfl ?_
  refine rh_Ex.stp (s' := ((14, [some (.ref 6), some (.ref 1), some (.int p0), some (.int p1), none, none], [.int (if (80 : Int32) < (if p1 < p0 then p1 else p0) then (80 : Int32) else (if p1 < p0 then p1 else p0))]), ((f_Ha_begin h), g, cw_R sv))) rfl (st_mmin (Nat.le_of_ble_eq_true rfl)) ?_
  refine rh_Ex.blk 3 (s' := ((19, [some (.ref 6), some (.ref 1), some (.int p0), some (.int p1), some (.int (if (80 : Int32) < (if p1 < p0 then p1 else p0) then (80 : Int32) else (if p1 < p0 then p1 else p0))), some (.int (0 : Int32))], []), ((f_Ha_begin h), g, cw_R sv))) rfl ?_
  obtain ⟨r6, hr6, hf⟩ := rh_bq hf
  refine rh_Ex.fgt [some (.ref 6), some (.ref 1), some (.int p0), some (.int p1), some (.int (if (80 : Int32) < (if p1 < p0 then p1 else p0) then (80 : Int32) else (if p1 < p0 then p1 else p0))), some (.int (0 : Int32))] ⟨rfl, rfl, rfl, rfl, rfl, rfl, trivial⟩ ?_
  refine rh_Ex.loop _ _ _ (lb_Re_readThrough_Ha_6_1_19 d xx sv p0 p1 (if (80 : Int32) < (if p1 < p0 then p1 else p0) then (80 : Int32) else (if p1 < p0 then p1 else p0))  g _ _) rh_N _ r6 hr6 ?_
  rcases r6 with e7 | t8
  · dsimp only at hf
    refine rh_Ex.blk 2 (s' := ((54, [some (.ref 6), none, some (.int p0), some (.int p1), none, none], [.int p1, .int p0]), (e7, g, cw_R sv))) rfl ?_
    by_cases q9 : p0 ≤ p1
    · rw [if_pos q9] at hf
      refine rh_Ex.stp (s' := ((61, [some (.ref 6), none, some (.int p0), some (.int p1), none, none], []), (e7, g, cw_R sv))) rfl (st_icle_p q9) ?_
      refine rh_Ex.blk 1 (s' := ((62, [some (.ref 6), none, some (.int p0), some (.int p1), none, none], [.ref 6]), (e7, g, cw_R sv))) rfl ?_
      refine rh_Ex.call (j := 43) (rc := some 4) [.ref 6] [] (some (.int (f_Ha_canEnd e7))) rfl rfl rfl (Nat.le_of_ble_eq_true rfl) (R_Ha_canEnd (d + 3) xx sv e7 g  rfl) ?_
      show rh_Ex _ _ _ ((65, [some (.ref 6), none, some (.int p0), some (.int p1), none, none], [.int (f_Ha_canEnd e7)]), (e7, g, cw_R sv)) _ _
      by_cases q10 : (f_Ha_canEnd e7) = 0
      · rw [if_pos q10] at hf
        refine rh_Ex.stp (s' := ((72, [some (.ref 6), none, some (.int p0), some (.int p1), none, none], []), (e7, g, cw_R sv))) rfl (st_ifeq_p q10) ?_
        refine rh_Ex.blk 3 (s' := ((75, [some (.ref 6), none, some (.int p0), some (.int p1), none, none], [.int p0, .ref 6, .int (-1 : Int32)]), (e7, g, cw_R sv))) rfl ?_
        refine rh_Ex.call (j := 51) (rc := some 4) [.ref 6, .int p0] [.int (-1 : Int32)] (some (.int (f_Re_faultAt_6 p0))) rfl rfl rfl (Nat.le_of_ble_eq_true rfl) (R_Re_faultAt_6 (d + 3) xx sv e7 g p0 rfl) ?_
        show rh_Ex _ _ _ ((78, [some (.ref 6), none, some (.int p0), some (.int p1), none, none], [.int (f_Re_faultAt_6 p0), .int (-1 : Int32)]), (e7, g, cw_R sv)) _ _
        refine rh_Ex.blk 1 (s' := ((79, [some (.ref 6), none, some (.int p0), some (.int p1), none, none], [.int ((-1 : Int32) - (f_Re_faultAt_6 p0))]), (e7, g, cw_R sv))) rfl ?_
        obtain rfl := Option.some.inj hf
        exact rh_Ex.ret rfl rfl
      · rw [if_neg q10] at hf
        refine rh_Ex.stp (s' := ((68, [some (.ref 6), none, some (.int p0), some (.int p1), none, none], []), (e7, g, cw_R sv))) rfl (st_ifeq_n q10) ?_
        refine rh_Ex.blk 2 (s' := ((79, [some (.ref 6), none, some (.int p0), some (.int p1), none, none], [.int (0 : Int32)]), (e7, g, cw_R sv))) rfl ?_
        obtain rfl := Option.some.inj hf
        exact rh_Ex.ret rfl rfl
    · rw [if_neg q9] at hf
      refine rh_Ex.stp (s' := ((57, [some (.ref 6), none, some (.int p0), some (.int p1), none, none], []), (e7, g, cw_R sv))) rfl (st_icle_n q9) ?_
      refine rh_Ex.blk 3 (s' := ((60, [some (.ref 6), none, some (.int p0), some (.int p1), none, none], [.int ((-1 : Int32) - p1)]), (e7, g, cw_R sv))) rfl ?_
      obtain rfl := Option.some.inj hf
      exact rh_Ex.ret rfl rfl
  · dsimp only at hf
    obtain rfl := Option.some.inj hf
    exact ⟨rfl, rfl⟩
def f_La_rule (h : Nat → Nat → Int32) : Option (Int32 × (Nat → Nat → Int32)) :=
  if ((f_La_takeText h).1) = 0 then
    some (((0 : Int32), (f_Ha_drop ((f_La_takeText h).2))))
  else
    (f_Re_readThrough_Ha_6_1 ((f_La_takeText h).2) ((f_La_takeText h).1) (40 : Int32)).bind (fun x2 =>
      if x2.1 = 0 then
        (f_Ha_adopt x2.2).bind (fun x4 =>
          some ((x2.1, x4))
        )
      else
        some ((x2.1, x2.2))
    )
set_option maxRecDepth 20000 in
set_option maxHeartbeats 4000000 in
theorem R_La_rule (d : Nat) (xx : rh_L) (sv : Option Nat) (h : Nat → Nat → Int32) (g : Nat → Nat → Int64)  {z9 : Int32 × (Nat → Nat → Int32)} (hf : f_La_rule h = some z9) : rh_M rh_PT (cw_L ++ xx) (d + 6) 104 [.ref 0] (h, g, cw_R sv) (some (.int z9.1)) (z9.2, g, cw_R sv) := by
  unfold f_La_rule at hf
  refine rh_go pt_104 (Nat.le_of_ble_eq_true rfl) (lv := [some (.ref 0), none, none]) rfl ?_
  refine rh_Ex.blk 1 (s' := ((1, [some (.ref 0), none, none], [.ref 0]), (h, g, cw_R sv))) rfl ?_
  refine rh_Ex.call (j := 158) (rc := some 10) [.ref 0] [] (some (.int ((f_La_takeText h).1))) rfl rfl rfl (Nat.le_of_ble_eq_true rfl) (R_La_takeText (d + 4) xx sv h g  rfl) ?_
  show rh_Ex _ _ _ ((4, [some (.ref 0), none, none], [.int ((f_La_takeText h).1)]), ((f_La_takeText h).2, g, cw_R sv)) _ _
  refine rh_Ex.blk 2 (s' := ((6, [some (.ref 0), some (.int ((f_La_takeText h).1)), none], [.int ((f_La_takeText h).1)]), ((f_La_takeText h).2, g, cw_R sv))) rfl ?_
  by_cases q1 : ((f_La_takeText h).1) = 0
  · rw [if_pos q1] at hf
    refine rh_Ex.stp (s' := ((9, [some (.ref 0), some (.int ((f_La_takeText h).1)), none], []), ((f_La_takeText h).2, g, cw_R sv))) rfl (st_ifne_p q1) ?_
    refine rh_Ex.blk 3 (s' := ((16, [some (.ref 0), some (.int ((f_La_takeText h).1)), none], [.ref 6]), ((f_La_takeText h).2, g, cw_R sv))) rfl ?_
    refine rh_Ex.call (j := 36) (rc := some 4) [.ref 6] [] none rfl rfl rfl (Nat.le_of_ble_eq_true rfl) (R_Ha_drop (d + 4) xx sv ((f_La_takeText h).2) g  rfl) ?_
    show rh_Ex _ _ _ ((19, [some (.ref 0), some (.int ((f_La_takeText h).1)), none], []), ((f_Ha_drop ((f_La_takeText h).2)), g, cw_R sv)) _ _
    refine rh_Ex.blk 1 (s' := ((20, [some (.ref 0), some (.int ((f_La_takeText h).1)), none], [.int (0 : Int32)]), ((f_Ha_drop ((f_La_takeText h).2)), g, cw_R sv))) rfl ?_
    obtain rfl := Option.some.inj hf
    exact rh_Ex.ret rfl rfl
  · rw [if_neg q1] at hf
    refine rh_Ex.stp (s' := ((21, [some (.ref 0), some (.int ((f_La_takeText h).1)), none], []), ((f_La_takeText h).2, g, cw_R sv))) rfl (st_ifne_n q1) ?_
    refine rh_Ex.blk 7 (s' := ((35, [some (.ref 0), some (.int ((f_La_takeText h).1)), none], [.int (40 : Int32), .int ((f_La_takeText h).1), .ref 1, .ref 6]), ((f_La_takeText h).2, g, cw_R sv))) rfl ?_
    obtain ⟨x2, hx2, hf⟩ := rh_bq hf
    refine rh_Ex.call (j := 54) (rc := some 4) [.ref 6, .ref 1, .int ((f_La_takeText h).1), .int (40 : Int32)] [] (some (.int x2.1)) rfl rfl rfl (Nat.le_of_ble_eq_true rfl) (R_Re_readThrough_Ha_6_1 d xx sv ((f_La_takeText h).2) g ((f_La_takeText h).1) (40 : Int32) hx2) ?_
    show rh_Ex _ _ _ ((38, [some (.ref 0), some (.int ((f_La_takeText h).1)), none], [.int x2.1]), (x2.2, g, cw_R sv)) _ _
    refine rh_Ex.blk 2 (s' := ((40, [some (.ref 0), some (.int ((f_La_takeText h).1)), some (.int x2.1)], [.int x2.1]), (x2.2, g, cw_R sv))) rfl ?_
    by_cases q3 : x2.1 = 0
    · rw [if_pos q3] at hf
      refine rh_Ex.stp (s' := ((43, [some (.ref 0), some (.int ((f_La_takeText h).1)), some (.int x2.1)], []), (x2.2, g, cw_R sv))) rfl (st_ifne_p q3) ?_
      refine rh_Ex.blk 3 (s' := ((50, [some (.ref 0), some (.int ((f_La_takeText h).1)), some (.int x2.1)], [.ref 6]), (x2.2, g, cw_R sv))) rfl ?_
      obtain ⟨x4, hx4, hf⟩ := rh_bq hf
      refine rh_Ex.call (j := 37) (rc := some 4) [.ref 6] [] none rfl rfl rfl (Nat.le_of_ble_eq_true rfl) (R_Ha_adopt (d + 3) xx sv x2.2 g  hx4) ?_
      show rh_Ex _ _ _ ((53, [some (.ref 0), some (.int ((f_La_takeText h).1)), some (.int x2.1)], []), (x4, g, cw_R sv)) _ _
      refine rh_Ex.blk 1 (s' := ((54, [some (.ref 0), some (.int ((f_La_takeText h).1)), some (.int x2.1)], [.int x2.1]), (x4, g, cw_R sv))) rfl ?_
      obtain rfl := Option.some.inj hf
      exact rh_Ex.ret rfl rfl
    · rw [if_neg q3] at hf
      refine rh_Ex.stp (s' := ((53, [some (.ref 0), some (.int ((f_La_takeText h).1)), some (.int x2.1)], []), (x2.2, g, cw_R sv))) rfl (st_ifne_n q3) ?_
      refine rh_Ex.blk 1 (s' := ((54, [some (.ref 0), some (.int ((f_La_takeText h).1)), some (.int x2.1)], [.int x2.1]), (x2.2, g, cw_R sv))) rfl ?_
      obtain rfl := Option.some.inj hf
      exact rh_Ex.ret rfl rfl
def f_La_dawn (h : Nat → Nat → Int32) : Int32 :=
  ((h 13 1) - ((h 13 1) - (h 13 1) / (9 : Int32) * (9 : Int32)))
set_option maxRecDepth 20000 in
set_option maxHeartbeats 4000000 in
theorem R_La_dawn (d : Nat) (xx : rh_L) (sv : Option Nat) (h : Nat → Nat → Int32) (g : Nat → Nat → Int64)  {z9 : Int32} (hf : f_La_dawn h = z9) : rh_M rh_PT (cw_L ++ xx) (d + 1) 159 [.ref 0] (h, g, cw_R sv) (some (.int z9)) (h, g, cw_R sv) := by
  unfold f_La_dawn at hf
  refine rh_go pt_159 (Nat.le_of_ble_eq_true rfl) (lv := [some (.ref 0)]) rfl ?_
  refine rh_Ex.blk 7 (s' := ((16, [some (.ref 0)], [.int (9 : Int32), .int (h 13 1), .int (h 13 1)]), (h, g, cw_R sv))) rfl ?_
  refine rh_Ex.stp (s' := ((17, [some (.ref 0)], [.int ((h 13 1) - (h 13 1) / (9 : Int32) * (9 : Int32)), .int (h 13 1)]), (h, g, cw_R sv))) rfl (st_irem (by decide)) ?_
  refine rh_Ex.blk 1 (s' := ((18, [some (.ref 0)], [.int ((h 13 1) - ((h 13 1) - (h 13 1) / (9 : Int32) * (9 : Int32)))]), (h, g, cw_R sv))) rfl ?_
  subst hf
  exact rh_Ex.ret rfl rfl
def f_La_of (h : Nat → Nat → Int32) (p0 : Int32) (p1 : Int32) : Option (Int32 × (Nat → Nat → Int32)) :=
  if (f_Cr_has h p0) = 0 then
    none
  else
    if ((0 : Int) = p1.toInt) then
      if (f_Cr_isPerson h p0) = 0 then
        some (((0 : Int32), h))
      else
        some (((1 : Int32), h))
    else
      if ((1 : Int) = p1.toInt) then
        rh_g (0 ≤ p0.toInt ∧ p0.toInt < ((9 : Nat) : Int)) (
          some ((h 5 p0.toNatClampNeg, h))
        )
      else
        if ((2 : Int) = p1.toInt) then
          (f_Cr_weightAt h p0 (h 13 1)).bind (fun x7 =>
            some ((x7.1, x7.2))
          )
        else
          if ((3 : Int) = p1.toInt) then
            rh_g (0 ≤ p0.toInt ∧ p0.toInt < ((9 : Nat) : Int)) (
              some ((h 14 p0.toNatClampNeg, h))
            )
          else
            if ((4 : Int) = p1.toInt) then
              some ((((h 13 2) >>> (p0 &&& 31)) &&& (1 : Int32), h))
            else
              if ((5 : Int) = p1.toInt) then
                (f_Cr_weightAt h p0 (((f_La_dawn h) + (9 : Int32)) - (1 : Int32))).bind (fun x12 =>
                  some ((x12.1, x12.2))
                )
              else
                none
set_option maxRecDepth 20000 in
set_option maxHeartbeats 4000000 in
theorem R_La_of (d : Nat) (xx : rh_L) (sv : Option Nat) (h : Nat → Nat → Int32) (g : Nat → Nat → Int64) (p0 : Int32) (p1 : Int32) {z9 : Int32 × (Nat → Nat → Int32)} (hf : f_La_of h p0 p1 = some z9) : rh_M rh_PT (cw_L ++ xx) (d + 4) 105 [.ref 0, .int p0, .int p1] (h, g, cw_R sv) (some (.int z9.1)) (z9.2, g, cw_R sv) := by
  unfold f_La_of at hf
  refine rh_go pt_105 (Nat.le_of_ble_eq_true rfl) (lv := [some (.ref 0), some (.int p0), some (.int p1)]) rfl ?_
  refine rh_Ex.blk 3 (s' := ((5, [some (.ref 0), some (.int p0), some (.int p1)], [.int p0, .ref 4]), (h, g, cw_R sv))) rfl ?_
  refine rh_Ex.call (j := 0) (rc := some 0) [.ref 4, .int p0] [] (some (.int (f_Cr_has h p0))) rfl rfl rfl (Nat.le_of_ble_eq_true rfl) (R_Cr_has (d + 2) xx sv h g p0 rfl) ?_
  show rh_Ex _ _ _ ((8, [some (.ref 0), some (.int p0), some (.int p1)], [.int (f_Cr_has h p0)]), (h, g, cw_R sv)) _ _
  by_cases q1 : (f_Cr_has h p0) = 0
  · rw [if_pos q1] at hf
    refine rh_Ex.stp (s' := ((11, [some (.ref 0), some (.int p0), some (.int p1)], []), (h, g, cw_R sv))) rfl (st_ifne_p q1) ?_
    cases hf
  · rw [if_neg q1] at hf
    refine rh_Ex.stp (s' := ((19, [some (.ref 0), some (.int p0), some (.int p1)], []), (h, g, cw_R sv))) rfl (st_ifne_n q1) ?_
    refine rh_Ex.blk 1 (s' := ((20, [some (.ref 0), some (.int p0), some (.int p1)], [.int p1]), (h, g, cw_R sv))) rfl ?_
    refine rh_Ex.stp (s' := ((rh_tw 0 [60, 77, 87, 103, 113, 125] 143 p1, [some (.ref 0), some (.int p0), some (.int p1)], []), (h, g, cw_R sv))) rfl rfl ?_
    by_cases q2 : ((0 : Int) = p1.toInt)
    · rw [if_pos q2] at hf
      rw [rh_tw, if_pos (show (0 : Int) = p1.toInt from q2)]
      refine rh_Ex.blk 3 (s' := ((65, [some (.ref 0), some (.int p0), some (.int p1)], [.int p0, .ref 4]), (h, g, cw_R sv))) rfl ?_
      refine rh_Ex.call (j := 3) (rc := some 0) [.ref 4, .int p0] [] (some (.int (f_Cr_isPerson h p0))) rfl rfl rfl (Nat.le_of_ble_eq_true rfl) (R_Cr_isPerson (d + 2) xx sv h g p0 rfl) ?_
      show rh_Ex _ _ _ ((68, [some (.ref 0), some (.int p0), some (.int p1)], [.int (f_Cr_isPerson h p0)]), (h, g, cw_R sv)) _ _
      by_cases q3 : (f_Cr_isPerson h p0) = 0
      · rw [if_pos q3] at hf
        refine rh_Ex.stp (s' := ((75, [some (.ref 0), some (.int p0), some (.int p1)], []), (h, g, cw_R sv))) rfl (st_ifeq_p q3) ?_
        refine rh_Ex.blk 1 (s' := ((76, [some (.ref 0), some (.int p0), some (.int p1)], [.int (0 : Int32)]), (h, g, cw_R sv))) rfl ?_
        obtain rfl := Option.some.inj hf
        exact rh_Ex.ret rfl rfl
      · rw [if_neg q3] at hf
        refine rh_Ex.stp (s' := ((71, [some (.ref 0), some (.int p0), some (.int p1)], []), (h, g, cw_R sv))) rfl (st_ifeq_n q3) ?_
        refine rh_Ex.blk 2 (s' := ((76, [some (.ref 0), some (.int p0), some (.int p1)], [.int (1 : Int32)]), (h, g, cw_R sv))) rfl ?_
        obtain rfl := Option.some.inj hf
        exact rh_Ex.ret rfl rfl
    · rw [if_neg q2] at hf
      rw [rh_tw, if_neg (show ¬ (0 : Int) = p1.toInt from q2)]
      by_cases q4 : ((1 : Int) = p1.toInt)
      · rw [if_pos q4] at hf
        rw [rh_tw, if_pos (show (0 + 1 : Int) = p1.toInt from q4)]
        refine rh_Ex.blk 4 (s' := ((85, [some (.ref 0), some (.int p0), some (.int p1)], [.int p0, .ref 5]), (h, g, cw_R sv))) rfl ?_
        obtain ⟨q5, hf⟩ := rh_gq hf
        refine rh_Ex.stp (s' := ((86, [some (.ref 0), some (.int p0), some (.int p1)], [.int (h 5 p0.toNatClampNeg)]), (h, g, cw_R sv))) rfl (st_iald (n := 9) rfl q5) ?_
        obtain rfl := Option.some.inj hf
        exact rh_Ex.ret rfl rfl
      · rw [if_neg q4] at hf
        rw [rh_tw, if_neg (show ¬ (0 + 1 : Int) = p1.toInt from q4)]
        by_cases q6 : ((2 : Int) = p1.toInt)
        · rw [if_pos q6] at hf
          rw [rh_tw, if_pos (show (0 + 1 + 1 : Int) = p1.toInt from q6)]
          refine rh_Ex.blk 6 (s' := ((99, [some (.ref 0), some (.int p0), some (.int p1)], [.int (h 13 1), .int p0, .ref 4]), (h, g, cw_R sv))) rfl ?_
          obtain ⟨x7, hx7, hf⟩ := rh_bq hf
          refine rh_Ex.call (j := 5) (rc := some 0) [.ref 4, .int p0, .int (h 13 1)] [] (some (.int x7.1)) rfl rfl rfl (Nat.le_of_ble_eq_true rfl) (R_Cr_weightAt d xx sv h g p0 (h 13 1) hx7) ?_
          show rh_Ex _ _ _ ((102, [some (.ref 0), some (.int p0), some (.int p1)], [.int x7.1]), (x7.2, g, cw_R sv)) _ _
          obtain rfl := Option.some.inj hf
          exact rh_Ex.ret rfl rfl
        · rw [if_neg q6] at hf
          rw [rh_tw, if_neg (show ¬ (0 + 1 + 1 : Int) = p1.toInt from q6)]
          by_cases q8 : ((3 : Int) = p1.toInt)
          · rw [if_pos q8] at hf
            rw [rh_tw, if_pos (show (0 + 1 + 1 + 1 : Int) = p1.toInt from q8)]
            refine rh_Ex.blk 4 (s' := ((111, [some (.ref 0), some (.int p0), some (.int p1)], [.int p0, .ref 14]), (h, g, cw_R sv))) rfl ?_
            obtain ⟨q9, hf⟩ := rh_gq hf
            refine rh_Ex.stp (s' := ((112, [some (.ref 0), some (.int p0), some (.int p1)], [.int (h 14 p0.toNatClampNeg)]), (h, g, cw_R sv))) rfl (st_iald (n := 9) rfl q9) ?_
            obtain rfl := Option.some.inj hf
            exact rh_Ex.ret rfl rfl
          · rw [if_neg q8] at hf
            rw [rh_tw, if_neg (show ¬ (0 + 1 + 1 + 1 : Int) = p1.toInt from q8)]
            by_cases q10 : ((4 : Int) = p1.toInt)
            · rw [if_pos q10] at hf
              rw [rh_tw, if_pos (show (0 + 1 + 1 + 1 + 1 : Int) = p1.toInt from q10)]
              refine rh_Ex.blk 7 (s' := ((124, [some (.ref 0), some (.int p0), some (.int p1)], [.int (((h 13 2) >>> (p0 &&& 31)) &&& (1 : Int32))]), (h, g, cw_R sv))) rfl ?_
              obtain rfl := Option.some.inj hf
              exact rh_Ex.ret rfl rfl
            · rw [if_neg q10] at hf
              rw [rh_tw, if_neg (show ¬ (0 + 1 + 1 + 1 + 1 : Int) = p1.toInt from q10)]
              by_cases q11 : ((5 : Int) = p1.toInt)
              · rw [if_pos q11] at hf
                rw [rh_tw, if_pos (show (0 + 1 + 1 + 1 + 1 + 1 : Int) = p1.toInt from q11)]
                refine rh_Ex.blk 4 (s' := ((131, [some (.ref 0), some (.int p0), some (.int p1)], [.ref 0, .int p0, .ref 4]), (h, g, cw_R sv))) rfl ?_
                refine rh_Ex.call (j := 159) (rc := some 10) [.ref 0] [.int p0, .ref 4] (some (.int (f_La_dawn h))) rfl rfl rfl (Nat.le_of_ble_eq_true rfl) (R_La_dawn (d + 2) xx sv h g  rfl) ?_
                show rh_Ex _ _ _ ((134, [some (.ref 0), some (.int p0), some (.int p1)], [.int (f_La_dawn h), .int p0, .ref 4]), (h, g, cw_R sv)) _ _
                refine rh_Ex.blk 4 (s' := ((139, [some (.ref 0), some (.int p0), some (.int p1)], [.int (((f_La_dawn h) + (9 : Int32)) - (1 : Int32)), .int p0, .ref 4]), (h, g, cw_R sv))) rfl ?_
                obtain ⟨x12, hx12, hf⟩ := rh_bq hf
                refine rh_Ex.call (j := 5) (rc := some 0) [.ref 4, .int p0, .int (((f_La_dawn h) + (9 : Int32)) - (1 : Int32))] [] (some (.int x12.1)) rfl rfl rfl (Nat.le_of_ble_eq_true rfl) (R_Cr_weightAt d xx sv h g p0 (((f_La_dawn h) + (9 : Int32)) - (1 : Int32)) hx12) ?_
                show rh_Ex _ _ _ ((142, [some (.ref 0), some (.int p0), some (.int p1)], [.int x12.1]), (x12.2, g, cw_R sv)) _ _
                obtain rfl := Option.some.inj hf
                exact rh_Ex.ret rfl rfl
              · rw [if_neg q11] at hf
                rw [rh_tw, if_neg (show ¬ (0 + 1 + 1 + 1 + 1 + 1 : Int) = p1.toInt from q11)]
                rw [rh_tw]
                cases hf
def f_La_within (p0 : Int32) (p1 : Int32) (p2 : Int32) : Int32 :=
  if p0 < p1 then
    (0 : Int32)
  else
    if p2 < p0 then
      (0 : Int32)
    else
      (1 : Int32)
set_option maxRecDepth 20000 in
set_option maxHeartbeats 4000000 in
theorem R_La_within (d : Nat) (LL : rh_L) (rr : Nat → Nat → Option Nat) (h : Nat → Nat → Int32) (g : Nat → Nat → Int64) (p0 : Int32) (p1 : Int32) (p2 : Int32) {z9 : Int32} (hf : f_La_within p0 p1 p2 = z9) : rh_M rh_PT LL (d + 1) 155 [.int p0, .int p1, .int p2] (h, g, rr) (some (.int z9)) (h, g, rr) := by
  unfold f_La_within at hf
  refine rh_go pt_155 (Nat.le_of_ble_eq_true rfl) (lv := [some (.int p0), some (.int p1), some (.int p2)]) rfl ?_
  refine rh_Ex.blk 2 (s' := ((2, [some (.int p0), some (.int p1), some (.int p2)], [.int p1, .int p0]), (h, g, rr))) rfl ?_
  by_cases q1 : p0 < p1
  · rw [if_pos q1] at hf
    refine rh_Ex.stp (s' := ((14, [some (.int p0), some (.int p1), some (.int p2)], []), (h, g, rr))) rfl (st_iclt_p q1) ?_
    refine rh_Ex.blk 1 (s' := ((15, [some (.int p0), some (.int p1), some (.int p2)], [.int (0 : Int32)]), (h, g, rr))) rfl ?_
    subst hf
    exact rh_Ex.ret rfl ⟨rfl, Or.inl rfl⟩
  · rw [if_neg q1] at hf
    refine rh_Ex.stp (s' := ((5, [some (.int p0), some (.int p1), some (.int p2)], []), (h, g, rr))) rfl (st_iclt_n q1) ?_
    refine rh_Ex.blk 2 (s' := ((7, [some (.int p0), some (.int p1), some (.int p2)], [.int p2, .int p0]), (h, g, rr))) rfl ?_
    by_cases q2 : p2 < p0
    · rw [if_pos q2] at hf
      refine rh_Ex.stp (s' := ((14, [some (.int p0), some (.int p1), some (.int p2)], []), (h, g, rr))) rfl (st_icgt_p q2) ?_
      refine rh_Ex.blk 1 (s' := ((15, [some (.int p0), some (.int p1), some (.int p2)], [.int (0 : Int32)]), (h, g, rr))) rfl ?_
      subst hf
      exact rh_Ex.ret rfl ⟨rfl, Or.inl rfl⟩
    · rw [if_neg q2] at hf
      refine rh_Ex.stp (s' := ((10, [some (.int p0), some (.int p1), some (.int p2)], []), (h, g, rr))) rfl (st_icgt_n q2) ?_
      refine rh_Ex.blk 2 (s' := ((15, [some (.int p0), some (.int p1), some (.int p2)], [.int (1 : Int32)]), (h, g, rr))) rfl ?_
      subst hf
      exact rh_Ex.ret rfl ⟨rfl, Or.inr rfl⟩
def f_La_weight (h : Nat → Nat → Int32) (p0 : Int32) (p1 : Int32) : Option (Int32 × (Nat → Nat → Int32)) :=
  if (f_Cr_has h p0) = 0 then
    none
  else
    if (f_La_within p1 (0 : Int32) (999 : Int32)) = 0 then
      none
    else
      (f_Cr_weightAt h p0 ((h 13 1) + p1)).bind (fun x3 =>
        some ((x3.1, x3.2))
      )
set_option maxRecDepth 20000 in
set_option maxHeartbeats 4000000 in
theorem R_La_weight (d : Nat) (xx : rh_L) (sv : Option Nat) (h : Nat → Nat → Int32) (g : Nat → Nat → Int64) (p0 : Int32) (p1 : Int32) {z9 : Int32 × (Nat → Nat → Int32)} (hf : f_La_weight h p0 p1 = some z9) : rh_M rh_PT (cw_L ++ xx) (d + 4) 106 [.ref 0, .int p0, .int p1] (h, g, cw_R sv) (some (.int z9.1)) (z9.2, g, cw_R sv) := by
  unfold f_La_weight at hf
  refine rh_go pt_106 (Nat.le_of_ble_eq_true rfl) (lv := [some (.ref 0), some (.int p0), some (.int p1)]) rfl ?_
  refine rh_Ex.blk 3 (s' := ((5, [some (.ref 0), some (.int p0), some (.int p1)], [.int p0, .ref 4]), (h, g, cw_R sv))) rfl ?_
  refine rh_Ex.call (j := 0) (rc := some 0) [.ref 4, .int p0] [] (some (.int (f_Cr_has h p0))) rfl rfl rfl (Nat.le_of_ble_eq_true rfl) (R_Cr_has (d + 2) xx sv h g p0 rfl) ?_
  show rh_Ex _ _ _ ((8, [some (.ref 0), some (.int p0), some (.int p1)], [.int (f_Cr_has h p0)]), (h, g, cw_R sv)) _ _
  by_cases q1 : (f_Cr_has h p0) = 0
  · rw [if_pos q1] at hf
    refine rh_Ex.stp (s' := ((22, [some (.ref 0), some (.int p0), some (.int p1)], []), (h, g, cw_R sv))) rfl (st_ifeq_p q1) ?_
    cases hf
  · rw [if_neg q1] at hf
    refine rh_Ex.stp (s' := ((11, [some (.ref 0), some (.int p0), some (.int p1)], []), (h, g, cw_R sv))) rfl (st_ifeq_n q1) ?_
    refine rh_Ex.blk 3 (s' := ((16, [some (.ref 0), some (.int p0), some (.int p1)], [.int (999 : Int32), .int (0 : Int32), .int p1]), (h, g, cw_R sv))) rfl ?_
    refine rh_Ex.call (j := 155) (rc := none) [.int p1, .int (0 : Int32), .int (999 : Int32)] [] (some (.int (f_La_within p1 (0 : Int32) (999 : Int32)))) rfl rfl trivial (Nat.le_of_ble_eq_true rfl) (R_La_within (d + 2) (cw_L ++ xx) (cw_R sv) h g p1 (0 : Int32) (999 : Int32) rfl) ?_
    show rh_Ex _ _ _ ((19, [some (.ref 0), some (.int p0), some (.int p1)], [.int (f_La_within p1 (0 : Int32) (999 : Int32))]), (h, g, cw_R sv)) _ _
    by_cases q2 : (f_La_within p1 (0 : Int32) (999 : Int32)) = 0
    · rw [if_pos q2] at hf
      refine rh_Ex.stp (s' := ((22, [some (.ref 0), some (.int p0), some (.int p1)], []), (h, g, cw_R sv))) rfl (st_ifne_p q2) ?_
      cases hf
    · rw [if_neg q2] at hf
      refine rh_Ex.stp (s' := ((30, [some (.ref 0), some (.int p0), some (.int p1)], []), (h, g, cw_R sv))) rfl (st_ifne_n q2) ?_
      refine rh_Ex.blk 8 (s' := ((44, [some (.ref 0), some (.int p0), some (.int p1)], [.int ((h 13 1) + p1), .int p0, .ref 4]), (h, g, cw_R sv))) rfl ?_
      obtain ⟨x3, hx3, hf⟩ := rh_bq hf
      refine rh_Ex.call (j := 5) (rc := some 0) [.ref 4, .int p0, .int ((h 13 1) + p1)] [] (some (.int x3.1)) rfl rfl rfl (Nat.le_of_ble_eq_true rfl) (R_Cr_weightAt d xx sv h g p0 ((h 13 1) + p1) hx3) ?_
      show rh_Ex _ _ _ ((47, [some (.ref 0), some (.int p0), some (.int p1)], [.int x3.1]), (x3.2, g, cw_R sv)) _ _
      obtain rfl := Option.some.inj hf
      exact rh_Ex.ret rfl rfl
def f_La_all (h : Nat → Nat → Int32) (p0 : Int32) (p1 : Int32) : Option (Int32 × (Nat → Nat → Int32)) :=
  if (f_Cr_holds h p0) = 0 then
    some (((-1 : Int32), h))
  else
    if (f_La_within p1 (0 : Int32) (999 : Int32)) = 0 then
      some (((-1 : Int32), h))
    else
      (f_Cr_together h p0 ((h 13 1) + p1)).bind (fun x3 =>
        some ((x3.1, x3.2))
      )
set_option maxRecDepth 20000 in
set_option maxHeartbeats 4000000 in
theorem R_La_all (d : Nat) (xx : rh_L) (sv : Option Nat) (h : Nat → Nat → Int32) (g : Nat → Nat → Int64) (p0 : Int32) (p1 : Int32) {z9 : Int32 × (Nat → Nat → Int32)} (hf : f_La_all h p0 p1 = some z9) : rh_M rh_PT (cw_L ++ xx) (d + 5) 107 [.ref 0, .int p0, .int p1] (h, g, cw_R sv) (some (.int z9.1)) (z9.2, g, cw_R sv) := by
  unfold f_La_all at hf
  refine rh_go pt_107 (Nat.le_of_ble_eq_true rfl) (lv := [some (.ref 0), some (.int p0), some (.int p1)]) rfl ?_
  refine rh_Ex.blk 3 (s' := ((5, [some (.ref 0), some (.int p0), some (.int p1)], [.int p0, .ref 4]), (h, g, cw_R sv))) rfl ?_
  refine rh_Ex.call (j := 1) (rc := some 0) [.ref 4, .int p0] [] (some (.int (f_Cr_holds h p0))) rfl rfl rfl (Nat.le_of_ble_eq_true rfl) (R_Cr_holds (d + 2) xx sv h g p0 rfl) ?_
  show rh_Ex _ _ _ ((8, [some (.ref 0), some (.int p0), some (.int p1)], [.int (f_Cr_holds h p0)]), (h, g, cw_R sv)) _ _
  by_cases q1 : (f_Cr_holds h p0) = 0
  · rw [if_pos q1] at hf
    refine rh_Ex.stp (s' := ((22, [some (.ref 0), some (.int p0), some (.int p1)], []), (h, g, cw_R sv))) rfl (st_ifeq_p q1) ?_
    refine rh_Ex.blk 1 (s' := ((23, [some (.ref 0), some (.int p0), some (.int p1)], [.int (-1 : Int32)]), (h, g, cw_R sv))) rfl ?_
    obtain rfl := Option.some.inj hf
    exact rh_Ex.ret rfl rfl
  · rw [if_neg q1] at hf
    refine rh_Ex.stp (s' := ((11, [some (.ref 0), some (.int p0), some (.int p1)], []), (h, g, cw_R sv))) rfl (st_ifeq_n q1) ?_
    refine rh_Ex.blk 3 (s' := ((16, [some (.ref 0), some (.int p0), some (.int p1)], [.int (999 : Int32), .int (0 : Int32), .int p1]), (h, g, cw_R sv))) rfl ?_
    refine rh_Ex.call (j := 155) (rc := none) [.int p1, .int (0 : Int32), .int (999 : Int32)] [] (some (.int (f_La_within p1 (0 : Int32) (999 : Int32)))) rfl rfl trivial (Nat.le_of_ble_eq_true rfl) (R_La_within (d + 3) (cw_L ++ xx) (cw_R sv) h g p1 (0 : Int32) (999 : Int32) rfl) ?_
    show rh_Ex _ _ _ ((19, [some (.ref 0), some (.int p0), some (.int p1)], [.int (f_La_within p1 (0 : Int32) (999 : Int32))]), (h, g, cw_R sv)) _ _
    by_cases q2 : (f_La_within p1 (0 : Int32) (999 : Int32)) = 0
    · rw [if_pos q2] at hf
      refine rh_Ex.stp (s' := ((22, [some (.ref 0), some (.int p0), some (.int p1)], []), (h, g, cw_R sv))) rfl (st_ifne_p q2) ?_
      refine rh_Ex.blk 1 (s' := ((23, [some (.ref 0), some (.int p0), some (.int p1)], [.int (-1 : Int32)]), (h, g, cw_R sv))) rfl ?_
      obtain rfl := Option.some.inj hf
      exact rh_Ex.ret rfl rfl
    · rw [if_neg q2] at hf
      refine rh_Ex.stp (s' := ((24, [some (.ref 0), some (.int p0), some (.int p1)], []), (h, g, cw_R sv))) rfl (st_ifne_n q2) ?_
      refine rh_Ex.blk 8 (s' := ((38, [some (.ref 0), some (.int p0), some (.int p1)], [.int ((h 13 1) + p1), .int p0, .ref 4]), (h, g, cw_R sv))) rfl ?_
      obtain ⟨x3, hx3, hf⟩ := rh_bq hf
      refine rh_Ex.call (j := 7) (rc := some 0) [.ref 4, .int p0, .int ((h 13 1) + p1)] [] (some (.int x3.1)) rfl rfl rfl (Nat.le_of_ble_eq_true rfl) (R_Cr_together d xx sv h g p0 ((h 13 1) + p1) hx3) ?_
      show rh_Ex _ _ _ ((41, [some (.ref 0), some (.int p0), some (.int p1)], [.int x3.1]), (x3.2, g, cw_R sv)) _ _
      obtain rfl := Option.some.inj hf
      exact rh_Ex.ret rfl rfl
def f_La_bear (h : Nat → Nat → Int32) (p0 : Int32) (p1 : Int32) : Option (Int32 × (Nat → Nat → Int32)) :=
  if (f_La_within p0 (0 : Int32) (2 : Int32)) = 0 then
    some (((-1 : Int32), h))
  else
    if (f_La_within p1 (0 : Int32) (9999 : Int32)) = 0 then
      some (((-1 : Int32), h))
    else
      rh_g (0 ≤ p0.toInt ∧ p0.toInt < ((3 : Nat) : Int)) (
        rh_g (0 ≤ p0.toInt ∧ p0.toInt < ((3 : Nat) : Int)) (
          some ((h 40 p0.toNatClampNeg, rh_up h 40 p0.toNatClampNeg p1))
        )
      )
set_option maxRecDepth 20000 in
set_option maxHeartbeats 4000000 in
theorem R_La_bear (d : Nat) (xx : rh_L) (sv : Option Nat) (h : Nat → Nat → Int32) (g : Nat → Nat → Int64) (p0 : Int32) (p1 : Int32) {z9 : Int32 × (Nat → Nat → Int32)} (hf : f_La_bear h p0 p1 = some z9) : rh_M rh_PT (cw_L ++ xx) (d + 2) 108 [.ref 0, .int p0, .int p1] (h, g, cw_R sv) (some (.int z9.1)) (z9.2, g, cw_R sv) := by
  unfold f_La_bear at hf
  refine rh_go pt_108 (Nat.le_of_ble_eq_true rfl) (lv := [some (.ref 0), some (.int p0), some (.int p1), none]) rfl ?_
  refine rh_Ex.blk 3 (s' := ((3, [some (.ref 0), some (.int p0), some (.int p1), none], [.int (2 : Int32), .int (0 : Int32), .int p0]), (h, g, cw_R sv))) rfl ?_
  refine rh_Ex.call (j := 155) (rc := none) [.int p0, .int (0 : Int32), .int (2 : Int32)] [] (some (.int (f_La_within p0 (0 : Int32) (2 : Int32)))) rfl rfl trivial (Nat.le_of_ble_eq_true rfl) (R_La_within d (cw_L ++ xx) (cw_R sv) h g p0 (0 : Int32) (2 : Int32) rfl) ?_
  show rh_Ex _ _ _ ((6, [some (.ref 0), some (.int p0), some (.int p1), none], [.int (f_La_within p0 (0 : Int32) (2 : Int32))]), (h, g, cw_R sv)) _ _
  by_cases q1 : (f_La_within p0 (0 : Int32) (2 : Int32)) = 0
  · rw [if_pos q1] at hf
    refine rh_Ex.stp (s' := ((20, [some (.ref 0), some (.int p0), some (.int p1), none], []), (h, g, cw_R sv))) rfl (st_ifeq_p q1) ?_
    refine rh_Ex.blk 1 (s' := ((21, [some (.ref 0), some (.int p0), some (.int p1), none], [.int (-1 : Int32)]), (h, g, cw_R sv))) rfl ?_
    obtain rfl := Option.some.inj hf
    exact rh_Ex.ret rfl rfl
  · rw [if_neg q1] at hf
    refine rh_Ex.stp (s' := ((9, [some (.ref 0), some (.int p0), some (.int p1), none], []), (h, g, cw_R sv))) rfl (st_ifeq_n q1) ?_
    refine rh_Ex.blk 3 (s' := ((14, [some (.ref 0), some (.int p0), some (.int p1), none], [.int (9999 : Int32), .int (0 : Int32), .int p1]), (h, g, cw_R sv))) rfl ?_
    refine rh_Ex.call (j := 155) (rc := none) [.int p1, .int (0 : Int32), .int (9999 : Int32)] [] (some (.int (f_La_within p1 (0 : Int32) (9999 : Int32)))) rfl rfl trivial (Nat.le_of_ble_eq_true rfl) (R_La_within d (cw_L ++ xx) (cw_R sv) h g p1 (0 : Int32) (9999 : Int32) rfl) ?_
    show rh_Ex _ _ _ ((17, [some (.ref 0), some (.int p0), some (.int p1), none], [.int (f_La_within p1 (0 : Int32) (9999 : Int32))]), (h, g, cw_R sv)) _ _
    by_cases q2 : (f_La_within p1 (0 : Int32) (9999 : Int32)) = 0
    · rw [if_pos q2] at hf
      refine rh_Ex.stp (s' := ((20, [some (.ref 0), some (.int p0), some (.int p1), none], []), (h, g, cw_R sv))) rfl (st_ifne_p q2) ?_
      refine rh_Ex.blk 1 (s' := ((21, [some (.ref 0), some (.int p0), some (.int p1), none], [.int (-1 : Int32)]), (h, g, cw_R sv))) rfl ?_
      obtain rfl := Option.some.inj hf
      exact rh_Ex.ret rfl rfl
    · rw [if_neg q2] at hf
      refine rh_Ex.stp (s' := ((22, [some (.ref 0), some (.int p0), some (.int p1), none], []), (h, g, cw_R sv))) rfl (st_ifne_n q2) ?_
      refine rh_Ex.blk 3 (s' := ((27, [some (.ref 0), some (.int p0), some (.int p1), none], [.int p0, .ref 40]), (h, g, cw_R sv))) rfl ?_
      obtain ⟨q3, hf⟩ := rh_gq hf
      refine rh_Ex.stp (s' := ((28, [some (.ref 0), some (.int p0), some (.int p1), none], [.int (h 40 p0.toNatClampNeg)]), (h, g, cw_R sv))) rfl (st_iald (n := 3) rfl q3) ?_
      refine rh_Ex.blk 5 (s' := ((35, [some (.ref 0), some (.int p0), some (.int p1), some (.int (h 40 p0.toNatClampNeg))], [.int p1, .int p0, .ref 40]), (h, g, cw_R sv))) rfl ?_
      obtain ⟨q4, hf⟩ := rh_gq hf
      refine rh_Ex.stp (s' := ((36, [some (.ref 0), some (.int p0), some (.int p1), some (.int (h 40 p0.toNatClampNeg))], []), (rh_up h 40 p0.toNatClampNeg p1, g, cw_R sv))) rfl (st_iast (n := 3) rfl q4) ?_
      refine rh_Ex.blk 1 (s' := ((37, [some (.ref 0), some (.int p0), some (.int p1), some (.int (h 40 p0.toNatClampNeg))], [.int (h 40 p0.toNatClampNeg)]), (rh_up h 40 p0.toNatClampNeg p1, g, cw_R sv))) rfl ?_
      obtain rfl := Option.some.inj hf
      exact rh_Ex.ret rfl rfl
def f_La_sheet (h : Nat → Nat → Int32) (p0 : Int32) (p1 : Int32) (p2 : Int32) (p3 : Int32) : Option (Int32 × (Nat → Nat → Int32)) :=
  if (f_La_within p0 (0 : Int32) (3 : Int32)) = 0 then
    some (((-1 : Int32), h))
  else
    if p1 ≤ (9 : Int32) then
      if p0 = (3 : Int32) then
        (f_Cr_rebase h p0 (0 : Int32) p2 p3).bind (fun x4 =>
          some (((-3 : Int32), x4.2))
        )
      else
        if 0 ≤ p1 then
          (f_Cr_rebase h p0 p1 p2 p3).bind (fun x6 =>
            some ((x6.1, x6.2))
          )
        else
          some (((-2 : Int32), h))
    else
      some (((-1 : Int32), h))
set_option maxRecDepth 20000 in
set_option maxHeartbeats 4000000 in
theorem R_La_sheet (d : Nat) (xx : rh_L) (sv : Option Nat) (h : Nat → Nat → Int32) (g : Nat → Nat → Int64) (p0 : Int32) (p1 : Int32) (p2 : Int32) (p3 : Int32) {z9 : Int32 × (Nat → Nat → Int32)} (hf : f_La_sheet h p0 p1 p2 p3 = some z9) : rh_M rh_PT (cw_L ++ xx) (d + 3) 109 [.ref 0, .int p0, .int p1, .int p2, .int p3] (h, g, cw_R sv) (some (.int z9.1)) (z9.2, g, cw_R sv) := by
  unfold f_La_sheet at hf
  refine rh_go pt_109 (Nat.le_of_ble_eq_true rfl) (lv := [some (.ref 0), some (.int p0), some (.int p1), some (.int p2), some (.int p3)]) rfl ?_
  refine rh_Ex.blk 3 (s' := ((3, [some (.ref 0), some (.int p0), some (.int p1), some (.int p2), some (.int p3)], [.int (3 : Int32), .int (0 : Int32), .int p0]), (h, g, cw_R sv))) rfl ?_
  refine rh_Ex.call (j := 155) (rc := none) [.int p0, .int (0 : Int32), .int (3 : Int32)] [] (some (.int (f_La_within p0 (0 : Int32) (3 : Int32)))) rfl rfl trivial (Nat.le_of_ble_eq_true rfl) (R_La_within (d + 1) (cw_L ++ xx) (cw_R sv) h g p0 (0 : Int32) (3 : Int32) rfl) ?_
  show rh_Ex _ _ _ ((6, [some (.ref 0), some (.int p0), some (.int p1), some (.int p2), some (.int p3)], [.int (f_La_within p0 (0 : Int32) (3 : Int32))]), (h, g, cw_R sv)) _ _
  by_cases q1 : (f_La_within p0 (0 : Int32) (3 : Int32)) = 0
  · rw [if_pos q1] at hf
    refine rh_Ex.stp (s' := ((15, [some (.ref 0), some (.int p0), some (.int p1), some (.int p2), some (.int p3)], []), (h, g, cw_R sv))) rfl (st_ifeq_p q1) ?_
    refine rh_Ex.blk 1 (s' := ((16, [some (.ref 0), some (.int p0), some (.int p1), some (.int p2), some (.int p3)], [.int (-1 : Int32)]), (h, g, cw_R sv))) rfl ?_
    obtain rfl := Option.some.inj hf
    exact rh_Ex.ret rfl rfl
  · rw [if_neg q1] at hf
    refine rh_Ex.stp (s' := ((9, [some (.ref 0), some (.int p0), some (.int p1), some (.int p2), some (.int p3)], []), (h, g, cw_R sv))) rfl (st_ifeq_n q1) ?_
    refine rh_Ex.blk 2 (s' := ((12, [some (.ref 0), some (.int p0), some (.int p1), some (.int p2), some (.int p3)], [.int (9 : Int32), .int p1]), (h, g, cw_R sv))) rfl ?_
    by_cases q2 : p1 ≤ (9 : Int32)
    · rw [if_pos q2] at hf
      refine rh_Ex.stp (s' := ((17, [some (.ref 0), some (.int p0), some (.int p1), some (.int p2), some (.int p3)], []), (h, g, cw_R sv))) rfl (st_icle_p q2) ?_
      refine rh_Ex.blk 2 (s' := ((19, [some (.ref 0), some (.int p0), some (.int p1), some (.int p2), some (.int p3)], [.int (3 : Int32), .int p0]), (h, g, cw_R sv))) rfl ?_
      by_cases q3 : p0 = (3 : Int32)
      · rw [if_pos q3] at hf
        refine rh_Ex.stp (s' := ((22, [some (.ref 0), some (.int p0), some (.int p1), some (.int p2), some (.int p3)], []), (h, g, cw_R sv))) rfl (st_icne_p q3) ?_
        refine rh_Ex.blk 6 (s' := ((31, [some (.ref 0), some (.int p0), some (.int p1), some (.int p2), some (.int p3)], [.int p3, .int p2, .int (0 : Int32), .int p0, .ref 4]), (h, g, cw_R sv))) rfl ?_
        obtain ⟨x4, hx4, hf⟩ := rh_bq hf
        refine rh_Ex.call (j := 9) (rc := some 0) [.ref 4, .int p0, .int (0 : Int32), .int p2, .int p3] [] (some (.int x4.1)) rfl rfl rfl (Nat.le_of_ble_eq_true rfl) (R_Cr_rebase d xx sv h g p0 (0 : Int32) p2 p3 hx4) ?_
        show rh_Ex _ _ _ ((34, [some (.ref 0), some (.int p0), some (.int p1), some (.int p2), some (.int p3)], [.int x4.1]), (x4.2, g, cw_R sv)) _ _
        refine rh_Ex.blk 2 (s' := ((37, [some (.ref 0), some (.int p0), some (.int p1), some (.int p2), some (.int p3)], [.int (-3 : Int32)]), (x4.2, g, cw_R sv))) rfl ?_
        obtain rfl := Option.some.inj hf
        exact rh_Ex.ret rfl rfl
      · rw [if_neg q3] at hf
        refine rh_Ex.stp (s' := ((38, [some (.ref 0), some (.int p0), some (.int p1), some (.int p2), some (.int p3)], []), (h, g, cw_R sv))) rfl (st_icne_n q3) ?_
        refine rh_Ex.blk 1 (s' := ((39, [some (.ref 0), some (.int p0), some (.int p1), some (.int p2), some (.int p3)], [.int p1]), (h, g, cw_R sv))) rfl ?_
        by_cases q5 : 0 ≤ p1
        · rw [if_pos q5] at hf
          refine rh_Ex.stp (s' := ((45, [some (.ref 0), some (.int p0), some (.int p1), some (.int p2), some (.int p3)], []), (h, g, cw_R sv))) rfl (st_ifge_p q5) ?_
          refine rh_Ex.blk 6 (s' := ((54, [some (.ref 0), some (.int p0), some (.int p1), some (.int p2), some (.int p3)], [.int p3, .int p2, .int p1, .int p0, .ref 4]), (h, g, cw_R sv))) rfl ?_
          obtain ⟨x6, hx6, hf⟩ := rh_bq hf
          refine rh_Ex.call (j := 9) (rc := some 0) [.ref 4, .int p0, .int p1, .int p2, .int p3] [] (some (.int x6.1)) rfl rfl rfl (Nat.le_of_ble_eq_true rfl) (R_Cr_rebase d xx sv h g p0 p1 p2 p3 hx6) ?_
          show rh_Ex _ _ _ ((57, [some (.ref 0), some (.int p0), some (.int p1), some (.int p2), some (.int p3)], [.int x6.1]), (x6.2, g, cw_R sv)) _ _
          obtain rfl := Option.some.inj hf
          exact rh_Ex.ret rfl rfl
        · rw [if_neg q5] at hf
          refine rh_Ex.stp (s' := ((42, [some (.ref 0), some (.int p0), some (.int p1), some (.int p2), some (.int p3)], []), (h, g, cw_R sv))) rfl (st_ifge_n q5) ?_
          refine rh_Ex.blk 1 (s' := ((44, [some (.ref 0), some (.int p0), some (.int p1), some (.int p2), some (.int p3)], [.int (-2 : Int32)]), (h, g, cw_R sv))) rfl ?_
          obtain rfl := Option.some.inj hf
          exact rh_Ex.ret rfl rfl
    · rw [if_neg q2] at hf
      refine rh_Ex.stp (s' := ((15, [some (.ref 0), some (.int p0), some (.int p1), some (.int p2), some (.int p3)], []), (h, g, cw_R sv))) rfl (st_icle_n q2) ?_
      refine rh_Ex.blk 1 (s' := ((16, [some (.ref 0), some (.int p0), some (.int p1), some (.int p2), some (.int p3)], [.int (-1 : Int32)]), (h, g, cw_R sv))) rfl ?_
      obtain rfl := Option.some.inj hf
      exact rh_Ex.ret rfl rfl
def f_La_tipsBy (h : Nat → Nat → Int32) (p0 : Int32) : Int32 :=
  if (if 0 ≤ p0 then p0 else 0 - p0) ≤ (h 40 (1 : Int32).toNatClampNeg) then
    (0 : Int32)
  else
    (1 : Int32)
set_option maxRecDepth 20000 in
set_option maxHeartbeats 4000000 in
theorem R_La_tipsBy (d : Nat) (xx : rh_L) (sv : Option Nat) (h : Nat → Nat → Int32) (g : Nat → Nat → Int64) (p0 : Int32) {z9 : Int32} (hf : f_La_tipsBy h p0 = z9) : rh_M rh_PT (cw_L ++ xx) (d + 1) 161 [.ref 0, .int p0] (h, g, cw_R sv) (some (.int z9)) (h, g, cw_R sv) := by
  unfold f_La_tipsBy at hf
  refine rh_go pt_161 (Nat.le_of_ble_eq_true rfl) (lv := [some (.ref 0), some (.int p0)]) rfl ?_
  refine rh_Ex.blk 1 (s' := ((1, [some (.ref 0), some (.int p0)], [.int p0]), (h, g, cw_R sv))) rfl ?_
  refine rh_Ex.stp (s' := ((4, [some (.ref 0), some (.int p0)], [.int (if 0 ≤ p0 then p0 else 0 - p0)]), (h, g, cw_R sv))) rfl (st_mabs (Nat.le_of_ble_eq_true rfl)) ?_
  refine rh_Ex.blk 3 (s' := ((9, [some (.ref 0), some (.int p0)], [.int (1 : Int32), .ref 40, .int (if 0 ≤ p0 then p0 else 0 - p0)]), (h, g, cw_R sv))) rfl ?_
  refine rh_Ex.stp (s' := ((10, [some (.ref 0), some (.int p0)], [.int (h 40 (1 : Int32).toNatClampNeg), .int (if 0 ≤ p0 then p0 else 0 - p0)]), (h, g, cw_R sv))) rfl (st_iald (n := 3) rfl (by decide)) ?_
  by_cases q1 : (if 0 ≤ p0 then p0 else 0 - p0) ≤ (h 40 (1 : Int32).toNatClampNeg)
  · rw [if_pos q1] at hf
    refine rh_Ex.stp (s' := ((17, [some (.ref 0), some (.int p0)], []), (h, g, cw_R sv))) rfl (st_icle_p q1) ?_
    refine rh_Ex.blk 1 (s' := ((18, [some (.ref 0), some (.int p0)], [.int (0 : Int32)]), (h, g, cw_R sv))) rfl ?_
    subst hf
    exact rh_Ex.ret rfl ⟨rfl, Or.inl rfl⟩
  · rw [if_neg q1] at hf
    refine rh_Ex.stp (s' := ((13, [some (.ref 0), some (.int p0)], []), (h, g, cw_R sv))) rfl (st_icle_n q1) ?_
    refine rh_Ex.blk 2 (s' := ((18, [some (.ref 0), some (.int p0)], [.int (1 : Int32)]), (h, g, cw_R sv))) rfl ?_
    subst hf
    exact rh_Ex.ret rfl ⟨rfl, Or.inr rfl⟩
def f_La_load (h : Nat → Nat → Int32) : Option (Int32 × (Nat → Nat → Int32)) :=
  (f_Cr_together h (h 13 2) (h 13 1)).bind (fun x1 =>
    some ((x1.1, x1.2))
  )
set_option maxRecDepth 20000 in
set_option maxHeartbeats 4000000 in
theorem R_La_load (d : Nat) (xx : rh_L) (sv : Option Nat) (h : Nat → Nat → Int32) (g : Nat → Nat → Int64)  {z9 : Int32 × (Nat → Nat → Int32)} (hf : f_La_load h = some z9) : rh_M rh_PT (cw_L ++ xx) (d + 5) 160 [.ref 0] (h, g, cw_R sv) (some (.int z9.1)) (z9.2, g, cw_R sv) := by
  unfold f_La_load at hf
  refine rh_go pt_160 (Nat.le_of_ble_eq_true rfl) (lv := [some (.ref 0)]) rfl ?_
  refine rh_Ex.blk 8 (s' := ((18, [some (.ref 0)], [.int (h 13 1), .int (h 13 2), .ref 4]), (h, g, cw_R sv))) rfl ?_
  obtain ⟨x1, hx1, hf⟩ := rh_bq hf
  refine rh_Ex.call (j := 7) (rc := some 0) [.ref 4, .int (h 13 2), .int (h 13 1)] [] (some (.int x1.1)) rfl rfl rfl (Nat.le_of_ble_eq_true rfl) (R_Cr_together d xx sv h g (h 13 2) (h 13 1) hx1) ?_
  show rh_Ex _ _ _ ((21, [some (.ref 0)], [.int x1.1]), (x1.2, g, cw_R sv)) _ _
  obtain rfl := Option.some.inj hf
  exact rh_Ex.ret rfl rfl
def b_La_ring_16 (u1 : Int32) : (Int32 × Int32 × (Nat → Nat → Int32)) → Option ((Int32 × Int32 × (Nat → Nat → Int32)) ⊕ (Int32 × (Nat → Nat → Int32))) := fun s16 =>
  if u1 < s16.2.1 then
    some (.inr (s16.1, s16.2.2))
  else
    if s16.1 = 0 then
      (f_De_leanAt s16.2.2 ((s16.2.2 13 1) + s16.2.1)).bind (fun x5 =>
        if (f_La_tipsBy x5.2 x5.1) = 0 then
          some (.inl ((0 : Int32), s16.2.1 + (1 : Int32), x5.2))
        else
          some (.inl ((1 : Int32), s16.2.1 + (1 : Int32), x5.2))
      )
    else
      some (.inr (s16.1, s16.2.2))
def j_La_ring_91 (h : Nat → Nat → Int32) (j2 : Int32) : Option (Int32 × (Nat → Nat → Int32)) :=
  (f_Ro_add (f_Ro_begin h) (((f_Ro_begin h) 13 1) / (9 : Int32))).bind (fun x10 =>
    (f_La_load x10).bind (fun x11 =>
      (f_Ro_add x11.2 x11.1).bind (fun x12 =>
        (f_Ro_add x12 j2).bind (fun x13 =>
          some (((x13 13 1) - (x13 13 1) / (9 : Int32) * (9 : Int32), x13))
        )
      )
    )
  )
def j_La_ring_60 (h : Nat → Nat → Int32) (p0 : Int32) (j2 : Int32) : Option (Int32 × (Nat → Nat → Int32)) :=
  (f_De_mark h).bind (fun x8 =>
    if p0 ≤ 0 then
      j_La_ring_91 (rh_up x8 13 1 ((x8 13 1) + p0)) j2
    else
      (f_De_remember (rh_up x8 13 1 ((x8 13 1) + p0))).bind (fun x14 =>
        j_La_ring_91 x14 j2
      )
  )
def f_La_ring (h : Nat → Nat → Int32) (p0 : Int32) : Option (Int32 × (Nat → Nat → Int32)) :=
  if (f_La_within p0 (0 : Int32) (99 : Int32)) = 0 then
    some (((-1 : Int32), h))
  else
    (rh_loop (b_La_ring_16 p0) rh_N ((0 : Int32), (0 : Int32), h)).bind (fun r7 =>
      j_La_ring_60 r7.2 p0 r7.1
    )
set_option maxRecDepth 20000 in
set_option maxHeartbeats 4000000 in
theorem lb_La_ring_16 (d : Nat) (xx : rh_L) (sv : Option Nat) (u1 : Int32) (g : Nat → Nat → Int64) (v9 : Option Value) (h9 : rh_H) : ∀ s16 x9, b_La_ring_16 u1 s16 = some x9 → Sum.elim (fun s16 => rh_Ex (rh_M rh_PT (cw_L ++ xx) (d + 5)) (cw_L ++ xx) pg_X11_ring ((16, [some (.ref 0), some (.int u1), some (.int s16.1), some (.int s16.2.1)], []), (s16.2.2, g, cw_R sv)) v9 h9) (fun e9 => rh_Ex (rh_M rh_PT (cw_L ++ xx) (d + 5)) (cw_L ++ xx) pg_X11_ring ((60, [some (.ref 0), some (.int u1), some (.int e9.1), none], []), (e9.2, g, cw_R sv)) v9 h9) x9 → rh_Ex (rh_M rh_PT (cw_L ++ xx) (d + 5)) (cw_L ++ xx) pg_X11_ring ((16, [some (.ref 0), some (.int u1), some (.int s16.1), some (.int s16.2.1)], []), (s16.2.2, g, cw_R sv)) v9 h9 := by
  intro s16 x9 hf hk
  unfold b_La_ring_16 at hf
  refine rh_Ex.blk 2 (s' := ((18, [some (.ref 0), some (.int u1), some (.int s16.1), some (.int s16.2.1)], [.int u1, .int s16.2.1]), (s16.2.2, g, cw_R sv))) rfl ?_
  by_cases q3 : u1 < s16.2.1
  · rw [if_pos q3] at hf
    refine rh_Ex.stp (s' := ((60, [some (.ref 0), some (.int u1), some (.int s16.1), some (.int s16.2.1)], []), (s16.2.2, g, cw_R sv))) rfl (st_icgt_p q3) ?_
    obtain rfl := Option.some.inj hf
    refine rh_Ex.fgt [some (.ref 0), some (.int u1), some (.int s16.1), none] ⟨rfl, rfl, rfl, trivial⟩ ?_
    exact hk
  · rw [if_neg q3] at hf
    refine rh_Ex.stp (s' := ((21, [some (.ref 0), some (.int u1), some (.int s16.1), some (.int s16.2.1)], []), (s16.2.2, g, cw_R sv))) rfl (st_icgt_n q3) ?_
    refine rh_Ex.blk 1 (s' := ((22, [some (.ref 0), some (.int u1), some (.int s16.1), some (.int s16.2.1)], [.int s16.1]), (s16.2.2, g, cw_R sv))) rfl ?_
    by_cases q4 : s16.1 = 0
    · rw [if_pos q4] at hf
      refine rh_Ex.stp (s' := ((25, [some (.ref 0), some (.int u1), some (.int s16.1), some (.int s16.2.1)], []), (s16.2.2, g, cw_R sv))) rfl (st_ifne_p q4) ?_
      refine rh_Ex.blk 8 (s' := ((39, [some (.ref 0), some (.int u1), some (.int s16.1), some (.int s16.2.1)], [.int ((s16.2.2 13 1) + s16.2.1), .ref 13, .ref 0]), (s16.2.2, g, cw_R sv))) rfl ?_
      obtain ⟨x5, hx5, hf⟩ := rh_bq hf
      refine rh_Ex.call (j := 20) (rc := some 2) [.ref 13, .int ((s16.2.2 13 1) + s16.2.1)] [.ref 0] (some (.int x5.1)) rfl rfl rfl (Nat.le_of_ble_eq_true rfl) (R_De_leanAt (d + 1) xx sv s16.2.2 g ((s16.2.2 13 1) + s16.2.1) hx5) ?_
      show rh_Ex _ _ _ ((42, [some (.ref 0), some (.int u1), some (.int s16.1), some (.int s16.2.1)], [.int x5.1, .ref 0]), (x5.2, g, cw_R sv)) _ _
      refine rh_Ex.call (j := 161) (rc := some 10) [.ref 0, .int x5.1] [] (some (.int (f_La_tipsBy x5.2 x5.1))) rfl rfl rfl (Nat.le_of_ble_eq_true rfl) (R_La_tipsBy (d + 4) xx sv x5.2 g x5.1 rfl) ?_
      show rh_Ex _ _ _ ((45, [some (.ref 0), some (.int u1), some (.int s16.1), some (.int s16.2.1)], [.int (f_La_tipsBy x5.2 x5.1)]), (x5.2, g, cw_R sv)) _ _
      by_cases q6 : (f_La_tipsBy x5.2 x5.1) = 0
      · rw [if_pos q6] at hf
        refine rh_Ex.stp (s' := ((52, [some (.ref 0), some (.int u1), some (.int s16.1), some (.int s16.2.1)], []), (x5.2, g, cw_R sv))) rfl (st_ifeq_p q6) ?_
        refine rh_Ex.blk 4 (s' := ((16, [some (.ref 0), some (.int u1), some (.int (0 : Int32)), some (.int (s16.2.1 + (1 : Int32)))], []), (x5.2, g, cw_R sv))) rfl ?_
        obtain rfl := Option.some.inj hf
        refine rh_Ex.fgt [some (.ref 0), some (.int u1), some (.int (0 : Int32)), some (.int (s16.2.1 + (1 : Int32)))] ⟨rfl, rfl, rfl, rfl, trivial⟩ ?_
        exact hk
      · rw [if_neg q6] at hf
        refine rh_Ex.stp (s' := ((48, [some (.ref 0), some (.int u1), some (.int s16.1), some (.int s16.2.1)], []), (x5.2, g, cw_R sv))) rfl (st_ifeq_n q6) ?_
        refine rh_Ex.blk 5 (s' := ((16, [some (.ref 0), some (.int u1), some (.int (1 : Int32)), some (.int (s16.2.1 + (1 : Int32)))], []), (x5.2, g, cw_R sv))) rfl ?_
        obtain rfl := Option.some.inj hf
        refine rh_Ex.fgt [some (.ref 0), some (.int u1), some (.int (1 : Int32)), some (.int (s16.2.1 + (1 : Int32)))] ⟨rfl, rfl, rfl, rfl, trivial⟩ ?_
        exact hk
    · rw [if_neg q4] at hf
      refine rh_Ex.stp (s' := ((60, [some (.ref 0), some (.int u1), some (.int s16.1), some (.int s16.2.1)], []), (s16.2.2, g, cw_R sv))) rfl (st_ifne_n q4) ?_
      obtain rfl := Option.some.inj hf
      refine rh_Ex.fgt [some (.ref 0), some (.int u1), some (.int s16.1), none] ⟨rfl, rfl, rfl, trivial⟩ ?_
      exact hk
set_option maxRecDepth 20000 in
set_option maxHeartbeats 4000000 in
theorem lj_La_ring_91 (d : Nat) (xx : rh_L) (sv : Option Nat) (h : Nat → Nat → Int32) (j2 : Int32) (g : Nat → Nat → Int64) {z9 : Int32 × (Nat → Nat → Int32)} (hf : j_La_ring_91 h j2 = some z9) : rh_Ex (rh_M rh_PT (cw_L ++ xx) (d + 5)) (cw_L ++ xx) pg_X11_ring ((91, [some (.ref 0), none, some (.int j2), none], []), (h, g, cw_R sv)) (some (.int z9.1)) (z9.2, g, cw_R sv) := by
  unfold j_La_ring_91 at hf
  refine rh_Ex.blk 2 (s' := ((95, [some (.ref 0), none, some (.int j2), none], [.ref 2]), (h, g, cw_R sv))) rfl ?_
  refine rh_Ex.call (j := 68) (rc := some 6) [.ref 2] [] none rfl rfl rfl (Nat.le_of_ble_eq_true rfl) (R_Ro_begin (d + 4) xx sv h g  rfl) ?_
  show rh_Ex _ _ _ ((98, [some (.ref 0), none, some (.int j2), none], []), ((f_Ro_begin h), g, cw_R sv)) _ _
  refine rh_Ex.blk 6 (s' := ((111, [some (.ref 0), none, some (.int j2), none], [.int (9 : Int32), .int ((f_Ro_begin h) 13 1), .ref 2]), ((f_Ro_begin h), g, cw_R sv))) rfl ?_
  refine rh_Ex.stp (s' := ((112, [some (.ref 0), none, some (.int j2), none], [.int (((f_Ro_begin h) 13 1) / (9 : Int32)), .ref 2]), ((f_Ro_begin h), g, cw_R sv))) rfl (st_idiv (by decide)) ?_
  obtain ⟨x10, hx10, hf⟩ := rh_bq hf
  refine rh_Ex.call (j := 69) (rc := some 6) [.ref 2, .int (((f_Ro_begin h) 13 1) / (9 : Int32))] [] none rfl rfl rfl (Nat.le_of_ble_eq_true rfl) (R_Ro_add (d + 4) xx sv (f_Ro_begin h) g (((f_Ro_begin h) 13 1) / (9 : Int32)) hx10) ?_
  show rh_Ex _ _ _ ((115, [some (.ref 0), none, some (.int j2), none], []), (x10, g, cw_R sv)) _ _
  refine rh_Ex.blk 3 (s' := ((120, [some (.ref 0), none, some (.int j2), none], [.ref 0, .ref 2]), (x10, g, cw_R sv))) rfl ?_
  obtain ⟨x11, hx11, hf⟩ := rh_bq hf
  refine rh_Ex.call (j := 160) (rc := some 10) [.ref 0] [.ref 2] (some (.int x11.1)) rfl rfl rfl (Nat.le_of_ble_eq_true rfl) (R_La_load d xx sv x10 g  hx11) ?_
  show rh_Ex _ _ _ ((123, [some (.ref 0), none, some (.int j2), none], [.int x11.1, .ref 2]), (x11.2, g, cw_R sv)) _ _
  obtain ⟨x12, hx12, hf⟩ := rh_bq hf
  refine rh_Ex.call (j := 69) (rc := some 6) [.ref 2, .int x11.1] [] none rfl rfl rfl (Nat.le_of_ble_eq_true rfl) (R_Ro_add (d + 4) xx sv x11.2 g x11.1 hx12) ?_
  show rh_Ex _ _ _ ((126, [some (.ref 0), none, some (.int j2), none], []), (x12, g, cw_R sv)) _ _
  refine rh_Ex.blk 3 (s' := ((131, [some (.ref 0), none, some (.int j2), none], [.int j2, .ref 2]), (x12, g, cw_R sv))) rfl ?_
  obtain ⟨x13, hx13, hf⟩ := rh_bq hf
  refine rh_Ex.call (j := 69) (rc := some 6) [.ref 2, .int j2] [] none rfl rfl rfl (Nat.le_of_ble_eq_true rfl) (R_Ro_add (d + 4) xx sv x12 g j2 hx13) ?_
  show rh_Ex _ _ _ ((134, [some (.ref 0), none, some (.int j2), none], []), (x13, g, cw_R sv)) _ _
  refine rh_Ex.blk 4 (s' := ((143, [some (.ref 0), none, some (.int j2), none], [.int (9 : Int32), .int (x13 13 1)]), (x13, g, cw_R sv))) rfl ?_
  refine rh_Ex.stp (s' := ((144, [some (.ref 0), none, some (.int j2), none], [.int ((x13 13 1) - (x13 13 1) / (9 : Int32) * (9 : Int32))]), (x13, g, cw_R sv))) rfl (st_irem (by decide)) ?_
  obtain rfl := Option.some.inj hf
  exact rh_Ex.ret rfl rfl
set_option maxRecDepth 20000 in
set_option maxHeartbeats 4000000 in
theorem lj_La_ring_60 (d : Nat) (xx : rh_L) (sv : Option Nat) (h : Nat → Nat → Int32) (p0 : Int32) (j2 : Int32) (g : Nat → Nat → Int64) {z9 : Int32 × (Nat → Nat → Int32)} (hf : j_La_ring_60 h p0 j2 = some z9) : rh_Ex (rh_M rh_PT (cw_L ++ xx) (d + 5)) (cw_L ++ xx) pg_X11_ring ((60, [some (.ref 0), some (.int p0), some (.int j2), none], []), (h, g, cw_R sv)) (some (.int z9.1)) (z9.2, g, cw_R sv) := by
  unfold j_La_ring_60 at hf
  refine rh_Ex.blk 2 (s' := ((64, [some (.ref 0), some (.int p0), some (.int j2), none], [.ref 13]), (h, g, cw_R sv))) rfl ?_
  obtain ⟨x8, hx8, hf⟩ := rh_bq hf
  refine rh_Ex.call (j := 23) (rc := some 2) [.ref 13] [] none rfl rfl rfl (Nat.le_of_ble_eq_true rfl) (R_De_mark (d + 3) xx sv h g  hx8) ?_
  show rh_Ex _ _ _ ((67, [some (.ref 0), some (.int p0), some (.int j2), none], []), (x8, g, cw_R sv)) _ _
  refine rh_Ex.blk 8 (s' := ((81, [some (.ref 0), some (.int p0), some (.int j2), none], [.int p0]), (rh_up x8 13 1 ((x8 13 1) + p0), g, cw_R sv))) rfl ?_
  by_cases q9 : p0 ≤ 0
  · rw [if_pos q9] at hf
    refine rh_Ex.stp (s' := ((91, [some (.ref 0), some (.int p0), some (.int j2), none], []), (rh_up x8 13 1 ((x8 13 1) + p0), g, cw_R sv))) rfl (st_ifle_p q9) ?_
    refine rh_Ex.fgt [some (.ref 0), none, some (.int j2), none] ⟨rfl, rfl, trivial⟩ ?_
    exact lj_La_ring_91 d xx sv (rh_up x8 13 1 ((x8 13 1) + p0)) j2 g hf
  · rw [if_neg q9] at hf
    refine rh_Ex.stp (s' := ((84, [some (.ref 0), some (.int p0), some (.int j2), none], []), (rh_up x8 13 1 ((x8 13 1) + p0), g, cw_R sv))) rfl (st_ifle_n q9) ?_
    refine rh_Ex.blk 2 (s' := ((88, [some (.ref 0), some (.int p0), some (.int j2), none], [.ref 13]), (rh_up x8 13 1 ((x8 13 1) + p0), g, cw_R sv))) rfl ?_
    obtain ⟨x14, hx14, hf⟩ := rh_bq hf
    refine rh_Ex.call (j := 24) (rc := some 2) [.ref 13] [] none rfl rfl rfl (Nat.le_of_ble_eq_true rfl) (R_De_remember (d + 4) xx sv (rh_up x8 13 1 ((x8 13 1) + p0)) g  hx14) ?_
    show rh_Ex _ _ _ ((91, [some (.ref 0), some (.int p0), some (.int j2), none], []), (x14, g, cw_R sv)) _ _
    refine rh_Ex.fgt [some (.ref 0), none, some (.int j2), none] ⟨rfl, rfl, trivial⟩ ?_
    exact lj_La_ring_91 d xx sv x14 j2 g hf
set_option maxRecDepth 20000 in
set_option maxHeartbeats 4000000 in
theorem R_La_ring (d : Nat) (xx : rh_L) (sv : Option Nat) (h : Nat → Nat → Int32) (g : Nat → Nat → Int64) (p0 : Int32) {z9 : Int32 × (Nat → Nat → Int32)} (hf : f_La_ring h p0 = some z9) : rh_M rh_PT (cw_L ++ xx) (d + 6) 110 [.ref 0, .int p0] (h, g, cw_R sv) (some (.int z9.1)) (z9.2, g, cw_R sv) := by
  unfold f_La_ring at hf
  refine rh_go pt_110 (Nat.le_of_ble_eq_true rfl) (lv := [some (.ref 0), some (.int p0), none, none]) rfl ?_
  refine rh_Ex.blk 3 (s' := ((4, [some (.ref 0), some (.int p0), none, none], [.int (99 : Int32), .int (0 : Int32), .int p0]), (h, g, cw_R sv))) rfl ?_
  refine rh_Ex.call (j := 155) (rc := none) [.int p0, .int (0 : Int32), .int (99 : Int32)] [] (some (.int (f_La_within p0 (0 : Int32) (99 : Int32)))) rfl rfl trivial (Nat.le_of_ble_eq_true rfl) (R_La_within (d + 4) (cw_L ++ xx) (cw_R sv) h g p0 (0 : Int32) (99 : Int32) rfl) ?_
  show rh_Ex _ _ _ ((7, [some (.ref 0), some (.int p0), none, none], [.int (f_La_within p0 (0 : Int32) (99 : Int32))]), (h, g, cw_R sv)) _ _
  by_cases q1 : (f_La_within p0 (0 : Int32) (99 : Int32)) = 0
  · rw [if_pos q1] at hf
    refine rh_Ex.stp (s' := ((10, [some (.ref 0), some (.int p0), none, none], []), (h, g, cw_R sv))) rfl (st_ifne_p q1) ?_
    refine rh_Ex.blk 1 (s' := ((11, [some (.ref 0), some (.int p0), none, none], [.int (-1 : Int32)]), (h, g, cw_R sv))) rfl ?_
    obtain rfl := Option.some.inj hf
    exact rh_Ex.ret rfl rfl
  · rw [if_neg q1] at hf
    refine rh_Ex.stp (s' := ((12, [some (.ref 0), some (.int p0), none, none], []), (h, g, cw_R sv))) rfl (st_ifne_n q1) ?_
    refine rh_Ex.blk 4 (s' := ((16, [some (.ref 0), some (.int p0), some (.int (0 : Int32)), some (.int (0 : Int32))], []), (h, g, cw_R sv))) rfl ?_
    obtain ⟨r7, hr7, hf⟩ := rh_bq hf
    refine rh_Ex.fgt [some (.ref 0), some (.int p0), some (.int (0 : Int32)), some (.int (0 : Int32))] ⟨rfl, rfl, rfl, rfl, trivial⟩ ?_
    refine rh_Ex.loop _ _ _ (lb_La_ring_16 d xx sv p0  g _ _) rh_N _ r7 hr7 ?_
    refine rh_Ex.fgt [some (.ref 0), some (.int p0), some (.int r7.1), none] ⟨rfl, rfl, rfl, trivial⟩ ?_
    exact lj_La_ring_60 d xx sv r7.2 p0 r7.1 g hf
def f_La_comeAboard (h : Nat → Nat → Int32) (p0 : Int32) (p1 : Int32) : Option (Int32 × (Nat → Nat → Int32)) :=
  if (f_Cr_has h p0) = 0 then
    some (((-1 : Int32), h))
  else
    if (f_De_isAboard h p0) = 0 then
      if (f_La_within p1 (-4 : Int32) (4 : Int32)) = 0 then
        some (((-1 : Int32), h))
      else
        (f_De_leanAt h (h 13 1)).bind (fun x4 =>
          (f_Cr_weightAt x4.2 p0 (x4.2 13 1)).bind (fun x5 =>
            if (f_La_tipsBy x5.2 (x4.1 + (x5.1 * p1))) = 0 then
              rh_g (0 ≤ p0.toInt ∧ p0.toInt < ((9 : Nat) : Int)) (
                some (((0 : Int32), rh_up (rh_up x5.2 13 2 ((x5.2 13 2) ||| ((1 : Int32) <<< (p0 &&& 31)))) 14 p0.toNatClampNeg p1))
              )
            else
              some (((-2 : Int32), x5.2))
          )
        )
    else
      some (((-1 : Int32), h))
set_option maxRecDepth 20000 in
set_option maxHeartbeats 4000000 in
theorem R_La_comeAboard (d : Nat) (xx : rh_L) (sv : Option Nat) (h : Nat → Nat → Int32) (g : Nat → Nat → Int64) (p0 : Int32) (p1 : Int32) {z9 : Int32 × (Nat → Nat → Int32)} (hf : f_La_comeAboard h p0 p1 = some z9) : rh_M rh_PT (cw_L ++ xx) (d + 5) 166 [.ref 0, .int p0, .int p1] (h, g, cw_R sv) (some (.int z9.1)) (z9.2, g, cw_R sv) := by
  unfold f_La_comeAboard at hf
  refine rh_go pt_166 (Nat.le_of_ble_eq_true rfl) (lv := [some (.ref 0), some (.int p0), some (.int p1)]) rfl ?_
  refine rh_Ex.blk 3 (s' := ((5, [some (.ref 0), some (.int p0), some (.int p1)], [.int p0, .ref 4]), (h, g, cw_R sv))) rfl ?_
  refine rh_Ex.call (j := 0) (rc := some 0) [.ref 4, .int p0] [] (some (.int (f_Cr_has h p0))) rfl rfl rfl (Nat.le_of_ble_eq_true rfl) (R_Cr_has (d + 3) xx sv h g p0 rfl) ?_
  show rh_Ex _ _ _ ((8, [some (.ref 0), some (.int p0), some (.int p1)], [.int (f_Cr_has h p0)]), (h, g, cw_R sv)) _ _
  by_cases q1 : (f_Cr_has h p0) = 0
  · rw [if_pos q1] at hf
    refine rh_Ex.stp (s' := ((32, [some (.ref 0), some (.int p0), some (.int p1)], []), (h, g, cw_R sv))) rfl (st_ifeq_p q1) ?_
    refine rh_Ex.blk 1 (s' := ((33, [some (.ref 0), some (.int p0), some (.int p1)], [.int (-1 : Int32)]), (h, g, cw_R sv))) rfl ?_
    obtain rfl := Option.some.inj hf
    exact rh_Ex.ret rfl rfl
  · rw [if_neg q1] at hf
    refine rh_Ex.stp (s' := ((11, [some (.ref 0), some (.int p0), some (.int p1)], []), (h, g, cw_R sv))) rfl (st_ifeq_n q1) ?_
    refine rh_Ex.blk 3 (s' := ((16, [some (.ref 0), some (.int p0), some (.int p1)], [.int p0, .ref 13]), (h, g, cw_R sv))) rfl ?_
    refine rh_Ex.call (j := 19) (rc := some 2) [.ref 13, .int p0] [] (some (.int (f_De_isAboard h p0))) rfl rfl rfl (Nat.le_of_ble_eq_true rfl) (R_De_isAboard (d + 3) xx sv h g p0 rfl) ?_
    show rh_Ex _ _ _ ((19, [some (.ref 0), some (.int p0), some (.int p1)], [.int (f_De_isAboard h p0)]), (h, g, cw_R sv)) _ _
    by_cases q2 : (f_De_isAboard h p0) = 0
    · rw [if_pos q2] at hf
      refine rh_Ex.stp (s' := ((22, [some (.ref 0), some (.int p0), some (.int p1)], []), (h, g, cw_R sv))) rfl (st_ifne_p q2) ?_
      refine rh_Ex.blk 3 (s' := ((26, [some (.ref 0), some (.int p0), some (.int p1)], [.int (4 : Int32), .int (-4 : Int32), .int p1]), (h, g, cw_R sv))) rfl ?_
      refine rh_Ex.call (j := 155) (rc := none) [.int p1, .int (-4 : Int32), .int (4 : Int32)] [] (some (.int (f_La_within p1 (-4 : Int32) (4 : Int32)))) rfl rfl trivial (Nat.le_of_ble_eq_true rfl) (R_La_within (d + 3) (cw_L ++ xx) (cw_R sv) h g p1 (-4 : Int32) (4 : Int32) rfl) ?_
      show rh_Ex _ _ _ ((29, [some (.ref 0), some (.int p0), some (.int p1)], [.int (f_La_within p1 (-4 : Int32) (4 : Int32))]), (h, g, cw_R sv)) _ _
      by_cases q3 : (f_La_within p1 (-4 : Int32) (4 : Int32)) = 0
      · rw [if_pos q3] at hf
        refine rh_Ex.stp (s' := ((32, [some (.ref 0), some (.int p0), some (.int p1)], []), (h, g, cw_R sv))) rfl (st_ifne_p q3) ?_
        refine rh_Ex.blk 1 (s' := ((33, [some (.ref 0), some (.int p0), some (.int p1)], [.int (-1 : Int32)]), (h, g, cw_R sv))) rfl ?_
        obtain rfl := Option.some.inj hf
        exact rh_Ex.ret rfl rfl
      · rw [if_neg q3] at hf
        refine rh_Ex.stp (s' := ((34, [some (.ref 0), some (.int p0), some (.int p1)], []), (h, g, cw_R sv))) rfl (st_ifne_n q3) ?_
        refine rh_Ex.blk 6 (s' := ((46, [some (.ref 0), some (.int p0), some (.int p1)], [.int (h 13 1), .ref 13, .ref 0]), (h, g, cw_R sv))) rfl ?_
        obtain ⟨x4, hx4, hf⟩ := rh_bq hf
        refine rh_Ex.call (j := 20) (rc := some 2) [.ref 13, .int (h 13 1)] [.ref 0] (some (.int x4.1)) rfl rfl rfl (Nat.le_of_ble_eq_true rfl) (R_De_leanAt d xx sv h g (h 13 1) hx4) ?_
        show rh_Ex _ _ _ ((49, [some (.ref 0), some (.int p0), some (.int p1)], [.int x4.1, .ref 0]), (x4.2, g, cw_R sv)) _ _
        refine rh_Ex.blk 6 (s' := ((61, [some (.ref 0), some (.int p0), some (.int p1)], [.int (x4.2 13 1), .int p0, .ref 4, .int x4.1, .ref 0]), (x4.2, g, cw_R sv))) rfl ?_
        obtain ⟨x5, hx5, hf⟩ := rh_bq hf
        refine rh_Ex.call (j := 5) (rc := some 0) [.ref 4, .int p0, .int (x4.2 13 1)] [.int x4.1, .ref 0] (some (.int x5.1)) rfl rfl rfl (Nat.le_of_ble_eq_true rfl) (R_Cr_weightAt (d + 1) xx sv x4.2 g p0 (x4.2 13 1) hx5) ?_
        show rh_Ex _ _ _ ((64, [some (.ref 0), some (.int p0), some (.int p1)], [.int x5.1, .int x4.1, .ref 0]), (x5.2, g, cw_R sv)) _ _
        refine rh_Ex.blk 3 (s' := ((67, [some (.ref 0), some (.int p0), some (.int p1)], [.int (x4.1 + (x5.1 * p1)), .ref 0]), (x5.2, g, cw_R sv))) rfl ?_
        refine rh_Ex.call (j := 161) (rc := some 10) [.ref 0, .int (x4.1 + (x5.1 * p1))] [] (some (.int (f_La_tipsBy x5.2 (x4.1 + (x5.1 * p1))))) rfl rfl rfl (Nat.le_of_ble_eq_true rfl) (R_La_tipsBy (d + 3) xx sv x5.2 g (x4.1 + (x5.1 * p1)) rfl) ?_
        show rh_Ex _ _ _ ((70, [some (.ref 0), some (.int p0), some (.int p1)], [.int (f_La_tipsBy x5.2 (x4.1 + (x5.1 * p1)))]), (x5.2, g, cw_R sv)) _ _
        by_cases q6 : (f_La_tipsBy x5.2 (x4.1 + (x5.1 * p1))) = 0
        · rw [if_pos q6] at hf
          refine rh_Ex.stp (s' := ((76, [some (.ref 0), some (.int p0), some (.int p1)], []), (x5.2, g, cw_R sv))) rfl (st_ifeq_p q6) ?_
          refine rh_Ex.blk 14 (s' := ((100, [some (.ref 0), some (.int p0), some (.int p1)], [.int p1, .int p0, .ref 14]), (rh_up x5.2 13 2 ((x5.2 13 2) ||| ((1 : Int32) <<< (p0 &&& 31))), g, cw_R sv))) rfl ?_
          obtain ⟨q7, hf⟩ := rh_gq hf
          refine rh_Ex.stp (s' := ((101, [some (.ref 0), some (.int p0), some (.int p1)], []), (rh_up (rh_up x5.2 13 2 ((x5.2 13 2) ||| ((1 : Int32) <<< (p0 &&& 31)))) 14 p0.toNatClampNeg p1, g, cw_R sv))) rfl (st_iast (n := 9) rfl q7) ?_
          refine rh_Ex.blk 1 (s' := ((102, [some (.ref 0), some (.int p0), some (.int p1)], [.int (0 : Int32)]), (rh_up (rh_up x5.2 13 2 ((x5.2 13 2) ||| ((1 : Int32) <<< (p0 &&& 31)))) 14 p0.toNatClampNeg p1, g, cw_R sv))) rfl ?_
          obtain rfl := Option.some.inj hf
          exact rh_Ex.ret rfl rfl
        · rw [if_neg q6] at hf
          refine rh_Ex.stp (s' := ((73, [some (.ref 0), some (.int p0), some (.int p1)], []), (x5.2, g, cw_R sv))) rfl (st_ifeq_n q6) ?_
          refine rh_Ex.blk 1 (s' := ((75, [some (.ref 0), some (.int p0), some (.int p1)], [.int (-2 : Int32)]), (x5.2, g, cw_R sv))) rfl ?_
          obtain rfl := Option.some.inj hf
          exact rh_Ex.ret rfl rfl
    · rw [if_neg q2] at hf
      refine rh_Ex.stp (s' := ((32, [some (.ref 0), some (.int p0), some (.int p1)], []), (h, g, cw_R sv))) rfl (st_ifne_n q2) ?_
      refine rh_Ex.blk 1 (s' := ((33, [some (.ref 0), some (.int p0), some (.int p1)], [.int (-1 : Int32)]), (h, g, cw_R sv))) rfl ?_
      obtain rfl := Option.some.inj hf
      exact rh_Ex.ret rfl rfl
def f_La_board (h : Nat → Nat → Int32) (p0 : Int32) (p1 : Int32) : Option (Int32 × (Nat → Nat → Int32)) :=
  (f_De_mark h).bind (fun x1 =>
    (f_La_comeAboard x1 p0 p1).bind (fun x2 =>
      if x2.1 = 0 then
        (f_De_remember x2.2).bind (fun x4 =>
          (f_La_load x4).bind (fun x5 =>
            some ((x5.1, x5.2))
          )
        )
      else
        some ((x2.1, x2.2))
    )
  )
set_option maxRecDepth 20000 in
set_option maxHeartbeats 4000000 in
theorem R_La_board (d : Nat) (xx : rh_L) (sv : Option Nat) (h : Nat → Nat → Int32) (g : Nat → Nat → Int64) (p0 : Int32) (p1 : Int32) {z9 : Int32 × (Nat → Nat → Int32)} (hf : f_La_board h p0 p1 = some z9) : rh_M rh_PT (cw_L ++ xx) (d + 6) 111 [.ref 0, .int p0, .int p1] (h, g, cw_R sv) (some (.int z9.1)) (z9.2, g, cw_R sv) := by
  unfold f_La_board at hf
  refine rh_go pt_111 (Nat.le_of_ble_eq_true rfl) (lv := [some (.ref 0), some (.int p0), some (.int p1), none]) rfl ?_
  refine rh_Ex.blk 2 (s' := ((4, [some (.ref 0), some (.int p0), some (.int p1), none], [.ref 13]), (h, g, cw_R sv))) rfl ?_
  obtain ⟨x1, hx1, hf⟩ := rh_bq hf
  refine rh_Ex.call (j := 23) (rc := some 2) [.ref 13] [] none rfl rfl rfl (Nat.le_of_ble_eq_true rfl) (R_De_mark (d + 3) xx sv h g  hx1) ?_
  show rh_Ex _ _ _ ((7, [some (.ref 0), some (.int p0), some (.int p1), none], []), (x1, g, cw_R sv)) _ _
  refine rh_Ex.blk 3 (s' := ((10, [some (.ref 0), some (.int p0), some (.int p1), none], [.int p1, .int p0, .ref 0]), (x1, g, cw_R sv))) rfl ?_
  obtain ⟨x2, hx2, hf⟩ := rh_bq hf
  refine rh_Ex.call (j := 166) (rc := some 10) [.ref 0, .int p0, .int p1] [] (some (.int x2.1)) rfl rfl rfl (Nat.le_of_ble_eq_true rfl) (R_La_comeAboard d xx sv x1 g p0 p1 hx2) ?_
  show rh_Ex _ _ _ ((13, [some (.ref 0), some (.int p0), some (.int p1), none], [.int x2.1]), (x2.2, g, cw_R sv)) _ _
  refine rh_Ex.blk 2 (s' := ((15, [some (.ref 0), some (.int p0), some (.int p1), some (.int x2.1)], [.int x2.1]), (x2.2, g, cw_R sv))) rfl ?_
  by_cases q3 : x2.1 = 0
  · rw [if_pos q3] at hf
    refine rh_Ex.stp (s' := ((20, [some (.ref 0), some (.int p0), some (.int p1), some (.int x2.1)], []), (x2.2, g, cw_R sv))) rfl (st_ifeq_p q3) ?_
    refine rh_Ex.blk 2 (s' := ((24, [some (.ref 0), some (.int p0), some (.int p1), some (.int x2.1)], [.ref 13]), (x2.2, g, cw_R sv))) rfl ?_
    obtain ⟨x4, hx4, hf⟩ := rh_bq hf
    refine rh_Ex.call (j := 24) (rc := some 2) [.ref 13] [] none rfl rfl rfl (Nat.le_of_ble_eq_true rfl) (R_De_remember (d + 4) xx sv x2.2 g  hx4) ?_
    show rh_Ex _ _ _ ((27, [some (.ref 0), some (.int p0), some (.int p1), some (.int x2.1)], []), (x4, g, cw_R sv)) _ _
    refine rh_Ex.blk 1 (s' := ((28, [some (.ref 0), some (.int p0), some (.int p1), some (.int x2.1)], [.ref 0]), (x4, g, cw_R sv))) rfl ?_
    obtain ⟨x5, hx5, hf⟩ := rh_bq hf
    refine rh_Ex.call (j := 160) (rc := some 10) [.ref 0] [] (some (.int x5.1)) rfl rfl rfl (Nat.le_of_ble_eq_true rfl) (R_La_load d xx sv x4 g  hx5) ?_
    show rh_Ex _ _ _ ((31, [some (.ref 0), some (.int p0), some (.int p1), some (.int x2.1)], [.int x5.1]), (x5.2, g, cw_R sv)) _ _
    obtain rfl := Option.some.inj hf
    exact rh_Ex.ret rfl rfl
  · rw [if_neg q3] at hf
    refine rh_Ex.stp (s' := ((18, [some (.ref 0), some (.int p0), some (.int p1), some (.int x2.1)], []), (x2.2, g, cw_R sv))) rfl (st_ifeq_n q3) ?_
    refine rh_Ex.blk 1 (s' := ((19, [some (.ref 0), some (.int p0), some (.int p1), some (.int x2.1)], [.int x2.1]), (x2.2, g, cw_R sv))) rfl ?_
    obtain rfl := Option.some.inj hf
    exact rh_Ex.ret rfl rfl
def f_La_goOff (h : Nat → Nat → Int32) (p0 : Int32) : Option (Int32 × (Nat → Nat → Int32)) :=
  if (f_Cr_has h p0) = 0 then
    some (((-1 : Int32), h))
  else
    if (f_De_isAboard h p0) = 0 then
      some (((-1 : Int32), h))
    else
      (f_De_leanAt h (h 13 1)).bind (fun x3 =>
        (f_Cr_weightAt x3.2 p0 (x3.2 13 1)).bind (fun x4 =>
          rh_g (0 ≤ p0.toInt ∧ p0.toInt < ((9 : Nat) : Int)) (
            if (f_La_tipsBy x4.2 (x3.1 - (x4.1 * (x4.2 14 p0.toNatClampNeg)))) = 0 then
              some (((0 : Int32), rh_up x4.2 13 2 ((x4.2 13 2) &&& (((1 : Int32) <<< (p0 &&& 31)) ^^^ (-1 : Int32)))))
            else
              some (((-2 : Int32), x4.2))
          )
        )
      )
set_option maxRecDepth 20000 in
set_option maxHeartbeats 4000000 in
theorem R_La_goOff (d : Nat) (xx : rh_L) (sv : Option Nat) (h : Nat → Nat → Int32) (g : Nat → Nat → Int64) (p0 : Int32) {z9 : Int32 × (Nat → Nat → Int32)} (hf : f_La_goOff h p0 = some z9) : rh_M rh_PT (cw_L ++ xx) (d + 5) 167 [.ref 0, .int p0] (h, g, cw_R sv) (some (.int z9.1)) (z9.2, g, cw_R sv) := by
  unfold f_La_goOff at hf
  refine rh_go pt_167 (Nat.le_of_ble_eq_true rfl) (lv := [some (.ref 0), some (.int p0)]) rfl ?_
  refine rh_Ex.blk 3 (s' := ((5, [some (.ref 0), some (.int p0)], [.int p0, .ref 4]), (h, g, cw_R sv))) rfl ?_
  refine rh_Ex.call (j := 0) (rc := some 0) [.ref 4, .int p0] [] (some (.int (f_Cr_has h p0))) rfl rfl rfl (Nat.le_of_ble_eq_true rfl) (R_Cr_has (d + 3) xx sv h g p0 rfl) ?_
  show rh_Ex _ _ _ ((8, [some (.ref 0), some (.int p0)], [.int (f_Cr_has h p0)]), (h, g, cw_R sv)) _ _
  by_cases q1 : (f_Cr_has h p0) = 0
  · rw [if_pos q1] at hf
    refine rh_Ex.stp (s' := ((22, [some (.ref 0), some (.int p0)], []), (h, g, cw_R sv))) rfl (st_ifeq_p q1) ?_
    refine rh_Ex.blk 1 (s' := ((23, [some (.ref 0), some (.int p0)], [.int (-1 : Int32)]), (h, g, cw_R sv))) rfl ?_
    obtain rfl := Option.some.inj hf
    exact rh_Ex.ret rfl rfl
  · rw [if_neg q1] at hf
    refine rh_Ex.stp (s' := ((11, [some (.ref 0), some (.int p0)], []), (h, g, cw_R sv))) rfl (st_ifeq_n q1) ?_
    refine rh_Ex.blk 3 (s' := ((16, [some (.ref 0), some (.int p0)], [.int p0, .ref 13]), (h, g, cw_R sv))) rfl ?_
    refine rh_Ex.call (j := 19) (rc := some 2) [.ref 13, .int p0] [] (some (.int (f_De_isAboard h p0))) rfl rfl rfl (Nat.le_of_ble_eq_true rfl) (R_De_isAboard (d + 3) xx sv h g p0 rfl) ?_
    show rh_Ex _ _ _ ((19, [some (.ref 0), some (.int p0)], [.int (f_De_isAboard h p0)]), (h, g, cw_R sv)) _ _
    by_cases q2 : (f_De_isAboard h p0) = 0
    · rw [if_pos q2] at hf
      refine rh_Ex.stp (s' := ((22, [some (.ref 0), some (.int p0)], []), (h, g, cw_R sv))) rfl (st_ifne_p q2) ?_
      refine rh_Ex.blk 1 (s' := ((23, [some (.ref 0), some (.int p0)], [.int (-1 : Int32)]), (h, g, cw_R sv))) rfl ?_
      obtain rfl := Option.some.inj hf
      exact rh_Ex.ret rfl rfl
    · rw [if_neg q2] at hf
      refine rh_Ex.stp (s' := ((24, [some (.ref 0), some (.int p0)], []), (h, g, cw_R sv))) rfl (st_ifne_n q2) ?_
      refine rh_Ex.blk 6 (s' := ((36, [some (.ref 0), some (.int p0)], [.int (h 13 1), .ref 13, .ref 0]), (h, g, cw_R sv))) rfl ?_
      obtain ⟨x3, hx3, hf⟩ := rh_bq hf
      refine rh_Ex.call (j := 20) (rc := some 2) [.ref 13, .int (h 13 1)] [.ref 0] (some (.int x3.1)) rfl rfl rfl (Nat.le_of_ble_eq_true rfl) (R_De_leanAt d xx sv h g (h 13 1) hx3) ?_
      show rh_Ex _ _ _ ((39, [some (.ref 0), some (.int p0)], [.int x3.1, .ref 0]), (x3.2, g, cw_R sv)) _ _
      refine rh_Ex.blk 6 (s' := ((51, [some (.ref 0), some (.int p0)], [.int (x3.2 13 1), .int p0, .ref 4, .int x3.1, .ref 0]), (x3.2, g, cw_R sv))) rfl ?_
      obtain ⟨x4, hx4, hf⟩ := rh_bq hf
      refine rh_Ex.call (j := 5) (rc := some 0) [.ref 4, .int p0, .int (x3.2 13 1)] [.int x3.1, .ref 0] (some (.int x4.1)) rfl rfl rfl (Nat.le_of_ble_eq_true rfl) (R_Cr_weightAt (d + 1) xx sv x3.2 g p0 (x3.2 13 1) hx4) ?_
      show rh_Ex _ _ _ ((54, [some (.ref 0), some (.int p0)], [.int x4.1, .int x3.1, .ref 0]), (x4.2, g, cw_R sv)) _ _
      refine rh_Ex.blk 4 (s' := ((62, [some (.ref 0), some (.int p0)], [.int p0, .ref 14, .int x4.1, .int x3.1, .ref 0]), (x4.2, g, cw_R sv))) rfl ?_
      obtain ⟨q5, hf⟩ := rh_gq hf
      refine rh_Ex.stp (s' := ((63, [some (.ref 0), some (.int p0)], [.int (x4.2 14 p0.toNatClampNeg), .int x4.1, .int x3.1, .ref 0]), (x4.2, g, cw_R sv))) rfl (st_iald (n := 9) rfl q5) ?_
      refine rh_Ex.blk 2 (s' := ((65, [some (.ref 0), some (.int p0)], [.int (x3.1 - (x4.1 * (x4.2 14 p0.toNatClampNeg))), .ref 0]), (x4.2, g, cw_R sv))) rfl ?_
      refine rh_Ex.call (j := 161) (rc := some 10) [.ref 0, .int (x3.1 - (x4.1 * (x4.2 14 p0.toNatClampNeg)))] [] (some (.int (f_La_tipsBy x4.2 (x3.1 - (x4.1 * (x4.2 14 p0.toNatClampNeg)))))) rfl rfl rfl (Nat.le_of_ble_eq_true rfl) (R_La_tipsBy (d + 3) xx sv x4.2 g (x3.1 - (x4.1 * (x4.2 14 p0.toNatClampNeg))) rfl) ?_
      show rh_Ex _ _ _ ((68, [some (.ref 0), some (.int p0)], [.int (f_La_tipsBy x4.2 (x3.1 - (x4.1 * (x4.2 14 p0.toNatClampNeg))))]), (x4.2, g, cw_R sv)) _ _
      by_cases q6 : (f_La_tipsBy x4.2 (x3.1 - (x4.1 * (x4.2 14 p0.toNatClampNeg)))) = 0
      · rw [if_pos q6] at hf
        refine rh_Ex.stp (s' := ((74, [some (.ref 0), some (.int p0)], []), (x4.2, g, cw_R sv))) rfl (st_ifeq_p q6) ?_
        refine rh_Ex.blk 12 (s' := ((92, [some (.ref 0), some (.int p0)], [.int (0 : Int32)]), (rh_up x4.2 13 2 ((x4.2 13 2) &&& (((1 : Int32) <<< (p0 &&& 31)) ^^^ (-1 : Int32))), g, cw_R sv))) rfl ?_
        obtain rfl := Option.some.inj hf
        exact rh_Ex.ret rfl rfl
      · rw [if_neg q6] at hf
        refine rh_Ex.stp (s' := ((71, [some (.ref 0), some (.int p0)], []), (x4.2, g, cw_R sv))) rfl (st_ifeq_n q6) ?_
        refine rh_Ex.blk 1 (s' := ((73, [some (.ref 0), some (.int p0)], [.int (-2 : Int32)]), (x4.2, g, cw_R sv))) rfl ?_
        obtain rfl := Option.some.inj hf
        exact rh_Ex.ret rfl rfl
def f_La_off (h : Nat → Nat → Int32) (p0 : Int32) : Option (Int32 × (Nat → Nat → Int32)) :=
  (f_De_mark h).bind (fun x1 =>
    (f_La_goOff x1 p0).bind (fun x2 =>
      if x2.1 = 0 then
        (f_De_remember x2.2).bind (fun x4 =>
          (f_La_load x4).bind (fun x5 =>
            some ((x5.1, x5.2))
          )
        )
      else
        some ((x2.1, x2.2))
    )
  )
set_option maxRecDepth 20000 in
set_option maxHeartbeats 4000000 in
theorem R_La_off (d : Nat) (xx : rh_L) (sv : Option Nat) (h : Nat → Nat → Int32) (g : Nat → Nat → Int64) (p0 : Int32) {z9 : Int32 × (Nat → Nat → Int32)} (hf : f_La_off h p0 = some z9) : rh_M rh_PT (cw_L ++ xx) (d + 6) 112 [.ref 0, .int p0] (h, g, cw_R sv) (some (.int z9.1)) (z9.2, g, cw_R sv) := by
  unfold f_La_off at hf
  refine rh_go pt_112 (Nat.le_of_ble_eq_true rfl) (lv := [some (.ref 0), some (.int p0), none]) rfl ?_
  refine rh_Ex.blk 2 (s' := ((4, [some (.ref 0), some (.int p0), none], [.ref 13]), (h, g, cw_R sv))) rfl ?_
  obtain ⟨x1, hx1, hf⟩ := rh_bq hf
  refine rh_Ex.call (j := 23) (rc := some 2) [.ref 13] [] none rfl rfl rfl (Nat.le_of_ble_eq_true rfl) (R_De_mark (d + 3) xx sv h g  hx1) ?_
  show rh_Ex _ _ _ ((7, [some (.ref 0), some (.int p0), none], []), (x1, g, cw_R sv)) _ _
  refine rh_Ex.blk 2 (s' := ((9, [some (.ref 0), some (.int p0), none], [.int p0, .ref 0]), (x1, g, cw_R sv))) rfl ?_
  obtain ⟨x2, hx2, hf⟩ := rh_bq hf
  refine rh_Ex.call (j := 167) (rc := some 10) [.ref 0, .int p0] [] (some (.int x2.1)) rfl rfl rfl (Nat.le_of_ble_eq_true rfl) (R_La_goOff d xx sv x1 g p0 hx2) ?_
  show rh_Ex _ _ _ ((12, [some (.ref 0), some (.int p0), none], [.int x2.1]), (x2.2, g, cw_R sv)) _ _
  refine rh_Ex.blk 2 (s' := ((14, [some (.ref 0), some (.int p0), some (.int x2.1)], [.int x2.1]), (x2.2, g, cw_R sv))) rfl ?_
  by_cases q3 : x2.1 = 0
  · rw [if_pos q3] at hf
    refine rh_Ex.stp (s' := ((19, [some (.ref 0), some (.int p0), some (.int x2.1)], []), (x2.2, g, cw_R sv))) rfl (st_ifeq_p q3) ?_
    refine rh_Ex.blk 2 (s' := ((23, [some (.ref 0), some (.int p0), some (.int x2.1)], [.ref 13]), (x2.2, g, cw_R sv))) rfl ?_
    obtain ⟨x4, hx4, hf⟩ := rh_bq hf
    refine rh_Ex.call (j := 24) (rc := some 2) [.ref 13] [] none rfl rfl rfl (Nat.le_of_ble_eq_true rfl) (R_De_remember (d + 4) xx sv x2.2 g  hx4) ?_
    show rh_Ex _ _ _ ((26, [some (.ref 0), some (.int p0), some (.int x2.1)], []), (x4, g, cw_R sv)) _ _
    refine rh_Ex.blk 1 (s' := ((27, [some (.ref 0), some (.int p0), some (.int x2.1)], [.ref 0]), (x4, g, cw_R sv))) rfl ?_
    obtain ⟨x5, hx5, hf⟩ := rh_bq hf
    refine rh_Ex.call (j := 160) (rc := some 10) [.ref 0] [] (some (.int x5.1)) rfl rfl rfl (Nat.le_of_ble_eq_true rfl) (R_La_load d xx sv x4 g  hx5) ?_
    show rh_Ex _ _ _ ((30, [some (.ref 0), some (.int p0), some (.int x2.1)], [.int x5.1]), (x5.2, g, cw_R sv)) _ _
    obtain rfl := Option.some.inj hf
    exact rh_Ex.ret rfl rfl
  · rw [if_neg q3] at hf
    refine rh_Ex.stp (s' := ((17, [some (.ref 0), some (.int p0), some (.int x2.1)], []), (x2.2, g, cw_R sv))) rfl (st_ifeq_n q3) ?_
    refine rh_Ex.blk 1 (s' := ((18, [some (.ref 0), some (.int p0), some (.int x2.1)], [.int x2.1]), (x2.2, g, cw_R sv))) rfl ?_
    obtain rfl := Option.some.inj hf
    exact rh_Ex.ret rfl rfl
def j_La_tread_35 (h : Nat → Nat → Int32) (p0 : Int32) (p1 : Int32) : Option (Int32 × (Nat → Nat → Int32)) :=
  rh_g (0 ≤ p0.toInt ∧ p0.toInt < ((9 : Nat) : Int)) (
    if (f_La_within ((h 14 p0.toNatClampNeg) + p1) (-4 : Int32) (4 : Int32)) = 0 then
      some (((-8 : Int32), h))
    else
      (f_De_leanAt h (h 13 1)).bind (fun x6 =>
        (f_Cr_weightAt x6.2 p0 (x6.2 13 1)).bind (fun x7 =>
          if (f_La_tipsBy x7.2 (x6.1 + (x7.1 * p1))) = 0 then
            rh_g (0 ≤ p0.toInt ∧ p0.toInt < ((9 : Nat) : Int)) (
              some (((h 14 p0.toNatClampNeg) + p1, rh_up x7.2 14 p0.toNatClampNeg ((h 14 p0.toNatClampNeg) + p1)))
            )
          else
            some (((-8 : Int32), x7.2))
        )
      )
  )
def f_La_tread (h : Nat → Nat → Int32) (p0 : Int32) (p1 : Int32) : Option (Int32 × (Nat → Nat → Int32)) :=
  if (f_Cr_has h p0) = 0 then
    some (((-9 : Int32), h))
  else
    if (f_De_isAboard h p0) = 0 then
      some (((-9 : Int32), h))
    else
      if p1 = (1 : Int32) then
        j_La_tread_35 h p0 p1
      else
        if p1 = (-1 : Int32) then
          j_La_tread_35 h p0 p1
        else
          some (((-9 : Int32), h))
set_option maxRecDepth 20000 in
set_option maxHeartbeats 4000000 in
theorem lj_La_tread_35 (d : Nat) (xx : rh_L) (sv : Option Nat) (h : Nat → Nat → Int32) (p0 : Int32) (p1 : Int32) (g : Nat → Nat → Int64) {z9 : Int32 × (Nat → Nat → Int32)} (hf : j_La_tread_35 h p0 p1 = some z9) : rh_Ex (rh_M rh_PT (cw_L ++ xx) (d + 4)) (cw_L ++ xx) pg_X11_tread ((35, [some (.ref 0), some (.int p0), some (.int p1), none], []), (h, g, cw_R sv)) (some (.int z9.1)) (z9.2, g, cw_R sv) := by
  unfold j_La_tread_35 at hf
  refine rh_Ex.blk 4 (s' := ((43, [some (.ref 0), some (.int p0), some (.int p1), none], [.int p0, .ref 14]), (h, g, cw_R sv))) rfl ?_
  obtain ⟨q4, hf⟩ := rh_gq hf
  refine rh_Ex.stp (s' := ((44, [some (.ref 0), some (.int p0), some (.int p1), none], [.int (h 14 p0.toNatClampNeg)]), (h, g, cw_R sv))) rfl (st_iald (n := 9) rfl q4) ?_
  refine rh_Ex.blk 6 (s' := ((51, [some (.ref 0), some (.int p0), some (.int p1), some (.int ((h 14 p0.toNatClampNeg) + p1))], [.int (4 : Int32), .int (-4 : Int32), .int ((h 14 p0.toNatClampNeg) + p1)]), (h, g, cw_R sv))) rfl ?_
  refine rh_Ex.call (j := 155) (rc := none) [.int ((h 14 p0.toNatClampNeg) + p1), .int (-4 : Int32), .int (4 : Int32)] [] (some (.int (f_La_within ((h 14 p0.toNatClampNeg) + p1) (-4 : Int32) (4 : Int32)))) rfl rfl trivial (Nat.le_of_ble_eq_true rfl) (R_La_within (d + 3) (cw_L ++ xx) (cw_R sv) h g ((h 14 p0.toNatClampNeg) + p1) (-4 : Int32) (4 : Int32) rfl) ?_
  show rh_Ex _ _ _ ((54, [some (.ref 0), some (.int p0), some (.int p1), some (.int ((h 14 p0.toNatClampNeg) + p1))], [.int (f_La_within ((h 14 p0.toNatClampNeg) + p1) (-4 : Int32) (4 : Int32))]), (h, g, cw_R sv)) _ _
  by_cases q5 : (f_La_within ((h 14 p0.toNatClampNeg) + p1) (-4 : Int32) (4 : Int32)) = 0
  · rw [if_pos q5] at hf
    refine rh_Ex.stp (s' := ((96, [some (.ref 0), some (.int p0), some (.int p1), some (.int ((h 14 p0.toNatClampNeg) + p1))], []), (h, g, cw_R sv))) rfl (st_ifeq_p q5) ?_
    refine rh_Ex.blk 1 (s' := ((98, [some (.ref 0), some (.int p0), some (.int p1), some (.int ((h 14 p0.toNatClampNeg) + p1))], [.int (-8 : Int32)]), (h, g, cw_R sv))) rfl ?_
    obtain rfl := Option.some.inj hf
    exact rh_Ex.ret rfl rfl
  · rw [if_neg q5] at hf
    refine rh_Ex.stp (s' := ((57, [some (.ref 0), some (.int p0), some (.int p1), some (.int ((h 14 p0.toNatClampNeg) + p1))], []), (h, g, cw_R sv))) rfl (st_ifeq_n q5) ?_
    refine rh_Ex.blk 6 (s' := ((69, [some (.ref 0), some (.int p0), some (.int p1), some (.int ((h 14 p0.toNatClampNeg) + p1))], [.int (h 13 1), .ref 13, .ref 0]), (h, g, cw_R sv))) rfl ?_
    obtain ⟨x6, hx6, hf⟩ := rh_bq hf
    refine rh_Ex.call (j := 20) (rc := some 2) [.ref 13, .int (h 13 1)] [.ref 0] (some (.int x6.1)) rfl rfl rfl (Nat.le_of_ble_eq_true rfl) (R_De_leanAt d xx sv h g (h 13 1) hx6) ?_
    show rh_Ex _ _ _ ((72, [some (.ref 0), some (.int p0), some (.int p1), some (.int ((h 14 p0.toNatClampNeg) + p1))], [.int x6.1, .ref 0]), (x6.2, g, cw_R sv)) _ _
    refine rh_Ex.blk 6 (s' := ((84, [some (.ref 0), some (.int p0), some (.int p1), some (.int ((h 14 p0.toNatClampNeg) + p1))], [.int (x6.2 13 1), .int p0, .ref 4, .int x6.1, .ref 0]), (x6.2, g, cw_R sv))) rfl ?_
    obtain ⟨x7, hx7, hf⟩ := rh_bq hf
    refine rh_Ex.call (j := 5) (rc := some 0) [.ref 4, .int p0, .int (x6.2 13 1)] [.int x6.1, .ref 0] (some (.int x7.1)) rfl rfl rfl (Nat.le_of_ble_eq_true rfl) (R_Cr_weightAt (d + 1) xx sv x6.2 g p0 (x6.2 13 1) hx7) ?_
    show rh_Ex _ _ _ ((87, [some (.ref 0), some (.int p0), some (.int p1), some (.int ((h 14 p0.toNatClampNeg) + p1))], [.int x7.1, .int x6.1, .ref 0]), (x7.2, g, cw_R sv)) _ _
    refine rh_Ex.blk 3 (s' := ((90, [some (.ref 0), some (.int p0), some (.int p1), some (.int ((h 14 p0.toNatClampNeg) + p1))], [.int (x6.1 + (x7.1 * p1)), .ref 0]), (x7.2, g, cw_R sv))) rfl ?_
    refine rh_Ex.call (j := 161) (rc := some 10) [.ref 0, .int (x6.1 + (x7.1 * p1))] [] (some (.int (f_La_tipsBy x7.2 (x6.1 + (x7.1 * p1))))) rfl rfl rfl (Nat.le_of_ble_eq_true rfl) (R_La_tipsBy (d + 3) xx sv x7.2 g (x6.1 + (x7.1 * p1)) rfl) ?_
    show rh_Ex _ _ _ ((93, [some (.ref 0), some (.int p0), some (.int p1), some (.int ((h 14 p0.toNatClampNeg) + p1))], [.int (f_La_tipsBy x7.2 (x6.1 + (x7.1 * p1)))]), (x7.2, g, cw_R sv)) _ _
    by_cases q8 : (f_La_tipsBy x7.2 (x6.1 + (x7.1 * p1))) = 0
    · rw [if_pos q8] at hf
      refine rh_Ex.stp (s' := ((99, [some (.ref 0), some (.int p0), some (.int p1), some (.int ((h 14 p0.toNatClampNeg) + p1))], []), (x7.2, g, cw_R sv))) rfl (st_ifeq_p q8) ?_
      refine rh_Ex.blk 5 (s' := ((108, [some (.ref 0), some (.int p0), some (.int p1), some (.int ((h 14 p0.toNatClampNeg) + p1))], [.int ((h 14 p0.toNatClampNeg) + p1), .int p0, .ref 14]), (x7.2, g, cw_R sv))) rfl ?_
      obtain ⟨q9, hf⟩ := rh_gq hf
      refine rh_Ex.stp (s' := ((109, [some (.ref 0), some (.int p0), some (.int p1), some (.int ((h 14 p0.toNatClampNeg) + p1))], []), (rh_up x7.2 14 p0.toNatClampNeg ((h 14 p0.toNatClampNeg) + p1), g, cw_R sv))) rfl (st_iast (n := 9) rfl q9) ?_
      refine rh_Ex.blk 1 (s' := ((110, [some (.ref 0), some (.int p0), some (.int p1), some (.int ((h 14 p0.toNatClampNeg) + p1))], [.int ((h 14 p0.toNatClampNeg) + p1)]), (rh_up x7.2 14 p0.toNatClampNeg ((h 14 p0.toNatClampNeg) + p1), g, cw_R sv))) rfl ?_
      obtain rfl := Option.some.inj hf
      exact rh_Ex.ret rfl rfl
    · rw [if_neg q8] at hf
      refine rh_Ex.stp (s' := ((96, [some (.ref 0), some (.int p0), some (.int p1), some (.int ((h 14 p0.toNatClampNeg) + p1))], []), (x7.2, g, cw_R sv))) rfl (st_ifeq_n q8) ?_
      refine rh_Ex.blk 1 (s' := ((98, [some (.ref 0), some (.int p0), some (.int p1), some (.int ((h 14 p0.toNatClampNeg) + p1))], [.int (-8 : Int32)]), (x7.2, g, cw_R sv))) rfl ?_
      obtain rfl := Option.some.inj hf
      exact rh_Ex.ret rfl rfl
set_option maxRecDepth 20000 in
set_option maxHeartbeats 4000000 in
theorem R_La_tread (d : Nat) (xx : rh_L) (sv : Option Nat) (h : Nat → Nat → Int32) (g : Nat → Nat → Int64) (p0 : Int32) (p1 : Int32) {z9 : Int32 × (Nat → Nat → Int32)} (hf : f_La_tread h p0 p1 = some z9) : rh_M rh_PT (cw_L ++ xx) (d + 5) 168 [.ref 0, .int p0, .int p1] (h, g, cw_R sv) (some (.int z9.1)) (z9.2, g, cw_R sv) := by
  unfold f_La_tread at hf
  refine rh_go pt_168 (Nat.le_of_ble_eq_true rfl) (lv := [some (.ref 0), some (.int p0), some (.int p1), none]) rfl ?_
  refine rh_Ex.blk 3 (s' := ((5, [some (.ref 0), some (.int p0), some (.int p1), none], [.int p0, .ref 4]), (h, g, cw_R sv))) rfl ?_
  refine rh_Ex.call (j := 0) (rc := some 0) [.ref 4, .int p0] [] (some (.int (f_Cr_has h p0))) rfl rfl rfl (Nat.le_of_ble_eq_true rfl) (R_Cr_has (d + 3) xx sv h g p0 rfl) ?_
  show rh_Ex _ _ _ ((8, [some (.ref 0), some (.int p0), some (.int p1), none], [.int (f_Cr_has h p0)]), (h, g, cw_R sv)) _ _
  by_cases q1 : (f_Cr_has h p0) = 0
  · rw [if_pos q1] at hf
    refine rh_Ex.stp (s' := ((32, [some (.ref 0), some (.int p0), some (.int p1), none], []), (h, g, cw_R sv))) rfl (st_ifeq_p q1) ?_
    refine rh_Ex.blk 1 (s' := ((34, [some (.ref 0), some (.int p0), some (.int p1), none], [.int (-9 : Int32)]), (h, g, cw_R sv))) rfl ?_
    obtain rfl := Option.some.inj hf
    exact rh_Ex.ret rfl rfl
  · rw [if_neg q1] at hf
    refine rh_Ex.stp (s' := ((11, [some (.ref 0), some (.int p0), some (.int p1), none], []), (h, g, cw_R sv))) rfl (st_ifeq_n q1) ?_
    refine rh_Ex.blk 3 (s' := ((16, [some (.ref 0), some (.int p0), some (.int p1), none], [.int p0, .ref 13]), (h, g, cw_R sv))) rfl ?_
    refine rh_Ex.call (j := 19) (rc := some 2) [.ref 13, .int p0] [] (some (.int (f_De_isAboard h p0))) rfl rfl rfl (Nat.le_of_ble_eq_true rfl) (R_De_isAboard (d + 3) xx sv h g p0 rfl) ?_
    show rh_Ex _ _ _ ((19, [some (.ref 0), some (.int p0), some (.int p1), none], [.int (f_De_isAboard h p0)]), (h, g, cw_R sv)) _ _
    by_cases q2 : (f_De_isAboard h p0) = 0
    · rw [if_pos q2] at hf
      refine rh_Ex.stp (s' := ((32, [some (.ref 0), some (.int p0), some (.int p1), none], []), (h, g, cw_R sv))) rfl (st_ifeq_p q2) ?_
      refine rh_Ex.blk 1 (s' := ((34, [some (.ref 0), some (.int p0), some (.int p1), none], [.int (-9 : Int32)]), (h, g, cw_R sv))) rfl ?_
      obtain rfl := Option.some.inj hf
      exact rh_Ex.ret rfl rfl
    · rw [if_neg q2] at hf
      refine rh_Ex.stp (s' := ((22, [some (.ref 0), some (.int p0), some (.int p1), none], []), (h, g, cw_R sv))) rfl (st_ifeq_n q2) ?_
      refine rh_Ex.blk 2 (s' := ((24, [some (.ref 0), some (.int p0), some (.int p1), none], [.int (1 : Int32), .int p1]), (h, g, cw_R sv))) rfl ?_
      by_cases q3 : p1 = (1 : Int32)
      · rw [if_pos q3] at hf
        refine rh_Ex.stp (s' := ((35, [some (.ref 0), some (.int p0), some (.int p1), none], []), (h, g, cw_R sv))) rfl (st_iceq_p q3) ?_
        refine rh_Ex.fgt [some (.ref 0), some (.int p0), some (.int p1), none] ⟨rfl, rfl, rfl, trivial⟩ ?_
        exact lj_La_tread_35 d xx sv h p0 p1 g hf
      · rw [if_neg q3] at hf
        refine rh_Ex.stp (s' := ((27, [some (.ref 0), some (.int p0), some (.int p1), none], []), (h, g, cw_R sv))) rfl (st_iceq_n q3) ?_
        refine rh_Ex.blk 2 (s' := ((29, [some (.ref 0), some (.int p0), some (.int p1), none], [.int (-1 : Int32), .int p1]), (h, g, cw_R sv))) rfl ?_
        by_cases q10 : p1 = (-1 : Int32)
        · rw [if_pos q10] at hf
          refine rh_Ex.stp (s' := ((35, [some (.ref 0), some (.int p0), some (.int p1), none], []), (h, g, cw_R sv))) rfl (st_iceq_p q10) ?_
          refine rh_Ex.fgt [some (.ref 0), some (.int p0), some (.int p1), none] ⟨rfl, rfl, rfl, trivial⟩ ?_
          exact lj_La_tread_35 d xx sv h p0 p1 g hf
        · rw [if_neg q10] at hf
          refine rh_Ex.stp (s' := ((32, [some (.ref 0), some (.int p0), some (.int p1), none], []), (h, g, cw_R sv))) rfl (st_iceq_n q10) ?_
          refine rh_Ex.blk 1 (s' := ((34, [some (.ref 0), some (.int p0), some (.int p1), none], [.int (-9 : Int32)]), (h, g, cw_R sv))) rfl ?_
          obtain rfl := Option.some.inj hf
          exact rh_Ex.ret rfl rfl
