/-! the cases whose call may throw -/
def lk_PX (l : Launch) (k : Nat) (y : MethodName) (cc : ByteArray) (nL e9 h9 jm : Nat) (a : List Value) : Prop := ∀ (D : va_G) (dT : Nat → ClassId) (aC : Nat → Nat) (qo : Nat) (fo : Nat → Int64) (xx : rh_L) (sv : Option Nat) (hc : HI) (gc : Nat → Nat → Int64) (hm : HI) (gm : Nat → Nat → Int64) (rd : Option Nat) (n Pm : Nat) (B : Nat → Nat) (V : Nat → Nat → Nat → Nat), RLt k n Pm B V hc hm → ∃ (kx r : Int32) (hc' : HI) (fo' : Nat → Int64) (hm' : HI) (gm' : Nat → Nat → Int64) (rd' : Option Nat), (∀ sz, Met l y (.codeWith y cc nL (some .int) [(0, e9, h9, 13)] :: rh_all) (hc_rm 0) (hc_Pc D dT aC (cw_L ++ xx) (hc, gc, cw_R sv) qo fo sz (.ref (aC 0) :: (a ++ [.ref qo]))) (hc_Q D dT aC (cw_L ++ xx) (hc', gc, cw_R sv) qo fo' kx (va_A (hw dT aC (cw_L ++ xx) (hc, gc, cw_R sv) qo fo) sz)) 1 6 (va_A (hw dT aC (cw_L ++ xx) (hc, gc, cw_R sv) qo fo) sz)) ∧ rh_M rh_PT mw_L 300 jm (.ref 0 :: a) (hm, gm, mw_R rd) (some (.int r)) (hm', gm', mw_R rd') ∧ hm' 0 9 = kx ∧ (kx = 0 → fo' 0 = r.toInt64) ∧ RLt (k + 1) n Pm B V hc' hm'
theorem dx_of_11 : decode cX11_of 11 = .ok (.new 131, 3) := by decide +kernel
theorem dx_of_14 : decode cX11_of 14 = .ok (.dup, 1) := by decide +kernel
theorem dx_of_15 : decode cX11_of 15 = .ok (.invokespecial 133, 3) := by decide +kernel
theorem dx_of_18 : decode cX11_of 18 = .ok (.athrow, 1) := by decide +kernel
theorem dx_of_143 : decode cX11_of 143 = .ok (.new 131, 3) := by decide +kernel
theorem dx_of_146 : decode cX11_of 146 = .ok (.dup, 1) := by decide +kernel
theorem dx_of_147 : decode cX11_of 147 = .ok (.invokespecial 133, 3) := by decide +kernel
theorem dx_of_150 : decode cX11_of 150 = .ok (.athrow, 1) := by decide +kernel
set_option maxRecDepth 20000 in
set_option maxHeartbeats 4000000 in
theorem ux_of (l : Launch) (hst : l.stackTraces = false) (k : Nat) (hk : k ≤ 599) (p0 : Int32) (p1 : Int32) : lk_PX l k yL_of cL_of 5 10 13 210 [.int p0, .int p1] := by
  intro D dT aC qo fo xx sv hc gc hm gm rd n Pm B V h
  have hX : (f_Cr_has hc p0 = 0 ∨ f_La_within p1 0 5 = 0) → ∀ sz, Met l yL_of (.codeWith yL_of cL_of 5 (some .int) [(0, 10, 13, 13)] :: rh_all) (hc_rm 0) (hc_Pc D dT aC (cw_L ++ xx) (hc, gc, cw_R sv) qo fo sz (.ref (aC 0) :: ([.int p0, .int p1] ++ [.ref qo]))) (hc_Q D dT aC (cw_L ++ xx) (hc, gc, cw_R sv) qo fo 1 (va_A (hw dT aC (cw_L ++ xx) (hc, gc, cw_R sv) qo fo) sz)) 1 6 (va_A (hw dT aC (cw_L ++ xx) (hc, gc, cw_R sv) qo fo) sz) := by
    intro hq sz
    rcases T_of 0 xx sv hc gc p0 p1 hq with ht | ht
    · exact hx_of 0 p0 p1 rfl l D dT aC sz qo fo (fun sz => rx_met (d := 0) (a := [.ref 0, .int p0, .int p1]) (pc := 11) (by decide +kernel) rfl (by have h := (rh_hall 105).2; rw [pt_105] at h; exact h) (Nat.le_of_ble_eq_true rfl) ht dx_of_11 dx_of_14 dx_of_15 dx_of_18 l hst D dT aC sz)
    · exact hx_of 0 p0 p1 rfl l D dT aC sz qo fo (fun sz => rx_met (d := 0) (a := [.ref 0, .int p0, .int p1]) (pc := 143) (by decide +kernel) rfl (by have h := (rh_hall 105).2; rw [pt_105] at h; exact h) (Nat.le_of_ble_eq_true rfl) ht dx_of_143 dx_of_146 dx_of_147 dx_of_150 l hst D dT aC sz)
  rcases op_of h (by omega) rd p0 p1 with ⟨hq, y, e2, h9, hR⟩ | ⟨-, -, x, y, e1, e2, h1, h9, hR⟩
  · exact ⟨1, y.1, hc, fo, y.2.1, gm, y.2.2, hX hq, R_Mo_of 32 rd hm gm p0 p1 e2, h9, fun h => absurd h (by decide), hR⟩
  · refine ⟨0, x.1, x.2, vp_updL fo 0 x.1.toInt64, y.2.1, gm, y.2.2, fun sz => hr_of 0 p0 p1 rfl (R_La_of 2 xx sv hc gc p0 p1 e1) l D dT aC sz qo fo, ?_, h9, fun _ => rfl, hR⟩
    rw [h1]
    exact R_Mo_of 32 rd hm gm p0 p1 e2
theorem dx_weight_22 : decode cX11_weight 22 = .ok (.new 131, 3) := by decide +kernel
theorem dx_weight_25 : decode cX11_weight 25 = .ok (.dup, 1) := by decide +kernel
theorem dx_weight_26 : decode cX11_weight 26 = .ok (.invokespecial 133, 3) := by decide +kernel
theorem dx_weight_29 : decode cX11_weight 29 = .ok (.athrow, 1) := by decide +kernel
set_option maxRecDepth 20000 in
set_option maxHeartbeats 4000000 in
theorem ux_weight (l : Launch) (hst : l.stackTraces = false) (k : Nat) (hk : k ≤ 599) (p0 : Int32) (p1 : Int32) : lk_PX l k yL_weight cL_weight 5 10 13 211 [.int p0, .int p1] := by
  intro D dT aC qo fo xx sv hc gc hm gm rd n Pm B V h
  have hX : (f_Cr_has hc p0 = 0 ∨ f_La_within p1 0 999 = 0) → ∀ sz, Met l yL_weight (.codeWith yL_weight cL_weight 5 (some .int) [(0, 10, 13, 13)] :: rh_all) (hc_rm 0) (hc_Pc D dT aC (cw_L ++ xx) (hc, gc, cw_R sv) qo fo sz (.ref (aC 0) :: ([.int p0, .int p1] ++ [.ref qo]))) (hc_Q D dT aC (cw_L ++ xx) (hc, gc, cw_R sv) qo fo 1 (va_A (hw dT aC (cw_L ++ xx) (hc, gc, cw_R sv) qo fo) sz)) 1 6 (va_A (hw dT aC (cw_L ++ xx) (hc, gc, cw_R sv) qo fo) sz) := by
    intro hq sz
    exact hx_weight 0 p0 p1 rfl l D dT aC sz qo fo (fun sz => rx_met (d := 0) (a := [.ref 0, .int p0, .int p1]) (pc := 22) (by decide +kernel) rfl (by have h := (rh_hall 106).2; rw [pt_106] at h; exact h) (Nat.le_of_ble_eq_true rfl) (T_weight 0 xx sv hc gc p0 p1 hq) dx_weight_22 dx_weight_25 dx_weight_26 dx_weight_29 l hst D dT aC sz)
  rcases op_weight h (by omega) rd p0 p1 with ⟨hq, y, e2, h9, hR⟩ | ⟨-, -, x, y, e1, e2, h1, h9, hR⟩
  · exact ⟨1, y.1, hc, fo, y.2.1, gm, y.2.2, hX hq, R_Mo_weight 32 rd hm gm p0 p1 e2, h9, fun h => absurd h (by decide), hR⟩
  · refine ⟨0, x.1, x.2, vp_updL fo 0 x.1.toInt64, y.2.1, gm, y.2.2, fun sz => hr_weight 0 p0 p1 rfl (R_La_weight 2 xx sv hc gc p0 p1 e1) l D dT aC sz qo fo, ?_, h9, fun _ => rfl, hR⟩
    rw [h1]
    exact R_Mo_weight 32 rd hm gm p0 p1 e2
theorem dx_lean_10 : decode cX11_lean 10 = .ok (.new 131, 3) := by decide +kernel
theorem dx_lean_13 : decode cX11_lean 13 = .ok (.dup, 1) := by decide +kernel
theorem dx_lean_14 : decode cX11_lean 14 = .ok (.invokespecial 133, 3) := by decide +kernel
theorem dx_lean_17 : decode cX11_lean 17 = .ok (.athrow, 1) := by decide +kernel
set_option maxRecDepth 20000 in
set_option maxHeartbeats 4000000 in
theorem ux_lean (l : Launch) (hst : l.stackTraces = false) (k : Nat) (hk : k ≤ 599) (p0 : Int32) : lk_PX l k yL_lean cL_lean 4 9 12 232 [.int p0] := by
  intro D dT aC qo fo xx sv hc gc hm gm rd n Pm B V h
  have hX : f_La_within p0 0 99 = 0 → ∀ sz, Met l yL_lean (.codeWith yL_lean cL_lean 4 (some .int) [(0, 9, 12, 13)] :: rh_all) (hc_rm 0) (hc_Pc D dT aC (cw_L ++ xx) (hc, gc, cw_R sv) qo fo sz (.ref (aC 0) :: ([.int p0] ++ [.ref qo]))) (hc_Q D dT aC (cw_L ++ xx) (hc, gc, cw_R sv) qo fo 1 (va_A (hw dT aC (cw_L ++ xx) (hc, gc, cw_R sv) qo fo) sz)) 1 6 (va_A (hw dT aC (cw_L ++ xx) (hc, gc, cw_R sv) qo fo) sz) := by
    intro hq sz
    exact hx_lean 0 p0 rfl l D dT aC sz qo fo (fun sz => rx_met (d := 0) (a := [.ref 0, .int p0]) (pc := 10) (by decide +kernel) rfl (by have h := (rh_hall 116).2; rw [pt_116] at h; exact h) (Nat.le_of_ble_eq_true rfl) (T_lean 0 xx sv hc gc p0 hq) dx_lean_10 dx_lean_13 dx_lean_14 dx_lean_17 l hst D dT aC sz)
  rcases op_lean h (by omega) rd p0 with ⟨hq, y, e2, h9, hR⟩ | ⟨-, x, y, e1, e2, h1, h9, hR⟩
  · exact ⟨1, y.1, hc, fo, y.2.1, gm, y.2.2, hX hq, R_Mo_lean 31 rd hm gm p0 e2, h9, fun h => absurd h (by decide), hR⟩
  · refine ⟨0, x.1, x.2, vp_updL fo 0 x.1.toInt64, y.2.1, gm, y.2.2, fun sz => hr_lean 0 p0 rfl (R_La_lean 1 xx sv hc gc p0 e1) l D dT aC sz qo fo, ?_, h9, fun _ => rfl, hR⟩
    rw [h1]
    exact R_Mo_lean 31 rd hm gm p0 e2
theorem dx_balance_19 : decode cX11_balance 19 = .ok (.new 131, 3) := by decide +kernel
theorem dx_balance_22 : decode cX11_balance 22 = .ok (.dup, 1) := by decide +kernel
theorem dx_balance_23 : decode cX11_balance 23 = .ok (.invokespecial 133, 3) := by decide +kernel
theorem dx_balance_26 : decode cX11_balance 26 = .ok (.athrow, 1) := by decide +kernel
set_option maxRecDepth 20000 in
set_option maxHeartbeats 4000000 in
theorem ux_balance (l : Launch) (hst : l.stackTraces = false) (k : Nat) (hk : k ≤ 599) (p0 : Int32) (p1 : Int32) (p2 : Int32) : lk_PX l k yL_balance cL_balance 6 12 15 274 [.int p0, .int p1, .int p2] := by
  intro D dT aC qo fo xx sv hc gc hm gm rd n Pm B V h
  have hX : (f_La_areApart hc p0 p1 = 0 ∨ f_La_within p2 0 99 = 0) → ∀ sz, Met l yL_balance (.codeWith yL_balance cL_balance 6 (some .int) [(0, 12, 15, 13)] :: rh_all) (hc_rm 0) (hc_Pc D dT aC (cw_L ++ xx) (hc, gc, cw_R sv) qo fo sz (.ref (aC 0) :: ([.int p0, .int p1, .int p2] ++ [.ref qo]))) (hc_Q D dT aC (cw_L ++ xx) (hc, gc, cw_R sv) qo fo 1 (va_A (hw dT aC (cw_L ++ xx) (hc, gc, cw_R sv) qo fo) sz)) 1 6 (va_A (hw dT aC (cw_L ++ xx) (hc, gc, cw_R sv) qo fo) sz) := by
    intro hq sz
    exact hx_balance 0 p0 p1 p2 rfl l D dT aC sz qo fo (fun sz => rx_met (d := 0) (a := [.ref 0, .int p0, .int p1, .int p2]) (pc := 19) (by decide +kernel) rfl (by have h := (rh_hall 136).2; rw [pt_136] at h; exact h) (Nat.le_of_ble_eq_true rfl) (T_balance 0 xx sv hc gc p0 p1 p2 hq) dx_balance_19 dx_balance_22 dx_balance_23 dx_balance_26 l hst D dT aC sz)
  rcases op_balance h (by omega) rd p0 p1 p2 with ⟨hq, y, e2, h9, hR⟩ | ⟨-, -, x, y, e1, e2, h1, h9, hR⟩
  · exact ⟨1, y.1, hc, fo, y.2.1, gm, y.2.2, hX hq, R_Mo_balance 30 rd hm gm p0 p1 p2 e2, h9, fun h => absurd h (by decide), hR⟩
  · refine ⟨0, x.1, x.2, vp_updL fo 0 x.1.toInt64, y.2.1, gm, y.2.2, fun sz => hr_balance 0 p0 p1 p2 rfl (R_La_balance 0 xx sv hc gc p0 p1 p2 e1) l D dT aC sz qo fo, ?_, h9, fun _ => rfl, hR⟩
    rw [h1]
    exact R_Mo_balance 30 rd hm gm p0 p1 p2 e2
theorem dx_pair_18 : decode cX11_pair 18 = .ok (.new 131, 3) := by decide +kernel
theorem dx_pair_21 : decode cX11_pair 21 = .ok (.dup, 1) := by decide +kernel
theorem dx_pair_22 : decode cX11_pair 22 = .ok (.invokespecial 133, 3) := by decide +kernel
theorem dx_pair_25 : decode cX11_pair 25 = .ok (.athrow, 1) := by decide +kernel
set_option maxRecDepth 20000 in
set_option maxHeartbeats 4000000 in
theorem ux_pair (l : Launch) (hst : l.stackTraces = false) (k : Nat) (hk : k ≤ 599) (p0 : Int32) (p1 : Int32) : lk_PX l k yL_pair cL_pair 5 10 13 278 [.int p0, .int p1] := by
  intro D dT aC qo fo xx sv hc gc hm gm rd n Pm B V h
  have hX : (f_La_within p0 0 9999 = 0 ∨ f_La_within p1 0 8 = 0) → ∀ sz, Met l yL_pair (.codeWith yL_pair cL_pair 5 (some .int) [(0, 10, 13, 13)] :: rh_all) (hc_rm 0) (hc_Pc D dT aC (cw_L ++ xx) (hc, gc, cw_R sv) qo fo sz (.ref (aC 0) :: ([.int p0, .int p1] ++ [.ref qo]))) (hc_Q D dT aC (cw_L ++ xx) (hc, gc, cw_R sv) qo fo 1 (va_A (hw dT aC (cw_L ++ xx) (hc, gc, cw_R sv) qo fo) sz)) 1 6 (va_A (hw dT aC (cw_L ++ xx) (hc, gc, cw_R sv) qo fo) sz) := by
    intro hq sz
    exact hx_pair 0 p0 p1 rfl l D dT aC sz qo fo (fun sz => rx_met (d := 0) (a := [.ref 0, .int p0, .int p1]) (pc := 18) (by decide +kernel) rfl (by have h := (rh_hall 140).2; rw [pt_140] at h; exact h) (Nat.le_of_ble_eq_true rfl) (T_pair 0 xx sv hc gc p0 p1 hq) dx_pair_18 dx_pair_21 dx_pair_22 dx_pair_25 l hst D dT aC sz)
  rcases op_pair h (by omega) rd p0 p1 with ⟨hq, y, e2, h9, hR⟩ | ⟨-, -, x, y, e1, e2, h1, h9, hR⟩
  · exact ⟨1, y.1, hc, fo, y.2.1, gm, y.2.2, hX hq, R_Mo_pair 31 rd hm gm p0 p1 e2, h9, fun h => absurd h (by decide), hR⟩
  · refine ⟨0, x.1, x.2, vp_updL fo 0 x.1.toInt64, y.2.1, gm, y.2.2, fun sz => hr_pair 0 p0 p1 rfl (R_La_pair 1 xx sv hc gc p0 p1 e1) l D dT aC sz qo fo, ?_, h9, fun _ => rfl, hR⟩
    rw [h1]
    exact R_Mo_pair 31 rd hm gm p0 p1 e2
theorem dx_swap_42 : decode cX11_swap 42 = .ok (.new 131, 3) := by decide +kernel
theorem dx_swap_45 : decode cX11_swap 45 = .ok (.dup, 1) := by decide +kernel
theorem dx_swap_46 : decode cX11_swap 46 = .ok (.invokespecial 133, 3) := by decide +kernel
theorem dx_swap_49 : decode cX11_swap 49 = .ok (.athrow, 1) := by decide +kernel
theorem dx_swap_72 : decode cX11_swap 72 = .ok (.new 131, 3) := by decide +kernel
theorem dx_swap_75 : decode cX11_swap 75 = .ok (.dup, 1) := by decide +kernel
theorem dx_swap_76 : decode cX11_swap 76 = .ok (.invokespecial 133, 3) := by decide +kernel
theorem dx_swap_79 : decode cX11_swap 79 = .ok (.athrow, 1) := by decide +kernel
set_option maxRecDepth 20000 in
set_option maxHeartbeats 4000000 in
theorem ux_swap (l : Launch) (hst : l.stackTraces = false) (k : Nat) (hk : k ≤ 599) (p0 : Int32) (p1 : Int32) (p2 : Int32) (p3 : Int32) : lk_PX l k yL_swap cL_swap 7 14 17 290 [.int p0, .int p1, .int p2, .int p3] := by
  intro D dT aC qo fo xx sv hc gc hm gm rd n Pm B V h
  have hX : ¬ swOK hc p0 p1 p2 p3 → ∀ sz, Met l yL_swap (.codeWith yL_swap cL_swap 7 (some .int) [(0, 14, 17, 13)] :: rh_all) (hc_rm 0) (hc_Pc D dT aC (cw_L ++ xx) (hc, gc, cw_R sv) qo fo sz (.ref (aC 0) :: ([.int p0, .int p1, .int p2, .int p3] ++ [.ref qo]))) (hc_Q D dT aC (cw_L ++ xx) (hc, gc, cw_R sv) qo fo 1 (va_A (hw dT aC (cw_L ++ xx) (hc, gc, cw_R sv) qo fo) sz)) 1 6 (va_A (hw dT aC (cw_L ++ xx) (hc, gc, cw_R sv) qo fo) sz) := by
    intro hq sz
    rcases T_swap 0 xx sv hc gc p0 p1 p2 p3 hq with ht | ht
    · exact hx_swap 0 p0 p1 p2 p3 rfl l D dT aC sz qo fo (fun sz => rx_met (d := 0) (a := [.ref 0, .int p0, .int p1, .int p2, .int p3]) (pc := 42) (by decide +kernel) rfl (by have h := (rh_hall 149).2; rw [pt_149] at h; exact h) (Nat.le_of_ble_eq_true rfl) ht dx_swap_42 dx_swap_45 dx_swap_46 dx_swap_49 l hst D dT aC sz)
    · exact hx_swap 0 p0 p1 p2 p3 rfl l D dT aC sz qo fo (fun sz => rx_met (d := 0) (a := [.ref 0, .int p0, .int p1, .int p2, .int p3]) (pc := 72) (by decide +kernel) rfl (by have h := (rh_hall 149).2; rw [pt_149] at h; exact h) (Nat.le_of_ble_eq_true rfl) ht dx_swap_72 dx_swap_75 dx_swap_76 dx_swap_79 l hst D dT aC sz)
  rcases op_swap h (by omega) rd p0 p1 p2 p3 with ⟨hq, y, e2, h9, hR⟩ | ⟨-, x, y, e1, e2, h1, h9, hR⟩
  · exact ⟨1, y.1, hc, fo, y.2.1, gm, y.2.2, hX hq, R_Mo_swap 32 rd hm gm p0 p1 p2 p3 e2, h9, fun h => absurd h (by decide), hR⟩
  · refine ⟨0, x.1, x.2, vp_updL fo 0 x.1.toInt64, y.2.1, gm, y.2.2, fun sz => hr_swap 0 p0 p1 p2 p3 rfl (R_La_swap 2 xx sv hc gc p0 p1 p2 p3 e1) l D dT aC sz qo fo, ?_, h9, fun _ => rfl, hR⟩
    rw [h1]
    exact R_Mo_swap 32 rd hm gm p0 p1 p2 p3 e2
theorem dx_row_15 : decode cX11_row 15 = .ok (.new 131, 3) := by decide +kernel
theorem dx_row_18 : decode cX11_row 18 = .ok (.dup, 1) := by decide +kernel
theorem dx_row_19 : decode cX11_row 19 = .ok (.invokespecial 133, 3) := by decide +kernel
theorem dx_row_22 : decode cX11_row 22 = .ok (.athrow, 1) := by decide +kernel
set_option maxRecDepth 20000 in
set_option maxHeartbeats 4000000 in
theorem ux_row (l : Launch) (hst : l.stackTraces = false) (k : Nat) (hk : k ≤ 599) (p0 : Int32) : lk_PX l k yL_row cL_row 4 9 12 296 [.int p0] := by
  intro D dT aC qo fo xx sv hc gc hm gm rd n Pm B V h
  have hX : ¬ rwOK hc p0 → ∀ sz, Met l yL_row (.codeWith yL_row cL_row 4 (some .int) [(0, 9, 12, 13)] :: rh_all) (hc_rm 0) (hc_Pc D dT aC (cw_L ++ xx) (hc, gc, cw_R sv) qo fo sz (.ref (aC 0) :: ([.int p0] ++ [.ref qo]))) (hc_Q D dT aC (cw_L ++ xx) (hc, gc, cw_R sv) qo fo 1 (va_A (hw dT aC (cw_L ++ xx) (hc, gc, cw_R sv) qo fo) sz)) 1 6 (va_A (hw dT aC (cw_L ++ xx) (hc, gc, cw_R sv) qo fo) sz) := by
    intro hq sz
    exact hx_row 0 p0 rfl l D dT aC sz qo fo (fun sz => rx_met (d := 0) (a := [.ref 0, .int p0]) (pc := 15) (by decide +kernel) rfl (by have h := (rh_hall 154).2; rw [pt_154] at h; exact h) (Nat.le_of_ble_eq_true rfl) (T_row 0 xx sv hc gc p0 hq) dx_row_15 dx_row_18 dx_row_19 dx_row_22 l hst D dT aC sz)
  rcases op_row h (by omega) p0 with ⟨hq, y, e2, h9, hR⟩ | ⟨-, r, m', e1, e2, h9, hR⟩
  · exact ⟨1, y.1, hc, fo, y.2, gm, rd, hX hq, R_Mo_row 298 rd hm gm p0 e2, h9, fun h => absurd h (by decide), hR⟩
  · exact ⟨0, r, hc, vp_updL fo 0 r.toInt64, m', gm, rd, fun sz => hr_row 0 p0 rfl (R_La_row 5 xx sv hc gc p0 e1) l D dT aC sz qo fo, R_Mo_row 298 rd hm gm p0 e2, h9, fun _ => rfl, hR⟩
theorem rs_ws {own : String} {idx maxL : Nat} {y : MethodName} {bytes : ByteArray} {ret : Option FieldType} {hh : List (Nat × Nat × Nat × Nat)} (h1 : Cond.methodLink own idx y ∈ rh_all) (h2 : Cond.static y ∈ rh_all) (h3 : Cond.initialized y.cls ∈ rh_all) (h5 : Cond.codeWith y bytes maxL ret hh ∈ rh_all) : GoodIn rh_all (va_wsS own idx y (Cond.codeWith y bytes maxL ret hh :: rh_all)) := rh_gi (fun w hw => by
    simp only [va_wsS, List.cons_append, List.nil_append, List.mem_cons] at hw
    rcases hw with rfl | rfl | rfl | rfl | h
    · exact h1
    · exact h2
    · exact h3
    · exact h5
    · exact h)
section LKX
variable {p : Program} {l : Launch} {e : Env} {s : State} {m : MethodId} {below : List Frame} {meth : Method} {c : Code} {b L : Nat} {xs : Nat → Int32} {D : va_G} {dT : Nat → ClassId} {z0 z1 a0 qo : Nat} {aM aC : Nat → Nat} {k : Nat} {Q : State → Prop} {H : Heap} {locs : List Loc} {ls : Array Slot} {cells slots pc : Nat} {st : List Value}
theorem vP_mid {D : va_G} {cl : List vw_C} {a b c : va_W} {H : Heap} (h : va_P D cl (a ++ (b ++ c)) H) : va_P D cl ((a ++ c) ++ b) H := by
  obtain ⟨h1, h2⟩ := vP_app.mp h
  obtain ⟨h2, h3⟩ := vP_app.mp h2
  exact vP_app.mpr ⟨vP_app.mpr ⟨h1, h3⟩, h2⟩
theorem vD_mid {A : Nat → Prop} {a b c : va_W} (h : va_D A (a ++ (b ++ c))) : va_D A ((a ++ c) ++ b) := by
  obtain ⟨h1, h2, h3⟩ := vD_app.mp h
  obtain ⟨h4, h5, h6⟩ := vD_app.mp h2
  refine vD_app.mpr ⟨vD_app.mpr ⟨h1, h5, fun x hx y hy => h3 x hx y (List.mem_append_right _ hy)⟩, h4, fun x hx y hy => ?_⟩
  rcases List.mem_append.mp hx with hx | hx
  · exact h3 x hx y (List.mem_append_left _ hy)
  · exact fun e => h6 y hy x hx e.symm
theorem vP_dim {D : va_G} {cl : List vw_C} {a b c : va_W} {H : Heap} (h : va_P D cl ((a ++ c) ++ b) H) : va_P D cl (a ++ (b ++ c)) H := by
  obtain ⟨h1, h2⟩ := vP_app.mp h
  obtain ⟨h1, h3⟩ := vP_app.mp h1
  exact vP_app.mpr ⟨h1, vP_app.mpr ⟨h2, h3⟩⟩
theorem vD_dim {A : Nat → Prop} {a b c : va_W} (h : va_D A ((a ++ c) ++ b)) : va_D A (a ++ (b ++ c)) := by
  obtain ⟨h1, h2, h3⟩ := vD_app.mp h
  obtain ⟨h4, h5, h6⟩ := vD_app.mp h1
  refine vD_app.mpr ⟨h4, vD_app.mpr ⟨h2, h5, fun x hx y hy e => h3 y (List.mem_append_right _ hy) x hx e.symm⟩, fun x hx y hy => ?_⟩
  rcases List.mem_append.mp hy with hy | hy
  · exact h3 x (List.mem_append_left _ hx) y hy
  · exact h6 x hx y hy
theorem vP_out {D : va_G} {cl : List vw_C} {a b : va_W} {x : Nat × va_E} {H : Heap} (h : va_P D cl (a ++ (b ++ [x])) H) : va_P D cl [x] H := (vP_app.mp (vP_app.mp h).2).2
theorem lc_H (K : lk_K p l s m c b L xs D dT z0 z1) (e1 : aC 1000 = z0) (e2 : aC 1001 = z1) {y : MethodName} {cc : ByteArray} {nL e9 h9 idx n : Nat} {L0 : rh_L} {hh hh' : rh_H} {fo fo' : Nat → Int64} {kx : Int32} {As : List Value}
    (hM : ∀ sz, Met l y (.codeWith y cc nL (some .int) [(0, e9, h9, 13)] :: rh_all) (hc_rm 0) (hc_Pc D dT aC L0 hh qo fo sz As) (hc_Q D dT aC L0 hh' qo fo' kx (va_A (hw dT aC L0 hh qo fo) sz)) 1 6 (va_A (hw dT aC L0 hh qo fo) sz))
    (h1 : Cond.methodLink RL idx y ∈ rh_all) (h2 : Cond.static y ∈ rh_all) (h3 : Cond.initialized y.cls ∈ rh_all) (h5 : Cond.codeWith y cc nL (some .int) [(0, e9, h9, 13)] ∈ rh_all) (hy : rh_yok y n) (hn : As.length = n) (hnL : nL ≤ 21) (hdg : decode code pc = .ok (.invokestatic idx, 3)) (hce : cells + 1 ≤ room_1.cells) (hsl : slots + 6 ≤ room_1.slots) {wm : va_W}
    (hP : va_P D vwCl (rh_ws dT aC L0 hh ++ (wm ++ [(qo, .inl (dT 1, 1, .inr (.inl fo)))])) H) (hD : va_D (lk_A s) (rh_ws dT aC L0 hh ++ (wm ++ [(qo, .inl (dT 1, 1, .inr (.inl fo)))]))) (hS : va_S (lk_A s) s.heap H locs) (hls : ls.size = 7)
    (kk : ∀ (H1 : Heap) (locs1 : List Loc), va_P D vwCl (rh_ws dT aC L0 hh' ++ (wm ++ [(qo, .inl (dT 1, 1, .inr (.inl fo')))])) H1 → va_D (lk_A s) (rh_ws dT aC L0 hh' ++ (wm ++ [(qo, .inl (dT 1, 1, .inr (.inl fo')))])) → va_S (lk_A s) s.heap H1 locs1 → W p l e room_1 s m #[Value.ref b] below meth c H1 locs1 (cells + 1) (slots + 6) Q (F0 m (pc + 3) ls [.int kx])) :
    W p l e room_1 s m #[Value.ref b] below meth c H locs cells slots Q (F0 m pc ls As.reverse) := by
  have hC := lk_C K e1 e2
  obtain ⟨hx, hb, hml, hown, hts, hK, hZ, -⟩ := hC
  have hX : xk (lk_A s) s s.heap := K.2.2.2.2.2.2.2.2.2.2.1
  have hP' : va_P D vwCl (hw dT aC L0 hh qo fo ++ wm) H := vP_mid hP
  have hD' : va_D (lk_A s) (hw dT aC L0 hh qo fo ++ wm) := vD_mid hD
  have hFc : ∀ z, va_A (hw dT aC L0 hh qo fo) H.size z → lk_A s z := vw_free hD' hS (fun _ h => h)
  have hP0 := (vP_app.mp hP').1
  have hD0 := (vD_app.mp hD').1
  have hZ1 := (hZ.kept (fun z h1 h2 => hS.2.1 z h1 h2)).narrow hFc
  have hX1 := (hX.kept (fun z h1 h2 => hS.2.1 z h1 h2)).narrow hFc
  have key := va_calli (vx_runSW (Ts := rh_all) (As := As) (rest := []) (g := F0 m pc ls As.reverse) (below := below) (e := e) (meth := meth) (cells := cells) (slots := slots) (locs := locs) (R := room_1) (own := RL) (hh := [(0, e9, h9, 13)]) ⟨hx, hb, hml, hown, hts⟩ (hM H.size) (vx_cwSW n hts (rs_ws h1 h2 h3 h5) rfl rfl rfl hy ⟨show 0 + 8 + 1 ≤ 2048 by omega, show 8 + (nL + 11) + 40 * (0 + 8) ≤ 84000 by omega⟩) ⟨hc_blind D dT aC L0 hh qo fo H.size As, fun U hU hW => ⟨rfl, by rw [hU], by rw [hU]; exact hP0, va_K.moved hW.alike hK, hD0.weaken (fun _ _ _ _ => trivial), by rw [hU]; exact hZ1.moved hW.alike, by rw [hU]; exact hX1.moved hW.alike⟩⟩ rfl hn hls (by simp) (lv_room (Nat.le_of_ble_eq_true rfl)) hdg ⟨hce, hsl⟩) hS (fun z _ hz => hFc z hz) hFc (Q := Q) (fun r u t H1 locs1 ht hvm hpost hB hle hk1 hS1 => ?_)
  · exact key
  · subst hpost
    obtain ⟨hP1, hD1⟩ := hB
    rw [ht] at hP1
    obtain ⟨hP2, hD2⟩ := vw_join hP' hD' hk1 hFc hP1 hD1
    exact kk H1 locs1 (vP_dim hP2) (vD_dim hD2) hS1
theorem lk_caseX1 {jm idx nL e9 h9 : Nat} {y : MethodName} {cc : ByteArray} {xx : rh_L} {sv : Option Nat} {hc : HI} {gc : Nat → Nat → Int64} {hm : HI} {gm : Nat → Nat → Int64} {rd : Option Nat} {fo : Nat → Int64} (K : lk_K p l s m c b L xs D dT z0 z1) (m1 : aM 1000 = z0) (m2 : aM 1001 = z1) (hk : 5 * k + 5 ≤ L) (I : lk_I s D dT z0 z1 a0 qo aM k aC xx sv hc gc hm gm rd fo H locs) (hl : lv_has ls 7 (lk_lv b a0 (aM 0) qo k)) (N : lk_N p l e s m below meth c b D dT z0 z1 a0 qo aM k Q) (U : ∀ (v0 : Int32), lk_PX l k y cc nL e9 h9 jm [.int v0]) (h1 : Cond.methodLink RL idx y ∈ rh_all) (h2 : Cond.static y ∈ rh_all) (h3 : Cond.initialized y.cls ∈ rh_all) (h5 : Cond.codeWith y cc nL (some .int) [(0, e9, h9, 13)] ∈ rh_all) (hy : rh_yok y 3) (hnL : nL ≤ 21) (d0 : decode code pc = .ok (.aload_n 1, 1)) (f1 : dld (pc + 1) 1) (d1 : decode code (pc + 1 + 6) = .ok (.aload_n 3, 1)) (d2 : decode code (pc + 1 + 6 + 1) = .ok (.invokestatic idx, 3)) (d3 : decode code (pc + 1 + 6 + 1 + 3) = .ok (.istore 5, 2)) (d4 : decode code (pc + 1 + 6 + 1 + 3 + 2) = .ok (.aload_n 2, 1)) (g1 : dld (pc + 1 + 6 + 1 + 3 + 2 + 1) 1) (q2 : rh_Call RL code 7 (pc + 1 + 6 + 1 + 3 + 2 + 1 + 6) (rh_PT jm).1 (rh_PT jm).2.1 (rh_PT jm).2.2.1 (rh_PT jm).2.2.2.1 2 (some 11)) (d5 : decode code (pc + 1 + 6 + 1 + 3 + 2 + 1 + 6 + 3) = .ok (.istore 6, 2)) (d6 : decode code (pc + 1 + 6 + 1 + 3 + 2 + 1 + 6 + 3 + 2) = .ok (.aload_n 2, 1)) (q3 : rh_Call RL code 7 (pc + 1 + 6 + 1 + 3 + 2 + 1 + 6 + 3 + 2 + 1) (rh_PT 178).1 (rh_PT 178).2.1 (rh_PT 178).2.2.1 (rh_PT 178).2.2.2.1 1 (some 11)) (d7 : decode code (pc + 1 + 6 + 1 + 3 + 2 + 1 + 6 + 3 + 2 + 1 + 3) = .ok (.iload 5, 2)) (d8 : decode code (pc + 1 + 6 + 1 + 3 + 2 + 1 + 6 + 3 + 2 + 1 + 3 + 2) = .ok (.if_icmp .eq 5, 3)) (d9 : decode code (pc + 1 + 6 + 1 + 3 + 2 + 1 + 6 + 3 + 2 + 1 + 3 + 2 + 5) = .ok (.iload 5, 2)) (dA : decode code (pc + 1 + 6 + 1 + 3 + 2 + 1 + 6 + 3 + 2 + 1 + 3 + 2 + 5 + 2) = .ok (.ifCond .ne 15, 3)) (dB : decode code (pc + 1 + 6 + 1 + 3 + 2 + 1 + 6 + 3 + 2 + 1 + 3 + 2 + 5 + 2 + 3) = .ok (.aload_n 3, 1)) (dC : decode code (pc + 1 + 6 + 1 + 3 + 2 + 1 + 6 + 3 + 2 + 1 + 3 + 2 + 5 + 2 + 3 + 1) = .ok (.iconst 0, 1)) (dD : decode code (pc + 1 + 6 + 1 + 3 + 2 + 1 + 6 + 3 + 2 + 1 + 3 + 2 + 5 + 2 + 3 + 1 + 1) = .ok (.laload, 1)) (dE : decode code (pc + 1 + 6 + 1 + 3 + 2 + 1 + 6 + 3 + 2 + 1 + 3 + 2 + 5 + 2 + 3 + 1 + 1 + 1) = .ok (.iload 6, 2)) (dF : decode code (pc + 1 + 6 + 1 + 3 + 2 + 1 + 6 + 3 + 2 + 1 + 3 + 2 + 5 + 2 + 3 + 1 + 1 + 1 + 2) = .ok (.i2l, 1)) (dG : decode code (pc + 1 + 6 + 1 + 3 + 2 + 1 + 6 + 3 + 2 + 1 + 3 + 2 + 5 + 2 + 3 + 1 + 1 + 1 + 2 + 1) = .ok (.lcmp, 1)) (dH : decode code (pc + 1 + 6 + 1 + 3 + 2 + 1 + 6 + 3 + 2 + 1 + 3 + 2 + 5 + 2 + 3 + 1 + 1 + 1 + 2 + 1 + 1) = .ok (.ifCond .eq 5, 3)) {off : Int} (dI : decode code (pc + 1 + 6 + 1 + 3 + 2 + 1 + 6 + 3 + 2 + 1 + 3 + 2 + 5 + 2 + 15) = .ok (.goto off, 3)) (ht : ((pc + 1 + 6 + 1 + 3 + 2 + 1 + 6 + 3 + 2 + 1 + 3 + 2 + 5 + 2 + 15 : Nat) : Int) + off = ((2135 : Nat) : Int)) : W p l e room_1 s m #[Value.ref b] below meth c H locs (74 + xx.length + k) (70000 + 4000 * xx.length + 6 * k) Q (F0 m pc ls []) := by
  obtain ⟨ok, ⟨n, Pm, B, V, hR⟩, e0, e1, e2, hP, hD, hS⟩ := I
  have hL : L ≤ 2560 := K.2.2.2.2.2.2.2.2.2.2.2.2
  have hk5 : k ≤ 511 := by omega
  have hce := lk_rC ok (show k ≤ 512 by omega)
  have hsl := lk_rS ok (show k ≤ 512 by omega)
  have hx := K.1
  have hb := K.2.1
  subst e0
  obtain ⟨kx, r, hc', fo', hm', gm', rd', M1, M2, h09, hf0, hR'⟩ := U (xs (5 * k + 1)) D dT aC qo fo xx sv hc gc hm gm rd n Pm B V hR
  have hce1 : 74 + xx.length + k + 1 ≤ room_1.cells := lk_rC ok (show k + 1 ≤ 512 by omega)
  have hsl1 : 70000 + 4000 * xx.length + 6 * k + 6 ≤ room_1.slots := lk_rS ok (show k + 1 ≤ 512 by omega)
  refine lv_aload_n hx hb d0 rfl (lv_at hl 1 rfl) ?_
  refine lk_ld K 1 (by omega) (by decide) hl hS f1 ?_
  refine lv_aload_n hx hb d1 rfl (lv_at hl 3 rfl) ?_
  refine lc_H (As := (.ref (aC 0) :: ([.int (xs (5 * k + 1))] ++ [.ref qo]))) K e1 e2 M1 h1 h2 h3 h5 hy rfl hnL d2 hce1 hsl1 hP hD hS hl.1 (fun H1 locs1 hP hD hS => ?_)
  refine lv_istore (lv' := [(5, .int kx), (0, .ref b), (1, .ref (aC 0)), (2, .ref (aM 0)), (3, .ref qo), (4, .int (nI (5 * k)))]) hx hb d3 hl (by decide) rfl (fun ls hl => ?_)
  have hl0 : lv_has ls 7 (lk_lv b (aC 0) (aM 0) qo k) := lv_sub hl [1, 2, 3, 4, 5] rfl
  refine lv_aload_n hx hb d4 rfl (lv_at hl 3 rfl) ?_
  refine lk_ld K 1 (by omega) (by decide) hl0 hS g1 ?_
  refine lc_M (a := [.int (xs (5 * k + 1))]) (st := []) K m1 m2 M2 q2 hce1 hsl1 hP hD hS hl.1 (Nat.le_of_ble_eq_true rfl) (fun H2 locs2 hP hD hS => ?_)
  refine lv_istore (lv' := [(6, .int r), (5, .int kx), (0, .ref b), (1, .ref (aC 0)), (2, .ref (aM 0)), (3, .ref qo), (4, .int (nI (5 * k)))]) hx hb d5 hl (by decide) rfl (fun ls hl => ?_)
  refine lv_aload_n hx hb d6 rfl (lv_at hl 4 rfl) ?_
  refine lc_M (a := []) (st := []) K m1 m2 (R_Mo_thrown 299 rd' hm' gm' (z9 := kx) h09) q3 hce1 hsl1 hP hD hS hl.1 (Nat.le_of_ble_eq_true rfl) (fun H3 locs3 hP hD hS => ?_)
  refine lv_iload hx hb d7 (lv_at hl 1 rfl) ?_
  refine lv_icmp_eq (tgt := pc + 1 + 6 + 1 + 3 + 2 + 1 + 6 + 3 + 2 + 1 + 3 + 2 + 5) hx hb d8 (by omega) (fun _ => ?_) (fun h => absurd rfl h)
  refine lv_iload hx hb d9 (lv_at hl 1 rfl) ?_
  refine lv_if_ne (tgt := pc + 1 + 6 + 1 + 3 + 2 + 1 + 6 + 3 + 2 + 1 + 3 + 2 + 5 + 2 + 15) hx hb dA (by omega) (fun _ => ?_) (fun h0 => ?_)
  · refine lv_goto (tgt := 2135) hx hb dI ht ?_
    refine W.widen (k := 74 + xx.length + (k + 1)) (n := 70000 + 4000 * xx.length + 6 * (k + 1)) (by omega) (by omega) ?_
    exact N aC xx sv hc' gc hm' gm' rd' fo' H3 locs3 ls ⟨ok, ⟨n, Pm, B, V, hR'⟩, rfl, e1, e2, hP, hD, hS⟩ (lv_sub hl [2, 3, 4, 5, 6] rfl)
  · skip
    refine lv_aload_n hx hb dB rfl (lv_at hl 5 rfl) ?_
    refine lv_iconst (v := 0) hx hb dC (by decide) ?_
    refine va_lald hx hb K.2.2.2.2.2.1 (vP_out hP) 0 1 rfl rfl (by unfold vp_in; decide) dD ?_
    refine lv_iload hx hb dE (lv_at hl 0 rfl) ?_
    refine lv_i2l hx hb dF rfl ?_
    refine W.lcmp hx hb dG ?_
    have e9 : lg_cmp (fo' (0 : Int32).toNatClampNeg) r.toInt64 = 0 := by
      rw [show (0 : Int32).toNatClampNeg = 0 from rfl, hf0 h0]
      unfold lg_cmp
      rw [if_neg (fun h => absurd h (by simp [Int64.lt_irrefl])), if_pos rfl]
    refine lv_if_eq (tgt := pc + 1 + 6 + 1 + 3 + 2 + 1 + 6 + 3 + 2 + 1 + 3 + 2 + 5 + 2 + 15) hx hb dH (by omega) (fun _ => ?_) (fun h => absurd e9 h)
    refine lv_goto (tgt := 2135) hx hb dI ht ?_
    refine W.widen (k := 74 + xx.length + (k + 1)) (n := 70000 + 4000 * xx.length + 6 * (k + 1)) (by omega) (by omega) ?_
    exact N aC xx sv hc' gc hm' gm' rd' fo' H3 locs3 ls ⟨ok, ⟨n, Pm, B, V, hR'⟩, rfl, e1, e2, hP, hD, hS⟩ (lv_sub hl [2, 3, 4, 5, 6] rfl)
theorem lk_caseX2 {jm idx nL e9 h9 : Nat} {y : MethodName} {cc : ByteArray} {xx : rh_L} {sv : Option Nat} {hc : HI} {gc : Nat → Nat → Int64} {hm : HI} {gm : Nat → Nat → Int64} {rd : Option Nat} {fo : Nat → Int64} (K : lk_K p l s m c b L xs D dT z0 z1) (m1 : aM 1000 = z0) (m2 : aM 1001 = z1) (hk : 5 * k + 5 ≤ L) (I : lk_I s D dT z0 z1 a0 qo aM k aC xx sv hc gc hm gm rd fo H locs) (hl : lv_has ls 7 (lk_lv b a0 (aM 0) qo k)) (N : lk_N p l e s m below meth c b D dT z0 z1 a0 qo aM k Q) (U : ∀ (v0 : Int32) (v1 : Int32), lk_PX l k y cc nL e9 h9 jm [.int v0, .int v1]) (h1 : Cond.methodLink RL idx y ∈ rh_all) (h2 : Cond.static y ∈ rh_all) (h3 : Cond.initialized y.cls ∈ rh_all) (h5 : Cond.codeWith y cc nL (some .int) [(0, e9, h9, 13)] ∈ rh_all) (hy : rh_yok y 4) (hnL : nL ≤ 21) (d0 : decode code pc = .ok (.aload_n 1, 1)) (f1 : dld (pc + 1) 1) (f2 : dld (pc + 1 + 6) 2) (d1 : decode code (pc + 1 + 6 + 6) = .ok (.aload_n 3, 1)) (d2 : decode code (pc + 1 + 6 + 6 + 1) = .ok (.invokestatic idx, 3)) (d3 : decode code (pc + 1 + 6 + 6 + 1 + 3) = .ok (.istore 5, 2)) (d4 : decode code (pc + 1 + 6 + 6 + 1 + 3 + 2) = .ok (.aload_n 2, 1)) (g1 : dld (pc + 1 + 6 + 6 + 1 + 3 + 2 + 1) 1) (g2 : dld (pc + 1 + 6 + 6 + 1 + 3 + 2 + 1 + 6) 2) (q2 : rh_Call RL code 7 (pc + 1 + 6 + 6 + 1 + 3 + 2 + 1 + 6 + 6) (rh_PT jm).1 (rh_PT jm).2.1 (rh_PT jm).2.2.1 (rh_PT jm).2.2.2.1 3 (some 11)) (d5 : decode code (pc + 1 + 6 + 6 + 1 + 3 + 2 + 1 + 6 + 6 + 3) = .ok (.istore 6, 2)) (d6 : decode code (pc + 1 + 6 + 6 + 1 + 3 + 2 + 1 + 6 + 6 + 3 + 2) = .ok (.aload_n 2, 1)) (q3 : rh_Call RL code 7 (pc + 1 + 6 + 6 + 1 + 3 + 2 + 1 + 6 + 6 + 3 + 2 + 1) (rh_PT 178).1 (rh_PT 178).2.1 (rh_PT 178).2.2.1 (rh_PT 178).2.2.2.1 1 (some 11)) (d7 : decode code (pc + 1 + 6 + 6 + 1 + 3 + 2 + 1 + 6 + 6 + 3 + 2 + 1 + 3) = .ok (.iload 5, 2)) (d8 : decode code (pc + 1 + 6 + 6 + 1 + 3 + 2 + 1 + 6 + 6 + 3 + 2 + 1 + 3 + 2) = .ok (.if_icmp .eq 5, 3)) (d9 : decode code (pc + 1 + 6 + 6 + 1 + 3 + 2 + 1 + 6 + 6 + 3 + 2 + 1 + 3 + 2 + 5) = .ok (.iload 5, 2)) (dA : decode code (pc + 1 + 6 + 6 + 1 + 3 + 2 + 1 + 6 + 6 + 3 + 2 + 1 + 3 + 2 + 5 + 2) = .ok (.ifCond .ne 15, 3)) (dB : decode code (pc + 1 + 6 + 6 + 1 + 3 + 2 + 1 + 6 + 6 + 3 + 2 + 1 + 3 + 2 + 5 + 2 + 3) = .ok (.aload_n 3, 1)) (dC : decode code (pc + 1 + 6 + 6 + 1 + 3 + 2 + 1 + 6 + 6 + 3 + 2 + 1 + 3 + 2 + 5 + 2 + 3 + 1) = .ok (.iconst 0, 1)) (dD : decode code (pc + 1 + 6 + 6 + 1 + 3 + 2 + 1 + 6 + 6 + 3 + 2 + 1 + 3 + 2 + 5 + 2 + 3 + 1 + 1) = .ok (.laload, 1)) (dE : decode code (pc + 1 + 6 + 6 + 1 + 3 + 2 + 1 + 6 + 6 + 3 + 2 + 1 + 3 + 2 + 5 + 2 + 3 + 1 + 1 + 1) = .ok (.iload 6, 2)) (dF : decode code (pc + 1 + 6 + 6 + 1 + 3 + 2 + 1 + 6 + 6 + 3 + 2 + 1 + 3 + 2 + 5 + 2 + 3 + 1 + 1 + 1 + 2) = .ok (.i2l, 1)) (dG : decode code (pc + 1 + 6 + 6 + 1 + 3 + 2 + 1 + 6 + 6 + 3 + 2 + 1 + 3 + 2 + 5 + 2 + 3 + 1 + 1 + 1 + 2 + 1) = .ok (.lcmp, 1)) (dH : decode code (pc + 1 + 6 + 6 + 1 + 3 + 2 + 1 + 6 + 6 + 3 + 2 + 1 + 3 + 2 + 5 + 2 + 3 + 1 + 1 + 1 + 2 + 1 + 1) = .ok (.ifCond .eq 5, 3)) {off : Int} (dI : decode code (pc + 1 + 6 + 6 + 1 + 3 + 2 + 1 + 6 + 6 + 3 + 2 + 1 + 3 + 2 + 5 + 2 + 15) = .ok (.goto off, 3)) (ht : ((pc + 1 + 6 + 6 + 1 + 3 + 2 + 1 + 6 + 6 + 3 + 2 + 1 + 3 + 2 + 5 + 2 + 15 : Nat) : Int) + off = ((2135 : Nat) : Int)) : W p l e room_1 s m #[Value.ref b] below meth c H locs (74 + xx.length + k) (70000 + 4000 * xx.length + 6 * k) Q (F0 m pc ls []) := by
  obtain ⟨ok, ⟨n, Pm, B, V, hR⟩, e0, e1, e2, hP, hD, hS⟩ := I
  have hL : L ≤ 2560 := K.2.2.2.2.2.2.2.2.2.2.2.2
  have hk5 : k ≤ 511 := by omega
  have hce := lk_rC ok (show k ≤ 512 by omega)
  have hsl := lk_rS ok (show k ≤ 512 by omega)
  have hx := K.1
  have hb := K.2.1
  subst e0
  obtain ⟨kx, r, hc', fo', hm', gm', rd', M1, M2, h09, hf0, hR'⟩ := U (xs (5 * k + 1)) (xs (5 * k + 2)) D dT aC qo fo xx sv hc gc hm gm rd n Pm B V hR
  have hce1 : 74 + xx.length + k + 1 ≤ room_1.cells := lk_rC ok (show k + 1 ≤ 512 by omega)
  have hsl1 : 70000 + 4000 * xx.length + 6 * k + 6 ≤ room_1.slots := lk_rS ok (show k + 1 ≤ 512 by omega)
  refine lv_aload_n hx hb d0 rfl (lv_at hl 1 rfl) ?_
  refine lk_ld K 1 (by omega) (by decide) hl hS f1 ?_
  refine lk_ld K 2 (by omega) (by decide) hl hS f2 ?_
  refine lv_aload_n hx hb d1 rfl (lv_at hl 3 rfl) ?_
  refine lc_H (As := (.ref (aC 0) :: ([.int (xs (5 * k + 1)), .int (xs (5 * k + 2))] ++ [.ref qo]))) K e1 e2 M1 h1 h2 h3 h5 hy rfl hnL d2 hce1 hsl1 hP hD hS hl.1 (fun H1 locs1 hP hD hS => ?_)
  refine lv_istore (lv' := [(5, .int kx), (0, .ref b), (1, .ref (aC 0)), (2, .ref (aM 0)), (3, .ref qo), (4, .int (nI (5 * k)))]) hx hb d3 hl (by decide) rfl (fun ls hl => ?_)
  have hl0 : lv_has ls 7 (lk_lv b (aC 0) (aM 0) qo k) := lv_sub hl [1, 2, 3, 4, 5] rfl
  refine lv_aload_n hx hb d4 rfl (lv_at hl 3 rfl) ?_
  refine lk_ld K 1 (by omega) (by decide) hl0 hS g1 ?_
  refine lk_ld K 2 (by omega) (by decide) hl0 hS g2 ?_
  refine lc_M (a := [.int (xs (5 * k + 1)), .int (xs (5 * k + 2))]) (st := []) K m1 m2 M2 q2 hce1 hsl1 hP hD hS hl.1 (Nat.le_of_ble_eq_true rfl) (fun H2 locs2 hP hD hS => ?_)
  refine lv_istore (lv' := [(6, .int r), (5, .int kx), (0, .ref b), (1, .ref (aC 0)), (2, .ref (aM 0)), (3, .ref qo), (4, .int (nI (5 * k)))]) hx hb d5 hl (by decide) rfl (fun ls hl => ?_)
  refine lv_aload_n hx hb d6 rfl (lv_at hl 4 rfl) ?_
  refine lc_M (a := []) (st := []) K m1 m2 (R_Mo_thrown 299 rd' hm' gm' (z9 := kx) h09) q3 hce1 hsl1 hP hD hS hl.1 (Nat.le_of_ble_eq_true rfl) (fun H3 locs3 hP hD hS => ?_)
  refine lv_iload hx hb d7 (lv_at hl 1 rfl) ?_
  refine lv_icmp_eq (tgt := pc + 1 + 6 + 6 + 1 + 3 + 2 + 1 + 6 + 6 + 3 + 2 + 1 + 3 + 2 + 5) hx hb d8 (by omega) (fun _ => ?_) (fun h => absurd rfl h)
  refine lv_iload hx hb d9 (lv_at hl 1 rfl) ?_
  refine lv_if_ne (tgt := pc + 1 + 6 + 6 + 1 + 3 + 2 + 1 + 6 + 6 + 3 + 2 + 1 + 3 + 2 + 5 + 2 + 15) hx hb dA (by omega) (fun _ => ?_) (fun h0 => ?_)
  · refine lv_goto (tgt := 2135) hx hb dI ht ?_
    refine W.widen (k := 74 + xx.length + (k + 1)) (n := 70000 + 4000 * xx.length + 6 * (k + 1)) (by omega) (by omega) ?_
    exact N aC xx sv hc' gc hm' gm' rd' fo' H3 locs3 ls ⟨ok, ⟨n, Pm, B, V, hR'⟩, rfl, e1, e2, hP, hD, hS⟩ (lv_sub hl [2, 3, 4, 5, 6] rfl)
  · skip
    refine lv_aload_n hx hb dB rfl (lv_at hl 5 rfl) ?_
    refine lv_iconst (v := 0) hx hb dC (by decide) ?_
    refine va_lald hx hb K.2.2.2.2.2.1 (vP_out hP) 0 1 rfl rfl (by unfold vp_in; decide) dD ?_
    refine lv_iload hx hb dE (lv_at hl 0 rfl) ?_
    refine lv_i2l hx hb dF rfl ?_
    refine W.lcmp hx hb dG ?_
    have e9 : lg_cmp (fo' (0 : Int32).toNatClampNeg) r.toInt64 = 0 := by
      rw [show (0 : Int32).toNatClampNeg = 0 from rfl, hf0 h0]
      unfold lg_cmp
      rw [if_neg (fun h => absurd h (by simp [Int64.lt_irrefl])), if_pos rfl]
    refine lv_if_eq (tgt := pc + 1 + 6 + 6 + 1 + 3 + 2 + 1 + 6 + 6 + 3 + 2 + 1 + 3 + 2 + 5 + 2 + 15) hx hb dH (by omega) (fun _ => ?_) (fun h => absurd e9 h)
    refine lv_goto (tgt := 2135) hx hb dI ht ?_
    refine W.widen (k := 74 + xx.length + (k + 1)) (n := 70000 + 4000 * xx.length + 6 * (k + 1)) (by omega) (by omega) ?_
    exact N aC xx sv hc' gc hm' gm' rd' fo' H3 locs3 ls ⟨ok, ⟨n, Pm, B, V, hR'⟩, rfl, e1, e2, hP, hD, hS⟩ (lv_sub hl [2, 3, 4, 5, 6] rfl)
theorem lk_caseX3 {jm idx nL e9 h9 : Nat} {y : MethodName} {cc : ByteArray} {xx : rh_L} {sv : Option Nat} {hc : HI} {gc : Nat → Nat → Int64} {hm : HI} {gm : Nat → Nat → Int64} {rd : Option Nat} {fo : Nat → Int64} (K : lk_K p l s m c b L xs D dT z0 z1) (m1 : aM 1000 = z0) (m2 : aM 1001 = z1) (hk : 5 * k + 5 ≤ L) (I : lk_I s D dT z0 z1 a0 qo aM k aC xx sv hc gc hm gm rd fo H locs) (hl : lv_has ls 7 (lk_lv b a0 (aM 0) qo k)) (N : lk_N p l e s m below meth c b D dT z0 z1 a0 qo aM k Q) (U : ∀ (v0 : Int32) (v1 : Int32) (v2 : Int32), lk_PX l k y cc nL e9 h9 jm [.int v0, .int v1, .int v2]) (h1 : Cond.methodLink RL idx y ∈ rh_all) (h2 : Cond.static y ∈ rh_all) (h3 : Cond.initialized y.cls ∈ rh_all) (h5 : Cond.codeWith y cc nL (some .int) [(0, e9, h9, 13)] ∈ rh_all) (hy : rh_yok y 5) (hnL : nL ≤ 21) (d0 : decode code pc = .ok (.aload_n 1, 1)) (f1 : dld (pc + 1) 1) (f2 : dld (pc + 1 + 6) 2) (f3 : dld (pc + 1 + 6 + 6) 3) (d1 : decode code (pc + 1 + 6 + 6 + 6) = .ok (.aload_n 3, 1)) (d2 : decode code (pc + 1 + 6 + 6 + 6 + 1) = .ok (.invokestatic idx, 3)) (d3 : decode code (pc + 1 + 6 + 6 + 6 + 1 + 3) = .ok (.istore 5, 2)) (d4 : decode code (pc + 1 + 6 + 6 + 6 + 1 + 3 + 2) = .ok (.aload_n 2, 1)) (g1 : dld (pc + 1 + 6 + 6 + 6 + 1 + 3 + 2 + 1) 1) (g2 : dld (pc + 1 + 6 + 6 + 6 + 1 + 3 + 2 + 1 + 6) 2) (g3 : dld (pc + 1 + 6 + 6 + 6 + 1 + 3 + 2 + 1 + 6 + 6) 3) (q2 : rh_Call RL code 7 (pc + 1 + 6 + 6 + 6 + 1 + 3 + 2 + 1 + 6 + 6 + 6) (rh_PT jm).1 (rh_PT jm).2.1 (rh_PT jm).2.2.1 (rh_PT jm).2.2.2.1 4 (some 11)) (d5 : decode code (pc + 1 + 6 + 6 + 6 + 1 + 3 + 2 + 1 + 6 + 6 + 6 + 3) = .ok (.istore 6, 2)) (d6 : decode code (pc + 1 + 6 + 6 + 6 + 1 + 3 + 2 + 1 + 6 + 6 + 6 + 3 + 2) = .ok (.aload_n 2, 1)) (q3 : rh_Call RL code 7 (pc + 1 + 6 + 6 + 6 + 1 + 3 + 2 + 1 + 6 + 6 + 6 + 3 + 2 + 1) (rh_PT 178).1 (rh_PT 178).2.1 (rh_PT 178).2.2.1 (rh_PT 178).2.2.2.1 1 (some 11)) (d7 : decode code (pc + 1 + 6 + 6 + 6 + 1 + 3 + 2 + 1 + 6 + 6 + 6 + 3 + 2 + 1 + 3) = .ok (.iload 5, 2)) (d8 : decode code (pc + 1 + 6 + 6 + 6 + 1 + 3 + 2 + 1 + 6 + 6 + 6 + 3 + 2 + 1 + 3 + 2) = .ok (.if_icmp .eq 5, 3)) (d9 : decode code (pc + 1 + 6 + 6 + 6 + 1 + 3 + 2 + 1 + 6 + 6 + 6 + 3 + 2 + 1 + 3 + 2 + 5) = .ok (.iload 5, 2)) (dA : decode code (pc + 1 + 6 + 6 + 6 + 1 + 3 + 2 + 1 + 6 + 6 + 6 + 3 + 2 + 1 + 3 + 2 + 5 + 2) = .ok (.ifCond .ne 15, 3)) (dB : decode code (pc + 1 + 6 + 6 + 6 + 1 + 3 + 2 + 1 + 6 + 6 + 6 + 3 + 2 + 1 + 3 + 2 + 5 + 2 + 3) = .ok (.aload_n 3, 1)) (dC : decode code (pc + 1 + 6 + 6 + 6 + 1 + 3 + 2 + 1 + 6 + 6 + 6 + 3 + 2 + 1 + 3 + 2 + 5 + 2 + 3 + 1) = .ok (.iconst 0, 1)) (dD : decode code (pc + 1 + 6 + 6 + 6 + 1 + 3 + 2 + 1 + 6 + 6 + 6 + 3 + 2 + 1 + 3 + 2 + 5 + 2 + 3 + 1 + 1) = .ok (.laload, 1)) (dE : decode code (pc + 1 + 6 + 6 + 6 + 1 + 3 + 2 + 1 + 6 + 6 + 6 + 3 + 2 + 1 + 3 + 2 + 5 + 2 + 3 + 1 + 1 + 1) = .ok (.iload 6, 2)) (dF : decode code (pc + 1 + 6 + 6 + 6 + 1 + 3 + 2 + 1 + 6 + 6 + 6 + 3 + 2 + 1 + 3 + 2 + 5 + 2 + 3 + 1 + 1 + 1 + 2) = .ok (.i2l, 1)) (dG : decode code (pc + 1 + 6 + 6 + 6 + 1 + 3 + 2 + 1 + 6 + 6 + 6 + 3 + 2 + 1 + 3 + 2 + 5 + 2 + 3 + 1 + 1 + 1 + 2 + 1) = .ok (.lcmp, 1)) (dH : decode code (pc + 1 + 6 + 6 + 6 + 1 + 3 + 2 + 1 + 6 + 6 + 6 + 3 + 2 + 1 + 3 + 2 + 5 + 2 + 3 + 1 + 1 + 1 + 2 + 1 + 1) = .ok (.ifCond .eq 5, 3)) {off : Int} (dI : decode code (pc + 1 + 6 + 6 + 6 + 1 + 3 + 2 + 1 + 6 + 6 + 6 + 3 + 2 + 1 + 3 + 2 + 5 + 2 + 15) = .ok (.goto off, 3)) (ht : ((pc + 1 + 6 + 6 + 6 + 1 + 3 + 2 + 1 + 6 + 6 + 6 + 3 + 2 + 1 + 3 + 2 + 5 + 2 + 15 : Nat) : Int) + off = ((2135 : Nat) : Int)) : W p l e room_1 s m #[Value.ref b] below meth c H locs (74 + xx.length + k) (70000 + 4000 * xx.length + 6 * k) Q (F0 m pc ls []) := by
  obtain ⟨ok, ⟨n, Pm, B, V, hR⟩, e0, e1, e2, hP, hD, hS⟩ := I
  have hL : L ≤ 2560 := K.2.2.2.2.2.2.2.2.2.2.2.2
  have hk5 : k ≤ 511 := by omega
  have hce := lk_rC ok (show k ≤ 512 by omega)
  have hsl := lk_rS ok (show k ≤ 512 by omega)
  have hx := K.1
  have hb := K.2.1
  subst e0
  obtain ⟨kx, r, hc', fo', hm', gm', rd', M1, M2, h09, hf0, hR'⟩ := U (xs (5 * k + 1)) (xs (5 * k + 2)) (xs (5 * k + 3)) D dT aC qo fo xx sv hc gc hm gm rd n Pm B V hR
  have hce1 : 74 + xx.length + k + 1 ≤ room_1.cells := lk_rC ok (show k + 1 ≤ 512 by omega)
  have hsl1 : 70000 + 4000 * xx.length + 6 * k + 6 ≤ room_1.slots := lk_rS ok (show k + 1 ≤ 512 by omega)
  refine lv_aload_n hx hb d0 rfl (lv_at hl 1 rfl) ?_
  refine lk_ld K 1 (by omega) (by decide) hl hS f1 ?_
  refine lk_ld K 2 (by omega) (by decide) hl hS f2 ?_
  refine lk_ld K 3 (by omega) (by decide) hl hS f3 ?_
  refine lv_aload_n hx hb d1 rfl (lv_at hl 3 rfl) ?_
  refine lc_H (As := (.ref (aC 0) :: ([.int (xs (5 * k + 1)), .int (xs (5 * k + 2)), .int (xs (5 * k + 3))] ++ [.ref qo]))) K e1 e2 M1 h1 h2 h3 h5 hy rfl hnL d2 hce1 hsl1 hP hD hS hl.1 (fun H1 locs1 hP hD hS => ?_)
  refine lv_istore (lv' := [(5, .int kx), (0, .ref b), (1, .ref (aC 0)), (2, .ref (aM 0)), (3, .ref qo), (4, .int (nI (5 * k)))]) hx hb d3 hl (by decide) rfl (fun ls hl => ?_)
  have hl0 : lv_has ls 7 (lk_lv b (aC 0) (aM 0) qo k) := lv_sub hl [1, 2, 3, 4, 5] rfl
  refine lv_aload_n hx hb d4 rfl (lv_at hl 3 rfl) ?_
  refine lk_ld K 1 (by omega) (by decide) hl0 hS g1 ?_
  refine lk_ld K 2 (by omega) (by decide) hl0 hS g2 ?_
  refine lk_ld K 3 (by omega) (by decide) hl0 hS g3 ?_
  refine lc_M (a := [.int (xs (5 * k + 1)), .int (xs (5 * k + 2)), .int (xs (5 * k + 3))]) (st := []) K m1 m2 M2 q2 hce1 hsl1 hP hD hS hl.1 (Nat.le_of_ble_eq_true rfl) (fun H2 locs2 hP hD hS => ?_)
  refine lv_istore (lv' := [(6, .int r), (5, .int kx), (0, .ref b), (1, .ref (aC 0)), (2, .ref (aM 0)), (3, .ref qo), (4, .int (nI (5 * k)))]) hx hb d5 hl (by decide) rfl (fun ls hl => ?_)
  refine lv_aload_n hx hb d6 rfl (lv_at hl 4 rfl) ?_
  refine lc_M (a := []) (st := []) K m1 m2 (R_Mo_thrown 299 rd' hm' gm' (z9 := kx) h09) q3 hce1 hsl1 hP hD hS hl.1 (Nat.le_of_ble_eq_true rfl) (fun H3 locs3 hP hD hS => ?_)
  refine lv_iload hx hb d7 (lv_at hl 1 rfl) ?_
  refine lv_icmp_eq (tgt := pc + 1 + 6 + 6 + 6 + 1 + 3 + 2 + 1 + 6 + 6 + 6 + 3 + 2 + 1 + 3 + 2 + 5) hx hb d8 (by omega) (fun _ => ?_) (fun h => absurd rfl h)
  refine lv_iload hx hb d9 (lv_at hl 1 rfl) ?_
  refine lv_if_ne (tgt := pc + 1 + 6 + 6 + 6 + 1 + 3 + 2 + 1 + 6 + 6 + 6 + 3 + 2 + 1 + 3 + 2 + 5 + 2 + 15) hx hb dA (by omega) (fun _ => ?_) (fun h0 => ?_)
  · refine lv_goto (tgt := 2135) hx hb dI ht ?_
    refine W.widen (k := 74 + xx.length + (k + 1)) (n := 70000 + 4000 * xx.length + 6 * (k + 1)) (by omega) (by omega) ?_
    exact N aC xx sv hc' gc hm' gm' rd' fo' H3 locs3 ls ⟨ok, ⟨n, Pm, B, V, hR'⟩, rfl, e1, e2, hP, hD, hS⟩ (lv_sub hl [2, 3, 4, 5, 6] rfl)
  · skip
    refine lv_aload_n hx hb dB rfl (lv_at hl 5 rfl) ?_
    refine lv_iconst (v := 0) hx hb dC (by decide) ?_
    refine va_lald hx hb K.2.2.2.2.2.1 (vP_out hP) 0 1 rfl rfl (by unfold vp_in; decide) dD ?_
    refine lv_iload hx hb dE (lv_at hl 0 rfl) ?_
    refine lv_i2l hx hb dF rfl ?_
    refine W.lcmp hx hb dG ?_
    have e9 : lg_cmp (fo' (0 : Int32).toNatClampNeg) r.toInt64 = 0 := by
      rw [show (0 : Int32).toNatClampNeg = 0 from rfl, hf0 h0]
      unfold lg_cmp
      rw [if_neg (fun h => absurd h (by simp [Int64.lt_irrefl])), if_pos rfl]
    refine lv_if_eq (tgt := pc + 1 + 6 + 6 + 6 + 1 + 3 + 2 + 1 + 6 + 6 + 6 + 3 + 2 + 1 + 3 + 2 + 5 + 2 + 15) hx hb dH (by omega) (fun _ => ?_) (fun h => absurd e9 h)
    refine lv_goto (tgt := 2135) hx hb dI ht ?_
    refine W.widen (k := 74 + xx.length + (k + 1)) (n := 70000 + 4000 * xx.length + 6 * (k + 1)) (by omega) (by omega) ?_
    exact N aC xx sv hc' gc hm' gm' rd' fo' H3 locs3 ls ⟨ok, ⟨n, Pm, B, V, hR'⟩, rfl, e1, e2, hP, hD, hS⟩ (lv_sub hl [2, 3, 4, 5, 6] rfl)
theorem lk_caseX4 {jm idx nL e9 h9 : Nat} {y : MethodName} {cc : ByteArray} {xx : rh_L} {sv : Option Nat} {hc : HI} {gc : Nat → Nat → Int64} {hm : HI} {gm : Nat → Nat → Int64} {rd : Option Nat} {fo : Nat → Int64} (K : lk_K p l s m c b L xs D dT z0 z1) (m1 : aM 1000 = z0) (m2 : aM 1001 = z1) (hk : 5 * k + 5 ≤ L) (I : lk_I s D dT z0 z1 a0 qo aM k aC xx sv hc gc hm gm rd fo H locs) (hl : lv_has ls 7 (lk_lv b a0 (aM 0) qo k)) (N : lk_N p l e s m below meth c b D dT z0 z1 a0 qo aM k Q) (U : ∀ (v0 : Int32) (v1 : Int32) (v2 : Int32) (v3 : Int32), lk_PX l k y cc nL e9 h9 jm [.int v0, .int v1, .int v2, .int v3]) (h1 : Cond.methodLink RL idx y ∈ rh_all) (h2 : Cond.static y ∈ rh_all) (h3 : Cond.initialized y.cls ∈ rh_all) (h5 : Cond.codeWith y cc nL (some .int) [(0, e9, h9, 13)] ∈ rh_all) (hy : rh_yok y 6) (hnL : nL ≤ 21) (d0 : decode code pc = .ok (.aload_n 1, 1)) (f1 : dld (pc + 1) 1) (f2 : dld (pc + 1 + 6) 2) (f3 : dld (pc + 1 + 6 + 6) 3) (f4 : dld (pc + 1 + 6 + 6 + 6) 4) (d1 : decode code (pc + 1 + 6 + 6 + 6 + 6) = .ok (.aload_n 3, 1)) (d2 : decode code (pc + 1 + 6 + 6 + 6 + 6 + 1) = .ok (.invokestatic idx, 3)) (d3 : decode code (pc + 1 + 6 + 6 + 6 + 6 + 1 + 3) = .ok (.istore 5, 2)) (d4 : decode code (pc + 1 + 6 + 6 + 6 + 6 + 1 + 3 + 2) = .ok (.aload_n 2, 1)) (g1 : dld (pc + 1 + 6 + 6 + 6 + 6 + 1 + 3 + 2 + 1) 1) (g2 : dld (pc + 1 + 6 + 6 + 6 + 6 + 1 + 3 + 2 + 1 + 6) 2) (g3 : dld (pc + 1 + 6 + 6 + 6 + 6 + 1 + 3 + 2 + 1 + 6 + 6) 3) (g4 : dld (pc + 1 + 6 + 6 + 6 + 6 + 1 + 3 + 2 + 1 + 6 + 6 + 6) 4) (q2 : rh_Call RL code 7 (pc + 1 + 6 + 6 + 6 + 6 + 1 + 3 + 2 + 1 + 6 + 6 + 6 + 6) (rh_PT jm).1 (rh_PT jm).2.1 (rh_PT jm).2.2.1 (rh_PT jm).2.2.2.1 5 (some 11)) (d5 : decode code (pc + 1 + 6 + 6 + 6 + 6 + 1 + 3 + 2 + 1 + 6 + 6 + 6 + 6 + 3) = .ok (.istore 6, 2)) (d6 : decode code (pc + 1 + 6 + 6 + 6 + 6 + 1 + 3 + 2 + 1 + 6 + 6 + 6 + 6 + 3 + 2) = .ok (.aload_n 2, 1)) (q3 : rh_Call RL code 7 (pc + 1 + 6 + 6 + 6 + 6 + 1 + 3 + 2 + 1 + 6 + 6 + 6 + 6 + 3 + 2 + 1) (rh_PT 178).1 (rh_PT 178).2.1 (rh_PT 178).2.2.1 (rh_PT 178).2.2.2.1 1 (some 11)) (d7 : decode code (pc + 1 + 6 + 6 + 6 + 6 + 1 + 3 + 2 + 1 + 6 + 6 + 6 + 6 + 3 + 2 + 1 + 3) = .ok (.iload 5, 2)) (d8 : decode code (pc + 1 + 6 + 6 + 6 + 6 + 1 + 3 + 2 + 1 + 6 + 6 + 6 + 6 + 3 + 2 + 1 + 3 + 2) = .ok (.if_icmp .eq 5, 3)) (d9 : decode code (pc + 1 + 6 + 6 + 6 + 6 + 1 + 3 + 2 + 1 + 6 + 6 + 6 + 6 + 3 + 2 + 1 + 3 + 2 + 5) = .ok (.iload 5, 2)) (dA : decode code (pc + 1 + 6 + 6 + 6 + 6 + 1 + 3 + 2 + 1 + 6 + 6 + 6 + 6 + 3 + 2 + 1 + 3 + 2 + 5 + 2) = .ok (.ifCond .ne 15, 3)) (dB : decode code (pc + 1 + 6 + 6 + 6 + 6 + 1 + 3 + 2 + 1 + 6 + 6 + 6 + 6 + 3 + 2 + 1 + 3 + 2 + 5 + 2 + 3) = .ok (.aload_n 3, 1)) (dC : decode code (pc + 1 + 6 + 6 + 6 + 6 + 1 + 3 + 2 + 1 + 6 + 6 + 6 + 6 + 3 + 2 + 1 + 3 + 2 + 5 + 2 + 3 + 1) = .ok (.iconst 0, 1)) (dD : decode code (pc + 1 + 6 + 6 + 6 + 6 + 1 + 3 + 2 + 1 + 6 + 6 + 6 + 6 + 3 + 2 + 1 + 3 + 2 + 5 + 2 + 3 + 1 + 1) = .ok (.laload, 1)) (dE : decode code (pc + 1 + 6 + 6 + 6 + 6 + 1 + 3 + 2 + 1 + 6 + 6 + 6 + 6 + 3 + 2 + 1 + 3 + 2 + 5 + 2 + 3 + 1 + 1 + 1) = .ok (.iload 6, 2)) (dF : decode code (pc + 1 + 6 + 6 + 6 + 6 + 1 + 3 + 2 + 1 + 6 + 6 + 6 + 6 + 3 + 2 + 1 + 3 + 2 + 5 + 2 + 3 + 1 + 1 + 1 + 2) = .ok (.i2l, 1)) (dG : decode code (pc + 1 + 6 + 6 + 6 + 6 + 1 + 3 + 2 + 1 + 6 + 6 + 6 + 6 + 3 + 2 + 1 + 3 + 2 + 5 + 2 + 3 + 1 + 1 + 1 + 2 + 1) = .ok (.lcmp, 1)) (dH : decode code (pc + 1 + 6 + 6 + 6 + 6 + 1 + 3 + 2 + 1 + 6 + 6 + 6 + 6 + 3 + 2 + 1 + 3 + 2 + 5 + 2 + 3 + 1 + 1 + 1 + 2 + 1 + 1) = .ok (.ifCond .eq 5, 3)) {off : Int} (dI : decode code (pc + 1 + 6 + 6 + 6 + 6 + 1 + 3 + 2 + 1 + 6 + 6 + 6 + 6 + 3 + 2 + 1 + 3 + 2 + 5 + 2 + 15) = .ok (.goto off, 3)) (ht : ((pc + 1 + 6 + 6 + 6 + 6 + 1 + 3 + 2 + 1 + 6 + 6 + 6 + 6 + 3 + 2 + 1 + 3 + 2 + 5 + 2 + 15 : Nat) : Int) + off = ((2135 : Nat) : Int)) : W p l e room_1 s m #[Value.ref b] below meth c H locs (74 + xx.length + k) (70000 + 4000 * xx.length + 6 * k) Q (F0 m pc ls []) := by
  obtain ⟨ok, ⟨n, Pm, B, V, hR⟩, e0, e1, e2, hP, hD, hS⟩ := I
  have hL : L ≤ 2560 := K.2.2.2.2.2.2.2.2.2.2.2.2
  have hk5 : k ≤ 511 := by omega
  have hce := lk_rC ok (show k ≤ 512 by omega)
  have hsl := lk_rS ok (show k ≤ 512 by omega)
  have hx := K.1
  have hb := K.2.1
  subst e0
  obtain ⟨kx, r, hc', fo', hm', gm', rd', M1, M2, h09, hf0, hR'⟩ := U (xs (5 * k + 1)) (xs (5 * k + 2)) (xs (5 * k + 3)) (xs (5 * k + 4)) D dT aC qo fo xx sv hc gc hm gm rd n Pm B V hR
  have hce1 : 74 + xx.length + k + 1 ≤ room_1.cells := lk_rC ok (show k + 1 ≤ 512 by omega)
  have hsl1 : 70000 + 4000 * xx.length + 6 * k + 6 ≤ room_1.slots := lk_rS ok (show k + 1 ≤ 512 by omega)
  refine lv_aload_n hx hb d0 rfl (lv_at hl 1 rfl) ?_
  refine lk_ld K 1 (by omega) (by decide) hl hS f1 ?_
  refine lk_ld K 2 (by omega) (by decide) hl hS f2 ?_
  refine lk_ld K 3 (by omega) (by decide) hl hS f3 ?_
  refine lk_ld K 4 (by omega) (by decide) hl hS f4 ?_
  refine lv_aload_n hx hb d1 rfl (lv_at hl 3 rfl) ?_
  refine lc_H (As := (.ref (aC 0) :: ([.int (xs (5 * k + 1)), .int (xs (5 * k + 2)), .int (xs (5 * k + 3)), .int (xs (5 * k + 4))] ++ [.ref qo]))) K e1 e2 M1 h1 h2 h3 h5 hy rfl hnL d2 hce1 hsl1 hP hD hS hl.1 (fun H1 locs1 hP hD hS => ?_)
  refine lv_istore (lv' := [(5, .int kx), (0, .ref b), (1, .ref (aC 0)), (2, .ref (aM 0)), (3, .ref qo), (4, .int (nI (5 * k)))]) hx hb d3 hl (by decide) rfl (fun ls hl => ?_)
  have hl0 : lv_has ls 7 (lk_lv b (aC 0) (aM 0) qo k) := lv_sub hl [1, 2, 3, 4, 5] rfl
  refine lv_aload_n hx hb d4 rfl (lv_at hl 3 rfl) ?_
  refine lk_ld K 1 (by omega) (by decide) hl0 hS g1 ?_
  refine lk_ld K 2 (by omega) (by decide) hl0 hS g2 ?_
  refine lk_ld K 3 (by omega) (by decide) hl0 hS g3 ?_
  refine lk_ld K 4 (by omega) (by decide) hl0 hS g4 ?_
  refine lc_M (a := [.int (xs (5 * k + 1)), .int (xs (5 * k + 2)), .int (xs (5 * k + 3)), .int (xs (5 * k + 4))]) (st := []) K m1 m2 M2 q2 hce1 hsl1 hP hD hS hl.1 (Nat.le_of_ble_eq_true rfl) (fun H2 locs2 hP hD hS => ?_)
  refine lv_istore (lv' := [(6, .int r), (5, .int kx), (0, .ref b), (1, .ref (aC 0)), (2, .ref (aM 0)), (3, .ref qo), (4, .int (nI (5 * k)))]) hx hb d5 hl (by decide) rfl (fun ls hl => ?_)
  refine lv_aload_n hx hb d6 rfl (lv_at hl 4 rfl) ?_
  refine lc_M (a := []) (st := []) K m1 m2 (R_Mo_thrown 299 rd' hm' gm' (z9 := kx) h09) q3 hce1 hsl1 hP hD hS hl.1 (Nat.le_of_ble_eq_true rfl) (fun H3 locs3 hP hD hS => ?_)
  refine lv_iload hx hb d7 (lv_at hl 1 rfl) ?_
  refine lv_icmp_eq (tgt := pc + 1 + 6 + 6 + 6 + 6 + 1 + 3 + 2 + 1 + 6 + 6 + 6 + 6 + 3 + 2 + 1 + 3 + 2 + 5) hx hb d8 (by omega) (fun _ => ?_) (fun h => absurd rfl h)
  refine lv_iload hx hb d9 (lv_at hl 1 rfl) ?_
  refine lv_if_ne (tgt := pc + 1 + 6 + 6 + 6 + 6 + 1 + 3 + 2 + 1 + 6 + 6 + 6 + 6 + 3 + 2 + 1 + 3 + 2 + 5 + 2 + 15) hx hb dA (by omega) (fun _ => ?_) (fun h0 => ?_)
  · refine lv_goto (tgt := 2135) hx hb dI ht ?_
    refine W.widen (k := 74 + xx.length + (k + 1)) (n := 70000 + 4000 * xx.length + 6 * (k + 1)) (by omega) (by omega) ?_
    exact N aC xx sv hc' gc hm' gm' rd' fo' H3 locs3 ls ⟨ok, ⟨n, Pm, B, V, hR'⟩, rfl, e1, e2, hP, hD, hS⟩ (lv_sub hl [2, 3, 4, 5, 6] rfl)
  · skip
    refine lv_aload_n hx hb dB rfl (lv_at hl 5 rfl) ?_
    refine lv_iconst (v := 0) hx hb dC (by decide) ?_
    refine va_lald hx hb K.2.2.2.2.2.1 (vP_out hP) 0 1 rfl rfl (by unfold vp_in; decide) dD ?_
    refine lv_iload hx hb dE (lv_at hl 0 rfl) ?_
    refine lv_i2l hx hb dF rfl ?_
    refine W.lcmp hx hb dG ?_
    have e9 : lg_cmp (fo' (0 : Int32).toNatClampNeg) r.toInt64 = 0 := by
      rw [show (0 : Int32).toNatClampNeg = 0 from rfl, hf0 h0]
      unfold lg_cmp
      rw [if_neg (fun h => absurd h (by simp [Int64.lt_irrefl])), if_pos rfl]
    refine lv_if_eq (tgt := pc + 1 + 6 + 6 + 6 + 6 + 1 + 3 + 2 + 1 + 6 + 6 + 6 + 6 + 3 + 2 + 1 + 3 + 2 + 5 + 2 + 15) hx hb dH (by omega) (fun _ => ?_) (fun h => absurd e9 h)
    refine lv_goto (tgt := 2135) hx hb dI ht ?_
    refine W.widen (k := 74 + xx.length + (k + 1)) (n := 70000 + 4000 * xx.length + 6 * (k + 1)) (by omega) (by omega) ?_
    exact N aC xx sv hc' gc hm' gm' rd' fo' H3 locs3 ls ⟨ok, ⟨n, Pm, B, V, hR'⟩, rfl, e1, e2, hP, hD, hS⟩ (lv_sub hl [2, 3, 4, 5, 6] rfl)
end LKX
