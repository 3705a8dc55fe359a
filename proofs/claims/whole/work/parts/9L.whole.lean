/-! the law, from its entry -/
theorem dv_0 : decode code 0 = .ok (.new 8, 3) := by decide +kernel
theorem dv_3 : decode code 3 = .ok (.dup, 1) := by decide +kernel
theorem dv_4 : decode code 4 = .ok (.invokespecial 36, 3) := by decide +kernel
theorem dv_7 : decode code 7 = .ok (.astore_n 1, 1) := by decide +kernel
theorem dv_8 : decode code 8 = .ok (.new 37, 3) := by decide +kernel
theorem dv_11 : decode code 11 = .ok (.dup, 1) := by decide +kernel
theorem dv_12 : decode code 12 = .ok (.invokespecial 39, 3) := by decide +kernel
theorem dv_15 : decode code 15 = .ok (.astore_n 2, 1) := by decide +kernel
theorem dv_16 : decode code 16 = .ok (.iconst 1, 1) := by decide +kernel
theorem dv_17 : decode code 17 = .ok (.newarray .long, 2) := by decide +kernel
theorem dv_19 : decode code 19 = .ok (.astore_n 3, 1) := by decide +kernel
theorem dv_20 : decode code 20 = .ok (.iconst 0, 1) := by decide +kernel
theorem dv_21 : decode code 21 = .ok (.istore 4, 2) := by decide +kernel
theorem ls_f12 : ∀ j, j < 53 → defaultValue (tyX12 j) = vp_V [.null, .int 0, .int 0, .null, .null, .null, .int 0, .null, .int 0, .int 0, .null, .int 0, .int 0, .int 0, .int 0, .null, .null, .int 0, .int 0, .int 0, .int 0, .null, .null, .null, .int 0, .null, .null, .null, .null, .int 0, .null, .null, .null, .null, .null, .null, .null, .null, .null, .int 0, .int 0, .int 0, .int 0, .int 0, .null, .null, .null, .null, .int 0, .int 0, .null, .null, .null] j := by decide +kernel
theorem ls_f11 : ∀ j, j < 13 → defaultValue (tyX11 j) = vp_V [.null, .int 0, .null, .null, .null, .null, .null, .null, .null, .null, .null, .null, .null] j := by decide +kernel
set_option maxHeartbeats 4000000 in
set_option maxRecDepth 100000 in
theorem whole_start {p : Program} {e : Env} {s : State} {m : MethodId} {below : List Frame} {meth : Method} {c : Code} (l : Launch) (hflags : l.flags = flags0) {b L : Nat} {xs : Nat → Int32} (hL : L ≤ 2560) (C0 : lw_At p s m meth c b L xs) : W p l e room_1 s m #[Value.ref b] below meth c s.heap [] 0 0 (lw_Z below #[Value.ref b] s) (entryFrame m ([Value.ref b] : List Value).toArray 7) := by
  obtain ⟨hx, hb, hr, hml, hown0, hts, hX, hbl, hlocks, hgv⟩ := id C0
  have hown : s.vm.findClass RL = some m.cls := hown0
  have htr : ∀ w ∈ rh_all, w.before #[Value.ref b] s = true := fun w hw => hts w (List.mem_filter.mp hw).1
  obtain ⟨D, hKD⟩ := ls_D htr
  obtain ⟨dT, hKT⟩ := ls_T htr
  have hK : va_K D vwCl (rh_tys dT) s := ⟨hKD, hKT⟩
  obtain ⟨z0, z1, hZ⟩ := ls_Z hts hgv
  have hN := ls_N hts
  have hXK := ls_X hts hgv
  have hst : l.stackTraces = false := by
    show (!l.flags.contains noTraceFlag) = false
    rw [hflags]
    decide +kernel
  have K : lk_K p l s m c b L xs D dT z0 z1 := ⟨hx, hb, hml, hown, htr, hK, hZ, hX, hbl, hN, hXK, hst, hL⟩
  have hA : ∀ q : Nat, s.heap.size ≤ q → lk_A s q := fun _ h => h
  have hS : va_S (lk_A s) s.heap s.heap [] := va_S.rf
  have hP : va_P D vwCl [] s.heap := fun k q h => by simp at h
  have hD : va_D (lk_A s) [] := ⟨fun i j p q h => by simp at h, fun k q h => by simp at h⟩
  have hl := lv_entry ([.ref b]) (n := 7) (Nat.le_of_ble_eq_true rfl)
  rw [lg_entry_eq]
  generalize (lg_sl ([.ref b]) ++ List.replicate (7 - (lg_sl ([.ref b])).length) Slot.unset).toArray = ls at hl ⊢
  have hl : lv_has ls 7 [(0, .ref b)] := hl
  refine va_new (ci := 10) (fs := [.null, .int 0, .null, .null, .null, .null, .null, .null, .null, .null, .null, .null, .null]) (C := RX11) (T := TX11) (N := 13) hx hb htr cl_10.2.1 tyX11 tyX11_ok hown (htr _ (rh_in (rh_t1 (List.mem_of_getElem? (i := 22) rfl)) rfl)) (htr _ (rh_in (rh_t1 (List.mem_of_getElem? (i := 23) rfl)) rfl)) (htr _ wh_in) hK hP hD hS hA rfl ls_f11 (Nat.le_of_ble_eq_true rfl) (Nat.le_of_ble_eq_true rfl) dv_0 (fun a0 H hP hD hS => ?_)
  refine lv_dup hx hb dv_3 rfl ?_
  have hPc : va_P D vwCl [(a0, .inr (10, [.null, .int 0, .null, .null, .null, .null, .null, .null, .null, .null, .null, .null, .null]))] H := hP
  have hDc : va_D (lk_A s) [(a0, .inr (10, [.null, .int 0, .null, .null, .null, .null, .null, .null, .null, .null, .null, .null, .null]))] := hD
  have hP' : va_P D vwCl ([(a0, .inr (10, [.null, .int 0, .null, .null, .null, .null, .null, .null, .null, .null, .null, .null, .null]))] ++ []) H := hP
  have hD' : va_D (lk_A s) ([(a0, .inr (10, [.null, .int 0, .null, .null, .null, .null, .null, .null, .null, .null, .null, .null, .null]))] ++ []) := hD
  have hFc := vw_free hD' hS hA
  refine va_callv (va_runI (As := []) (rest := [.ref a0]) ⟨hx, hb, hml, hown, htr⟩ (kX11_init l D dT a0 H.size) (cwI 0 htr (rh_gi in_wsX11_init) rfl rfl rfl (htr _ wh_in) (htr _ (rh_in (rh_t1 (List.mem_of_getElem? (i := 24) rfl)) rfl)) (htr _ (rh_in (rh_t1 (List.mem_of_getElem? (i := 25) rfl)) rfl)) rfl (by decide +kernel) ⟨Nat.le_of_ble_eq_true rfl, Nat.le_of_ble_eq_true rfl⟩) ⟨fun a U g mk q => by obtain ⟨q0, q1, qP, qK, qD, qN⟩ := q; exact ⟨q0, q1, qP, va_K.moved (u := U) (U := U.calling g mk a) (Vm.Alike.refl U.vm) qK, qD, kn_same (u := U) (U := U.calling g mk a) rfl qN⟩, fun U hU hW => ⟨rfl, by rw [hU], by rw [hU]; exact hPc, va_K.moved hW.alike hK, hDc.weaken (fun _ _ _ _ => trivial), kn_warm hW hN⟩⟩ rfl rfl hl.1 rfl (lv_room (Nat.le_of_ble_eq_true rfl)) dv_4 ⟨Nat.le_of_ble_eq_true rfl, Nat.le_of_ble_eq_true rfl⟩) hS (fun q _ h => hFc q h) hFc (fun u t H1 locs ht hvm hw hB hz1 hk1 hS => ?_)
  obtain ⟨q1, q2, q3, q4, q5, q6, q7, q8, q9, q10, q11, q12, q13, q14, q15, q16, q17, q18, q19, q20, q21, q22, q23, q24, q25, q26, q27, q28, q29, q30, q31, q32, q33, q34, q35, q36, q37, q38, q39, q40, q41, hP1, hD1⟩ := hB
  rw [ht] at hP1
  obtain ⟨hP2, hD2⟩ := vw_join hP' hD' hk1 hFc hP1 hD1
  rw [List.append_nil, ← w0_c dT (az z0 z1)] at hP2 hD2
  have e0 : adL [a0, q1, q2, q3, q4, q5, q6, q7, q8, q9, q10, q11, q12, q13, q14, q15, q16, q17, q18, q19, q20, q21, q22, q23, q24, q25, q26, q27, q28, q29, q30, q31, q32, q33, q34, q35, q36, q37, q38, q39, q40, q41] (az z0 z1) 0 = a0 := rfl
  have e1 : adL [a0, q1, q2, q3, q4, q5, q6, q7, q8, q9, q10, q11, q12, q13, q14, q15, q16, q17, q18, q19, q20, q21, q22, q23, q24, q25, q26, q27, q28, q29, q30, q31, q32, q33, q34, q35, q36, q37, q38, q39, q40, q41] (az z0 z1) 1000 = z0 := rfl
  have e2 : adL [a0, q1, q2, q3, q4, q5, q6, q7, q8, q9, q10, q11, q12, q13, q14, q15, q16, q17, q18, q19, q20, q21, q22, q23, q24, q25, q26, q27, q28, q29, q30, q31, q32, q33, q34, q35, q36, q37, q38, q39, q40, q41] (az z0 z1) 1001 = z1 := rfl
  generalize adL [a0, q1, q2, q3, q4, q5, q6, q7, q8, q9, q10, q11, q12, q13, q14, q15, q16, q17, q18, q19, q20, q21, q22, q23, q24, q25, q26, q27, q28, q29, q30, q31, q32, q33, q34, q35, q36, q37, q38, q39, q40, q41] (az z0 z1) = aC at e0 e1 e2 hP2 hD2
  clear hP1 hD1 hk1 hFc hP' hD' hPc hDc hP hD hw hz1
  refine W.widen (k := 42) (n := 2919) (Nat.le_of_ble_eq_true rfl) (Nat.le_of_ble_eq_true rfl) ?_
  refine lv_astore_n (lv' := [(1, .ref a0), (0, .ref b)]) hx hb dv_7 rfl hl (by decide) rfl (fun ls hl => ?_)
  refine va_new (ci := 11) (fs := [.null, .int 0, .int 0, .null, .null, .null, .int 0, .null, .int 0, .int 0, .null, .int 0, .int 0, .int 0, .int 0, .null, .null, .int 0, .int 0, .int 0, .int 0, .null, .null, .null, .int 0, .null, .null, .null, .null, .int 0, .null, .null, .null, .null, .null, .null, .null, .null, .null, .int 0, .int 0, .int 0, .int 0, .int 0, .null, .null, .null, .null, .int 0, .int 0, .null, .null, .null]) (C := RX12) (T := TX12) (N := 53) hx hb htr cl_11.2.1 tyX12 tyX12_ok hown (htr _ (rh_in (rh_t6 (List.mem_of_getElem? (i := 46) rfl)) rfl)) (htr _ (rh_in (rh_t6 (List.mem_of_getElem? (i := 47) rfl)) rfl)) (htr _ wh_in2) hK hP2 hD2 hS hA rfl ls_f12 (Nat.le_of_ble_eq_true rfl) (Nat.le_of_ble_eq_true rfl) dv_8 (fun m0 H hP hD hS => ?_)
  refine lv_dup hx hb dv_11 rfl ?_
  have hP' := vP_comm hP
  have hD' := vD_comm hD
  have hPc := (vP_app.mp hP').1
  have hDc := (vD_app.mp hD').1
  have hFc := vw_free hD' hS hA
  refine va_callv (va_runI (As := []) (rest := [.ref m0]) ⟨hx, hb, hml, hown, htr⟩ (kX12_init l D dT m0 H.size) (cwI 0 htr (rh_gi in_wsX12_init) rfl rfl rfl (htr _ wh_in2) (htr _ (rh_in (rh_t6 (List.mem_of_getElem? (i := 48) rfl)) rfl)) (htr _ (rh_in (rh_t6 (List.mem_of_getElem? (i := 49) rfl)) rfl)) rfl (by decide +kernel) ⟨Nat.le_of_ble_eq_true rfl, Nat.le_of_ble_eq_true rfl⟩) ⟨fun a U g mk q => by obtain ⟨q0, q1, qP, qK, qD, qN⟩ := q; exact ⟨q0, q1, qP, va_K.moved (u := U) (U := U.calling g mk a) (Vm.Alike.refl U.vm) qK, qD, kn_same (u := U) (U := U.calling g mk a) rfl qN⟩, fun U hU hW => ⟨rfl, by rw [hU], by rw [hU]; exact hPc, va_K.moved hW.alike hK, hDc.weaken (fun _ _ _ _ => trivial), kn_warm hW hN⟩⟩ rfl rfl hl.1 rfl (lv_room (Nat.le_of_ble_eq_true rfl)) dv_12 ⟨Nat.le_of_ble_eq_true rfl, Nat.le_of_ble_eq_true rfl⟩) hS (fun q _ h => hFc q h) hFc (fun u t H1 locs ht hvm hw hB hz1 hk1 hS => ?_)
  obtain ⟨r1, r2, r3, r4, r5, r6, r7, r8, r9, r10, r11, r12, r13, r14, r15, r16, r17, r18, r19, r20, r21, r22, r23, r24, r25, r26, r27, r28, r29, r30, hP1, hD1⟩ := hB
  rw [ht] at hP1
  obtain ⟨hP2, hD2⟩ := vw_join hP' hD' hk1 hFc hP1 hD1
  rw [← w0_m dT (az z0 z1)] at hP2 hD2
  have g0 : adL [m0, r1, r2, r3, r4, r5, r6, r7, r8, r9, r10, r11, r12, r13, r14, r15, r16, r17, r18, r19, r20, r21, r22, r23, r24, r25, r26, r27, r28, r29, r30] (az z0 z1) 0 = m0 := rfl
  have g1 : adL [m0, r1, r2, r3, r4, r5, r6, r7, r8, r9, r10, r11, r12, r13, r14, r15, r16, r17, r18, r19, r20, r21, r22, r23, r24, r25, r26, r27, r28, r29, r30] (az z0 z1) 1000 = z0 := rfl
  have g2 : adL [m0, r1, r2, r3, r4, r5, r6, r7, r8, r9, r10, r11, r12, r13, r14, r15, r16, r17, r18, r19, r20, r21, r22, r23, r24, r25, r26, r27, r28, r29, r30] (az z0 z1) 1001 = z1 := rfl
  generalize adL [m0, r1, r2, r3, r4, r5, r6, r7, r8, r9, r10, r11, r12, r13, r14, r15, r16, r17, r18, r19, r20, r21, r22, r23, r24, r25, r26, r27, r28, r29, r30] (az z0 z1) = aM at g0 g1 g2 hP2 hD2
  clear hP1 hD1 hk1 hFc hP' hD' hPc hDc hP hD hw hz1
  have hP3 := vP_comm hP2
  have hD3 := vD_comm hD2
  refine W.widen (k := 73) (n := 69063) (Nat.le_of_ble_eq_true rfl) (Nat.le_of_ble_eq_true rfl) ?_
  refine lv_astore_n (lv' := [(2, .ref m0), (1, .ref a0), (0, .ref b)]) hx hb dv_15 rfl hl (by decide) rfl (fun ls hl => ?_)
  refine lv_iconst (v := 1) hx hb dv_16 (by decide) ?_
  refine va_newa (atype := .long) (ty := .long) (a0 := (1, .inr (.inl (fun _ => 0)))) hx hb (htr _ (rh_in (rh_t2 (List.mem_of_getElem? (i := 15) rfl)) rfl)) rfl hK hP3 hD3 hS hA (fun _ => rfl) (by decide) rfl (Nat.le_of_ble_eq_true rfl) (Nat.le_of_ble_eq_true rfl) (Nat.le_of_ble_eq_true rfl) dv_17 (fun qo cA H hK1 hP hD hS => ?_)
  obtain rfl : cA = dT 1 := kt_1 hK1
  rw [List.append_assoc] at hP hD
  refine lv_astore_n (lv' := [(3, .ref qo), (2, .ref m0), (1, .ref a0), (0, .ref b)]) hx hb dv_19 rfl hl (by decide) rfl (fun ls hl => ?_)
  refine lv_iconst (v := 0) hx hb dv_20 (by decide) ?_
  refine lv_istore (lv' := [(4, .int 0), (3, .ref qo), (2, .ref m0), (1, .ref a0), (0, .ref b)]) hx hb dv_21 hl (by decide) rfl (fun ls hl => ?_)
  subst g0
  refine W.widen (k := 74 + ([] : rh_L).length + 0) (n := 70000 + 4000 * ([] : rh_L).length + 6 * 0) (Nat.le_of_ble_eq_true rfl) (Nat.le_of_ble_eq_true rfl) ?_
  rw [← List.append_nil cw_L] at hP hD
  exact lw_loop (a0 := a0) (qo := qo) (aM := aM) K g1 g2 hr hlocks (L + 1) 0 (by omega) (by omega) aC [] none c0h (fun _ _ => 0) m0h (fun _ _ => 0) none (fun _ => 0) H _ ls ⟨Or.inl ⟨rfl, rfl⟩, ⟨_, _, _, _, rl_start⟩, e0, e1, e2, hP, hD, hS⟩ (lv_sub hl [4, 3, 2, 1, 0] rfl)
