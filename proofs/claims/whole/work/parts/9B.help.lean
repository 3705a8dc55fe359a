/-! the law's helpers that catch -/
abbrev hw (dT : Nat → ClassId) (adr : Nat → Nat) (L : rh_L) (h : rh_H) (qo : Nat) (fo : Nat → Int64) : va_W := rh_ws dT adr L h ++ [(qo, .inl (dT 1, 1, .inr (.inl fo)))]
theorem hw_D {A : Nat → Prop} {dT : Nat → ClassId} {adr : Nat → Nat} {L : rh_L} {h : rh_H} {qo : Nat} {fo : Nat → Int64} (h' : rh_H) (fo' : Nat → Int64) (hD : va_D A (hw dT adr L h qo fo)) : va_D A (hw dT adr L h' qo fo') := by
  obtain ⟨h1, h2, h3⟩ := vD_app.mp hD
  refine vD_app.mpr ⟨rh_D_any h' h1, ?_, fun x hx y hy e => ?_⟩
  · obtain ⟨-, g2⟩ := vD_pw.mp h2
    refine vD_pw.mpr ⟨List.pairwise_singleton _ _, fun q hq => ?_⟩
    rw [List.mem_singleton.mp hq]
    exact g2 (qo, .inl (dT 1, 1, .inr (.inl fo))) (List.mem_singleton.mpr rfl)
  · rw [List.mem_singleton.mp hy] at e
    obtain ⟨k, hk⟩ := List.mem_iff_getElem?.mp hx
    cases hL : L[k]? with
    | none => simp [rh_ws, hL] at hk
    | some z =>
      rw [rh_ws_at dT adr h' hL] at hk
      cases hk
      exact h3 _ (List.mem_of_getElem? (rh_ws_at dT adr h hL)) _ (List.mem_singleton.mpr rfl) e
def hc_Pc (D : va_G) (dT : Nat → ClassId) (adr : Nat → Nat) (L : rh_L) (h : rh_H) (qo : Nat) (fo : Nat → Int64) (sz : Nat) (a : List Value) : Array Value → State → Prop := va_Pc a (fun U => U.heap.size = sz ∧ va_P D vwCl (hw dT adr L h qo fo) U.heap ∧ va_K D vwCl (rh_tys dT) U ∧ va_D (fun _ => True) (hw dT adr L h qo fo) ∧ rh_Z adr (va_A (hw dT adr L h qo fo) sz) U U.heap ∧ xk (va_A (hw dT adr L h qo fo) sz) U U.heap)
theorem hc_blind (D : va_G) (dT : Nat → ClassId) (adr : Nat → Nat) (L : rh_L) (h : rh_H) (qo : Nat) (fo : Nat → Int64) (sz : Nat) (a : List Value) : FrameBlind (hc_Pc D dT adr L h qo fo sz a) := by
  intro b U g mk q
  obtain ⟨q0, q1, qP, qK, qD, qZ, qX⟩ := q
  exact ⟨q0, q1, qP, va_K.moved (u := U) (U := U.calling g mk b) (Vm.Alike.refl U.vm) qK, qD, rh_Z.moved (u := U) (U := U.calling g mk b) (Vm.Alike.refl U.vm) qZ, xk.moved (u := U) (U := U.calling g mk b) (Vm.Alike.refl U.vm) qX⟩
abbrev hc_Q (D : va_G) (dT : Nat → ClassId) (adr : Nat → Nat) (L : rh_L) (h' : rh_H) (qo : Nat) (fo' : Nat → Int64) (kx : Int32) (A : Nat → Prop) : Array Value → State → Outcome → State → Prop := va_Qi (fun r (_ : Unit) => r = kx) (fun _ t => va_P D vwCl (hw dT adr L h' qo fo') t.heap ∧ va_D A (hw dT adr L h' qo fo')) A
def hc_rm (d : Nat) : Room := { frames := d + 8, cells := 1, slots := 6, locals := 40 * (d + 8) }
section HT
variable {p : Program} {l : Launch} {e : Env} {s : State} {m : MethodId} {args : Array Value} {below : List Frame} {meth : Method} {c : Code} {D : va_G} {dT : Nat → ClassId} {A : Nat → Prop} {adr : Nat → Nat} {cc : ByteArray} {nL d pc j : Nat} {L : rh_L} {h h' : rh_H} {ints : List Value} {r : Int32} {qo : Nat} {fo : Nat → Int64} {H : Heap} {locs : List Loc} {ls : Array Slot}
theorem hp_r (hC : rh_C p s m args c (hc_rm d) D dT A adr RL cc nL) (hA : ∀ q, s.heap.size ≤ q → A q) (hr : meth.sig.returnType = some .int) (hlocks : meth.locks = false) (hM : rh_M rh_PT L (d + 6) j (.ref 0 :: ints) h (some (.int r)) h') (hcall : rh_Call RL cc nL pc (rh_PT j).1 (rh_PT j).2.1 (rh_PT j).2.2.1 (rh_PT j).2.2.2.1 (ints.length + 1) (some 10)) (hL0 : L[0]? = some (.inr 10))
    (d1 : decode cc (pc + 3) = .ok (.i2l, 1)) (d2 : decode cc (pc + 3 + 1) = .ok (.lastore, 1)) {off : Int} {tgt : Nat} (d3 : decode cc (pc + 3 + 1 + 1) = .ok (.goto off, 3)) (ht : ((pc + 3 + 1 + 1 : Nat) : Int) + off = (tgt : Int)) (d4 : decode cc tgt = .ok (.iconst 0, 1)) (d5 : decode cc (tgt + 1) = .ok (.ireturn, 1))
    (hP : va_P D vwCl (hw dT adr L h qo fo) H) (hD : va_D A (hw dT adr L h qo fo)) (hS : va_S A s.heap H locs) (hls : ls.size = nL) : W p l e (hc_rm d) s m args below meth c H locs 0 0 (MQ below (hc_Q D dT adr L h' qo (vp_updL fo 0 r.toInt64) 0 A) args s 1 6 A) (F0 m pc ls (((.ref 0 :: ints : List Value).map (rh_v adr)).reverse ++ [.int 0, .ref qo])) := by
  have hx := hC.1
  have hb := hC.2.1
  have hK : va_K D vwCl (rh_tys dT) s := hC.2.2.2.2.2.1
  refine W.widen (k := 1) (n := 6) (Nat.zero_le _) (Nat.zero_le _) ?_
  refine rk_call (wb := [(qo, .inl (dT 1, 1, .inr (.inl fo)))]) (r := [.int 0, .ref qo]) hC hA hM hcall hL0 (show d + 6 + 1 ≤ d + 8 by omega) (show 40 * (d + 6 + 1) ≤ 40 * (d + 8) by omega) (Nat.le_refl _) (Nat.le_refl _) hP hD hS hls (Nat.le_of_ble_eq_true rfl) (fun H1 locs1 hP hD hS => ?_)
  show W _ _ _ _ _ _ _ _ _ _ _ _ _ _ _ (F0 m (pc + 3) ls [.int r, .int 0, .ref qo])
  refine lv_i2l hx hb d1 rfl ?_
  refine va_last hx hb hK (vP_comm hP) (vD_comm hD) hS 0 1 rfl rfl (by unfold vp_in; decide) d2 (fun H2 locs2 hP hD hS => ?_)
  have hP : va_P D vwCl ([(qo, .inl (dT 1, 1, .inr (.inl (vp_updL fo 0 r.toInt64))))] ++ rh_ws dT adr L h') H2 := hP
  have hD : va_D A ([(qo, .inl (dT 1, 1, .inr (.inl (vp_updL fo 0 r.toInt64))))] ++ rh_ws dT adr L h') := hD
  refine lv_goto hx hb d3 ht ?_
  refine lv_iconst (v := 0) hx hb d4 (by decide) ?_
  exact W.iret (v := 0) hx hb hr (fun t ht hW => ⟨⟨0, (), rfl, rfl, by rw [ht]; exact vP_comm hP, vD_comm hD⟩, hS.F ht⟩) hS.2.2 d5 hlocks
theorem hp_x {y : MethodName} {bytes : ByteArray} {maxL idx : Nat} (hC : rh_C p s m args c (hc_rm d) D dT A adr RL cc nL) (hA : ∀ q, s.heap.size ≤ q → A q) (hr : meth.sig.returnType = some .int) (hlocks : meth.locks = false) (hX : xk A s s.heap) (hM : ∀ sz, vx_Met l y (.code y bytes maxL (some .int) :: rh_all) (rx_rm d) (rx_Pc D dT adr L h sz (.ref 0 :: ints)) (rx_Q (va_A (rh_ws dT adr L h) sz)) (rx_X D dT adr L h (va_A (rh_ws dT adr L h) sz)) 1 6 (va_A (rh_ws dT adr L h) sz)) (hL0 : L[0]? = some (.inr 10))
    (hyc : y.cls = RX11) (h1 : Cond.methodLink RL idx y ∈ rh_all) (h2 : Cond.instanceMethod y ∈ rh_all) (h3 : Cond.selects RX11 y y ∈ rh_all) (h4 : Cond.initialized RX11 ∈ rh_all) (h5 : Cond.code y bytes maxL (some .int) ∈ rh_all) (hy : rh_yok y ints.length) (hmx : maxL ≤ 21) (hdg : decode cc pc = .ok (.invokevirtual idx, 3))
    {end_ hpc : Nat} (htab : c.exceptionTable.toList = [⟨0, end_, hpc, 13⟩]) (hcov : covers ⟨0, end_, hpc, 13⟩ pc = true)
    (kk : ∀ (q9 : Nat) (H1 : Heap) (locs1 : List Loc), va_P D vwCl (hw dT adr L h qo fo) H1 → va_D A (hw dT adr L h qo fo) → va_S A s.heap H1 locs1 → W p l e (hc_rm d) s m args below meth c H1 locs1 1 6 (MQ below (hc_Q D dT adr L h qo fo 1 A) args s 1 6 A) (F0 m hpc ls [.ref q9]))
    (hP : va_P D vwCl (hw dT adr L h qo fo) H) (hD : va_D A (hw dT adr L h qo fo)) (hS : va_S A s.heap H locs) (hls : ls.size = nL) : W p l e (hc_rm d) s m args below meth c H locs 0 0 (MQ below (hc_Q D dT adr L h qo fo 1 A) args s 1 6 A) (F0 m pc ls ((ints.map (rh_v adr)).reverse ++ .ref (adr 0) :: [.int 0, .ref qo])) := by
  have hx := hC.1
  have hb := hC.2.1
  have hown := hC.2.2.2.1
  have hts := hC.2.2.2.2.1
  have hK : va_K D vwCl (rh_tys dT) s := hC.2.2.2.2.2.1
  have hZ : rh_Z adr A s s.heap := hC.2.2.2.2.2.2.1
  have hFc : ∀ z, va_A (rh_ws dT adr L h) H.size z → A z := vw_free hD hS hA
  have hP0 : va_P D vwCl (rh_ws dT adr L h) H := (vP_app.mp hP).1
  have hD0 : va_D A (rh_ws dT adr L h) := (vD_app.mp hD).1
  have hZ1 : rh_Z adr (va_A (rh_ws dT adr L h) H.size) s H := (hZ.kept (fun z h1 h2 => hS.2.1 z h1 h2)).narrow hFc
  have hX1 : xk (va_A (rh_ws dT adr L h) H.size) s H := (hX.kept (fun z h1 h2 => hS.2.1 z h1 h2)).narrow hFc
  refine vx_calli (rx_runV (n := ints.length) (As := ints.map (rh_v adr)) (rest := [.int 0, .ref qo]) (b := adr 0) hyc h1 h2 h3 h4 h5 hy hdg hC (hM H.size) rfl rfl (show d + 6 + 1 ≤ d + 8 by omega) (show 8 + (maxL + 11) + 40 * (d + 6) ≤ 40 * (d + 8) by omega) (rx_blind D dT adr L h H.size _) ⟨Nat.le_refl _, Nat.le_refl _⟩ hls (List.length_map ..) (va_recv hK hP0 (ci := 10) (q0 := 0) rfl (rh_ws_at dT adr h hL0)) (Nat.le_of_ble_eq_true rfl) (fun U hU hW => ⟨rfl, by rw [hU], by rw [hU]; exact hP0, va_K.moved hW.alike hK, hD0.weaken (fun _ _ _ _ => trivial), by rw [hU]; exact hZ1.moved hW.alike, by rw [hU]; exact hX1.moved hW.alike⟩)) hS (fun z _ hz => hFc z hz) hFc (fun z _ hz => hFc z hz) (fun E ce q9 u t H1 locs1 ht hvm _ hB hle hk1 hS1 hce hcv hcl => ?_) (fun r u t H1 locs1 ht hvm hpost => hpost.elim)
  obtain ⟨rfl, hP1⟩ := hB
  rw [ht] at hP1
  obtain ⟨hP2, hD2⟩ := vw_join hP hD hk1 hFc hP1 hD0.self
  exact vx_catch (own := RL) (name := NS) hown [] ⟨0, end_, hpc, 13⟩ [] htab (fun z hz => absurd hz List.not_mem_nil) hcov (show (13 : Nat) ≠ 0 by decide) (hts _ wq_lcl) (xn_use hX.2.2 _ List.mem_cons_self) hce hcv hcl (kk q9 H1 locs1 hP2 hD2 hS1)
end HT
theorem dL_of_0 : decode cL_of 0 = .ok (.aload_n 3, 1) := by decide +kernel
theorem dL_of_1 : decode cL_of 1 = .ok (.iconst 0, 1) := by decide +kernel
theorem dL_of_2 : decode cL_of 2 = .ok (.aload_n 0, 1) := by decide +kernel
theorem dL_of_3 : decode cL_of 3 = .ok (.iload_n 1, 1) := by decide +kernel
theorem dL_of_4 : decode cL_of 4 = .ok (.iload_n 2, 1) := by decide +kernel
theorem dL_of_5 : decode cL_of 5 = .ok (.invokevirtual 7, 3) := by decide +kernel
theorem dL_of_8 : decode cL_of 8 = .ok (.i2l, 1) := by decide +kernel
theorem dL_of_9 : decode cL_of 9 = .ok (.lastore, 1) := by decide +kernel
theorem dL_of_10 : decode cL_of 10 = .ok (.goto 7, 3) := by decide +kernel
theorem dL_of_13 : decode cL_of 13 = .ok (.astore 4, 2) := by decide +kernel
theorem dL_of_15 : decode cL_of 15 = .ok (.iconst 1, 1) := by decide +kernel
theorem dL_of_16 : decode cL_of 16 = .ok (.ireturn, 1) := by decide +kernel
theorem dL_of_17 : decode cL_of 17 = .ok (.iconst 0, 1) := by decide +kernel
theorem dL_of_18 : decode cL_of 18 = .ok (.ireturn, 1) := by decide +kernel
theorem wh_of_ml : Cond.methodLink RL 7 yX11_of ∈ rh_all := rh_in (rh_t5 (List.mem_of_getElem? (i := 175) rfl)) rfl
theorem wh_of_im : Cond.instanceMethod yX11_of ∈ rh_all := rh_in (rh_t5 (List.mem_of_getElem? (i := 176) rfl)) rfl
theorem wh_of_se : Cond.selects RX11 yX11_of yX11_of ∈ rh_all := rh_in (rh_t5 (List.mem_of_getElem? (i := 177) rfl)) rfl
theorem wh_of_co : Cond.code yX11_of cX11_of 3 (some .int) ∈ rh_all := rh_in (rh_t5 (List.mem_of_getElem? (i := 178) rfl)) rfl
theorem yk_of : rh_yok yX11_of 2 := by unfold rh_yok; decide +kernel
theorem wh_in : Cond.initialized RX11 ∈ rh_all := rh_in (rh_t1 (List.mem_of_getElem? (i := 1) rfl)) rfl
theorem wh_of_cw : Cond.codeWith yL_of cL_of 5 (some .int) [(0, 10, 13, 13)] ∈ rh_all := rh_in (rh_t5 (List.mem_of_getElem? (i := 173) rfl)) rfl
set_option maxRecDepth 20000 in
set_option maxHeartbeats 4000000 in
theorem hr_of (d : Nat) {L : rh_L} {h h' : rh_H} {r : Int32} (p0 : Int32) (p1 : Int32) (hL0 : L[0]? = some (.inr 10)) (hM : rh_M rh_PT L (d + 6) 105 [.ref 0, .int p0, .int p1] h (some (.int r)) h') (l : Launch) (D : va_G) (dT : Nat → ClassId) (adr : Nat → Nat) (sz : Nat) (qo : Nat) (fo : Nat → Int64) : Met l yL_of (.codeWith yL_of cL_of 5 (some .int) [(0, 10, 13, 13)] :: rh_all) (hc_rm d) (hc_Pc D dT adr L h qo fo sz [.ref (adr 0), .int p0, .int p1, .ref qo]) (hc_Q D dT adr L h' qo (vp_updL fo 0 r.toInt64) 0 (va_A (hw dT adr L h qo fo) sz)) 1 6 (va_A (hw dT adr L h qo fo) sz) := by
  refine va_MetW (cc := cL_of) (maxL := 5) (ret := some .int) (by decide +kernel) rfl ?_
  intro p e s m args below meth c s₁ B hml hv
  obtain ⟨hav, hsz, hP, hK, hD0, hZ, hX⟩ := hv
  have hx := B.exec
  have hb := B.bytes
  have hr := B.returns
  have hts0 := atoms_spec (ws := Cond.codeWith yL_of cL_of 5 (some .int) [(0, 10, 13, 13)] :: rh_all) B.pre
  have hts : ∀ w ∈ rh_all, w.before args s = true := fun w hw => hts0 w (List.mem_cons_of_mem _ hw)
  have htab : c.exceptionTable.toList = [⟨0, 10, 13, 13⟩] := vx_table (x := yL_of) B (hts0 _ List.mem_cons_self)
  have hown : s.vm.findClass RL = some m.cls := findClass_of_methodNamed B.named
  have hlocks := B.notSynchronized
  subst hsz
  have hD := hD0.self (sz := s.heap.size)
  generalize hAe : va_A (hw dT adr L h qo fo) s.heap.size = A at hD hZ hX ⊢
  have hA : ∀ q : Nat, s.heap.size ≤ q → A q := fun q h => by rw [← hAe]; exact Or.inr h
  have hC : rh_C p s m args c (hc_rm d) D dT A adr RL cL_of 5 := ⟨hx, hb, hml, hown, hts, hK, hZ, by show 1 ≤ d + 8; omega, by show 40 ≤ 40 * (d + 8); omega⟩
  rw [hav]
  have hl := lv_entry [.ref (adr 0), .int p0, .int p1, .ref qo] (n := 5) (Nat.le_of_ble_eq_true rfl)
  rw [lg_entry_eq]
  generalize (lg_sl [.ref (adr 0), .int p0, .int p1, .ref qo] ++ List.replicate (5 - (lg_sl [.ref (adr 0), .int p0, .int p1, .ref qo]).length) Slot.unset).toArray = ls at hl ⊢
  subst hav
  have hl : lv_has ls 5 [(0, .ref (adr 0)), (1, .int p0), (2, .int p1), (3, .ref qo)] := hl
  refine lv_aload_n hx hb dL_of_0 rfl (lv_at hl 3 rfl) ?_
  refine lv_iconst (v := 0) hx hb dL_of_1 (by decide) ?_
  refine lv_aload_n hx hb dL_of_2 rfl (lv_at hl 0 rfl) ?_
  refine lv_iload_n hx hb dL_of_3 rfl (lv_at hl 1 rfl) ?_
  refine lv_iload_n hx hb dL_of_4 rfl (lv_at hl 2 rfl) ?_
  exact hp_r (ints := [.int p0, .int p1]) (off := 7) (tgt := 17) hC hA hr hlocks hM (rc_V (ci := 10) (N := 13) (C := RX11) (T := TX11) rfl rfl wh_of_ml wh_of_im wh_of_se wh_in wh_of_co yk_of (Nat.le_of_ble_eq_true rfl) dL_of_5) hL0 dL_of_8 dL_of_9 dL_of_10 (by decide) dL_of_17 dL_of_18 hP hD va_S.rf hl.1
set_option maxRecDepth 20000 in
set_option maxHeartbeats 4000000 in
theorem hx_of (d : Nat) {L : rh_L} {h : rh_H} (p0 : Int32) (p1 : Int32) (hL0 : L[0]? = some (.inr 10)) (l : Launch) (D : va_G) (dT : Nat → ClassId) (adr : Nat → Nat) (sz : Nat) (qo : Nat) (fo : Nat → Int64) (hM : ∀ sz, vx_Met l yX11_of (.code yX11_of cX11_of 3 (some .int) :: rh_all) (rx_rm d) (rx_Pc D dT adr L h sz [.ref 0, .int p0, .int p1]) (rx_Q (va_A (rh_ws dT adr L h) sz)) (rx_X D dT adr L h (va_A (rh_ws dT adr L h) sz)) 1 6 (va_A (rh_ws dT adr L h) sz)) : Met l yL_of (.codeWith yL_of cL_of 5 (some .int) [(0, 10, 13, 13)] :: rh_all) (hc_rm d) (hc_Pc D dT adr L h qo fo sz [.ref (adr 0), .int p0, .int p1, .ref qo]) (hc_Q D dT adr L h qo fo 1 (va_A (hw dT adr L h qo fo) sz)) 1 6 (va_A (hw dT adr L h qo fo) sz) := by
  refine va_MetW (cc := cL_of) (maxL := 5) (ret := some .int) (by decide +kernel) rfl ?_
  intro p e s m args below meth c s₁ B hml hv
  obtain ⟨hav, hsz, hP, hK, hD0, hZ, hX⟩ := hv
  have hx := B.exec
  have hb := B.bytes
  have hr := B.returns
  have hts0 := atoms_spec (ws := Cond.codeWith yL_of cL_of 5 (some .int) [(0, 10, 13, 13)] :: rh_all) B.pre
  have hts : ∀ w ∈ rh_all, w.before args s = true := fun w hw => hts0 w (List.mem_cons_of_mem _ hw)
  have htab : c.exceptionTable.toList = [⟨0, 10, 13, 13⟩] := vx_table (x := yL_of) B (hts0 _ List.mem_cons_self)
  have hown : s.vm.findClass RL = some m.cls := findClass_of_methodNamed B.named
  have hlocks := B.notSynchronized
  subst hsz
  have hD := hD0.self (sz := s.heap.size)
  generalize hAe : va_A (hw dT adr L h qo fo) s.heap.size = A at hD hZ hX ⊢
  have hA : ∀ q : Nat, s.heap.size ≤ q → A q := fun q h => by rw [← hAe]; exact Or.inr h
  have hC : rh_C p s m args c (hc_rm d) D dT A adr RL cL_of 5 := ⟨hx, hb, hml, hown, hts, hK, hZ, by show 1 ≤ d + 8; omega, by show 40 ≤ 40 * (d + 8); omega⟩
  rw [hav]
  have hl := lv_entry [.ref (adr 0), .int p0, .int p1, .ref qo] (n := 5) (Nat.le_of_ble_eq_true rfl)
  rw [lg_entry_eq]
  generalize (lg_sl [.ref (adr 0), .int p0, .int p1, .ref qo] ++ List.replicate (5 - (lg_sl [.ref (adr 0), .int p0, .int p1, .ref qo]).length) Slot.unset).toArray = ls at hl ⊢
  subst hav
  have hl : lv_has ls 5 [(0, .ref (adr 0)), (1, .int p0), (2, .int p1), (3, .ref qo)] := hl
  refine lv_aload_n hx hb dL_of_0 rfl (lv_at hl 3 rfl) ?_
  refine lv_iconst (v := 0) hx hb dL_of_1 (by decide) ?_
  refine lv_aload_n hx hb dL_of_2 rfl (lv_at hl 0 rfl) ?_
  refine lv_iload_n hx hb dL_of_3 rfl (lv_at hl 1 rfl) ?_
  refine lv_iload_n hx hb dL_of_4 rfl (lv_at hl 2 rfl) ?_
  refine hp_x (ints := [.int p0, .int p1]) hC hA hr hlocks hX hM hL0 rfl wh_of_ml wh_of_im wh_of_se wh_in wh_of_co yk_of (Nat.le_of_ble_eq_true rfl) dL_of_5 htab (by decide) (fun q9 H1 locs1 hP hD hS => ?_) hP hD va_S.rf hl.1
  refine lv_astore (lv' := [(4, .ref q9), (0, .ref (adr 0)), (1, .int p0), (2, .int p1), (3, .ref qo)]) hx hb dL_of_13 hl (by decide) rfl (fun ls hl => ?_)
  refine lv_iconst (v := 1) hx hb dL_of_15 (by decide) ?_
  exact W.iret (v := 1) hx hb hr (fun t ht hW => ⟨⟨1, (), rfl, rfl, by rw [ht]; exact hP, hD⟩, hS.F ht⟩) hS.2.2 dL_of_16 hlocks
theorem dL_weight_0 : decode cL_weight 0 = .ok (.aload_n 3, 1) := by decide +kernel
theorem dL_weight_1 : decode cL_weight 1 = .ok (.iconst 0, 1) := by decide +kernel
theorem dL_weight_2 : decode cL_weight 2 = .ok (.aload_n 0, 1) := by decide +kernel
theorem dL_weight_3 : decode cL_weight 3 = .ok (.iload_n 1, 1) := by decide +kernel
theorem dL_weight_4 : decode cL_weight 4 = .ok (.iload_n 2, 1) := by decide +kernel
theorem dL_weight_5 : decode cL_weight 5 = .ok (.invokevirtual 15, 3) := by decide +kernel
theorem dL_weight_8 : decode cL_weight 8 = .ok (.i2l, 1) := by decide +kernel
theorem dL_weight_9 : decode cL_weight 9 = .ok (.lastore, 1) := by decide +kernel
theorem dL_weight_10 : decode cL_weight 10 = .ok (.goto 7, 3) := by decide +kernel
theorem dL_weight_13 : decode cL_weight 13 = .ok (.astore 4, 2) := by decide +kernel
theorem dL_weight_15 : decode cL_weight 15 = .ok (.iconst 1, 1) := by decide +kernel
theorem dL_weight_16 : decode cL_weight 16 = .ok (.ireturn, 1) := by decide +kernel
theorem dL_weight_17 : decode cL_weight 17 = .ok (.iconst 0, 1) := by decide +kernel
theorem dL_weight_18 : decode cL_weight 18 = .ok (.ireturn, 1) := by decide +kernel
theorem wh_weight_ml : Cond.methodLink RL 15 yX11_weight ∈ rh_all := rh_in (rh_t6 (List.mem_of_getElem? (i := 3) rfl)) rfl
theorem wh_weight_im : Cond.instanceMethod yX11_weight ∈ rh_all := rh_in (rh_t6 (List.mem_of_getElem? (i := 4) rfl)) rfl
theorem wh_weight_se : Cond.selects RX11 yX11_weight yX11_weight ∈ rh_all := rh_in (rh_t6 (List.mem_of_getElem? (i := 5) rfl)) rfl
theorem wh_weight_co : Cond.code yX11_weight cX11_weight 3 (some .int) ∈ rh_all := rh_in (rh_t6 (List.mem_of_getElem? (i := 6) rfl)) rfl
theorem yk_weight : rh_yok yX11_weight 2 := by unfold rh_yok; decide +kernel
theorem wh_weight_cw : Cond.codeWith yL_weight cL_weight 5 (some .int) [(0, 10, 13, 13)] ∈ rh_all := rh_in (rh_t6 (List.mem_of_getElem? (i := 2) rfl)) rfl
set_option maxRecDepth 20000 in
set_option maxHeartbeats 4000000 in
theorem hr_weight (d : Nat) {L : rh_L} {h h' : rh_H} {r : Int32} (p0 : Int32) (p1 : Int32) (hL0 : L[0]? = some (.inr 10)) (hM : rh_M rh_PT L (d + 6) 106 [.ref 0, .int p0, .int p1] h (some (.int r)) h') (l : Launch) (D : va_G) (dT : Nat → ClassId) (adr : Nat → Nat) (sz : Nat) (qo : Nat) (fo : Nat → Int64) : Met l yL_weight (.codeWith yL_weight cL_weight 5 (some .int) [(0, 10, 13, 13)] :: rh_all) (hc_rm d) (hc_Pc D dT adr L h qo fo sz [.ref (adr 0), .int p0, .int p1, .ref qo]) (hc_Q D dT adr L h' qo (vp_updL fo 0 r.toInt64) 0 (va_A (hw dT adr L h qo fo) sz)) 1 6 (va_A (hw dT adr L h qo fo) sz) := by
  refine va_MetW (cc := cL_weight) (maxL := 5) (ret := some .int) (by decide +kernel) rfl ?_
  intro p e s m args below meth c s₁ B hml hv
  obtain ⟨hav, hsz, hP, hK, hD0, hZ, hX⟩ := hv
  have hx := B.exec
  have hb := B.bytes
  have hr := B.returns
  have hts0 := atoms_spec (ws := Cond.codeWith yL_weight cL_weight 5 (some .int) [(0, 10, 13, 13)] :: rh_all) B.pre
  have hts : ∀ w ∈ rh_all, w.before args s = true := fun w hw => hts0 w (List.mem_cons_of_mem _ hw)
  have htab : c.exceptionTable.toList = [⟨0, 10, 13, 13⟩] := vx_table (x := yL_weight) B (hts0 _ List.mem_cons_self)
  have hown : s.vm.findClass RL = some m.cls := findClass_of_methodNamed B.named
  have hlocks := B.notSynchronized
  subst hsz
  have hD := hD0.self (sz := s.heap.size)
  generalize hAe : va_A (hw dT adr L h qo fo) s.heap.size = A at hD hZ hX ⊢
  have hA : ∀ q : Nat, s.heap.size ≤ q → A q := fun q h => by rw [← hAe]; exact Or.inr h
  have hC : rh_C p s m args c (hc_rm d) D dT A adr RL cL_weight 5 := ⟨hx, hb, hml, hown, hts, hK, hZ, by show 1 ≤ d + 8; omega, by show 40 ≤ 40 * (d + 8); omega⟩
  rw [hav]
  have hl := lv_entry [.ref (adr 0), .int p0, .int p1, .ref qo] (n := 5) (Nat.le_of_ble_eq_true rfl)
  rw [lg_entry_eq]
  generalize (lg_sl [.ref (adr 0), .int p0, .int p1, .ref qo] ++ List.replicate (5 - (lg_sl [.ref (adr 0), .int p0, .int p1, .ref qo]).length) Slot.unset).toArray = ls at hl ⊢
  subst hav
  have hl : lv_has ls 5 [(0, .ref (adr 0)), (1, .int p0), (2, .int p1), (3, .ref qo)] := hl
  refine lv_aload_n hx hb dL_weight_0 rfl (lv_at hl 3 rfl) ?_
  refine lv_iconst (v := 0) hx hb dL_weight_1 (by decide) ?_
  refine lv_aload_n hx hb dL_weight_2 rfl (lv_at hl 0 rfl) ?_
  refine lv_iload_n hx hb dL_weight_3 rfl (lv_at hl 1 rfl) ?_
  refine lv_iload_n hx hb dL_weight_4 rfl (lv_at hl 2 rfl) ?_
  exact hp_r (ints := [.int p0, .int p1]) (off := 7) (tgt := 17) hC hA hr hlocks hM (rc_V (ci := 10) (N := 13) (C := RX11) (T := TX11) rfl rfl wh_weight_ml wh_weight_im wh_weight_se wh_in wh_weight_co yk_weight (Nat.le_of_ble_eq_true rfl) dL_weight_5) hL0 dL_weight_8 dL_weight_9 dL_weight_10 (by decide) dL_weight_17 dL_weight_18 hP hD va_S.rf hl.1
set_option maxRecDepth 20000 in
set_option maxHeartbeats 4000000 in
theorem hx_weight (d : Nat) {L : rh_L} {h : rh_H} (p0 : Int32) (p1 : Int32) (hL0 : L[0]? = some (.inr 10)) (l : Launch) (D : va_G) (dT : Nat → ClassId) (adr : Nat → Nat) (sz : Nat) (qo : Nat) (fo : Nat → Int64) (hM : ∀ sz, vx_Met l yX11_weight (.code yX11_weight cX11_weight 3 (some .int) :: rh_all) (rx_rm d) (rx_Pc D dT adr L h sz [.ref 0, .int p0, .int p1]) (rx_Q (va_A (rh_ws dT adr L h) sz)) (rx_X D dT adr L h (va_A (rh_ws dT adr L h) sz)) 1 6 (va_A (rh_ws dT adr L h) sz)) : Met l yL_weight (.codeWith yL_weight cL_weight 5 (some .int) [(0, 10, 13, 13)] :: rh_all) (hc_rm d) (hc_Pc D dT adr L h qo fo sz [.ref (adr 0), .int p0, .int p1, .ref qo]) (hc_Q D dT adr L h qo fo 1 (va_A (hw dT adr L h qo fo) sz)) 1 6 (va_A (hw dT adr L h qo fo) sz) := by
  refine va_MetW (cc := cL_weight) (maxL := 5) (ret := some .int) (by decide +kernel) rfl ?_
  intro p e s m args below meth c s₁ B hml hv
  obtain ⟨hav, hsz, hP, hK, hD0, hZ, hX⟩ := hv
  have hx := B.exec
  have hb := B.bytes
  have hr := B.returns
  have hts0 := atoms_spec (ws := Cond.codeWith yL_weight cL_weight 5 (some .int) [(0, 10, 13, 13)] :: rh_all) B.pre
  have hts : ∀ w ∈ rh_all, w.before args s = true := fun w hw => hts0 w (List.mem_cons_of_mem _ hw)
  have htab : c.exceptionTable.toList = [⟨0, 10, 13, 13⟩] := vx_table (x := yL_weight) B (hts0 _ List.mem_cons_self)
  have hown : s.vm.findClass RL = some m.cls := findClass_of_methodNamed B.named
  have hlocks := B.notSynchronized
  subst hsz
  have hD := hD0.self (sz := s.heap.size)
  generalize hAe : va_A (hw dT adr L h qo fo) s.heap.size = A at hD hZ hX ⊢
  have hA : ∀ q : Nat, s.heap.size ≤ q → A q := fun q h => by rw [← hAe]; exact Or.inr h
  have hC : rh_C p s m args c (hc_rm d) D dT A adr RL cL_weight 5 := ⟨hx, hb, hml, hown, hts, hK, hZ, by show 1 ≤ d + 8; omega, by show 40 ≤ 40 * (d + 8); omega⟩
  rw [hav]
  have hl := lv_entry [.ref (adr 0), .int p0, .int p1, .ref qo] (n := 5) (Nat.le_of_ble_eq_true rfl)
  rw [lg_entry_eq]
  generalize (lg_sl [.ref (adr 0), .int p0, .int p1, .ref qo] ++ List.replicate (5 - (lg_sl [.ref (adr 0), .int p0, .int p1, .ref qo]).length) Slot.unset).toArray = ls at hl ⊢
  subst hav
  have hl : lv_has ls 5 [(0, .ref (adr 0)), (1, .int p0), (2, .int p1), (3, .ref qo)] := hl
  refine lv_aload_n hx hb dL_weight_0 rfl (lv_at hl 3 rfl) ?_
  refine lv_iconst (v := 0) hx hb dL_weight_1 (by decide) ?_
  refine lv_aload_n hx hb dL_weight_2 rfl (lv_at hl 0 rfl) ?_
  refine lv_iload_n hx hb dL_weight_3 rfl (lv_at hl 1 rfl) ?_
  refine lv_iload_n hx hb dL_weight_4 rfl (lv_at hl 2 rfl) ?_
  refine hp_x (ints := [.int p0, .int p1]) hC hA hr hlocks hX hM hL0 rfl wh_weight_ml wh_weight_im wh_weight_se wh_in wh_weight_co yk_weight (Nat.le_of_ble_eq_true rfl) dL_weight_5 htab (by decide) (fun q9 H1 locs1 hP hD hS => ?_) hP hD va_S.rf hl.1
  refine lv_astore (lv' := [(4, .ref q9), (0, .ref (adr 0)), (1, .int p0), (2, .int p1), (3, .ref qo)]) hx hb dL_weight_13 hl (by decide) rfl (fun ls hl => ?_)
  refine lv_iconst (v := 1) hx hb dL_weight_15 (by decide) ?_
  exact W.iret (v := 1) hx hb hr (fun t ht hW => ⟨⟨1, (), rfl, rfl, by rw [ht]; exact hP, hD⟩, hS.F ht⟩) hS.2.2 dL_weight_16 hlocks
theorem dL_lean_0 : decode cL_lean 0 = .ok (.aload_n 2, 1) := by decide +kernel
theorem dL_lean_1 : decode cL_lean 1 = .ok (.iconst 0, 1) := by decide +kernel
theorem dL_lean_2 : decode cL_lean 2 = .ok (.aload_n 0, 1) := by decide +kernel
theorem dL_lean_3 : decode cL_lean 3 = .ok (.iload_n 1, 1) := by decide +kernel
theorem dL_lean_4 : decode cL_lean 4 = .ok (.invokevirtual 18, 3) := by decide +kernel
theorem dL_lean_7 : decode cL_lean 7 = .ok (.i2l, 1) := by decide +kernel
theorem dL_lean_8 : decode cL_lean 8 = .ok (.lastore, 1) := by decide +kernel
theorem dL_lean_9 : decode cL_lean 9 = .ok (.goto 6, 3) := by decide +kernel
theorem dL_lean_12 : decode cL_lean 12 = .ok (.astore_n 3, 1) := by decide +kernel
theorem dL_lean_13 : decode cL_lean 13 = .ok (.iconst 1, 1) := by decide +kernel
theorem dL_lean_14 : decode cL_lean 14 = .ok (.ireturn, 1) := by decide +kernel
theorem dL_lean_15 : decode cL_lean 15 = .ok (.iconst 0, 1) := by decide +kernel
theorem dL_lean_16 : decode cL_lean 16 = .ok (.ireturn, 1) := by decide +kernel
theorem wh_lean_ml : Cond.methodLink RL 18 yX11_lean ∈ rh_all := rh_in (rh_t6 (List.mem_of_getElem? (i := 10) rfl)) rfl
theorem wh_lean_im : Cond.instanceMethod yX11_lean ∈ rh_all := rh_in (rh_t6 (List.mem_of_getElem? (i := 11) rfl)) rfl
theorem wh_lean_se : Cond.selects RX11 yX11_lean yX11_lean ∈ rh_all := rh_in (rh_t6 (List.mem_of_getElem? (i := 12) rfl)) rfl
theorem wh_lean_co : Cond.code yX11_lean cX11_lean 2 (some .int) ∈ rh_all := rh_in (rh_t6 (List.mem_of_getElem? (i := 13) rfl)) rfl
theorem yk_lean : rh_yok yX11_lean 1 := by unfold rh_yok; decide +kernel
theorem wh_lean_cw : Cond.codeWith yL_lean cL_lean 4 (some .int) [(0, 9, 12, 13)] ∈ rh_all := rh_in (rh_t6 (List.mem_of_getElem? (i := 9) rfl)) rfl
set_option maxRecDepth 20000 in
set_option maxHeartbeats 4000000 in
theorem hr_lean (d : Nat) {L : rh_L} {h h' : rh_H} {r : Int32} (p0 : Int32) (hL0 : L[0]? = some (.inr 10)) (hM : rh_M rh_PT L (d + 6) 116 [.ref 0, .int p0] h (some (.int r)) h') (l : Launch) (D : va_G) (dT : Nat → ClassId) (adr : Nat → Nat) (sz : Nat) (qo : Nat) (fo : Nat → Int64) : Met l yL_lean (.codeWith yL_lean cL_lean 4 (some .int) [(0, 9, 12, 13)] :: rh_all) (hc_rm d) (hc_Pc D dT adr L h qo fo sz [.ref (adr 0), .int p0, .ref qo]) (hc_Q D dT adr L h' qo (vp_updL fo 0 r.toInt64) 0 (va_A (hw dT adr L h qo fo) sz)) 1 6 (va_A (hw dT adr L h qo fo) sz) := by
  refine va_MetW (cc := cL_lean) (maxL := 4) (ret := some .int) (by decide +kernel) rfl ?_
  intro p e s m args below meth c s₁ B hml hv
  obtain ⟨hav, hsz, hP, hK, hD0, hZ, hX⟩ := hv
  have hx := B.exec
  have hb := B.bytes
  have hr := B.returns
  have hts0 := atoms_spec (ws := Cond.codeWith yL_lean cL_lean 4 (some .int) [(0, 9, 12, 13)] :: rh_all) B.pre
  have hts : ∀ w ∈ rh_all, w.before args s = true := fun w hw => hts0 w (List.mem_cons_of_mem _ hw)
  have htab : c.exceptionTable.toList = [⟨0, 9, 12, 13⟩] := vx_table (x := yL_lean) B (hts0 _ List.mem_cons_self)
  have hown : s.vm.findClass RL = some m.cls := findClass_of_methodNamed B.named
  have hlocks := B.notSynchronized
  subst hsz
  have hD := hD0.self (sz := s.heap.size)
  generalize hAe : va_A (hw dT adr L h qo fo) s.heap.size = A at hD hZ hX ⊢
  have hA : ∀ q : Nat, s.heap.size ≤ q → A q := fun q h => by rw [← hAe]; exact Or.inr h
  have hC : rh_C p s m args c (hc_rm d) D dT A adr RL cL_lean 4 := ⟨hx, hb, hml, hown, hts, hK, hZ, by show 1 ≤ d + 8; omega, by show 40 ≤ 40 * (d + 8); omega⟩
  rw [hav]
  have hl := lv_entry [.ref (adr 0), .int p0, .ref qo] (n := 4) (Nat.le_of_ble_eq_true rfl)
  rw [lg_entry_eq]
  generalize (lg_sl [.ref (adr 0), .int p0, .ref qo] ++ List.replicate (4 - (lg_sl [.ref (adr 0), .int p0, .ref qo]).length) Slot.unset).toArray = ls at hl ⊢
  subst hav
  have hl : lv_has ls 4 [(0, .ref (adr 0)), (1, .int p0), (2, .ref qo)] := hl
  refine lv_aload_n hx hb dL_lean_0 rfl (lv_at hl 2 rfl) ?_
  refine lv_iconst (v := 0) hx hb dL_lean_1 (by decide) ?_
  refine lv_aload_n hx hb dL_lean_2 rfl (lv_at hl 0 rfl) ?_
  refine lv_iload_n hx hb dL_lean_3 rfl (lv_at hl 1 rfl) ?_
  exact hp_r (ints := [.int p0]) (off := 6) (tgt := 15) hC hA hr hlocks hM (rc_V (ci := 10) (N := 13) (C := RX11) (T := TX11) rfl rfl wh_lean_ml wh_lean_im wh_lean_se wh_in wh_lean_co yk_lean (Nat.le_of_ble_eq_true rfl) dL_lean_4) hL0 dL_lean_7 dL_lean_8 dL_lean_9 (by decide) dL_lean_15 dL_lean_16 hP hD va_S.rf hl.1
set_option maxRecDepth 20000 in
set_option maxHeartbeats 4000000 in
theorem hx_lean (d : Nat) {L : rh_L} {h : rh_H} (p0 : Int32) (hL0 : L[0]? = some (.inr 10)) (l : Launch) (D : va_G) (dT : Nat → ClassId) (adr : Nat → Nat) (sz : Nat) (qo : Nat) (fo : Nat → Int64) (hM : ∀ sz, vx_Met l yX11_lean (.code yX11_lean cX11_lean 2 (some .int) :: rh_all) (rx_rm d) (rx_Pc D dT adr L h sz [.ref 0, .int p0]) (rx_Q (va_A (rh_ws dT adr L h) sz)) (rx_X D dT adr L h (va_A (rh_ws dT adr L h) sz)) 1 6 (va_A (rh_ws dT adr L h) sz)) : Met l yL_lean (.codeWith yL_lean cL_lean 4 (some .int) [(0, 9, 12, 13)] :: rh_all) (hc_rm d) (hc_Pc D dT adr L h qo fo sz [.ref (adr 0), .int p0, .ref qo]) (hc_Q D dT adr L h qo fo 1 (va_A (hw dT adr L h qo fo) sz)) 1 6 (va_A (hw dT adr L h qo fo) sz) := by
  refine va_MetW (cc := cL_lean) (maxL := 4) (ret := some .int) (by decide +kernel) rfl ?_
  intro p e s m args below meth c s₁ B hml hv
  obtain ⟨hav, hsz, hP, hK, hD0, hZ, hX⟩ := hv
  have hx := B.exec
  have hb := B.bytes
  have hr := B.returns
  have hts0 := atoms_spec (ws := Cond.codeWith yL_lean cL_lean 4 (some .int) [(0, 9, 12, 13)] :: rh_all) B.pre
  have hts : ∀ w ∈ rh_all, w.before args s = true := fun w hw => hts0 w (List.mem_cons_of_mem _ hw)
  have htab : c.exceptionTable.toList = [⟨0, 9, 12, 13⟩] := vx_table (x := yL_lean) B (hts0 _ List.mem_cons_self)
  have hown : s.vm.findClass RL = some m.cls := findClass_of_methodNamed B.named
  have hlocks := B.notSynchronized
  subst hsz
  have hD := hD0.self (sz := s.heap.size)
  generalize hAe : va_A (hw dT adr L h qo fo) s.heap.size = A at hD hZ hX ⊢
  have hA : ∀ q : Nat, s.heap.size ≤ q → A q := fun q h => by rw [← hAe]; exact Or.inr h
  have hC : rh_C p s m args c (hc_rm d) D dT A adr RL cL_lean 4 := ⟨hx, hb, hml, hown, hts, hK, hZ, by show 1 ≤ d + 8; omega, by show 40 ≤ 40 * (d + 8); omega⟩
  rw [hav]
  have hl := lv_entry [.ref (adr 0), .int p0, .ref qo] (n := 4) (Nat.le_of_ble_eq_true rfl)
  rw [lg_entry_eq]
  generalize (lg_sl [.ref (adr 0), .int p0, .ref qo] ++ List.replicate (4 - (lg_sl [.ref (adr 0), .int p0, .ref qo]).length) Slot.unset).toArray = ls at hl ⊢
  subst hav
  have hl : lv_has ls 4 [(0, .ref (adr 0)), (1, .int p0), (2, .ref qo)] := hl
  refine lv_aload_n hx hb dL_lean_0 rfl (lv_at hl 2 rfl) ?_
  refine lv_iconst (v := 0) hx hb dL_lean_1 (by decide) ?_
  refine lv_aload_n hx hb dL_lean_2 rfl (lv_at hl 0 rfl) ?_
  refine lv_iload_n hx hb dL_lean_3 rfl (lv_at hl 1 rfl) ?_
  refine hp_x (ints := [.int p0]) hC hA hr hlocks hX hM hL0 rfl wh_lean_ml wh_lean_im wh_lean_se wh_in wh_lean_co yk_lean (Nat.le_of_ble_eq_true rfl) dL_lean_4 htab (by decide) (fun q9 H1 locs1 hP hD hS => ?_) hP hD va_S.rf hl.1
  refine lv_astore_n (lv' := [(3, .ref q9), (0, .ref (adr 0)), (1, .int p0), (2, .ref qo)]) hx hb dL_lean_12 rfl hl (by decide) rfl (fun ls hl => ?_)
  refine lv_iconst (v := 1) hx hb dL_lean_13 (by decide) ?_
  exact W.iret (v := 1) hx hb hr (fun t ht hW => ⟨⟨1, (), rfl, rfl, by rw [ht]; exact hP, hD⟩, hS.F ht⟩) hS.2.2 dL_lean_14 hlocks
theorem dL_balance_0 : decode cL_balance 0 = .ok (.aload 4, 2) := by decide +kernel
theorem dL_balance_2 : decode cL_balance 2 = .ok (.iconst 0, 1) := by decide +kernel
theorem dL_balance_3 : decode cL_balance 3 = .ok (.aload_n 0, 1) := by decide +kernel
theorem dL_balance_4 : decode cL_balance 4 = .ok (.iload_n 1, 1) := by decide +kernel
theorem dL_balance_5 : decode cL_balance 5 = .ok (.iload_n 2, 1) := by decide +kernel
theorem dL_balance_6 : decode cL_balance 6 = .ok (.iload_n 3, 1) := by decide +kernel
theorem dL_balance_7 : decode cL_balance 7 = .ok (.invokevirtual 22, 3) := by decide +kernel
theorem dL_balance_10 : decode cL_balance 10 = .ok (.i2l, 1) := by decide +kernel
theorem dL_balance_11 : decode cL_balance 11 = .ok (.lastore, 1) := by decide +kernel
theorem dL_balance_12 : decode cL_balance 12 = .ok (.goto 7, 3) := by decide +kernel
theorem dL_balance_15 : decode cL_balance 15 = .ok (.astore 5, 2) := by decide +kernel
theorem dL_balance_17 : decode cL_balance 17 = .ok (.iconst 1, 1) := by decide +kernel
theorem dL_balance_18 : decode cL_balance 18 = .ok (.ireturn, 1) := by decide +kernel
theorem dL_balance_19 : decode cL_balance 19 = .ok (.iconst 0, 1) := by decide +kernel
theorem dL_balance_20 : decode cL_balance 20 = .ok (.ireturn, 1) := by decide +kernel
theorem wh_balance_ml : Cond.methodLink RL 22 yX11_balance ∈ rh_all := rh_in (rh_t6 (List.mem_of_getElem? (i := 17) rfl)) rfl
theorem wh_balance_im : Cond.instanceMethod yX11_balance ∈ rh_all := rh_in (rh_t6 (List.mem_of_getElem? (i := 18) rfl)) rfl
theorem wh_balance_se : Cond.selects RX11 yX11_balance yX11_balance ∈ rh_all := rh_in (rh_t6 (List.mem_of_getElem? (i := 19) rfl)) rfl
theorem wh_balance_co : Cond.code yX11_balance cX11_balance 4 (some .int) ∈ rh_all := rh_in (rh_t6 (List.mem_of_getElem? (i := 20) rfl)) rfl
theorem yk_balance : rh_yok yX11_balance 3 := by unfold rh_yok; decide +kernel
theorem wh_balance_cw : Cond.codeWith yL_balance cL_balance 6 (some .int) [(0, 12, 15, 13)] ∈ rh_all := rh_in (rh_t6 (List.mem_of_getElem? (i := 16) rfl)) rfl
set_option maxRecDepth 20000 in
set_option maxHeartbeats 4000000 in
theorem hr_balance (d : Nat) {L : rh_L} {h h' : rh_H} {r : Int32} (p0 : Int32) (p1 : Int32) (p2 : Int32) (hL0 : L[0]? = some (.inr 10)) (hM : rh_M rh_PT L (d + 6) 136 [.ref 0, .int p0, .int p1, .int p2] h (some (.int r)) h') (l : Launch) (D : va_G) (dT : Nat → ClassId) (adr : Nat → Nat) (sz : Nat) (qo : Nat) (fo : Nat → Int64) : Met l yL_balance (.codeWith yL_balance cL_balance 6 (some .int) [(0, 12, 15, 13)] :: rh_all) (hc_rm d) (hc_Pc D dT adr L h qo fo sz [.ref (adr 0), .int p0, .int p1, .int p2, .ref qo]) (hc_Q D dT adr L h' qo (vp_updL fo 0 r.toInt64) 0 (va_A (hw dT adr L h qo fo) sz)) 1 6 (va_A (hw dT adr L h qo fo) sz) := by
  refine va_MetW (cc := cL_balance) (maxL := 6) (ret := some .int) (by decide +kernel) rfl ?_
  intro p e s m args below meth c s₁ B hml hv
  obtain ⟨hav, hsz, hP, hK, hD0, hZ, hX⟩ := hv
  have hx := B.exec
  have hb := B.bytes
  have hr := B.returns
  have hts0 := atoms_spec (ws := Cond.codeWith yL_balance cL_balance 6 (some .int) [(0, 12, 15, 13)] :: rh_all) B.pre
  have hts : ∀ w ∈ rh_all, w.before args s = true := fun w hw => hts0 w (List.mem_cons_of_mem _ hw)
  have htab : c.exceptionTable.toList = [⟨0, 12, 15, 13⟩] := vx_table (x := yL_balance) B (hts0 _ List.mem_cons_self)
  have hown : s.vm.findClass RL = some m.cls := findClass_of_methodNamed B.named
  have hlocks := B.notSynchronized
  subst hsz
  have hD := hD0.self (sz := s.heap.size)
  generalize hAe : va_A (hw dT adr L h qo fo) s.heap.size = A at hD hZ hX ⊢
  have hA : ∀ q : Nat, s.heap.size ≤ q → A q := fun q h => by rw [← hAe]; exact Or.inr h
  have hC : rh_C p s m args c (hc_rm d) D dT A adr RL cL_balance 6 := ⟨hx, hb, hml, hown, hts, hK, hZ, by show 1 ≤ d + 8; omega, by show 40 ≤ 40 * (d + 8); omega⟩
  rw [hav]
  have hl := lv_entry [.ref (adr 0), .int p0, .int p1, .int p2, .ref qo] (n := 6) (Nat.le_of_ble_eq_true rfl)
  rw [lg_entry_eq]
  generalize (lg_sl [.ref (adr 0), .int p0, .int p1, .int p2, .ref qo] ++ List.replicate (6 - (lg_sl [.ref (adr 0), .int p0, .int p1, .int p2, .ref qo]).length) Slot.unset).toArray = ls at hl ⊢
  subst hav
  have hl : lv_has ls 6 [(0, .ref (adr 0)), (1, .int p0), (2, .int p1), (3, .int p2), (4, .ref qo)] := hl
  refine lv_aload hx hb dL_balance_0 (lv_at hl 4 rfl) ?_
  refine lv_iconst (v := 0) hx hb dL_balance_2 (by decide) ?_
  refine lv_aload_n hx hb dL_balance_3 rfl (lv_at hl 0 rfl) ?_
  refine lv_iload_n hx hb dL_balance_4 rfl (lv_at hl 1 rfl) ?_
  refine lv_iload_n hx hb dL_balance_5 rfl (lv_at hl 2 rfl) ?_
  refine lv_iload_n hx hb dL_balance_6 rfl (lv_at hl 3 rfl) ?_
  exact hp_r (ints := [.int p0, .int p1, .int p2]) (off := 7) (tgt := 19) hC hA hr hlocks hM (rc_V (ci := 10) (N := 13) (C := RX11) (T := TX11) rfl rfl wh_balance_ml wh_balance_im wh_balance_se wh_in wh_balance_co yk_balance (Nat.le_of_ble_eq_true rfl) dL_balance_7) hL0 dL_balance_10 dL_balance_11 dL_balance_12 (by decide) dL_balance_19 dL_balance_20 hP hD va_S.rf hl.1
set_option maxRecDepth 20000 in
set_option maxHeartbeats 4000000 in
theorem hx_balance (d : Nat) {L : rh_L} {h : rh_H} (p0 : Int32) (p1 : Int32) (p2 : Int32) (hL0 : L[0]? = some (.inr 10)) (l : Launch) (D : va_G) (dT : Nat → ClassId) (adr : Nat → Nat) (sz : Nat) (qo : Nat) (fo : Nat → Int64) (hM : ∀ sz, vx_Met l yX11_balance (.code yX11_balance cX11_balance 4 (some .int) :: rh_all) (rx_rm d) (rx_Pc D dT adr L h sz [.ref 0, .int p0, .int p1, .int p2]) (rx_Q (va_A (rh_ws dT adr L h) sz)) (rx_X D dT adr L h (va_A (rh_ws dT adr L h) sz)) 1 6 (va_A (rh_ws dT adr L h) sz)) : Met l yL_balance (.codeWith yL_balance cL_balance 6 (some .int) [(0, 12, 15, 13)] :: rh_all) (hc_rm d) (hc_Pc D dT adr L h qo fo sz [.ref (adr 0), .int p0, .int p1, .int p2, .ref qo]) (hc_Q D dT adr L h qo fo 1 (va_A (hw dT adr L h qo fo) sz)) 1 6 (va_A (hw dT adr L h qo fo) sz) := by
  refine va_MetW (cc := cL_balance) (maxL := 6) (ret := some .int) (by decide +kernel) rfl ?_
  intro p e s m args below meth c s₁ B hml hv
  obtain ⟨hav, hsz, hP, hK, hD0, hZ, hX⟩ := hv
  have hx := B.exec
  have hb := B.bytes
  have hr := B.returns
  have hts0 := atoms_spec (ws := Cond.codeWith yL_balance cL_balance 6 (some .int) [(0, 12, 15, 13)] :: rh_all) B.pre
  have hts : ∀ w ∈ rh_all, w.before args s = true := fun w hw => hts0 w (List.mem_cons_of_mem _ hw)
  have htab : c.exceptionTable.toList = [⟨0, 12, 15, 13⟩] := vx_table (x := yL_balance) B (hts0 _ List.mem_cons_self)
  have hown : s.vm.findClass RL = some m.cls := findClass_of_methodNamed B.named
  have hlocks := B.notSynchronized
  subst hsz
  have hD := hD0.self (sz := s.heap.size)
  generalize hAe : va_A (hw dT adr L h qo fo) s.heap.size = A at hD hZ hX ⊢
  have hA : ∀ q : Nat, s.heap.size ≤ q → A q := fun q h => by rw [← hAe]; exact Or.inr h
  have hC : rh_C p s m args c (hc_rm d) D dT A adr RL cL_balance 6 := ⟨hx, hb, hml, hown, hts, hK, hZ, by show 1 ≤ d + 8; omega, by show 40 ≤ 40 * (d + 8); omega⟩
  rw [hav]
  have hl := lv_entry [.ref (adr 0), .int p0, .int p1, .int p2, .ref qo] (n := 6) (Nat.le_of_ble_eq_true rfl)
  rw [lg_entry_eq]
  generalize (lg_sl [.ref (adr 0), .int p0, .int p1, .int p2, .ref qo] ++ List.replicate (6 - (lg_sl [.ref (adr 0), .int p0, .int p1, .int p2, .ref qo]).length) Slot.unset).toArray = ls at hl ⊢
  subst hav
  have hl : lv_has ls 6 [(0, .ref (adr 0)), (1, .int p0), (2, .int p1), (3, .int p2), (4, .ref qo)] := hl
  refine lv_aload hx hb dL_balance_0 (lv_at hl 4 rfl) ?_
  refine lv_iconst (v := 0) hx hb dL_balance_2 (by decide) ?_
  refine lv_aload_n hx hb dL_balance_3 rfl (lv_at hl 0 rfl) ?_
  refine lv_iload_n hx hb dL_balance_4 rfl (lv_at hl 1 rfl) ?_
  refine lv_iload_n hx hb dL_balance_5 rfl (lv_at hl 2 rfl) ?_
  refine lv_iload_n hx hb dL_balance_6 rfl (lv_at hl 3 rfl) ?_
  refine hp_x (ints := [.int p0, .int p1, .int p2]) hC hA hr hlocks hX hM hL0 rfl wh_balance_ml wh_balance_im wh_balance_se wh_in wh_balance_co yk_balance (Nat.le_of_ble_eq_true rfl) dL_balance_7 htab (by decide) (fun q9 H1 locs1 hP hD hS => ?_) hP hD va_S.rf hl.1
  refine lv_astore (lv' := [(5, .ref q9), (0, .ref (adr 0)), (1, .int p0), (2, .int p1), (3, .int p2), (4, .ref qo)]) hx hb dL_balance_15 hl (by decide) rfl (fun ls hl => ?_)
  refine lv_iconst (v := 1) hx hb dL_balance_17 (by decide) ?_
  exact W.iret (v := 1) hx hb hr (fun t ht hW => ⟨⟨1, (), rfl, rfl, by rw [ht]; exact hP, hD⟩, hS.F ht⟩) hS.2.2 dL_balance_18 hlocks
theorem dL_pair_0 : decode cL_pair 0 = .ok (.aload_n 3, 1) := by decide +kernel
theorem dL_pair_1 : decode cL_pair 1 = .ok (.iconst 0, 1) := by decide +kernel
theorem dL_pair_2 : decode cL_pair 2 = .ok (.aload_n 0, 1) := by decide +kernel
theorem dL_pair_3 : decode cL_pair 3 = .ok (.iload_n 1, 1) := by decide +kernel
theorem dL_pair_4 : decode cL_pair 4 = .ok (.iload_n 2, 1) := by decide +kernel
theorem dL_pair_5 : decode cL_pair 5 = .ok (.invokevirtual 26, 3) := by decide +kernel
theorem dL_pair_8 : decode cL_pair 8 = .ok (.i2l, 1) := by decide +kernel
theorem dL_pair_9 : decode cL_pair 9 = .ok (.lastore, 1) := by decide +kernel
theorem dL_pair_10 : decode cL_pair 10 = .ok (.goto 7, 3) := by decide +kernel
theorem dL_pair_13 : decode cL_pair 13 = .ok (.astore 4, 2) := by decide +kernel
theorem dL_pair_15 : decode cL_pair 15 = .ok (.iconst 1, 1) := by decide +kernel
theorem dL_pair_16 : decode cL_pair 16 = .ok (.ireturn, 1) := by decide +kernel
theorem dL_pair_17 : decode cL_pair 17 = .ok (.iconst 0, 1) := by decide +kernel
theorem dL_pair_18 : decode cL_pair 18 = .ok (.ireturn, 1) := by decide +kernel
theorem wh_pair_ml : Cond.methodLink RL 26 yX11_pair ∈ rh_all := rh_in (rh_t6 (List.mem_of_getElem? (i := 27) rfl)) rfl
theorem wh_pair_im : Cond.instanceMethod yX11_pair ∈ rh_all := rh_in (rh_t6 (List.mem_of_getElem? (i := 28) rfl)) rfl
theorem wh_pair_se : Cond.selects RX11 yX11_pair yX11_pair ∈ rh_all := rh_in (rh_t6 (List.mem_of_getElem? (i := 29) rfl)) rfl
theorem wh_pair_co : Cond.code yX11_pair cX11_pair 7 (some .int) ∈ rh_all := rh_in (rh_t6 (List.mem_of_getElem? (i := 30) rfl)) rfl
theorem yk_pair : rh_yok yX11_pair 2 := by unfold rh_yok; decide +kernel
theorem wh_pair_cw : Cond.codeWith yL_pair cL_pair 5 (some .int) [(0, 10, 13, 13)] ∈ rh_all := rh_in (rh_t6 (List.mem_of_getElem? (i := 26) rfl)) rfl
set_option maxRecDepth 20000 in
set_option maxHeartbeats 4000000 in
theorem hr_pair (d : Nat) {L : rh_L} {h h' : rh_H} {r : Int32} (p0 : Int32) (p1 : Int32) (hL0 : L[0]? = some (.inr 10)) (hM : rh_M rh_PT L (d + 6) 140 [.ref 0, .int p0, .int p1] h (some (.int r)) h') (l : Launch) (D : va_G) (dT : Nat → ClassId) (adr : Nat → Nat) (sz : Nat) (qo : Nat) (fo : Nat → Int64) : Met l yL_pair (.codeWith yL_pair cL_pair 5 (some .int) [(0, 10, 13, 13)] :: rh_all) (hc_rm d) (hc_Pc D dT adr L h qo fo sz [.ref (adr 0), .int p0, .int p1, .ref qo]) (hc_Q D dT adr L h' qo (vp_updL fo 0 r.toInt64) 0 (va_A (hw dT adr L h qo fo) sz)) 1 6 (va_A (hw dT adr L h qo fo) sz) := by
  refine va_MetW (cc := cL_pair) (maxL := 5) (ret := some .int) (by decide +kernel) rfl ?_
  intro p e s m args below meth c s₁ B hml hv
  obtain ⟨hav, hsz, hP, hK, hD0, hZ, hX⟩ := hv
  have hx := B.exec
  have hb := B.bytes
  have hr := B.returns
  have hts0 := atoms_spec (ws := Cond.codeWith yL_pair cL_pair 5 (some .int) [(0, 10, 13, 13)] :: rh_all) B.pre
  have hts : ∀ w ∈ rh_all, w.before args s = true := fun w hw => hts0 w (List.mem_cons_of_mem _ hw)
  have htab : c.exceptionTable.toList = [⟨0, 10, 13, 13⟩] := vx_table (x := yL_pair) B (hts0 _ List.mem_cons_self)
  have hown : s.vm.findClass RL = some m.cls := findClass_of_methodNamed B.named
  have hlocks := B.notSynchronized
  subst hsz
  have hD := hD0.self (sz := s.heap.size)
  generalize hAe : va_A (hw dT adr L h qo fo) s.heap.size = A at hD hZ hX ⊢
  have hA : ∀ q : Nat, s.heap.size ≤ q → A q := fun q h => by rw [← hAe]; exact Or.inr h
  have hC : rh_C p s m args c (hc_rm d) D dT A adr RL cL_pair 5 := ⟨hx, hb, hml, hown, hts, hK, hZ, by show 1 ≤ d + 8; omega, by show 40 ≤ 40 * (d + 8); omega⟩
  rw [hav]
  have hl := lv_entry [.ref (adr 0), .int p0, .int p1, .ref qo] (n := 5) (Nat.le_of_ble_eq_true rfl)
  rw [lg_entry_eq]
  generalize (lg_sl [.ref (adr 0), .int p0, .int p1, .ref qo] ++ List.replicate (5 - (lg_sl [.ref (adr 0), .int p0, .int p1, .ref qo]).length) Slot.unset).toArray = ls at hl ⊢
  subst hav
  have hl : lv_has ls 5 [(0, .ref (adr 0)), (1, .int p0), (2, .int p1), (3, .ref qo)] := hl
  refine lv_aload_n hx hb dL_pair_0 rfl (lv_at hl 3 rfl) ?_
  refine lv_iconst (v := 0) hx hb dL_pair_1 (by decide) ?_
  refine lv_aload_n hx hb dL_pair_2 rfl (lv_at hl 0 rfl) ?_
  refine lv_iload_n hx hb dL_pair_3 rfl (lv_at hl 1 rfl) ?_
  refine lv_iload_n hx hb dL_pair_4 rfl (lv_at hl 2 rfl) ?_
  exact hp_r (ints := [.int p0, .int p1]) (off := 7) (tgt := 17) hC hA hr hlocks hM (rc_V (ci := 10) (N := 13) (C := RX11) (T := TX11) rfl rfl wh_pair_ml wh_pair_im wh_pair_se wh_in wh_pair_co yk_pair (Nat.le_of_ble_eq_true rfl) dL_pair_5) hL0 dL_pair_8 dL_pair_9 dL_pair_10 (by decide) dL_pair_17 dL_pair_18 hP hD va_S.rf hl.1
set_option maxRecDepth 20000 in
set_option maxHeartbeats 4000000 in
theorem hx_pair (d : Nat) {L : rh_L} {h : rh_H} (p0 : Int32) (p1 : Int32) (hL0 : L[0]? = some (.inr 10)) (l : Launch) (D : va_G) (dT : Nat → ClassId) (adr : Nat → Nat) (sz : Nat) (qo : Nat) (fo : Nat → Int64) (hM : ∀ sz, vx_Met l yX11_pair (.code yX11_pair cX11_pair 7 (some .int) :: rh_all) (rx_rm d) (rx_Pc D dT adr L h sz [.ref 0, .int p0, .int p1]) (rx_Q (va_A (rh_ws dT adr L h) sz)) (rx_X D dT adr L h (va_A (rh_ws dT adr L h) sz)) 1 6 (va_A (rh_ws dT adr L h) sz)) : Met l yL_pair (.codeWith yL_pair cL_pair 5 (some .int) [(0, 10, 13, 13)] :: rh_all) (hc_rm d) (hc_Pc D dT adr L h qo fo sz [.ref (adr 0), .int p0, .int p1, .ref qo]) (hc_Q D dT adr L h qo fo 1 (va_A (hw dT adr L h qo fo) sz)) 1 6 (va_A (hw dT adr L h qo fo) sz) := by
  refine va_MetW (cc := cL_pair) (maxL := 5) (ret := some .int) (by decide +kernel) rfl ?_
  intro p e s m args below meth c s₁ B hml hv
  obtain ⟨hav, hsz, hP, hK, hD0, hZ, hX⟩ := hv
  have hx := B.exec
  have hb := B.bytes
  have hr := B.returns
  have hts0 := atoms_spec (ws := Cond.codeWith yL_pair cL_pair 5 (some .int) [(0, 10, 13, 13)] :: rh_all) B.pre
  have hts : ∀ w ∈ rh_all, w.before args s = true := fun w hw => hts0 w (List.mem_cons_of_mem _ hw)
  have htab : c.exceptionTable.toList = [⟨0, 10, 13, 13⟩] := vx_table (x := yL_pair) B (hts0 _ List.mem_cons_self)
  have hown : s.vm.findClass RL = some m.cls := findClass_of_methodNamed B.named
  have hlocks := B.notSynchronized
  subst hsz
  have hD := hD0.self (sz := s.heap.size)
  generalize hAe : va_A (hw dT adr L h qo fo) s.heap.size = A at hD hZ hX ⊢
  have hA : ∀ q : Nat, s.heap.size ≤ q → A q := fun q h => by rw [← hAe]; exact Or.inr h
  have hC : rh_C p s m args c (hc_rm d) D dT A adr RL cL_pair 5 := ⟨hx, hb, hml, hown, hts, hK, hZ, by show 1 ≤ d + 8; omega, by show 40 ≤ 40 * (d + 8); omega⟩
  rw [hav]
  have hl := lv_entry [.ref (adr 0), .int p0, .int p1, .ref qo] (n := 5) (Nat.le_of_ble_eq_true rfl)
  rw [lg_entry_eq]
  generalize (lg_sl [.ref (adr 0), .int p0, .int p1, .ref qo] ++ List.replicate (5 - (lg_sl [.ref (adr 0), .int p0, .int p1, .ref qo]).length) Slot.unset).toArray = ls at hl ⊢
  subst hav
  have hl : lv_has ls 5 [(0, .ref (adr 0)), (1, .int p0), (2, .int p1), (3, .ref qo)] := hl
  refine lv_aload_n hx hb dL_pair_0 rfl (lv_at hl 3 rfl) ?_
  refine lv_iconst (v := 0) hx hb dL_pair_1 (by decide) ?_
  refine lv_aload_n hx hb dL_pair_2 rfl (lv_at hl 0 rfl) ?_
  refine lv_iload_n hx hb dL_pair_3 rfl (lv_at hl 1 rfl) ?_
  refine lv_iload_n hx hb dL_pair_4 rfl (lv_at hl 2 rfl) ?_
  refine hp_x (ints := [.int p0, .int p1]) hC hA hr hlocks hX hM hL0 rfl wh_pair_ml wh_pair_im wh_pair_se wh_in wh_pair_co yk_pair (Nat.le_of_ble_eq_true rfl) dL_pair_5 htab (by decide) (fun q9 H1 locs1 hP hD hS => ?_) hP hD va_S.rf hl.1
  refine lv_astore (lv' := [(4, .ref q9), (0, .ref (adr 0)), (1, .int p0), (2, .int p1), (3, .ref qo)]) hx hb dL_pair_13 hl (by decide) rfl (fun ls hl => ?_)
  refine lv_iconst (v := 1) hx hb dL_pair_15 (by decide) ?_
  exact W.iret (v := 1) hx hb hr (fun t ht hW => ⟨⟨1, (), rfl, rfl, by rw [ht]; exact hP, hD⟩, hS.F ht⟩) hS.2.2 dL_pair_16 hlocks
theorem dL_swap_0 : decode cL_swap 0 = .ok (.aload 5, 2) := by decide +kernel
theorem dL_swap_2 : decode cL_swap 2 = .ok (.iconst 0, 1) := by decide +kernel
theorem dL_swap_3 : decode cL_swap 3 = .ok (.aload_n 0, 1) := by decide +kernel
theorem dL_swap_4 : decode cL_swap 4 = .ok (.iload_n 1, 1) := by decide +kernel
theorem dL_swap_5 : decode cL_swap 5 = .ok (.iload_n 2, 1) := by decide +kernel
theorem dL_swap_6 : decode cL_swap 6 = .ok (.iload_n 3, 1) := by decide +kernel
theorem dL_swap_7 : decode cL_swap 7 = .ok (.iload 4, 2) := by decide +kernel
theorem dL_swap_9 : decode cL_swap 9 = .ok (.invokevirtual 29, 3) := by decide +kernel
theorem dL_swap_12 : decode cL_swap 12 = .ok (.i2l, 1) := by decide +kernel
theorem dL_swap_13 : decode cL_swap 13 = .ok (.lastore, 1) := by decide +kernel
theorem dL_swap_14 : decode cL_swap 14 = .ok (.goto 7, 3) := by decide +kernel
theorem dL_swap_17 : decode cL_swap 17 = .ok (.astore 6, 2) := by decide +kernel
theorem dL_swap_19 : decode cL_swap 19 = .ok (.iconst 1, 1) := by decide +kernel
theorem dL_swap_20 : decode cL_swap 20 = .ok (.ireturn, 1) := by decide +kernel
theorem dL_swap_21 : decode cL_swap 21 = .ok (.iconst 0, 1) := by decide +kernel
theorem dL_swap_22 : decode cL_swap 22 = .ok (.ireturn, 1) := by decide +kernel
theorem wh_swap_ml : Cond.methodLink RL 29 yX11_swap ∈ rh_all := rh_in (rh_t6 (List.mem_of_getElem? (i := 35) rfl)) rfl
theorem wh_swap_im : Cond.instanceMethod yX11_swap ∈ rh_all := rh_in (rh_t6 (List.mem_of_getElem? (i := 36) rfl)) rfl
theorem wh_swap_se : Cond.selects RX11 yX11_swap yX11_swap ∈ rh_all := rh_in (rh_t6 (List.mem_of_getElem? (i := 37) rfl)) rfl
theorem wh_swap_co : Cond.code yX11_swap cX11_swap 7 (some .int) ∈ rh_all := rh_in (rh_t6 (List.mem_of_getElem? (i := 38) rfl)) rfl
theorem yk_swap : rh_yok yX11_swap 4 := by unfold rh_yok; decide +kernel
theorem wh_swap_cw : Cond.codeWith yL_swap cL_swap 7 (some .int) [(0, 14, 17, 13)] ∈ rh_all := rh_in (rh_t6 (List.mem_of_getElem? (i := 34) rfl)) rfl
set_option maxRecDepth 20000 in
set_option maxHeartbeats 4000000 in
theorem hr_swap (d : Nat) {L : rh_L} {h h' : rh_H} {r : Int32} (p0 : Int32) (p1 : Int32) (p2 : Int32) (p3 : Int32) (hL0 : L[0]? = some (.inr 10)) (hM : rh_M rh_PT L (d + 6) 149 [.ref 0, .int p0, .int p1, .int p2, .int p3] h (some (.int r)) h') (l : Launch) (D : va_G) (dT : Nat → ClassId) (adr : Nat → Nat) (sz : Nat) (qo : Nat) (fo : Nat → Int64) : Met l yL_swap (.codeWith yL_swap cL_swap 7 (some .int) [(0, 14, 17, 13)] :: rh_all) (hc_rm d) (hc_Pc D dT adr L h qo fo sz [.ref (adr 0), .int p0, .int p1, .int p2, .int p3, .ref qo]) (hc_Q D dT adr L h' qo (vp_updL fo 0 r.toInt64) 0 (va_A (hw dT adr L h qo fo) sz)) 1 6 (va_A (hw dT adr L h qo fo) sz) := by
  refine va_MetW (cc := cL_swap) (maxL := 7) (ret := some .int) (by decide +kernel) rfl ?_
  intro p e s m args below meth c s₁ B hml hv
  obtain ⟨hav, hsz, hP, hK, hD0, hZ, hX⟩ := hv
  have hx := B.exec
  have hb := B.bytes
  have hr := B.returns
  have hts0 := atoms_spec (ws := Cond.codeWith yL_swap cL_swap 7 (some .int) [(0, 14, 17, 13)] :: rh_all) B.pre
  have hts : ∀ w ∈ rh_all, w.before args s = true := fun w hw => hts0 w (List.mem_cons_of_mem _ hw)
  have htab : c.exceptionTable.toList = [⟨0, 14, 17, 13⟩] := vx_table (x := yL_swap) B (hts0 _ List.mem_cons_self)
  have hown : s.vm.findClass RL = some m.cls := findClass_of_methodNamed B.named
  have hlocks := B.notSynchronized
  subst hsz
  have hD := hD0.self (sz := s.heap.size)
  generalize hAe : va_A (hw dT adr L h qo fo) s.heap.size = A at hD hZ hX ⊢
  have hA : ∀ q : Nat, s.heap.size ≤ q → A q := fun q h => by rw [← hAe]; exact Or.inr h
  have hC : rh_C p s m args c (hc_rm d) D dT A adr RL cL_swap 7 := ⟨hx, hb, hml, hown, hts, hK, hZ, by show 1 ≤ d + 8; omega, by show 40 ≤ 40 * (d + 8); omega⟩
  rw [hav]
  have hl := lv_entry [.ref (adr 0), .int p0, .int p1, .int p2, .int p3, .ref qo] (n := 7) (Nat.le_of_ble_eq_true rfl)
  rw [lg_entry_eq]
  generalize (lg_sl [.ref (adr 0), .int p0, .int p1, .int p2, .int p3, .ref qo] ++ List.replicate (7 - (lg_sl [.ref (adr 0), .int p0, .int p1, .int p2, .int p3, .ref qo]).length) Slot.unset).toArray = ls at hl ⊢
  subst hav
  have hl : lv_has ls 7 [(0, .ref (adr 0)), (1, .int p0), (2, .int p1), (3, .int p2), (4, .int p3), (5, .ref qo)] := hl
  refine lv_aload hx hb dL_swap_0 (lv_at hl 5 rfl) ?_
  refine lv_iconst (v := 0) hx hb dL_swap_2 (by decide) ?_
  refine lv_aload_n hx hb dL_swap_3 rfl (lv_at hl 0 rfl) ?_
  refine lv_iload_n hx hb dL_swap_4 rfl (lv_at hl 1 rfl) ?_
  refine lv_iload_n hx hb dL_swap_5 rfl (lv_at hl 2 rfl) ?_
  refine lv_iload_n hx hb dL_swap_6 rfl (lv_at hl 3 rfl) ?_
  refine lv_iload hx hb dL_swap_7 (lv_at hl 4 rfl) ?_
  exact hp_r (ints := [.int p0, .int p1, .int p2, .int p3]) (off := 7) (tgt := 21) hC hA hr hlocks hM (rc_V (ci := 10) (N := 13) (C := RX11) (T := TX11) rfl rfl wh_swap_ml wh_swap_im wh_swap_se wh_in wh_swap_co yk_swap (Nat.le_of_ble_eq_true rfl) dL_swap_9) hL0 dL_swap_12 dL_swap_13 dL_swap_14 (by decide) dL_swap_21 dL_swap_22 hP hD va_S.rf hl.1
set_option maxRecDepth 20000 in
set_option maxHeartbeats 4000000 in
theorem hx_swap (d : Nat) {L : rh_L} {h : rh_H} (p0 : Int32) (p1 : Int32) (p2 : Int32) (p3 : Int32) (hL0 : L[0]? = some (.inr 10)) (l : Launch) (D : va_G) (dT : Nat → ClassId) (adr : Nat → Nat) (sz : Nat) (qo : Nat) (fo : Nat → Int64) (hM : ∀ sz, vx_Met l yX11_swap (.code yX11_swap cX11_swap 7 (some .int) :: rh_all) (rx_rm d) (rx_Pc D dT adr L h sz [.ref 0, .int p0, .int p1, .int p2, .int p3]) (rx_Q (va_A (rh_ws dT adr L h) sz)) (rx_X D dT adr L h (va_A (rh_ws dT adr L h) sz)) 1 6 (va_A (rh_ws dT adr L h) sz)) : Met l yL_swap (.codeWith yL_swap cL_swap 7 (some .int) [(0, 14, 17, 13)] :: rh_all) (hc_rm d) (hc_Pc D dT adr L h qo fo sz [.ref (adr 0), .int p0, .int p1, .int p2, .int p3, .ref qo]) (hc_Q D dT adr L h qo fo 1 (va_A (hw dT adr L h qo fo) sz)) 1 6 (va_A (hw dT adr L h qo fo) sz) := by
  refine va_MetW (cc := cL_swap) (maxL := 7) (ret := some .int) (by decide +kernel) rfl ?_
  intro p e s m args below meth c s₁ B hml hv
  obtain ⟨hav, hsz, hP, hK, hD0, hZ, hX⟩ := hv
  have hx := B.exec
  have hb := B.bytes
  have hr := B.returns
  have hts0 := atoms_spec (ws := Cond.codeWith yL_swap cL_swap 7 (some .int) [(0, 14, 17, 13)] :: rh_all) B.pre
  have hts : ∀ w ∈ rh_all, w.before args s = true := fun w hw => hts0 w (List.mem_cons_of_mem _ hw)
  have htab : c.exceptionTable.toList = [⟨0, 14, 17, 13⟩] := vx_table (x := yL_swap) B (hts0 _ List.mem_cons_self)
  have hown : s.vm.findClass RL = some m.cls := findClass_of_methodNamed B.named
  have hlocks := B.notSynchronized
  subst hsz
  have hD := hD0.self (sz := s.heap.size)
  generalize hAe : va_A (hw dT adr L h qo fo) s.heap.size = A at hD hZ hX ⊢
  have hA : ∀ q : Nat, s.heap.size ≤ q → A q := fun q h => by rw [← hAe]; exact Or.inr h
  have hC : rh_C p s m args c (hc_rm d) D dT A adr RL cL_swap 7 := ⟨hx, hb, hml, hown, hts, hK, hZ, by show 1 ≤ d + 8; omega, by show 40 ≤ 40 * (d + 8); omega⟩
  rw [hav]
  have hl := lv_entry [.ref (adr 0), .int p0, .int p1, .int p2, .int p3, .ref qo] (n := 7) (Nat.le_of_ble_eq_true rfl)
  rw [lg_entry_eq]
  generalize (lg_sl [.ref (adr 0), .int p0, .int p1, .int p2, .int p3, .ref qo] ++ List.replicate (7 - (lg_sl [.ref (adr 0), .int p0, .int p1, .int p2, .int p3, .ref qo]).length) Slot.unset).toArray = ls at hl ⊢
  subst hav
  have hl : lv_has ls 7 [(0, .ref (adr 0)), (1, .int p0), (2, .int p1), (3, .int p2), (4, .int p3), (5, .ref qo)] := hl
  refine lv_aload hx hb dL_swap_0 (lv_at hl 5 rfl) ?_
  refine lv_iconst (v := 0) hx hb dL_swap_2 (by decide) ?_
  refine lv_aload_n hx hb dL_swap_3 rfl (lv_at hl 0 rfl) ?_
  refine lv_iload_n hx hb dL_swap_4 rfl (lv_at hl 1 rfl) ?_
  refine lv_iload_n hx hb dL_swap_5 rfl (lv_at hl 2 rfl) ?_
  refine lv_iload_n hx hb dL_swap_6 rfl (lv_at hl 3 rfl) ?_
  refine lv_iload hx hb dL_swap_7 (lv_at hl 4 rfl) ?_
  refine hp_x (ints := [.int p0, .int p1, .int p2, .int p3]) hC hA hr hlocks hX hM hL0 rfl wh_swap_ml wh_swap_im wh_swap_se wh_in wh_swap_co yk_swap (Nat.le_of_ble_eq_true rfl) dL_swap_9 htab (by decide) (fun q9 H1 locs1 hP hD hS => ?_) hP hD va_S.rf hl.1
  refine lv_astore (lv' := [(6, .ref q9), (0, .ref (adr 0)), (1, .int p0), (2, .int p1), (3, .int p2), (4, .int p3), (5, .ref qo)]) hx hb dL_swap_17 hl (by decide) rfl (fun ls hl => ?_)
  refine lv_iconst (v := 1) hx hb dL_swap_19 (by decide) ?_
  exact W.iret (v := 1) hx hb hr (fun t ht hW => ⟨⟨1, (), rfl, rfl, by rw [ht]; exact hP, hD⟩, hS.F ht⟩) hS.2.2 dL_swap_20 hlocks
theorem dL_row_0 : decode cL_row 0 = .ok (.aload_n 2, 1) := by decide +kernel
theorem dL_row_1 : decode cL_row 1 = .ok (.iconst 0, 1) := by decide +kernel
theorem dL_row_2 : decode cL_row 2 = .ok (.aload_n 0, 1) := by decide +kernel
theorem dL_row_3 : decode cL_row 3 = .ok (.iload_n 1, 1) := by decide +kernel
theorem dL_row_4 : decode cL_row 4 = .ok (.invokevirtual 33, 3) := by decide +kernel
theorem dL_row_7 : decode cL_row 7 = .ok (.i2l, 1) := by decide +kernel
theorem dL_row_8 : decode cL_row 8 = .ok (.lastore, 1) := by decide +kernel
theorem dL_row_9 : decode cL_row 9 = .ok (.goto 6, 3) := by decide +kernel
theorem dL_row_12 : decode cL_row 12 = .ok (.astore_n 3, 1) := by decide +kernel
theorem dL_row_13 : decode cL_row 13 = .ok (.iconst 1, 1) := by decide +kernel
theorem dL_row_14 : decode cL_row 14 = .ok (.ireturn, 1) := by decide +kernel
theorem dL_row_15 : decode cL_row 15 = .ok (.iconst 0, 1) := by decide +kernel
theorem dL_row_16 : decode cL_row 16 = .ok (.ireturn, 1) := by decide +kernel
theorem wh_row_ml : Cond.methodLink RL 33 yX11_row ∈ rh_all := rh_in (rh_t6 (List.mem_of_getElem? (i := 42) rfl)) rfl
theorem wh_row_im : Cond.instanceMethod yX11_row ∈ rh_all := rh_in (rh_t6 (List.mem_of_getElem? (i := 43) rfl)) rfl
theorem wh_row_se : Cond.selects RX11 yX11_row yX11_row ∈ rh_all := rh_in (rh_t6 (List.mem_of_getElem? (i := 44) rfl)) rfl
theorem wh_row_co : Cond.code yX11_row cX11_row 2 (some .int) ∈ rh_all := rh_in (rh_t6 (List.mem_of_getElem? (i := 45) rfl)) rfl
theorem yk_row : rh_yok yX11_row 1 := by unfold rh_yok; decide +kernel
theorem wh_row_cw : Cond.codeWith yL_row cL_row 4 (some .int) [(0, 9, 12, 13)] ∈ rh_all := rh_in (rh_t6 (List.mem_of_getElem? (i := 41) rfl)) rfl
set_option maxRecDepth 20000 in
set_option maxHeartbeats 4000000 in
theorem hr_row (d : Nat) {L : rh_L} {h h' : rh_H} {r : Int32} (p0 : Int32) (hL0 : L[0]? = some (.inr 10)) (hM : rh_M rh_PT L (d + 6) 154 [.ref 0, .int p0] h (some (.int r)) h') (l : Launch) (D : va_G) (dT : Nat → ClassId) (adr : Nat → Nat) (sz : Nat) (qo : Nat) (fo : Nat → Int64) : Met l yL_row (.codeWith yL_row cL_row 4 (some .int) [(0, 9, 12, 13)] :: rh_all) (hc_rm d) (hc_Pc D dT adr L h qo fo sz [.ref (adr 0), .int p0, .ref qo]) (hc_Q D dT adr L h' qo (vp_updL fo 0 r.toInt64) 0 (va_A (hw dT adr L h qo fo) sz)) 1 6 (va_A (hw dT adr L h qo fo) sz) := by
  refine va_MetW (cc := cL_row) (maxL := 4) (ret := some .int) (by decide +kernel) rfl ?_
  intro p e s m args below meth c s₁ B hml hv
  obtain ⟨hav, hsz, hP, hK, hD0, hZ, hX⟩ := hv
  have hx := B.exec
  have hb := B.bytes
  have hr := B.returns
  have hts0 := atoms_spec (ws := Cond.codeWith yL_row cL_row 4 (some .int) [(0, 9, 12, 13)] :: rh_all) B.pre
  have hts : ∀ w ∈ rh_all, w.before args s = true := fun w hw => hts0 w (List.mem_cons_of_mem _ hw)
  have htab : c.exceptionTable.toList = [⟨0, 9, 12, 13⟩] := vx_table (x := yL_row) B (hts0 _ List.mem_cons_self)
  have hown : s.vm.findClass RL = some m.cls := findClass_of_methodNamed B.named
  have hlocks := B.notSynchronized
  subst hsz
  have hD := hD0.self (sz := s.heap.size)
  generalize hAe : va_A (hw dT adr L h qo fo) s.heap.size = A at hD hZ hX ⊢
  have hA : ∀ q : Nat, s.heap.size ≤ q → A q := fun q h => by rw [← hAe]; exact Or.inr h
  have hC : rh_C p s m args c (hc_rm d) D dT A adr RL cL_row 4 := ⟨hx, hb, hml, hown, hts, hK, hZ, by show 1 ≤ d + 8; omega, by show 40 ≤ 40 * (d + 8); omega⟩
  rw [hav]
  have hl := lv_entry [.ref (adr 0), .int p0, .ref qo] (n := 4) (Nat.le_of_ble_eq_true rfl)
  rw [lg_entry_eq]
  generalize (lg_sl [.ref (adr 0), .int p0, .ref qo] ++ List.replicate (4 - (lg_sl [.ref (adr 0), .int p0, .ref qo]).length) Slot.unset).toArray = ls at hl ⊢
  subst hav
  have hl : lv_has ls 4 [(0, .ref (adr 0)), (1, .int p0), (2, .ref qo)] := hl
  refine lv_aload_n hx hb dL_row_0 rfl (lv_at hl 2 rfl) ?_
  refine lv_iconst (v := 0) hx hb dL_row_1 (by decide) ?_
  refine lv_aload_n hx hb dL_row_2 rfl (lv_at hl 0 rfl) ?_
  refine lv_iload_n hx hb dL_row_3 rfl (lv_at hl 1 rfl) ?_
  exact hp_r (ints := [.int p0]) (off := 6) (tgt := 15) hC hA hr hlocks hM (rc_V (ci := 10) (N := 13) (C := RX11) (T := TX11) rfl rfl wh_row_ml wh_row_im wh_row_se wh_in wh_row_co yk_row (Nat.le_of_ble_eq_true rfl) dL_row_4) hL0 dL_row_7 dL_row_8 dL_row_9 (by decide) dL_row_15 dL_row_16 hP hD va_S.rf hl.1
set_option maxRecDepth 20000 in
set_option maxHeartbeats 4000000 in
theorem hx_row (d : Nat) {L : rh_L} {h : rh_H} (p0 : Int32) (hL0 : L[0]? = some (.inr 10)) (l : Launch) (D : va_G) (dT : Nat → ClassId) (adr : Nat → Nat) (sz : Nat) (qo : Nat) (fo : Nat → Int64) (hM : ∀ sz, vx_Met l yX11_row (.code yX11_row cX11_row 2 (some .int) :: rh_all) (rx_rm d) (rx_Pc D dT adr L h sz [.ref 0, .int p0]) (rx_Q (va_A (rh_ws dT adr L h) sz)) (rx_X D dT adr L h (va_A (rh_ws dT adr L h) sz)) 1 6 (va_A (rh_ws dT adr L h) sz)) : Met l yL_row (.codeWith yL_row cL_row 4 (some .int) [(0, 9, 12, 13)] :: rh_all) (hc_rm d) (hc_Pc D dT adr L h qo fo sz [.ref (adr 0), .int p0, .ref qo]) (hc_Q D dT adr L h qo fo 1 (va_A (hw dT adr L h qo fo) sz)) 1 6 (va_A (hw dT adr L h qo fo) sz) := by
  refine va_MetW (cc := cL_row) (maxL := 4) (ret := some .int) (by decide +kernel) rfl ?_
  intro p e s m args below meth c s₁ B hml hv
  obtain ⟨hav, hsz, hP, hK, hD0, hZ, hX⟩ := hv
  have hx := B.exec
  have hb := B.bytes
  have hr := B.returns
  have hts0 := atoms_spec (ws := Cond.codeWith yL_row cL_row 4 (some .int) [(0, 9, 12, 13)] :: rh_all) B.pre
  have hts : ∀ w ∈ rh_all, w.before args s = true := fun w hw => hts0 w (List.mem_cons_of_mem _ hw)
  have htab : c.exceptionTable.toList = [⟨0, 9, 12, 13⟩] := vx_table (x := yL_row) B (hts0 _ List.mem_cons_self)
  have hown : s.vm.findClass RL = some m.cls := findClass_of_methodNamed B.named
  have hlocks := B.notSynchronized
  subst hsz
  have hD := hD0.self (sz := s.heap.size)
  generalize hAe : va_A (hw dT adr L h qo fo) s.heap.size = A at hD hZ hX ⊢
  have hA : ∀ q : Nat, s.heap.size ≤ q → A q := fun q h => by rw [← hAe]; exact Or.inr h
  have hC : rh_C p s m args c (hc_rm d) D dT A adr RL cL_row 4 := ⟨hx, hb, hml, hown, hts, hK, hZ, by show 1 ≤ d + 8; omega, by show 40 ≤ 40 * (d + 8); omega⟩
  rw [hav]
  have hl := lv_entry [.ref (adr 0), .int p0, .ref qo] (n := 4) (Nat.le_of_ble_eq_true rfl)
  rw [lg_entry_eq]
  generalize (lg_sl [.ref (adr 0), .int p0, .ref qo] ++ List.replicate (4 - (lg_sl [.ref (adr 0), .int p0, .ref qo]).length) Slot.unset).toArray = ls at hl ⊢
  subst hav
  have hl : lv_has ls 4 [(0, .ref (adr 0)), (1, .int p0), (2, .ref qo)] := hl
  refine lv_aload_n hx hb dL_row_0 rfl (lv_at hl 2 rfl) ?_
  refine lv_iconst (v := 0) hx hb dL_row_1 (by decide) ?_
  refine lv_aload_n hx hb dL_row_2 rfl (lv_at hl 0 rfl) ?_
  refine lv_iload_n hx hb dL_row_3 rfl (lv_at hl 1 rfl) ?_
  refine hp_x (ints := [.int p0]) hC hA hr hlocks hX hM hL0 rfl wh_row_ml wh_row_im wh_row_se wh_in wh_row_co yk_row (Nat.le_of_ble_eq_true rfl) dL_row_4 htab (by decide) (fun q9 H1 locs1 hP hD hS => ?_) hP hD va_S.rf hl.1
  refine lv_astore_n (lv' := [(3, .ref q9), (0, .ref (adr 0)), (1, .int p0), (2, .ref qo)]) hx hb dL_row_12 rfl hl (by decide) rfl (fun ls hl => ?_)
  refine lv_iconst (v := 1) hx hb dL_row_13 (by decide) ?_
  exact W.iret (v := 1) hx hb hr (fun t ht hW => ⟨⟨1, (), rfl, rfl, by rw [ht]; exact hP, hD⟩, hS.F ht⟩) hS.2.2 dL_row_14 hlocks
