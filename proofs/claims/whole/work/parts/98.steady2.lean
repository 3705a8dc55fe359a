/-! steady: its contracts -/
def lk_ok (xx : rh_L) (sv : Option Nat) : Prop := (xx = [] ∧ sv = none) ∨ (xx = cw_X ∧ sv = some 42)
set_option maxRecDepth 20000 in
set_option maxHeartbeats 4000000 in
theorem st_exM (d : Nat) (xx : rh_L) (sv : Option Nat) (h : HI) (g : Nat → Nat → Int64) (p0 : Int32) {y : Int32 × HI} (hE : rh_Ex (rh_M rh_PT (cw_L ++ xx) (d + 5)) (cw_L ++ xx) pg_st ((0, [some (.ref 0), some (.int p0), none], []), (h, g, cw_R sv)) (some (.int y.1)) (y.2, g, cw_R sv)) : rh_Mt rh_PT (cw_L ++ xx) (d + 6) 134 [.ref 0, .int p0] (h, g, cw_R sv) (some (.int y.1)) (y.2, g, cw_R sv) := by
  intro l D dT adr sz
  show Met l yX11_steady (.code yX11_steady cX11_steady 3 (some .int) :: rh_all) (rh_rm (d + 6)) _ _ 0 0 _
  refine Met.ofW (cc := cX11_steady) (maxL := 3) (ret := some .int) (by decide +kernel) rfl ?_
  intro p e s m args below meth c s₁ B hml hv
  obtain ⟨hav, hsz, hP, hK, hD0, hZ⟩ := hv
  have hx := B.exec
  have hb := B.bytes
  have hr := B.returns
  have hts0 := atoms_spec (ws := Cond.code yX11_steady cX11_steady 3 (some .int) :: rh_all) B.pre
  have hts : ∀ w ∈ rh_all, w.before args s = true := fun w hw => hts0 w (List.mem_cons_of_mem _ hw)
  have hown : s.vm.findClass RX11 = some m.cls := findClass_of_methodNamed B.named
  have hlocks := B.notSynchronized
  subst hsz
  have hD := hD0.self (sz := s.heap.size)
  generalize hAe : va_A (rh_ws dT adr (cw_L ++ xx) (h, g, cw_R sv)) s.heap.size = A at hD hZ ⊢
  have hA : ∀ q : Nat, s.heap.size ≤ q → A q := fun q h => by rw [← hAe]; exact Or.inr h
  have hC : rh_C p s m args c (rh_rm (d + 6)) D dT A adr RX11 cX11_steady 3 := ⟨hx, hb, hml, hown, hts, hK, hZ, by show 1 ≤ d + 6; omega, by show 40 ≤ 40 * (d + 6); omega⟩
  rw [hav]
  have hl := lv_entry (([.ref 0, .int p0] : List Value).map (rh_v adr)) (n := 3) (Nat.le_of_ble_eq_true rfl)
  rw [lg_entry_eq]
  generalize (lg_sl (([.ref 0, .int p0] : List Value).map (rh_v adr)) ++ List.replicate (3 - (lg_sl (([.ref 0, .int p0] : List Value).map (rh_v adr))).length) Slot.unset).toArray = ls at hl ⊢
  subst hav
  exact rk_Ex (fr := ((0, [some (.ref 0), some (.int p0), none], []), (h, g, cw_R sv))) st_ent hC hA (Nat.le_refl _) (Nat.le_refl _) (Nat.zero_le _) (Nat.zero_le _) hr hlocks hE ⟨hP, hD, va_S.rf⟩ (rh_ent_has hl) (fun H1 locs1 t hG ht hW => ⟨⟨rfl, by rw [ht]; exact hG.1⟩, hG.2.2.F ht⟩)
theorem st_oldM (d : Nat) (h : HI) (g : Nat → Nat → Int64) (p0 : Int32) {y : Int32 × HI} (hf : stX (fun h => h) h p0 = some y) : rh_Mt rh_PT (cw_L ++ cw_X) (d + 6) 134 [.ref 0, .int p0] (h, g, cw_R (some 42)) (some (.int y.1)) (y.2, g, cw_R (some 42)) := by
  refine st_exM d cw_X (some 42) h g p0 ?_
  rcases st_pre d cw_X (some 42) h g p0 hf with hE | ⟨h2, hc, hto⟩
  · exact hE
  · refine hto.ex ?_
    refine rh_Ex.stp (s' := ((61, [some (.ref 0), some (.int p0), none], []), (h2, g, cw_R (some 42)))) rfl rfl ?_
    exact st61 d h2 g p0 hc
theorem ws_0 (dT : Nat → ClassId) (adr : Nat → Nat) (h : rh_H) (wb : va_W) : (rh_ws dT adr cw_L h ++ wb)[0]? = some (adr 0, .inr (10, rh_fs adr h 0 10)) := by
  have he : (rh_ws dT adr cw_L h)[0]? = some (adr 0, .inr (10, rh_fs adr h 0 10)) := rh_ws_at (L := cw_L) (o := 0) (k := .inr 10) dT adr h rfl
  exact (List.getElem?_append_left (List.getElem?_eq_some_iff.mp he).1).trans he
theorem rh_Z_adr {adr adr' : Nat → Nat} {A : Nat → Prop} {U : State} {H : Heap} (h : rh_Z adr A U H) (e1 : adr' 1000 = adr 1000) (e2 : adr' 1001 = adr 1001) : rh_Z adr' A U H := by
  unfold rh_Z
  rw [e1, e2]
  exact h
def sx_Pc (D : va_G) (dT : Nat → ClassId) (adr : Nat → Nat) (L : rh_L) (h : rh_H) (sz : Nat) (a : List Value) : Array Value → State → Prop := va_Pc (a.map (rh_v adr)) (fun U => U.heap.size = sz ∧ va_P D vwCl (rh_ws dT adr L h) U.heap ∧ va_K D vwCl (rh_tys dT) U ∧ va_D (fun _ => True) (rh_ws dT adr L h) ∧ rh_Z adr (va_A (rh_ws dT adr L h) sz) U U.heap ∧ ∀ w ∈ kn_ws, va_Nw w U)
theorem sx_blind (D : va_G) (dT : Nat → ClassId) (adr : Nat → Nat) (L : rh_L) (h : rh_H) (sz : Nat) (a : List Value) : FrameBlind (sx_Pc D dT adr L h sz a) := by
  intro b U g mk q
  obtain ⟨q0, q1, qP, qK, qD, qZ, qN⟩ := q
  exact ⟨q0, q1, qP, va_K.moved (u := U) (U := U.calling g mk b) (Vm.Alike.refl U.vm) qK, qD, rh_Z.moved (u := U) (U := U.calling g mk b) (Vm.Alike.refl U.vm) qZ, kn_same (u := U) (U := U.calling g mk b) rfl qN⟩
/-- what is behind steady where it made the Stance -/
def sx_B (D : va_G) (dT : Nat → ClassId) (adr : Nat → Nat) (g : Nat → Nat → Int64) (h' : HI) (A : Nat → Prop) (t : State) : Prop := ∃ (adr' : Nat → Nat), adr' 0 = adr 0 ∧ adr' 1000 = adr 1000 ∧ adr' 1001 = adr 1001 ∧ va_P D vwCl (rh_ws dT adr' (cw_L ++ cw_X) (h', g, cw_R (some 42))) t.heap ∧ va_D A (rh_ws dT adr' (cw_L ++ cw_X) (h', g, cw_R (some 42)))
def sx_rm (d : Nat) : Room := { frames := d + 6, cells := 7, slots := 22073, locals := 40 * (d + 6) }
set_option maxRecDepth 20000 in
set_option maxHeartbeats 4000000 in
theorem st_newM (d : Nat) (h : HI) (g : Nat → Nat → Int64) (p0 : Int32) {y : Int32 × HI} {h2 : HI} (hc : stc (z42 h2) p0 = some y) (hto : rh_To (rh_M rh_PT (cw_L ++ []) (d + 5)) (cw_L ++ []) pg_st ((0, [some (.ref 0), some (.int p0), none], []), (h, g, cw_R none)) ((39, [some (.ref 0), some (.int p0), none], [rh_ro none]), (h2, g, cw_R none))) (l : Launch) (D : va_G) (dT : Nat → ClassId) (adr : Nat → Nat) (sz : Nat) : Met l yX11_steady (.code yX11_steady cX11_steady 3 (some .int) :: rh_all) (sx_rm d) (sx_Pc D dT adr (cw_L ++ []) (h, g, cw_R none) sz [.ref 0, .int p0]) (va_Qi (fun r (_ : Unit) => r = y.1) (fun _ t => sx_B D dT adr g y.2 (va_A (rh_ws dT adr (cw_L ++ []) (h, g, cw_R none)) sz) t) (va_A (rh_ws dT adr (cw_L ++ []) (h, g, cw_R none)) sz)) 7 22073 (va_A (rh_ws dT adr (cw_L ++ []) (h, g, cw_R none)) sz) := by
  refine Met.ofW (cc := cX11_steady) (maxL := 3) (ret := some .int) (by decide +kernel) rfl ?_
  intro p e s m args below meth c s₁ B hml hv
  obtain ⟨hav, hsz, hP, hK, hD0, hZ, hN⟩ := hv
  have hx := B.exec
  have hb := B.bytes
  have hr := B.returns
  have hts0 := atoms_spec (ws := Cond.code yX11_steady cX11_steady 3 (some .int) :: rh_all) B.pre
  have hts : ∀ w ∈ rh_all, w.before args s = true := fun w hw => hts0 w (List.mem_cons_of_mem _ hw)
  have hown : s.vm.findClass RX11 = some m.cls := findClass_of_methodNamed B.named
  have hlocks := B.notSynchronized
  subst hsz
  have hD := hD0.self (sz := s.heap.size)
  generalize hAe : va_A (rh_ws dT adr (cw_L ++ []) (h, g, cw_R none)) s.heap.size = A at hD hZ ⊢
  have hA : ∀ q : Nat, s.heap.size ≤ q → A q := fun q h => by rw [← hAe]; exact Or.inr h
  have hC : rh_C p s m args c (sx_rm d) D dT A adr RX11 cX11_steady 3 := ⟨hx, hb, hml, hown, hts, hK, hZ, by show 1 ≤ d + 6; omega, by show 40 ≤ 40 * (d + 6); omega⟩
  rw [hav]
  have hl := lv_entry (([.ref 0, .int p0] : List Value).map (rh_v adr)) (n := 3) (Nat.le_of_ble_eq_true rfl)
  rw [lg_entry_eq]
  generalize (lg_sl (([.ref 0, .int p0] : List Value).map (rh_v adr)) ++ List.replicate (3 - (lg_sl (([.ref 0, .int p0] : List Value).map (rh_v adr))).length) Slot.unset).toArray = ls at hl ⊢
  subst hav
  refine rk_To (fr := ((0, [some (.ref 0), some (.int p0), none], []), (h, g, cw_R none))) st_ent hC hA (Nat.le_refl _) (Nat.le_refl _) (Nat.zero_le _) (Nat.zero_le _) hto ⟨hP, hD, va_S.rf⟩ (rh_ent_has hl) (fun H locs ls hG hl => ?_)
  obtain ⟨hP, hD, hS⟩ := hG
  have hl : lv_has ls 3 [(0, .ref (adr 0)), (1, .int p0)] := hl
  show W _ _ _ _ _ _ _ _ _ _ _ _ _ _ _ (F0 m 39 ls [.null])
  rw [List.append_nil] at hP hD
  refine lv_ifnonnullN hx hb dS39 ?_
  refine lv_aload_n hx hb dS42 rfl (lv_at hl 0 rfl) ?_
  refine va_new (ci := 8) (fs := [.null, .null, .null, .int 0, .null, .null, .null, .null, .null, .int 0]) (C := RX9) (T := TX9) (N := 10) hx hb hts cl_8.2.1 tyX9 tyX9_ok hown (hts _ wq_stn) (hts _ wq_sti) (hts _ wq_stz) hK hP hD hS hA rfl (fun j hj => by rcases (show j = 0 ∨ j = 1 ∨ j = 2 ∨ j = 3 ∨ j = 4 ∨ j = 5 ∨ j = 6 ∨ j = 7 ∨ j = 8 ∨ j = 9 by omega) with rfl | rfl | rfl | rfl | rfl | rfl | rfl | rfl | rfl | rfl <;> rfl) (Nat.le_of_ble_eq_true rfl) (Nat.le_of_ble_eq_true rfl) dS43 (fun q0 H hP hD hS => ?_)
  refine lv_dup hx hb dS46 rfl ?_
  refine lv_aload_n hx hb dS47 rfl (lv_at hl 0 rfl) ?_
  refine va_get (ci := 10) (C := RX11) (T := TX11) (N := 13) hx hb hts cl_10.2.1 hown hK hP 0 (ws_0 dT adr _ _) rfl 3 (by decide) (hts _ wq_fcr) (fun _ h9 => h9) (v := .ref (adr 4)) (rh_fs_at adr (h2, g, cw_R none) 0 10 (k := 3) (by decide +kernel)) dS48 ?_
  refine lv_aload_n hx hb dS51 rfl (lv_at hl 0 rfl) ?_
  refine va_get (ci := 10) (C := RX11) (T := TX11) (N := 13) hx hb hts cl_10.2.1 hown hK hP 0 (ws_0 dT adr _ _) rfl 4 (by decide) (hts _ wq_fde) (fun _ h9 => h9) (v := .ref (adr 13)) (rh_fs_at adr (h2, g, cw_R none) 0 10 (k := 4) (by decide +kernel)) dS52 ?_
  have hP' := vP_comm hP
  have hD' := vD_comm hD
  have hFc := vw_free hD' hS hA
  have hPc := (vP_app.mp hP').1
  have hDc := (vD_app.mp hD').1
  refine va_callv (va_runI (As := [.ref (adr 4), .ref (adr 13)]) (rest := [.ref q0, .ref (adr 0)]) ⟨hx, hb, hml, hown, hts⟩ (kX9_init l D dT q0 (adr 4) (adr 13) H.size) (cwI 2 hts (rh_gi in_wsX9_init) rfl rfl rfl (hts _ wq_stz) (hts _ wq_stl) (hts _ wq_sty) rfl (by decide +kernel) ⟨by show 1 + 1 ≤ d + 6; omega, by show 8 + (3 + 11) + 12 ≤ 40 * (d + 6); omega⟩) ⟨fun a U g mk q => by obtain ⟨q0, q1, qP, qK, qD, qN⟩ := q; exact ⟨q0, q1, qP, va_K.moved (u := U) (U := U.calling g mk a) (Vm.Alike.refl U.vm) qK, qD, kn_same (u := U) (U := U.calling g mk a) rfl qN⟩, fun U hU hW => ⟨rfl, by rw [hU], by rw [hU]; exact hPc, va_K.moved hW.alike hK, hDc.weaken (fun _ _ _ _ => trivial), kn_warm hW hN⟩⟩ rfl rfl hl.1 rfl (lv_room (Nat.le_of_ble_eq_true rfl)) dS55 ⟨Nat.le_of_ble_eq_true rfl, Nat.le_of_ble_eq_true rfl⟩) hS (fun q _ h => hFc q h) hFc (fun u t H1 locs ht hvm hw hB hz1 hk1 hS => ?_)
  obtain ⟨q1, q2, q3, q4, q5, q6, hP1, hD1⟩ := hB
  rw [ht] at hP1
  obtain ⟨hP2, hD2⟩ := vw_join hP' hD' hk1 hFc hP1 hD1
  have hP3 := vP_comm hP2
  have hD3 := vD_comm hD2
  rw [← ws_st dT adr h2 g q0 q1 q2 q3 q4 q5 q6] at hP3 hD3
  have e1 : ad7 adr [q0, q1, q2, q3, q4, q5, q6] 1000 = adr 1000 := rfl
  have e2 : ad7 adr [q0, q1, q2, q3, q4, q5, q6] 1001 = adr 1001 := rfl
  have e0 : ad7 adr [q0, q1, q2, q3, q4, q5, q6] 0 = adr 0 := rfl
  have e42 : ad7 adr [q0, q1, q2, q3, q4, q5, q6] 42 = q0 := rfl
  generalize ad7 adr [q0, q1, q2, q3, q4, q5, q6] = adr7 at e1 e2 e0 e42 hP3 hD3
  have hC7 : rh_C p s m _ c (sx_rm d) D dT A adr7 RX11 cX11_steady 3 := ⟨hx, hb, hml, hown, hts, hK, rh_Z_adr hZ e1 e2, by show 1 ≤ d + 6; omega, by show 40 ≤ 40 * (d + 6); omega⟩
  have hE : rh_Ex (rh_M rh_PT (cw_L ++ cw_X) (d + 5)) (cw_L ++ cw_X) pg_st ((58, [some (.ref 0), some (.int p0), none], [.ref 42, .ref 0]), (z42 h2, g, cw_R none)) (some (.int y.1)) (y.2, g, cw_R (some 42)) := by
    refine rh_Ex.stp (s' := ((61, [some (.ref 0), some (.int p0), none], []), (z42 h2, g, rh_up (cw_R none) 0 12 (some 42)))) rfl rfl ?_
    rw [cw_set]
    exact st61 d (z42 h2) g p0 hc
  refine W.widen (k := 7) (n := 22073) (Nat.le_refl _) (Nat.le_refl _) ?_
  have hl7 : lv_has ls 3 (rh_lv adr7 0 [some (.ref 0), some (.int p0), none]) := by
    show lv_has ls 3 [(0, .ref (adr7 0)), (1, .int p0)]
    rw [e0]; exact hl
  have key := rk_Ex (fr := ((58, [some (.ref 0), some (.int p0), none], [.ref 42, .ref 0]), (z42 h2, g, cw_R none))) (l := l) (e := e) (below := below) (R := sx_rm d) (cells := 7) (slots := 22073) (H := H1) (locs := locs) st_ent hC7 hA (Nat.le_refl _) (Nat.le_refl _) (Nat.le_refl _) (Nat.le_refl _) hr hlocks hE ⟨hP3, hD3, hS⟩ hl7 (Qc := va_Qi (fun r (_ : Unit) => r = y.1) (fun _ t => sx_B D dT adr g y.2 A t) A) (fun H1 locs1 t hG ht hW => ⟨⟨y.1, (), rfl, rfl, adr7, e0, e1, e2, by rw [ht]; exact hG.1, hG.2.1⟩, hG.2.2.F ht⟩)
  have e3 : ([.ref 42, .ref 0] : List Value).map (rh_v adr7) = [.ref q0, .ref (adr 0)] := by
    show [Value.ref (adr7 42), Value.ref (adr7 0)] = _
    rw [e42, e0]
  rw [e3] at key
  exact key
