/-! a throw: what it asks of the start, the contract of a method that throws, calls of such a one -/
def xk (A : Nat → Prop) (U : State) (H : Heap) : Prop := vx_Zq Bundle.tN "UNASSIGNED_STACK" Bundle.steD A U H ∧ vx_Zq Bundle.tN "SUPPRESSED_SENTINEL" Bundle.listD A U H ∧ ∀ w ∈ xn_ws, va_Nw w U
theorem xn_moved {u U : State} (hvm : u.vm.Alike U.vm) (h : ∀ w ∈ xn_ws, va_Nw w u) : ∀ w ∈ xn_ws, va_Nw w U := by
  intro w hw
  have hu := h w hw
  simp only [xn_ws, List.mem_cons, List.not_mem_nil, or_false] at hw
  rcases hw with rfl | rfl | rfl | rfl
  · exact va_tabs rfl (rfl : (u.setVm U.vm).vm = U.vm) (by rw [Cond.castable_setVm hvm]; exact hu)
  · exact va_tabs rfl (rfl : (u.setVm U.vm).vm = U.vm) (by rw [Cond.declares_setVm hvm]; exact hu)
  · exact va_tabs rfl (rfl : (u.setVm U.vm).vm = U.vm) (by rw [Cond.declares_setVm hvm]; exact hu)
  · exact va_tabs rfl (rfl : (u.setVm U.vm).vm = U.vm) (by rw [Cond.declares_setVm hvm]; exact hu)
theorem xn_use {A : Array Value} {U : State} (h : ∀ w ∈ xn_ws, va_Nw w U) : ∀ w ∈ xn_ws, w.before A U = true := by
  intro w hw
  have hu := h w hw
  simp only [xn_ws, List.mem_cons, List.not_mem_nil, or_false] at hw
  rcases hw with rfl | rfl | rfl | rfl <;> exact va_Nw.use rfl hu
theorem xk.moved {A : Nat → Prop} {u U : State} {H : Heap} (hvm : u.vm.Alike U.vm) (h : xk A u H) : xk A U H := ⟨vx_Zq.moved hvm h.1, vx_Zq.moved hvm h.2.1, xn_moved hvm h.2.2⟩
theorem xk.kept {A : Nat → Prop} {U : State} {H H1 : Heap} (h : xk A U H) (hq : ∀ a : Nat, a < H.size → ¬ A a → H1[a]? = H[a]?) : xk A U H1 := ⟨h.1.kept hq, h.2.1.kept hq, h.2.2⟩
theorem xk.narrow {A B : Nat → Prop} {U : State} {H : Heap} (h : xk A U H) (hAB : ∀ q, B q → A q) : xk B U H := ⟨h.1.narrow hAB, h.2.1.narrow hAB, h.2.2⟩
def rx_Pc (D : va_G) (dT : Nat → ClassId) (adr : Nat → Nat) (L : rh_L) (h : rh_H) (sz : Nat) (a : List Value) : Array Value → State → Prop := va_Pc (a.map (rh_v adr)) (fun U => U.heap.size = sz ∧ va_P D vwCl (rh_ws dT adr L h) U.heap ∧ va_K D vwCl (rh_tys dT) U ∧ va_D (fun _ => True) (rh_ws dT adr L h) ∧ rh_Z adr (va_A (rh_ws dT adr L h) sz) U U.heap ∧ xk (va_A (rh_ws dT adr L h) sz) U U.heap)
theorem rx_blind (D : va_G) (dT : Nat → ClassId) (adr : Nat → Nat) (L : rh_L) (h : rh_H) (sz : Nat) (a : List Value) : FrameBlind (rx_Pc D dT adr L h sz a) := by
  intro b U g mk q
  obtain ⟨q0, q1, qP, qK, qD, qZ, qX⟩ := q
  exact ⟨q0, q1, qP, va_K.moved (u := U) (U := U.calling g mk b) (Vm.Alike.refl U.vm) qK, qD, rh_Z.moved (u := U) (U := U.calling g mk b) (Vm.Alike.refl U.vm) qZ, xk.moved (u := U) (U := U.calling g mk b) (Vm.Alike.refl U.vm) qX⟩
def rx_rm (d : Nat) : Room := { frames := d + 6, cells := 1, slots := 6, locals := 40 * (d + 6) }
abbrev rx_Q (A : Nat → Prop) : Array Value → State → Outcome → State → Prop := va_Qi (fun _ (_ : Unit) => False) (fun _ _ => True) A
abbrev rx_X (D : va_G) (dT : Nat → ClassId) (adr : Nat → Nat) (L : rh_L) (h : rh_H) (A : Nat → Prop) : String → State → State → Prop := vx_X (fun _ : Unit => True) (fun E _ t => E = NS ∧ va_P D vwCl (rh_ws dT adr L h) t.heap) A
set_option maxRecDepth 20000 in
set_option maxHeartbeats 4000000 in
theorem rx_met {y : MethodName} {cc : ByteArray} {nL : Nat} {P : rh_P} {L : rh_L} {d pc : Nat} {a : List Value} {h : rh_H} {lv : List (Option Value)} (hpl : plainName y.cls = true) (hy : y.cls = RX11) (hent : ∀ q ∈ P, rh_Ent rh_PT RX11 cc nL (some .int) q) (hlen : (rh_ea a).length ≤ nL) (hto : rh_To (rh_M rh_PT L (d + 5)) L P ((0, rh_ent nL a, []), h) ((pc, lv, []), h)) (d0 : decode cc pc = .ok (.new 131, 3)) (d3 : decode cc (pc + 3) = .ok (.dup, 1)) (d4 : decode cc (pc + 4) = .ok (.invokespecial 133, 3)) (d7 : decode cc (pc + 7) = .ok (.athrow, 1)) (l : Launch) (hst : l.stackTraces = false) (D : va_G) (dT : Nat → ClassId) (adr : Nat → Nat) (sz : Nat) :
    vx_Met l y (.code y cc nL (some .int) :: rh_all) (rx_rm d) (rx_Pc D dT adr L h sz a) (rx_Q (va_A (rh_ws dT adr L h) sz)) (rx_X D dT adr L h (va_A (rh_ws dT adr L h) sz)) 1 6 (va_A (rh_ws dT adr L h) sz) := by
  refine vx_ofW (cc := cc) (maxL := nL) (ret := some .int) hpl rfl ?_
  intro p e s m args below meth c s₁ B hml htab hv
  obtain ⟨hav, hsz, hP, hK, hD0, hZ, hX⟩ := hv
  have hx := B.exec
  have hb := B.bytes
  have hts0 := atoms_spec (ws := Cond.code y cc nL (some .int) :: rh_all) B.pre
  have hts : ∀ w ∈ rh_all, w.before args s = true := fun w hw => hts0 w (List.mem_cons_of_mem _ hw)
  have hown : s.vm.findClass RX11 = some m.cls := by rw [← hy]; exact findClass_of_methodNamed B.named
  have hlocks := B.notSynchronized
  subst hsz
  have hD := hD0.self (sz := s.heap.size)
  generalize hAe : va_A (rh_ws dT adr L h) s.heap.size = A at hD hZ hX ⊢
  have hA : ∀ q : Nat, s.heap.size ≤ q → A q := fun q h => by rw [← hAe]; exact Or.inr h
  have hC : rh_C p s m args c (rx_rm d) D dT A adr RX11 cc nL := ⟨hx, hb, hml, hown, hts, hK, hZ, by show 1 ≤ d + 6; omega, by show 40 ≤ 40 * (d + 6); omega⟩
  rw [hav]
  have hl := lv_entry (a.map (rh_v adr)) (n := nL) (by rw [rh_sl_len]; exact hlen)
  rw [lg_entry_eq]
  generalize (lg_sl (a.map (rh_v adr)) ++ List.replicate (nL - (lg_sl (a.map (rh_v adr))).length) Slot.unset).toArray = ls at hl ⊢
  subst hav
  refine rk_To (fr := ((0, rh_ent nL a, []), h)) hent hC hA (Nat.le_refl _) (Nat.le_refl _) (Nat.zero_le _) (Nat.zero_le _) hto ⟨hP, hD, va_S.rf⟩ (rh_ent_has hl) (fun H locs ls hG hl => ?_)
  obtain ⟨hP, hD, hS⟩ := hG
  have hat := vx_hat (L := vx_at0 RX11 133 NS ["java/lang/RuntimeException", "java/lang/Exception"]) (fun w hw => hts w (xq_all w hw)) xq_no (xn_use hX.2.2)
  show W _ _ _ _ _ _ _ _ _ _ _ _ _ _ _ (F0 m pc ls [])
  exact vx_throw0 (own := RX11) (cls := NS) (names := ["java/lang/RuntimeException", "java/lang/Exception"]) (ik := 131) (ic := 133) (A := A) hx hb hst hown (by decide +kernel) (by decide +kernel) (hts _ wq_xcl) (hts _ wq_xin) hat xq_good hX.1 hX.2.1 hS (hl.1.trans hml.symm) d0 d3 d4 d7 (fun x hx => (htab x hx).elim) (show 2 + 3 < d + 6 by omega) (show (([] : List Value).map fun v => v.category).sum + (13 * (["java/lang/RuntimeException", "java/lang/Exception"].length + 1) + 42) ≤ 40 * (d + 6) by simp; omega) (Nat.le_refl 1) (Nat.le_refl 6) hlocks (fun t hvm hle hq => ⟨(), trivial, ⟨rfl, hP.kept (fun k q hk => hq q.1 ((hP k q hk).lt))⟩, ⟨Nat.le_trans hS.1 hle, fun q h1 h2 => (hq q (Nat.lt_of_lt_of_le h1 hS.1)).trans (hS.2.1 q h1 h2)⟩⟩) hS.2.2 (Nat.le_refl _) (Nat.le_refl _)
section RXR
variable {own : String} {cc : ByteArray} {nL pc idx n maxL ci N mc ms : Nat} {y : MethodName} {bytes : ByteArray} {ret : Option FieldType} {C : String} {T : u_T} {p : Program} {l : Launch} {e : Env} {R : Room} {s : State} {m : MethodId} {args : Array Value} {below : List Frame} {meth : Method} {c : Code} {D : va_G} {dT : Nat → ClassId} {A : Nat → Prop} {adr : Nat → Nat} {Pc : Array Value → State → Prop} {Qc : Array Value → State → Outcome → State → Prop} {XC : String → State → State → Prop} {free : Addr → Prop} {rm : Room} {H : Heap} {locs : List Loc} {cells slots b : Nat} {ls : Array Slot} {As rest : List Value}
theorem rx_wsV (h1 : Cond.methodLink own idx y ∈ rh_all) (h2 : Cond.instanceMethod y ∈ rh_all) (h3 : Cond.selects C y y ∈ rh_all) (h4 : Cond.initialized C ∈ rh_all) (h5 : Cond.code y bytes maxL ret ∈ rh_all) : GoodIn rh_all (wsV own idx C y (Cond.code y bytes maxL ret :: rh_all)) := rh_gi (fun w hw => by
    simp only [wsV, List.cons_append, List.nil_append, List.mem_cons] at hw
    rcases hw with rfl | rfl | rfl | rfl | rfl | h
    · exact h1
    · exact h2
    · exact h3
    · exact h4
    · exact h5
    · exact h)
theorem rx_runV (hC : y.cls = C) (h1 : Cond.methodLink own idx y ∈ rh_all) (h2 : Cond.instanceMethod y ∈ rh_all) (h3 : Cond.selects C y y ∈ rh_all) (h4 : Cond.initialized C ∈ rh_all) (h5 : Cond.code y bytes maxL ret ∈ rh_all) (hy : rh_yok y n) (hdg : decode cc pc = .ok (.invokevirtual idx, 3)) (hCx : rh_C p s m args c R D dT A adr own cc nL) (hM : vx_Met l y (Cond.code y bytes maxL ret :: rh_all) rm Pc Qc XC mc ms free) (hrc : rm.cells = mc) (hrs : rm.slots = ms) (hfr : rm.frames + 1 ≤ R.frames) (hlo : 8 + (maxL + 11) + rm.locals ≤ R.locals) (hbl : FrameBlind Pc) (hf : cells + mc ≤ R.cells ∧ slots + ms ≤ R.slots) (hls : ls.size = nL) (hAs : As.length = n) (hrcv : ∃ cell : Cell, H[b]? = some cell ∧ cell.vm.isStatics = false ∧ s.vm.findClass C = some cell.cls) (hW : (rest.map fun v => v.category).sum ≤ 8) (hPc : ∀ U : State, U.heap = H → s.WarmedH U.vm → Pc (Value.ref b :: As).toArray U) :
    vx_Run p l e R s m args below meth c H locs cells slots mc ms (F0 m pc ls (As.reverse ++ .ref b :: rest)) rest (Qc (Value.ref b :: As).toArray) XC free := by
  obtain ⟨hx, hb, hml, hown, hts, -⟩ := hCx
  exact vx_runV (Ts := rh_all) ⟨hx, hb, hml, hown, hts⟩ hM (cwV n hts (rx_wsV h1 h2 h3 h4 h5) rfl hrc hrs ⟨hC, hy⟩ ⟨hfr, hlo⟩) ⟨hbl, hrcv, hPc⟩ rfl hAs hls rfl (lv_room hW) hdg hf
theorem rm_runV (hC : y.cls = C) (h1 : Cond.methodLink own idx y ∈ rh_all) (h2 : Cond.instanceMethod y ∈ rh_all) (h3 : Cond.selects C y y ∈ rh_all) (h4 : Cond.initialized C ∈ rh_all) (h5 : Cond.code y bytes maxL ret ∈ rh_all) (hy : rh_yok y n) (hdg : decode cc pc = .ok (.invokevirtual idx, 3)) (hCx : rh_C p s m args c R D dT A adr own cc nL) (hM : Met l y (Cond.code y bytes maxL ret :: rh_all) rm Pc Qc mc ms free) (hrc : rm.cells = mc) (hrs : rm.slots = ms) (hfr : rm.frames + 1 ≤ R.frames) (hlo : 8 + (maxL + 11) + rm.locals ≤ R.locals) (hbl : FrameBlind Pc) (hf : cells + mc ≤ R.cells ∧ slots + ms ≤ R.slots) (hls : ls.size = nL) (hAs : As.length = n) (hrcv : ∃ cell : Cell, H[b]? = some cell ∧ cell.vm.isStatics = false ∧ s.vm.findClass C = some cell.cls) (hW : (rest.map fun v => v.category).sum ≤ 8) (hPc : ∀ U : State, U.heap = H → s.WarmedH U.vm → Pc (Value.ref b :: As).toArray U) :
    va_Run p l e R s m args below meth c H locs cells slots mc ms (F0 m pc ls (As.reverse ++ .ref b :: rest)) rest (Qc (Value.ref b :: As).toArray) free := by
  obtain ⟨hx, hb, hml, hown, hts, -⟩ := hCx
  exact va_runV (Ts := rh_all) ⟨hx, hb, hml, hown, hts⟩ hM (cwV n hts (rx_wsV h1 h2 h3 h4 h5) rfl hrc hrs ⟨hC, hy⟩ ⟨hfr, hlo⟩) ⟨hbl, hrcv, hPc⟩ rfl hAs hls rfl (lv_room hW) hdg hf
end RXR
