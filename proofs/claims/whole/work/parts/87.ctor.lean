/-! constructors that make arrays alone -/
def kn_ws : List Cond := [.methodLinkNest RX11 15 yX7_init RX11, .methodLinkNest RX11 22 yX0_init RX11, .methodLinkNest RX0 17 yX4_init RX11, .methodLinkNest RX4 3 yX5_init RX11, .methodLinkNest RX11 38 yX3_init RX11, .methodLinkNest RX3 3 yX5_init RX11, .methodLinkNest RX11 45 yX1_init RX11, .methodLinkNest RX1 1 yX5_init RX11, .methodLinkNest RX11 52 yX10_init RX11]
theorem kn_all {P : Cond → Prop} (h0 : ∀ a i x b, P (.methodLinkNest a i x b)) : ∀ w ∈ kn_ws, P w := fun w hw => by
  simp only [kn_ws, List.mem_cons, List.not_mem_nil, or_false] at hw
  rcases hw with rfl | rfl | rfl | rfl | rfl | rfl | rfl | rfl | rfl <;> exact h0 _ _ _ _
theorem kn_same {u U : State} (h : u.vm = U.vm) (hq : ∀ w ∈ kn_ws, va_Nw w u) : ∀ w ∈ kn_ws, va_Nw w U := fun w hw => va_Nw.same (kn_all (P := fun w => w.onTables = true) (fun _ _ _ _ => rfl) w hw) h (hq w hw)
theorem kn_warm {s U : State} (h : s.WarmedH U.vm) (hq : ∀ w ∈ kn_ws, va_Nw w s) : ∀ w ∈ kn_ws, va_Nw w U := fun w hw => kn_all (P := fun w => va_Nw w s → va_Nw w U) (fun _ _ _ _ => va_Nw.warmM h) w hw (hq w hw)
theorem kt_0 {D : va_G} {dT : Nat → ClassId} {U : State} {cA : ClassId} (h : va_K D vwCl (rh_tys dT ++ [(cA, .int)]) U) : cA = dT 0 := Option.some.inj ((show U.vm.findClass ("[" ++ FieldType.int.toString) = some cA from (h.2 4 _ rfl).2).symm.trans (show U.vm.findClass ("[" ++ FieldType.int.toString) = some (dT 0) from (h.2 0 _ rfl).2))
theorem kt_1 {D : va_G} {dT : Nat → ClassId} {U : State} {cA : ClassId} (h : va_K D vwCl (rh_tys dT ++ [(cA, .long)]) U) : cA = dT 1 := Option.some.inj ((show U.vm.findClass ("[" ++ FieldType.long.toString) = some cA from (h.2 4 _ rfl).2).symm.trans (show U.vm.findClass ("[" ++ FieldType.long.toString) = some (dT 1) from (h.2 1 _ rfl).2))
theorem kt_2 {D : va_G} {dT : Nat → ClassId} {U : State} {cA : ClassId} (h : va_K D vwCl (rh_tys dT ++ [(cA, .byte)]) U) : cA = dT 2 := Option.some.inj ((show U.vm.findClass ("[" ++ FieldType.byte.toString) = some cA from (h.2 4 _ rfl).2).symm.trans (show U.vm.findClass ("[" ++ FieldType.byte.toString) = some (dT 2) from (h.2 2 _ rfl).2))
theorem kt_3 {D : va_G} {dT : Nat → ClassId} {U : State} {cA : ClassId} (h : va_K D vwCl (rh_tys dT ++ [(cA, .boolean)]) U) : cA = dT 3 := Option.some.inj ((show U.vm.findClass ("[" ++ FieldType.boolean.toString) = some cA from (h.2 4 _ rfl).2).symm.trans (show U.vm.findClass ("[" ++ FieldType.boolean.toString) = some (dT 3) from (h.2 3 _ rfl).2))

def wsX5_init : List Cond := .code yX5_init cX5_init 1 none :: ([.methodLink RX5 1 objectInit, .instanceMethod objectInit, .code objectInit ⟨#[0xb1]⟩ 1 none])
theorem dX5_init_0 : decode cX5_init 0 = .ok (.aload_n 0, 1) := by decide +kernel
theorem dX5_init_1 : decode cX5_init 1 = .ok (.invokespecial 1, 3) := by decide +kernel
theorem dX5_init_4 : decode cX5_init 4 = .ok (.return_, 1) := by decide +kernel
set_option maxHeartbeats 4000000 in
set_option maxRecDepth 100000 in
theorem kX5_init (l : Launch) (D : va_G) (dT : Nat → ClassId) (h0 sz ci : Nat) (fs : List Value) : Met l yX5_init wsX5_init ({ frames := 1, cells := 0, slots := 0, locals := 12 }) (va_Pc [.ref h0] (fun U => U.heap.size = sz ∧ va_P D vwCl [(h0, .inr (ci, fs))] U.heap ∧ va_K D vwCl (rh_tys dT) U ∧ va_D (fun _ => True) [(h0, .inr (ci, fs))] ∧ ∀ w ∈ kn_ws, va_Nw w U)) (va_Qv (fun _ : Unit => True) (fun _ t => va_P D vwCl [(h0, .inr (ci, fs))] t.heap ∧ va_D (va_A [(h0, .inr (ci, fs))] sz) [(h0, .inr (ci, fs))]) (va_A [(h0, .inr (ci, fs))] sz)) 0 0 (va_A [(h0, .inr (ci, fs))] sz) := by
  refine Met.ofW (cc := cX5_init) (maxL := 1) (ret := none) (by decide) rfl ?_
  intro p e s m args below meth c s₁ B hml hv
  obtain ⟨rfl, hsz, hP, hK, hD0, hN⟩ := hv
  have hx := B.exec
  have hb := B.bytes
  have hr := B.returns
  have hts := atoms_spec (ws := wsX5_init) B.pre
  have hown : s.vm.findClass RX5 = some m.cls := findClass_of_methodNamed B.named
  have hin : meth.name = "<init>" := (name_of_methodNamed B.named B.method).1
  subst hsz
  have hD := hD0.self (sz := s.heap.size)
  generalize hAe : va_A [(h0, .inr (ci, fs))] s.heap.size = A at hD ⊢
  have hA : ∀ q : Nat, s.heap.size ≤ q → A q := fun q h => by rw [← hAe]; exact Or.inr h
  have hS : va_S A s.heap s.heap [] := va_S.rf
  have hP : va_P D vwCl [(h0, .inr (ci, fs))] s.heap := hP
  have hl := lv_entry ([.ref h0]) (n := 1) (Nat.le_of_ble_eq_true rfl)
  rw [lg_entry_eq]
  generalize (lg_sl ([.ref h0]) ++ List.replicate (1 - (lg_sl ([.ref h0])).length) Slot.unset).toArray = ls at hl ⊢
  have hl : lv_has ls 1 [(0, .ref h0)] := hl
  refine lv_aload_n hx hb dX5_init_0 rfl (lv_at hl 0 rfl) ?_
  refine W.objInit hx hb hown (hts (.methodLink RX5 1 objectInit) (by decide +kernel)) (hts (.instanceMethod objectInit) (by decide +kernel)) (hts _ (List.mem_of_getElem? (i := 3) rfl)) rfl (by rw [hml]; exact hl.1) rfl dX5_init_1 (Nat.le_of_ble_eq_true rfl) (Nat.le_of_ble_eq_true rfl) ?_
  refine W.eq (g2 := F0 m 4 ls []) rfl ?_
  exact W.vret hx hb hr (fun t ht hW => ⟨⟨(), rfl, trivial, by rw [ht]; exact hP, hD⟩, hS.F ht⟩) hS.2.2 dX5_init_4
def wsX7_init : List Cond := .code yX7_init cX7_init 1 none :: ([.methodLink RX7 3 objectInit, .instanceMethod objectInit, .code objectInit ⟨#[0xb1]⟩ 1 none, .arrayClass .int, .fieldLink RX7 9 "LighterAtDusk$Row" "numbers" "[I"] ++ wsX70)
theorem dX7_init_0 : decode cX7_init 0 = .ok (.aload_n 0, 1) := by decide +kernel
theorem dX7_init_1 : decode cX7_init 1 = .ok (.invokespecial 3, 3) := by decide +kernel
theorem dX7_init_4 : decode cX7_init 4 = .ok (.aload_n 0, 1) := by decide +kernel
theorem dX7_init_5 : decode cX7_init 5 = .ok (.bipush 11, 2) := by decide +kernel
theorem dX7_init_7 : decode cX7_init 7 = .ok (.newarray .int, 2) := by decide +kernel
theorem dX7_init_9 : decode cX7_init 9 = .ok (.putfield 9, 3) := by decide +kernel
theorem dX7_init_12 : decode cX7_init 12 = .ok (.return_, 1) := by decide +kernel
set_option maxHeartbeats 4000000 in
set_option maxRecDepth 100000 in
theorem kX7_init (l : Launch) (D : va_G) (dT : Nat → ClassId) (h0 sz : Nat) : Met l yX7_init wsX7_init ({ frames := 1, cells := 1, slots := 11, locals := 12 }) (va_Pc [.ref h0] (fun U => U.heap.size = sz ∧ va_P D vwCl [(h0, .inr (6, [.null, .int 0]))] U.heap ∧ va_K D vwCl (rh_tys dT) U ∧ va_D (fun _ => True) [(h0, .inr (6, [.null, .int 0]))] ∧ ∀ w ∈ kn_ws, va_Nw w U)) (va_Qv (fun _ : Unit => True) (fun _ t => ∃ q1 : Nat, va_P D vwCl [(h0, .inr (6, [.ref q1, .int 0])), (q1, .inl (dT 0, 11, .inl (fun _ => 0)))] t.heap ∧ va_D (va_A [(h0, .inr (6, [.null, .int 0]))] sz) [(h0, .inr (6, [.ref q1, .int 0])), (q1, .inl (dT 0, 11, .inl (fun _ => 0)))]) (va_A [(h0, .inr (6, [.null, .int 0]))] sz)) 1 11 (va_A [(h0, .inr (6, [.null, .int 0]))] sz) := by
  refine Met.ofW (cc := cX7_init) (maxL := 1) (ret := none) (by decide) rfl ?_
  intro p e s m args below meth c s₁ B hml hv
  obtain ⟨rfl, hsz, hP, hK, hD0, hN⟩ := hv
  have hx := B.exec
  have hb := B.bytes
  have hr := B.returns
  have hts := atoms_spec (ws := wsX7_init) B.pre
  have hown : s.vm.findClass RX7 = some m.cls := findClass_of_methodNamed B.named
  have hin : meth.name = "<init>" := (name_of_methodNamed B.named B.method).1
  subst hsz
  have hD := hD0.self (sz := s.heap.size)
  generalize hAe : va_A [(h0, .inr (6, [.null, .int 0]))] s.heap.size = A at hD ⊢
  have hA : ∀ q : Nat, s.heap.size ≤ q → A q := fun q h => by rw [← hAe]; exact Or.inr h
  have hS : va_S A s.heap s.heap [] := va_S.rf
  have hP : va_P D vwCl [(h0, .inr (6, [.null, .int 0]))] s.heap := hP
  have hl := lv_entry ([.ref h0]) (n := 1) (Nat.le_of_ble_eq_true rfl)
  rw [lg_entry_eq]
  generalize (lg_sl ([.ref h0]) ++ List.replicate (1 - (lg_sl ([.ref h0])).length) Slot.unset).toArray = ls at hl ⊢
  have hl : lv_has ls 1 [(0, .ref h0)] := hl
  refine lv_aload_n hx hb dX7_init_0 rfl (lv_at hl 0 rfl) ?_
  refine W.objInit hx hb hown (hts (.methodLink RX7 3 objectInit) (by decide +kernel)) (hts (.instanceMethod objectInit) (by decide +kernel)) (hts _ (List.mem_cons_of_mem _ (List.mem_append_left _ (List.mem_of_getElem? (i := 2) rfl)))) rfl (by rw [hml]; exact hl.1) rfl dX7_init_1 (Nat.le_of_ble_eq_true rfl) (Nat.le_of_ble_eq_true rfl) ?_
  refine W.eq (g2 := F0 m 4 ls []) rfl ?_
  refine lv_aload_n hx hb dX7_init_4 rfl (lv_at hl 0 rfl) ?_
  refine lv_bipush hx hb dX7_init_5 (v := 11) (by decide) ?_
  refine va_newa (atype := .int) (ty := .int) (a0 := (11, .inl (fun _ => 0))) hx hb (hts (.arrayClass .int) (by decide +kernel)) rfl hK hP hD hS hA (fun _ => rfl) (by decide) rfl (Nat.le_of_ble_eq_true rfl) (Nat.le_of_ble_eq_true rfl) (Nat.le_of_ble_eq_true rfl) dX7_init_7 (fun q1 cA H hK1 hP hD hS => ?_)
  obtain rfl : cA = dT 0 := kt_0 hK1
  have hP : va_P D vwCl [(h0, .inr (6, [.null, .int 0])), (q1, .inl (dT 0, 11, .inl (fun _ => 0)))] H := hP
  have hD : va_D A [(h0, .inr (6, [.null, .int 0])), (q1, .inl (dT 0, 11, .inl (fun _ => 0)))] := hD
  clear hK1
  refine W.widen (k := 1) (n := 11) (Nat.le_of_ble_eq_true rfl) (Nat.le_of_ble_eq_true rfl) ?_
  refine va_putF (D := D) (ci := 6) (v := .ref q1) (ty := .array .int) (C := RX7) (T := TX7) (N := 2) hx hb hts (by decide +kernel) tyX7 tyX7_ok nmX7 hown hK hP hD hS 0 rfl rfl 0 (by decide) (hts (.fieldLink RX7 9 "LighterAtDusk$Row" "numbers" "[I") (by decide +kernel)) (fun _ h9 => h9) rfl hin rfl (by decide +kernel) rfl rfl (Nat.le_of_ble_eq_true rfl) dX7_init_9 (fun H locs hP hD hS => ?_)
  have hP : va_P D vwCl [(h0, .inr (6, [.ref q1, .int 0])), (q1, .inl (dT 0, 11, .inl (fun _ => 0)))] H := hP
  have hD : va_D A [(h0, .inr (6, [.ref q1, .int 0])), (q1, .inl (dT 0, 11, .inl (fun _ => 0)))] := hD
  exact W.vret hx hb hr (fun t ht hW => ⟨⟨(), rfl, trivial, q1, by rw [ht]; exact hP, hD⟩, hS.F ht⟩) hS.2.2 dX7_init_12
def wsX4_init : List Cond := .code yX4_init cX4_init 1 none :: ([.arrayClass .int, .fieldLink RX4 11 "LighterAtDusk$Habit" "codes" "[I", .fieldLink RX4 15 "LighterAtDusk$Habit" "stack" "[I", .fieldLink RX4 18 "LighterAtDusk$Habit" "draft" "[I", .fieldLink RX4 21 "LighterAtDusk$Habit" "waiting" "[I", .arrayClass .boolean, .fieldLink RX4 24 "LighterAtDusk$Habit" "compared" "[Z", .instanceMethod yX5_init, .initialized RX5, .code yX5_init cX5_init 1 none, .methodLink RX5 1 objectInit, .instanceMethod objectInit, .code objectInit ⟨#[0xb1]⟩ 1 none] ++ wsX40)
set_option maxRecDepth 20000 in
theorem ggX4_init_X5_init : GoodIn wsX4_init wsX5_init := goodIn_r _ [10, 11, 12, 13] (by decide +kernel) (by decide +kernel)
theorem dX4_init_0 : decode cX4_init 0 = .ok (.aload_n 0, 1) := by decide +kernel
theorem dX4_init_1 : decode cX4_init 1 = .ok (.invokespecial 3, 3) := by decide +kernel
theorem dX4_init_4 : decode cX4_init 4 = .ok (.aload_n 0, 1) := by decide +kernel
theorem dX4_init_5 : decode cX4_init 5 = .ok (.bipush 48, 2) := by decide +kernel
theorem dX4_init_7 : decode cX4_init 7 = .ok (.newarray .int, 2) := by decide +kernel
theorem dX4_init_9 : decode cX4_init 9 = .ok (.putfield 11, 3) := by decide +kernel
theorem dX4_init_12 : decode cX4_init 12 = .ok (.aload_n 0, 1) := by decide +kernel
theorem dX4_init_13 : decode cX4_init 13 = .ok (.bipush 48, 2) := by decide +kernel
theorem dX4_init_15 : decode cX4_init 15 = .ok (.newarray .int, 2) := by decide +kernel
theorem dX4_init_17 : decode cX4_init 17 = .ok (.putfield 15, 3) := by decide +kernel
theorem dX4_init_20 : decode cX4_init 20 = .ok (.aload_n 0, 1) := by decide +kernel
theorem dX4_init_21 : decode cX4_init 21 = .ok (.bipush 48, 2) := by decide +kernel
theorem dX4_init_23 : decode cX4_init 23 = .ok (.newarray .int, 2) := by decide +kernel
theorem dX4_init_25 : decode cX4_init 25 = .ok (.putfield 18, 3) := by decide +kernel
theorem dX4_init_28 : decode cX4_init 28 = .ok (.aload_n 0, 1) := by decide +kernel
theorem dX4_init_29 : decode cX4_init 29 = .ok (.bipush 48, 2) := by decide +kernel
theorem dX4_init_31 : decode cX4_init 31 = .ok (.newarray .int, 2) := by decide +kernel
theorem dX4_init_33 : decode cX4_init 33 = .ok (.putfield 21, 3) := by decide +kernel
theorem dX4_init_36 : decode cX4_init 36 = .ok (.aload_n 0, 1) := by decide +kernel
theorem dX4_init_37 : decode cX4_init 37 = .ok (.iconst 5, 1) := by decide +kernel
theorem dX4_init_38 : decode cX4_init 38 = .ok (.newarray .boolean, 2) := by decide +kernel
theorem dX4_init_40 : decode cX4_init 40 = .ok (.putfield 24, 3) := by decide +kernel
theorem dX4_init_43 : decode cX4_init 43 = .ok (.return_, 1) := by decide +kernel
set_option maxHeartbeats 4000000 in
set_option maxRecDepth 100000 in
theorem kX4_init (l : Launch) (D : va_G) (dT : Nat → ClassId) (h0 sz : Nat) : Met l yX4_init wsX4_init ({ frames := 2, cells := 5, slots := 197, locals := 32 }) (va_Pc [.ref h0] (fun U => U.heap.size = sz ∧ va_P D vwCl [(h0, .inr (4, [.null, .int 0, .null, .null, .int 0, .null, .int 0, .null, .int 0, .int 0, .int 0]))] U.heap ∧ va_K D vwCl (rh_tys dT) U ∧ va_D (fun _ => True) [(h0, .inr (4, [.null, .int 0, .null, .null, .int 0, .null, .int 0, .null, .int 0, .int 0, .int 0]))] ∧ ∀ w ∈ kn_ws, va_Nw w U)) (va_Qv (fun _ : Unit => True) (fun _ t => ∃ q1 q2 q3 q4 q5 : Nat, va_P D vwCl [(h0, .inr (4, [.ref q1, .int 0, .ref q2, .ref q3, .int 0, .ref q4, .int 0, .ref q5, .int 0, .int 0, .int 0])), (q1, .inl (dT 0, 48, .inl (fun _ => 0))), (q2, .inl (dT 0, 48, .inl (fun _ => 0))), (q3, .inl (dT 0, 48, .inl (fun _ => 0))), (q4, .inl (dT 0, 48, .inl (fun _ => 0))), (q5, .inl (dT 3, 5, .inl (fun _ => 0)))] t.heap ∧ va_D (va_A [(h0, .inr (4, [.null, .int 0, .null, .null, .int 0, .null, .int 0, .null, .int 0, .int 0, .int 0]))] sz) [(h0, .inr (4, [.ref q1, .int 0, .ref q2, .ref q3, .int 0, .ref q4, .int 0, .ref q5, .int 0, .int 0, .int 0])), (q1, .inl (dT 0, 48, .inl (fun _ => 0))), (q2, .inl (dT 0, 48, .inl (fun _ => 0))), (q3, .inl (dT 0, 48, .inl (fun _ => 0))), (q4, .inl (dT 0, 48, .inl (fun _ => 0))), (q5, .inl (dT 3, 5, .inl (fun _ => 0)))]) (va_A [(h0, .inr (4, [.null, .int 0, .null, .null, .int 0, .null, .int 0, .null, .int 0, .int 0, .int 0]))] sz)) 5 197 (va_A [(h0, .inr (4, [.null, .int 0, .null, .null, .int 0, .null, .int 0, .null, .int 0, .int 0, .int 0]))] sz) := by
  refine Met.ofW (cc := cX4_init) (maxL := 1) (ret := none) (by decide) rfl ?_
  intro p e s m args below meth c s₁ B hml hv
  obtain ⟨rfl, hsz, hP, hK, hD0, hN⟩ := hv
  have hx := B.exec
  have hb := B.bytes
  have hr := B.returns
  have hts := atoms_spec (ws := wsX4_init) B.pre
  have hown : s.vm.findClass RX4 = some m.cls := findClass_of_methodNamed B.named
  have hin : meth.name = "<init>" := (name_of_methodNamed B.named B.method).1
  subst hsz
  have hD := hD0.self (sz := s.heap.size)
  generalize hAe : va_A [(h0, .inr (4, [.null, .int 0, .null, .null, .int 0, .null, .int 0, .null, .int 0, .int 0, .int 0]))] s.heap.size = A at hD ⊢
  have hA : ∀ q : Nat, s.heap.size ≤ q → A q := fun q h => by rw [← hAe]; exact Or.inr h
  have hS : va_S A s.heap s.heap [] := va_S.rf
  have hP : va_P D vwCl [(h0, .inr (4, [.null, .int 0, .null, .null, .int 0, .null, .int 0, .null, .int 0, .int 0, .int 0]))] s.heap := hP
  have hl := lv_entry ([.ref h0]) (n := 1) (Nat.le_of_ble_eq_true rfl)
  rw [lg_entry_eq]
  generalize (lg_sl ([.ref h0]) ++ List.replicate (1 - (lg_sl ([.ref h0])).length) Slot.unset).toArray = ls at hl ⊢
  have hl : lv_has ls 1 [(0, .ref h0)] := hl
  refine lv_aload_n hx hb dX4_init_0 rfl (lv_at hl 0 rfl) ?_
  have hPc := hP.sub (ws' := [(h0, .inr (4, [.null, .int 0, .null, .null, .int 0, .null, .int 0, .null, .int 0, .int 0, .int 0]))]) [0] rfl
  have hDc := hD.sub (ws' := [(h0, .inr (4, [.null, .int 0, .null, .null, .int 0, .null, .int 0, .null, .int 0, .int 0, .int 0]))]) [0] (by decide) rfl
  have hFc := va_free (wc := [(h0, .inr (4, [.null, .int 0, .null, .null, .int 0, .null, .int 0, .null, .int 0, .int 0, .int 0]))]) hD hS hA [0] rfl
  refine va_callv (va_runIN (As := []) (rest := []) ⟨hx, hb, hml, hown, hts⟩ (kX5_init l D dT h0 s.heap.size 4 [.null, .int 0, .null, .null, .int 0, .null, .int 0, .null, .int 0, .int 0, .int 0]) ⟨va_cnB 0 hts ggX4_init_X5_init rfl rfl rfl (hN (.methodLinkNest RX4 3 yX5_init RX11) (by decide +kernel)) (hts (.initialized RX5) (by decide +kernel)) (by decide +kernel) ⟨Nat.le_of_ble_eq_true rfl, Nat.le_of_ble_eq_true rfl⟩, rfl, (hts (.instanceMethod yX5_init) (by decide +kernel))⟩ ⟨fun a U g mk q => by obtain ⟨q0, q1, qP, qK, qD, qN⟩ := q; exact ⟨q0, q1, qP, va_K.moved (u := U) (U := U.calling g mk a) (Vm.Alike.refl U.vm) qK, qD, kn_same (u := U) (U := U.calling g mk a) rfl qN⟩, fun U hU hW => ⟨rfl, by rw [hU], by rw [hU]; exact hPc, va_K.moved hW.alike hK, hDc.weaken (fun _ _ _ _ => trivial), kn_warm hW hN⟩⟩ rfl rfl hl.1 rfl (lv_room (Nat.le_of_ble_eq_true rfl)) dX4_init_1 ⟨Nat.le_of_ble_eq_true rfl, Nat.le_of_ble_eq_true rfl⟩) hS (fun q _ h => hFc q h) hFc (fun u t H1 locs ht hvm hw hB hz1 hk1 hS => ?_)
  obtain ⟨hP1, hD1⟩ := hB
  rw [ht] at hP1
  obtain ⟨hP, hD⟩ := va_join (wr := []) (w1 := [(h0, .inr (4, [.null, .int 0, .null, .null, .int 0, .null, .int 0, .null, .int 0, .int 0, .int 0]))]) hP hD [0] [] rfl rfl (by decide) (by decide) hk1 hFc hP1 hD1
  generalize H1 = H at hP hS ⊢
  have hP : va_P D vwCl [(h0, .inr (4, [.null, .int 0, .null, .null, .int 0, .null, .int 0, .null, .int 0, .int 0, .int 0]))] H := hP
  have hD : va_D A [(h0, .inr (4, [.null, .int 0, .null, .null, .int 0, .null, .int 0, .null, .int 0, .int 0, .int 0]))] := hD
  clear hPc hDc hFc hP1 hD1 hz1 hk1 hw
  refine lv_aload_n hx hb dX4_init_4 rfl (lv_at hl 0 rfl) ?_
  refine lv_bipush hx hb dX4_init_5 (v := 48) (by decide) ?_
  refine va_newa (atype := .int) (ty := .int) (a0 := (48, .inl (fun _ => 0))) hx hb (hts (.arrayClass .int) (by decide +kernel)) rfl hK hP hD hS hA (fun _ => rfl) (by decide) rfl (Nat.le_of_ble_eq_true rfl) (Nat.le_of_ble_eq_true rfl) (Nat.le_of_ble_eq_true rfl) dX4_init_7 (fun q1 cA H hK1 hP hD hS => ?_)
  obtain rfl : cA = dT 0 := kt_0 hK1
  have hP : va_P D vwCl [(h0, .inr (4, [.null, .int 0, .null, .null, .int 0, .null, .int 0, .null, .int 0, .int 0, .int 0])), (q1, .inl (dT 0, 48, .inl (fun _ => 0)))] H := hP
  have hD : va_D A [(h0, .inr (4, [.null, .int 0, .null, .null, .int 0, .null, .int 0, .null, .int 0, .int 0, .int 0])), (q1, .inl (dT 0, 48, .inl (fun _ => 0)))] := hD
  clear hK1
  refine W.widen (k := 1) (n := 48) (Nat.le_of_ble_eq_true rfl) (Nat.le_of_ble_eq_true rfl) ?_
  refine va_putF (D := D) (ci := 4) (v := .ref q1) (ty := .array .int) (C := RX4) (T := TX4) (N := 11) hx hb hts (by decide +kernel) tyX4 tyX4_ok nmX4 hown hK hP hD hS 0 rfl rfl 0 (by decide) (hts (.fieldLink RX4 11 "LighterAtDusk$Habit" "codes" "[I") (by decide +kernel)) (fun _ h9 => h9) rfl hin rfl (by decide +kernel) rfl rfl (Nat.le_of_ble_eq_true rfl) dX4_init_9 (fun H locs hP hD hS => ?_)
  have hP : va_P D vwCl [(h0, .inr (4, [.ref q1, .int 0, .null, .null, .int 0, .null, .int 0, .null, .int 0, .int 0, .int 0])), (q1, .inl (dT 0, 48, .inl (fun _ => 0)))] H := hP
  have hD : va_D A [(h0, .inr (4, [.ref q1, .int 0, .null, .null, .int 0, .null, .int 0, .null, .int 0, .int 0, .int 0])), (q1, .inl (dT 0, 48, .inl (fun _ => 0)))] := hD
  refine lv_aload_n hx hb dX4_init_12 rfl (lv_at hl 0 rfl) ?_
  refine lv_bipush hx hb dX4_init_13 (v := 48) (by decide) ?_
  refine va_newa (atype := .int) (ty := .int) (a0 := (48, .inl (fun _ => 0))) hx hb (hts (.arrayClass .int) (by decide +kernel)) rfl hK hP hD hS hA (fun _ => rfl) (by decide) rfl (Nat.le_of_ble_eq_true rfl) (Nat.le_of_ble_eq_true rfl) (Nat.le_of_ble_eq_true rfl) dX4_init_15 (fun q2 cA H hK1 hP hD hS => ?_)
  obtain rfl : cA = dT 0 := kt_0 hK1
  have hP : va_P D vwCl [(h0, .inr (4, [.ref q1, .int 0, .null, .null, .int 0, .null, .int 0, .null, .int 0, .int 0, .int 0])), (q1, .inl (dT 0, 48, .inl (fun _ => 0))), (q2, .inl (dT 0, 48, .inl (fun _ => 0)))] H := hP
  have hD : va_D A [(h0, .inr (4, [.ref q1, .int 0, .null, .null, .int 0, .null, .int 0, .null, .int 0, .int 0, .int 0])), (q1, .inl (dT 0, 48, .inl (fun _ => 0))), (q2, .inl (dT 0, 48, .inl (fun _ => 0)))] := hD
  clear hK1
  refine W.widen (k := 2) (n := 96) (Nat.le_of_ble_eq_true rfl) (Nat.le_of_ble_eq_true rfl) ?_
  refine va_putF (D := D) (ci := 4) (v := .ref q2) (ty := .array .int) (C := RX4) (T := TX4) (N := 11) hx hb hts (by decide +kernel) tyX4 tyX4_ok nmX4 hown hK hP hD hS 0 rfl rfl 2 (by decide) (hts (.fieldLink RX4 15 "LighterAtDusk$Habit" "stack" "[I") (by decide +kernel)) (fun _ h9 => h9) rfl hin rfl (by decide +kernel) rfl rfl (Nat.le_of_ble_eq_true rfl) dX4_init_17 (fun H locs hP hD hS => ?_)
  have hP : va_P D vwCl [(h0, .inr (4, [.ref q1, .int 0, .ref q2, .null, .int 0, .null, .int 0, .null, .int 0, .int 0, .int 0])), (q1, .inl (dT 0, 48, .inl (fun _ => 0))), (q2, .inl (dT 0, 48, .inl (fun _ => 0)))] H := hP
  have hD : va_D A [(h0, .inr (4, [.ref q1, .int 0, .ref q2, .null, .int 0, .null, .int 0, .null, .int 0, .int 0, .int 0])), (q1, .inl (dT 0, 48, .inl (fun _ => 0))), (q2, .inl (dT 0, 48, .inl (fun _ => 0)))] := hD
  refine lv_aload_n hx hb dX4_init_20 rfl (lv_at hl 0 rfl) ?_
  refine lv_bipush hx hb dX4_init_21 (v := 48) (by decide) ?_
  refine va_newa (atype := .int) (ty := .int) (a0 := (48, .inl (fun _ => 0))) hx hb (hts (.arrayClass .int) (by decide +kernel)) rfl hK hP hD hS hA (fun _ => rfl) (by decide) rfl (Nat.le_of_ble_eq_true rfl) (Nat.le_of_ble_eq_true rfl) (Nat.le_of_ble_eq_true rfl) dX4_init_23 (fun q3 cA H hK1 hP hD hS => ?_)
  obtain rfl : cA = dT 0 := kt_0 hK1
  have hP : va_P D vwCl [(h0, .inr (4, [.ref q1, .int 0, .ref q2, .null, .int 0, .null, .int 0, .null, .int 0, .int 0, .int 0])), (q1, .inl (dT 0, 48, .inl (fun _ => 0))), (q2, .inl (dT 0, 48, .inl (fun _ => 0))), (q3, .inl (dT 0, 48, .inl (fun _ => 0)))] H := hP
  have hD : va_D A [(h0, .inr (4, [.ref q1, .int 0, .ref q2, .null, .int 0, .null, .int 0, .null, .int 0, .int 0, .int 0])), (q1, .inl (dT 0, 48, .inl (fun _ => 0))), (q2, .inl (dT 0, 48, .inl (fun _ => 0))), (q3, .inl (dT 0, 48, .inl (fun _ => 0)))] := hD
  clear hK1
  refine W.widen (k := 3) (n := 144) (Nat.le_of_ble_eq_true rfl) (Nat.le_of_ble_eq_true rfl) ?_
  refine va_putF (D := D) (ci := 4) (v := .ref q3) (ty := .array .int) (C := RX4) (T := TX4) (N := 11) hx hb hts (by decide +kernel) tyX4 tyX4_ok nmX4 hown hK hP hD hS 0 rfl rfl 3 (by decide) (hts (.fieldLink RX4 18 "LighterAtDusk$Habit" "draft" "[I") (by decide +kernel)) (fun _ h9 => h9) rfl hin rfl (by decide +kernel) rfl rfl (Nat.le_of_ble_eq_true rfl) dX4_init_25 (fun H locs hP hD hS => ?_)
  have hP : va_P D vwCl [(h0, .inr (4, [.ref q1, .int 0, .ref q2, .ref q3, .int 0, .null, .int 0, .null, .int 0, .int 0, .int 0])), (q1, .inl (dT 0, 48, .inl (fun _ => 0))), (q2, .inl (dT 0, 48, .inl (fun _ => 0))), (q3, .inl (dT 0, 48, .inl (fun _ => 0)))] H := hP
  have hD : va_D A [(h0, .inr (4, [.ref q1, .int 0, .ref q2, .ref q3, .int 0, .null, .int 0, .null, .int 0, .int 0, .int 0])), (q1, .inl (dT 0, 48, .inl (fun _ => 0))), (q2, .inl (dT 0, 48, .inl (fun _ => 0))), (q3, .inl (dT 0, 48, .inl (fun _ => 0)))] := hD
  refine lv_aload_n hx hb dX4_init_28 rfl (lv_at hl 0 rfl) ?_
  refine lv_bipush hx hb dX4_init_29 (v := 48) (by decide) ?_
  refine va_newa (atype := .int) (ty := .int) (a0 := (48, .inl (fun _ => 0))) hx hb (hts (.arrayClass .int) (by decide +kernel)) rfl hK hP hD hS hA (fun _ => rfl) (by decide) rfl (Nat.le_of_ble_eq_true rfl) (Nat.le_of_ble_eq_true rfl) (Nat.le_of_ble_eq_true rfl) dX4_init_31 (fun q4 cA H hK1 hP hD hS => ?_)
  obtain rfl : cA = dT 0 := kt_0 hK1
  have hP : va_P D vwCl [(h0, .inr (4, [.ref q1, .int 0, .ref q2, .ref q3, .int 0, .null, .int 0, .null, .int 0, .int 0, .int 0])), (q1, .inl (dT 0, 48, .inl (fun _ => 0))), (q2, .inl (dT 0, 48, .inl (fun _ => 0))), (q3, .inl (dT 0, 48, .inl (fun _ => 0))), (q4, .inl (dT 0, 48, .inl (fun _ => 0)))] H := hP
  have hD : va_D A [(h0, .inr (4, [.ref q1, .int 0, .ref q2, .ref q3, .int 0, .null, .int 0, .null, .int 0, .int 0, .int 0])), (q1, .inl (dT 0, 48, .inl (fun _ => 0))), (q2, .inl (dT 0, 48, .inl (fun _ => 0))), (q3, .inl (dT 0, 48, .inl (fun _ => 0))), (q4, .inl (dT 0, 48, .inl (fun _ => 0)))] := hD
  clear hK1
  refine W.widen (k := 4) (n := 192) (Nat.le_of_ble_eq_true rfl) (Nat.le_of_ble_eq_true rfl) ?_
  refine va_putF (D := D) (ci := 4) (v := .ref q4) (ty := .array .int) (C := RX4) (T := TX4) (N := 11) hx hb hts (by decide +kernel) tyX4 tyX4_ok nmX4 hown hK hP hD hS 0 rfl rfl 5 (by decide) (hts (.fieldLink RX4 21 "LighterAtDusk$Habit" "waiting" "[I") (by decide +kernel)) (fun _ h9 => h9) rfl hin rfl (by decide +kernel) rfl rfl (Nat.le_of_ble_eq_true rfl) dX4_init_33 (fun H locs hP hD hS => ?_)
  have hP : va_P D vwCl [(h0, .inr (4, [.ref q1, .int 0, .ref q2, .ref q3, .int 0, .ref q4, .int 0, .null, .int 0, .int 0, .int 0])), (q1, .inl (dT 0, 48, .inl (fun _ => 0))), (q2, .inl (dT 0, 48, .inl (fun _ => 0))), (q3, .inl (dT 0, 48, .inl (fun _ => 0))), (q4, .inl (dT 0, 48, .inl (fun _ => 0)))] H := hP
  have hD : va_D A [(h0, .inr (4, [.ref q1, .int 0, .ref q2, .ref q3, .int 0, .ref q4, .int 0, .null, .int 0, .int 0, .int 0])), (q1, .inl (dT 0, 48, .inl (fun _ => 0))), (q2, .inl (dT 0, 48, .inl (fun _ => 0))), (q3, .inl (dT 0, 48, .inl (fun _ => 0))), (q4, .inl (dT 0, 48, .inl (fun _ => 0)))] := hD
  refine lv_aload_n hx hb dX4_init_36 rfl (lv_at hl 0 rfl) ?_
  refine lv_iconst hx hb dX4_init_37 (v := 5) (by decide) ?_
  refine va_newa (atype := .boolean) (ty := .boolean) (a0 := (5, .inl (fun _ => 0))) hx hb (hts (.arrayClass .boolean) (by decide +kernel)) rfl hK hP hD hS hA (fun _ => rfl) (by decide) rfl (Nat.le_of_ble_eq_true rfl) (Nat.le_of_ble_eq_true rfl) (Nat.le_of_ble_eq_true rfl) dX4_init_38 (fun q5 cA H hK1 hP hD hS => ?_)
  obtain rfl : cA = dT 3 := kt_3 hK1
  have hP : va_P D vwCl [(h0, .inr (4, [.ref q1, .int 0, .ref q2, .ref q3, .int 0, .ref q4, .int 0, .null, .int 0, .int 0, .int 0])), (q1, .inl (dT 0, 48, .inl (fun _ => 0))), (q2, .inl (dT 0, 48, .inl (fun _ => 0))), (q3, .inl (dT 0, 48, .inl (fun _ => 0))), (q4, .inl (dT 0, 48, .inl (fun _ => 0))), (q5, .inl (dT 3, 5, .inl (fun _ => 0)))] H := hP
  have hD : va_D A [(h0, .inr (4, [.ref q1, .int 0, .ref q2, .ref q3, .int 0, .ref q4, .int 0, .null, .int 0, .int 0, .int 0])), (q1, .inl (dT 0, 48, .inl (fun _ => 0))), (q2, .inl (dT 0, 48, .inl (fun _ => 0))), (q3, .inl (dT 0, 48, .inl (fun _ => 0))), (q4, .inl (dT 0, 48, .inl (fun _ => 0))), (q5, .inl (dT 3, 5, .inl (fun _ => 0)))] := hD
  clear hK1
  refine W.widen (k := 5) (n := 197) (Nat.le_of_ble_eq_true rfl) (Nat.le_of_ble_eq_true rfl) ?_
  refine va_putF (D := D) (ci := 4) (v := .ref q5) (ty := .array .boolean) (C := RX4) (T := TX4) (N := 11) hx hb hts (by decide +kernel) tyX4 tyX4_ok nmX4 hown hK hP hD hS 0 rfl rfl 7 (by decide) (hts (.fieldLink RX4 24 "LighterAtDusk$Habit" "compared" "[Z") (by decide +kernel)) (fun _ h9 => h9) rfl hin rfl (by decide +kernel) rfl rfl (Nat.le_of_ble_eq_true rfl) dX4_init_40 (fun H locs hP hD hS => ?_)
  have hP : va_P D vwCl [(h0, .inr (4, [.ref q1, .int 0, .ref q2, .ref q3, .int 0, .ref q4, .int 0, .ref q5, .int 0, .int 0, .int 0])), (q1, .inl (dT 0, 48, .inl (fun _ => 0))), (q2, .inl (dT 0, 48, .inl (fun _ => 0))), (q3, .inl (dT 0, 48, .inl (fun _ => 0))), (q4, .inl (dT 0, 48, .inl (fun _ => 0))), (q5, .inl (dT 3, 5, .inl (fun _ => 0)))] H := hP
  have hD : va_D A [(h0, .inr (4, [.ref q1, .int 0, .ref q2, .ref q3, .int 0, .ref q4, .int 0, .ref q5, .int 0, .int 0, .int 0])), (q1, .inl (dT 0, 48, .inl (fun _ => 0))), (q2, .inl (dT 0, 48, .inl (fun _ => 0))), (q3, .inl (dT 0, 48, .inl (fun _ => 0))), (q4, .inl (dT 0, 48, .inl (fun _ => 0))), (q5, .inl (dT 3, 5, .inl (fun _ => 0)))] := hD
  exact W.vret hx hb hr (fun t ht hW => ⟨⟨(), rfl, trivial, q1, q2, q3, q4, q5, by rw [ht]; exact hP, hD⟩, hS.F ht⟩) hS.2.2 dX4_init_43
def wsX0_init : List Cond := .code yX0_init cX0_init 1 none :: ([.methodLink RX0 3 objectInit, .instanceMethod objectInit, .code objectInit ⟨#[0xb1]⟩ 1 none, .arrayClass .int, .fieldLink RX0 9 "LighterAtDusk$Crowd" "bases" "[I", .classLink RX0 15 RX4, .instantiable RX4 11, .initialized RX4, .fieldLink RX0 18 "LighterAtDusk$Crowd" "habit" "LLighterAtDusk$Habit;", .fieldLink RX0 22 "LighterAtDusk$Crowd" "sums" "[I", .instanceMethod yX4_init, .code yX4_init cX4_init 1 none, .fieldLink RX4 11 "LighterAtDusk$Habit" "codes" "[I", .fieldLink RX4 15 "LighterAtDusk$Habit" "stack" "[I", .fieldLink RX4 18 "LighterAtDusk$Habit" "draft" "[I", .fieldLink RX4 21 "LighterAtDusk$Habit" "waiting" "[I", .arrayClass .boolean, .fieldLink RX4 24 "LighterAtDusk$Habit" "compared" "[Z", .instanceMethod yX5_init, .initialized RX5, .code yX5_init cX5_init 1 none, .methodLink RX5 1 objectInit] ++ wsX00 ++ wsX40)
set_option maxRecDepth 20000 in
theorem ggX0_init_X4_init : GoodIn wsX0_init wsX4_init := goodIn_r _ [12, 4, 13, 14, 15, 16, 17, 18, 19, 20, 21, 22, 2, 3, 28, 29, 30, 31, 32, 33, 34, 35, 36, 37, 38] (by decide +kernel) (by decide +kernel)
theorem dX0_init_0 : decode cX0_init 0 = .ok (.aload_n 0, 1) := by decide +kernel
theorem dX0_init_1 : decode cX0_init 1 = .ok (.invokespecial 3, 3) := by decide +kernel
theorem dX0_init_4 : decode cX0_init 4 = .ok (.aload_n 0, 1) := by decide +kernel
theorem dX0_init_5 : decode cX0_init 5 = .ok (.bipush 9, 2) := by decide +kernel
theorem dX0_init_7 : decode cX0_init 7 = .ok (.newarray .int, 2) := by decide +kernel
theorem dX0_init_9 : decode cX0_init 9 = .ok (.putfield 9, 3) := by decide +kernel
theorem dX0_init_12 : decode cX0_init 12 = .ok (.aload_n 0, 1) := by decide +kernel
theorem dX0_init_13 : decode cX0_init 13 = .ok (.new 15, 3) := by decide +kernel
theorem dX0_init_16 : decode cX0_init 16 = .ok (.dup, 1) := by decide +kernel
theorem dX0_init_17 : decode cX0_init 17 = .ok (.invokespecial 17, 3) := by decide +kernel
theorem dX0_init_20 : decode cX0_init 20 = .ok (.putfield 18, 3) := by decide +kernel
theorem dX0_init_23 : decode cX0_init 23 = .ok (.aload_n 0, 1) := by decide +kernel
theorem dX0_init_24 : decode cX0_init 24 = .ok (.sipush 512, 3) := by decide +kernel
theorem dX0_init_27 : decode cX0_init 27 = .ok (.newarray .int, 2) := by decide +kernel
theorem dX0_init_29 : decode cX0_init 29 = .ok (.putfield 22, 3) := by decide +kernel
theorem dX0_init_32 : decode cX0_init 32 = .ok (.return_, 1) := by decide +kernel
set_option maxHeartbeats 4000000 in
set_option maxRecDepth 100000 in
theorem kX0_init (l : Launch) (D : va_G) (dT : Nat → ClassId) (h0 sz : Nat) : Met l yX0_init wsX0_init ({ frames := 3, cells := 8, slots := 729, locals := 52 }) (va_Pc [.ref h0] (fun U => U.heap.size = sz ∧ va_P D vwCl [(h0, .inr (0, [.int 0, .int 0, .null, .null, .null]))] U.heap ∧ va_K D vwCl (rh_tys dT) U ∧ va_D (fun _ => True) [(h0, .inr (0, [.int 0, .int 0, .null, .null, .null]))] ∧ ∀ w ∈ kn_ws, va_Nw w U)) (va_Qv (fun _ : Unit => True) (fun _ t => ∃ q1 q2 q3 q4 q5 q6 q7 q8 : Nat, va_P D vwCl [(h0, .inr (0, [.int 0, .int 0, .ref q1, .ref q2, .ref q8])), (q1, .inl (dT 0, 9, .inl (fun _ => 0))), (q2, .inr (4, [.ref q3, .int 0, .ref q4, .ref q5, .int 0, .ref q6, .int 0, .ref q7, .int 0, .int 0, .int 0])), (q3, .inl (dT 0, 48, .inl (fun _ => 0))), (q4, .inl (dT 0, 48, .inl (fun _ => 0))), (q5, .inl (dT 0, 48, .inl (fun _ => 0))), (q6, .inl (dT 0, 48, .inl (fun _ => 0))), (q7, .inl (dT 3, 5, .inl (fun _ => 0))), (q8, .inl (dT 0, 512, .inl (fun _ => 0)))] t.heap ∧ va_D (va_A [(h0, .inr (0, [.int 0, .int 0, .null, .null, .null]))] sz) [(h0, .inr (0, [.int 0, .int 0, .ref q1, .ref q2, .ref q8])), (q1, .inl (dT 0, 9, .inl (fun _ => 0))), (q2, .inr (4, [.ref q3, .int 0, .ref q4, .ref q5, .int 0, .ref q6, .int 0, .ref q7, .int 0, .int 0, .int 0])), (q3, .inl (dT 0, 48, .inl (fun _ => 0))), (q4, .inl (dT 0, 48, .inl (fun _ => 0))), (q5, .inl (dT 0, 48, .inl (fun _ => 0))), (q6, .inl (dT 0, 48, .inl (fun _ => 0))), (q7, .inl (dT 3, 5, .inl (fun _ => 0))), (q8, .inl (dT 0, 512, .inl (fun _ => 0)))]) (va_A [(h0, .inr (0, [.int 0, .int 0, .null, .null, .null]))] sz)) 8 729 (va_A [(h0, .inr (0, [.int 0, .int 0, .null, .null, .null]))] sz) := by
  refine Met.ofW (cc := cX0_init) (maxL := 1) (ret := none) (by decide) rfl ?_
  intro p e s m args below meth c s₁ B hml hv
  obtain ⟨rfl, hsz, hP, hK, hD0, hN⟩ := hv
  have hx := B.exec
  have hb := B.bytes
  have hr := B.returns
  have hts := atoms_spec (ws := wsX0_init) B.pre
  have hown : s.vm.findClass RX0 = some m.cls := findClass_of_methodNamed B.named
  have hin : meth.name = "<init>" := (name_of_methodNamed B.named B.method).1
  subst hsz
  have hD := hD0.self (sz := s.heap.size)
  generalize hAe : va_A [(h0, .inr (0, [.int 0, .int 0, .null, .null, .null]))] s.heap.size = A at hD ⊢
  have hA : ∀ q : Nat, s.heap.size ≤ q → A q := fun q h => by rw [← hAe]; exact Or.inr h
  have hS : va_S A s.heap s.heap [] := va_S.rf
  have hP : va_P D vwCl [(h0, .inr (0, [.int 0, .int 0, .null, .null, .null]))] s.heap := hP
  have hl := lv_entry ([.ref h0]) (n := 1) (Nat.le_of_ble_eq_true rfl)
  rw [lg_entry_eq]
  generalize (lg_sl ([.ref h0]) ++ List.replicate (1 - (lg_sl ([.ref h0])).length) Slot.unset).toArray = ls at hl ⊢
  have hl : lv_has ls 1 [(0, .ref h0)] := hl
  refine lv_aload_n hx hb dX0_init_0 rfl (lv_at hl 0 rfl) ?_
  refine W.objInit hx hb hown (hts (.methodLink RX0 3 objectInit) (by decide +kernel)) (hts (.instanceMethod objectInit) (by decide +kernel)) (hts _ (List.mem_cons_of_mem _ (List.mem_append_left _ (List.mem_of_getElem? (i := 2) rfl)))) rfl (by rw [hml]; exact hl.1) rfl dX0_init_1 (Nat.le_of_ble_eq_true rfl) (Nat.le_of_ble_eq_true rfl) ?_
  refine W.eq (g2 := F0 m 4 ls []) rfl ?_
  refine lv_aload_n hx hb dX0_init_4 rfl (lv_at hl 0 rfl) ?_
  refine lv_bipush hx hb dX0_init_5 (v := 9) (by decide) ?_
  refine va_newa (atype := .int) (ty := .int) (a0 := (9, .inl (fun _ => 0))) hx hb (hts (.arrayClass .int) (by decide +kernel)) rfl hK hP hD hS hA (fun _ => rfl) (by decide) rfl (Nat.le_of_ble_eq_true rfl) (Nat.le_of_ble_eq_true rfl) (Nat.le_of_ble_eq_true rfl) dX0_init_7 (fun q1 cA H hK1 hP hD hS => ?_)
  obtain rfl : cA = dT 0 := kt_0 hK1
  have hP : va_P D vwCl [(h0, .inr (0, [.int 0, .int 0, .null, .null, .null])), (q1, .inl (dT 0, 9, .inl (fun _ => 0)))] H := hP
  have hD : va_D A [(h0, .inr (0, [.int 0, .int 0, .null, .null, .null])), (q1, .inl (dT 0, 9, .inl (fun _ => 0)))] := hD
  clear hK1
  refine W.widen (k := 1) (n := 9) (Nat.le_of_ble_eq_true rfl) (Nat.le_of_ble_eq_true rfl) ?_
  refine va_putF (D := D) (ci := 0) (v := .ref q1) (ty := .array .int) (C := RX0) (T := TX0) (N := 5) hx hb hts (by decide +kernel) tyX0 tyX0_ok nmX0 hown hK hP hD hS 0 rfl rfl 2 (by decide) (hts (.fieldLink RX0 9 "LighterAtDusk$Crowd" "bases" "[I") (by decide +kernel)) (fun _ h9 => h9) rfl hin rfl (by decide +kernel) rfl rfl (Nat.le_of_ble_eq_true rfl) dX0_init_9 (fun H locs hP hD hS => ?_)
  have hP : va_P D vwCl [(h0, .inr (0, [.int 0, .int 0, .ref q1, .null, .null])), (q1, .inl (dT 0, 9, .inl (fun _ => 0)))] H := hP
  have hD : va_D A [(h0, .inr (0, [.int 0, .int 0, .ref q1, .null, .null])), (q1, .inl (dT 0, 9, .inl (fun _ => 0)))] := hD
  refine lv_aload_n hx hb dX0_init_12 rfl (lv_at hl 0 rfl) ?_
  refine va_new (ci := 4) (fs := [.null, .int 0, .null, .null, .int 0, .null, .int 0, .null, .int 0, .int 0, .int 0]) (C := RX4) (T := TX4) (N := 11) hx hb hts (by decide +kernel) tyX4 tyX4_ok hown (hts (.classLink RX0 15 RX4) (by decide +kernel)) (hts (.instantiable RX4 11) (by decide +kernel)) (hts (.initialized RX4) (by decide +kernel)) hK hP hD hS hA rfl (fun j hj => by rcases (show j = 0 ∨ j = 1 ∨ j = 2 ∨ j = 3 ∨ j = 4 ∨ j = 5 ∨ j = 6 ∨ j = 7 ∨ j = 8 ∨ j = 9 ∨ j = 10 by omega) with rfl | rfl | rfl | rfl | rfl | rfl | rfl | rfl | rfl | rfl | rfl <;> rfl) (Nat.le_of_ble_eq_true rfl) (Nat.le_of_ble_eq_true rfl) dX0_init_13 (fun q2 H hP hD hS => ?_)
  have hP : va_P D vwCl [(h0, .inr (0, [.int 0, .int 0, .ref q1, .null, .null])), (q1, .inl (dT 0, 9, .inl (fun _ => 0))), (q2, .inr (4, [.null, .int 0, .null, .null, .int 0, .null, .int 0, .null, .int 0, .int 0, .int 0]))] H := hP
  have hD : va_D A [(h0, .inr (0, [.int 0, .int 0, .ref q1, .null, .null])), (q1, .inl (dT 0, 9, .inl (fun _ => 0))), (q2, .inr (4, [.null, .int 0, .null, .null, .int 0, .null, .int 0, .null, .int 0, .int 0, .int 0]))] := hD
  refine W.widen (k := 2) (n := 20) (Nat.le_of_ble_eq_true rfl) (Nat.le_of_ble_eq_true rfl) ?_
  refine lv_dup hx hb dX0_init_16 rfl ?_
  have hPc := hP.sub (ws' := [(q2, .inr (4, [.null, .int 0, .null, .null, .int 0, .null, .int 0, .null, .int 0, .int 0, .int 0]))]) [2] rfl
  have hDc := hD.sub (ws' := [(q2, .inr (4, [.null, .int 0, .null, .null, .int 0, .null, .int 0, .null, .int 0, .int 0, .int 0]))]) [2] (by decide) rfl
  have hFc := va_free (wc := [(q2, .inr (4, [.null, .int 0, .null, .null, .int 0, .null, .int 0, .null, .int 0, .int 0, .int 0]))]) hD hS hA [2] rfl
  refine va_callv (va_runIN (As := []) (rest := [.ref q2, .ref h0]) ⟨hx, hb, hml, hown, hts⟩ (kX4_init l D dT q2 H.size) ⟨va_cnB 0 hts ggX0_init_X4_init rfl rfl rfl (hN (.methodLinkNest RX0 17 yX4_init RX11) (by decide +kernel)) (hts (.initialized RX4) (by decide +kernel)) (by decide +kernel) ⟨Nat.le_of_ble_eq_true rfl, Nat.le_of_ble_eq_true rfl⟩, rfl, (hts (.instanceMethod yX4_init) (by decide +kernel))⟩ ⟨fun a U g mk q => by obtain ⟨q0, q1, qP, qK, qD, qN⟩ := q; exact ⟨q0, q1, qP, va_K.moved (u := U) (U := U.calling g mk a) (Vm.Alike.refl U.vm) qK, qD, kn_same (u := U) (U := U.calling g mk a) rfl qN⟩, fun U hU hW => ⟨rfl, by rw [hU], by rw [hU]; exact hPc, va_K.moved hW.alike hK, hDc.weaken (fun _ _ _ _ => trivial), kn_warm hW hN⟩⟩ rfl rfl hl.1 rfl (lv_room (Nat.le_of_ble_eq_true rfl)) dX0_init_17 ⟨Nat.le_of_ble_eq_true rfl, Nat.le_of_ble_eq_true rfl⟩) hS (fun q _ h => hFc q h) hFc (fun u t H1 locs ht hvm hw hB hz1 hk1 hS => ?_)
  obtain ⟨q3, q4, q5, q6, q7, hP1, hD1⟩ := hB
  rw [ht] at hP1
  obtain ⟨hP, hD⟩ := va_join (wr := [(h0, .inr (0, [.int 0, .int 0, .ref q1, .null, .null])), (q1, .inl (dT 0, 9, .inl (fun _ => 0)))]) (w1 := [(q2, .inr (4, [.ref q3, .int 0, .ref q4, .ref q5, .int 0, .ref q6, .int 0, .ref q7, .int 0, .int 0, .int 0])), (q3, .inl (dT 0, 48, .inl (fun _ => 0))), (q4, .inl (dT 0, 48, .inl (fun _ => 0))), (q5, .inl (dT 0, 48, .inl (fun _ => 0))), (q6, .inl (dT 0, 48, .inl (fun _ => 0))), (q7, .inl (dT 3, 5, .inl (fun _ => 0)))]) hP hD [2] [0, 1] rfl rfl (by decide) (by decide) hk1 hFc hP1 hD1
  generalize H1 = H at hP hS ⊢
  have hP : va_P D vwCl [(h0, .inr (0, [.int 0, .int 0, .ref q1, .null, .null])), (q1, .inl (dT 0, 9, .inl (fun _ => 0))), (q2, .inr (4, [.ref q3, .int 0, .ref q4, .ref q5, .int 0, .ref q6, .int 0, .ref q7, .int 0, .int 0, .int 0])), (q3, .inl (dT 0, 48, .inl (fun _ => 0))), (q4, .inl (dT 0, 48, .inl (fun _ => 0))), (q5, .inl (dT 0, 48, .inl (fun _ => 0))), (q6, .inl (dT 0, 48, .inl (fun _ => 0))), (q7, .inl (dT 3, 5, .inl (fun _ => 0)))] H := hP
  have hD : va_D A [(h0, .inr (0, [.int 0, .int 0, .ref q1, .null, .null])), (q1, .inl (dT 0, 9, .inl (fun _ => 0))), (q2, .inr (4, [.ref q3, .int 0, .ref q4, .ref q5, .int 0, .ref q6, .int 0, .ref q7, .int 0, .int 0, .int 0])), (q3, .inl (dT 0, 48, .inl (fun _ => 0))), (q4, .inl (dT 0, 48, .inl (fun _ => 0))), (q5, .inl (dT 0, 48, .inl (fun _ => 0))), (q6, .inl (dT 0, 48, .inl (fun _ => 0))), (q7, .inl (dT 3, 5, .inl (fun _ => 0)))] := hD
  clear hPc hDc hFc hP1 hD1 hz1 hk1 hw
  refine W.widen (k := 7) (n := 217) (Nat.le_of_ble_eq_true rfl) (Nat.le_of_ble_eq_true rfl) ?_
  refine va_putF (D := D) (ci := 0) (v := .ref q2) (ty := .object "LighterAtDusk$Habit") (C := RX0) (T := TX0) (N := 5) hx hb hts (by decide +kernel) tyX0 tyX0_ok nmX0 hown hK hP hD hS 0 rfl rfl 3 (by decide) (hts (.fieldLink RX0 18 "LighterAtDusk$Crowd" "habit" "LLighterAtDusk$Habit;") (by decide +kernel)) (fun _ h9 => h9) rfl hin rfl (by decide +kernel) rfl rfl (Nat.le_of_ble_eq_true rfl) dX0_init_20 (fun H locs hP hD hS => ?_)
  have hP : va_P D vwCl [(h0, .inr (0, [.int 0, .int 0, .ref q1, .ref q2, .null])), (q1, .inl (dT 0, 9, .inl (fun _ => 0))), (q2, .inr (4, [.ref q3, .int 0, .ref q4, .ref q5, .int 0, .ref q6, .int 0, .ref q7, .int 0, .int 0, .int 0])), (q3, .inl (dT 0, 48, .inl (fun _ => 0))), (q4, .inl (dT 0, 48, .inl (fun _ => 0))), (q5, .inl (dT 0, 48, .inl (fun _ => 0))), (q6, .inl (dT 0, 48, .inl (fun _ => 0))), (q7, .inl (dT 3, 5, .inl (fun _ => 0)))] H := hP
  have hD : va_D A [(h0, .inr (0, [.int 0, .int 0, .ref q1, .ref q2, .null])), (q1, .inl (dT 0, 9, .inl (fun _ => 0))), (q2, .inr (4, [.ref q3, .int 0, .ref q4, .ref q5, .int 0, .ref q6, .int 0, .ref q7, .int 0, .int 0, .int 0])), (q3, .inl (dT 0, 48, .inl (fun _ => 0))), (q4, .inl (dT 0, 48, .inl (fun _ => 0))), (q5, .inl (dT 0, 48, .inl (fun _ => 0))), (q6, .inl (dT 0, 48, .inl (fun _ => 0))), (q7, .inl (dT 3, 5, .inl (fun _ => 0)))] := hD
  refine lv_aload_n hx hb dX0_init_23 rfl (lv_at hl 0 rfl) ?_
  refine lv_sipush hx hb dX0_init_24 (v := 512) (by decide) ?_
  refine va_newa (atype := .int) (ty := .int) (a0 := (512, .inl (fun _ => 0))) hx hb (hts (.arrayClass .int) (by decide +kernel)) rfl hK hP hD hS hA (fun _ => rfl) (by decide) rfl (Nat.le_of_ble_eq_true rfl) (Nat.le_of_ble_eq_true rfl) (Nat.le_of_ble_eq_true rfl) dX0_init_27 (fun q8 cA H hK1 hP hD hS => ?_)
  obtain rfl : cA = dT 0 := kt_0 hK1
  have hP : va_P D vwCl [(h0, .inr (0, [.int 0, .int 0, .ref q1, .ref q2, .null])), (q1, .inl (dT 0, 9, .inl (fun _ => 0))), (q2, .inr (4, [.ref q3, .int 0, .ref q4, .ref q5, .int 0, .ref q6, .int 0, .ref q7, .int 0, .int 0, .int 0])), (q3, .inl (dT 0, 48, .inl (fun _ => 0))), (q4, .inl (dT 0, 48, .inl (fun _ => 0))), (q5, .inl (dT 0, 48, .inl (fun _ => 0))), (q6, .inl (dT 0, 48, .inl (fun _ => 0))), (q7, .inl (dT 3, 5, .inl (fun _ => 0))), (q8, .inl (dT 0, 512, .inl (fun _ => 0)))] H := hP
  have hD : va_D A [(h0, .inr (0, [.int 0, .int 0, .ref q1, .ref q2, .null])), (q1, .inl (dT 0, 9, .inl (fun _ => 0))), (q2, .inr (4, [.ref q3, .int 0, .ref q4, .ref q5, .int 0, .ref q6, .int 0, .ref q7, .int 0, .int 0, .int 0])), (q3, .inl (dT 0, 48, .inl (fun _ => 0))), (q4, .inl (dT 0, 48, .inl (fun _ => 0))), (q5, .inl (dT 0, 48, .inl (fun _ => 0))), (q6, .inl (dT 0, 48, .inl (fun _ => 0))), (q7, .inl (dT 3, 5, .inl (fun _ => 0))), (q8, .inl (dT 0, 512, .inl (fun _ => 0)))] := hD
  clear hK1
  refine W.widen (k := 8) (n := 729) (Nat.le_of_ble_eq_true rfl) (Nat.le_of_ble_eq_true rfl) ?_
  refine va_putF (D := D) (ci := 0) (v := .ref q8) (ty := .array .int) (C := RX0) (T := TX0) (N := 5) hx hb hts (by decide +kernel) tyX0 tyX0_ok nmX0 hown hK hP hD hS 0 rfl rfl 4 (by decide) (hts (.fieldLink RX0 22 "LighterAtDusk$Crowd" "sums" "[I") (by decide +kernel)) (fun _ h9 => h9) rfl hin rfl (by decide +kernel) rfl rfl (Nat.le_of_ble_eq_true rfl) dX0_init_29 (fun H locs hP hD hS => ?_)
  have hP : va_P D vwCl [(h0, .inr (0, [.int 0, .int 0, .ref q1, .ref q2, .ref q8])), (q1, .inl (dT 0, 9, .inl (fun _ => 0))), (q2, .inr (4, [.ref q3, .int 0, .ref q4, .ref q5, .int 0, .ref q6, .int 0, .ref q7, .int 0, .int 0, .int 0])), (q3, .inl (dT 0, 48, .inl (fun _ => 0))), (q4, .inl (dT 0, 48, .inl (fun _ => 0))), (q5, .inl (dT 0, 48, .inl (fun _ => 0))), (q6, .inl (dT 0, 48, .inl (fun _ => 0))), (q7, .inl (dT 3, 5, .inl (fun _ => 0))), (q8, .inl (dT 0, 512, .inl (fun _ => 0)))] H := hP
  have hD : va_D A [(h0, .inr (0, [.int 0, .int 0, .ref q1, .ref q2, .ref q8])), (q1, .inl (dT 0, 9, .inl (fun _ => 0))), (q2, .inr (4, [.ref q3, .int 0, .ref q4, .ref q5, .int 0, .ref q6, .int 0, .ref q7, .int 0, .int 0, .int 0])), (q3, .inl (dT 0, 48, .inl (fun _ => 0))), (q4, .inl (dT 0, 48, .inl (fun _ => 0))), (q5, .inl (dT 0, 48, .inl (fun _ => 0))), (q6, .inl (dT 0, 48, .inl (fun _ => 0))), (q7, .inl (dT 3, 5, .inl (fun _ => 0))), (q8, .inl (dT 0, 512, .inl (fun _ => 0)))] := hD
  exact W.vret hx hb hr (fun t ht hW => ⟨⟨(), rfl, trivial, q1, q2, q3, q4, q5, q6, q7, q8, by rw [ht]; exact hP, hD⟩, hS.F ht⟩) hS.2.2 dX0_init_32
def wsX2_init : List Cond := .code yX2_init cX2_init 2 none :: ([.methodLink RX2 3 objectInit, .instanceMethod objectInit, .code objectInit ⟨#[0xb1]⟩ 1 none, .arrayClass .int, .fieldLink RX2 9 "LighterAtDusk$Deck" "places" "[I", .fieldLink RX2 15 "LighterAtDusk$Deck" "marked" "[I", .fieldLink RX2 18 "LighterAtDusk$Deck" "past" "[I", .fieldLink RX2 21 "LighterAtDusk$Deck" "kept" "[I", .arrayClass .boolean, .fieldLink RX2 24 "LighterAtDusk$Deck" "isKept" "[Z", .fieldLink RX2 28 "LighterAtDusk$Deck" "crowd" "LLighterAtDusk$Crowd;"] ++ wsX20)
theorem dX2_init_0 : decode cX2_init 0 = .ok (.aload_n 0, 1) := by decide +kernel
theorem dX2_init_1 : decode cX2_init 1 = .ok (.invokespecial 3, 3) := by decide +kernel
theorem dX2_init_4 : decode cX2_init 4 = .ok (.aload_n 0, 1) := by decide +kernel
theorem dX2_init_5 : decode cX2_init 5 = .ok (.bipush 9, 2) := by decide +kernel
theorem dX2_init_7 : decode cX2_init 7 = .ok (.newarray .int, 2) := by decide +kernel
theorem dX2_init_9 : decode cX2_init 9 = .ok (.putfield 9, 3) := by decide +kernel
theorem dX2_init_12 : decode cX2_init 12 = .ok (.aload_n 0, 1) := by decide +kernel
theorem dX2_init_13 : decode cX2_init 13 = .ok (.bipush 11, 2) := by decide +kernel
theorem dX2_init_15 : decode cX2_init 15 = .ok (.newarray .int, 2) := by decide +kernel
theorem dX2_init_17 : decode cX2_init 17 = .ok (.putfield 15, 3) := by decide +kernel
theorem dX2_init_20 : decode cX2_init 20 = .ok (.aload_n 0, 1) := by decide +kernel
theorem dX2_init_21 : decode cX2_init 21 = .ok (.sipush 132, 3) := by decide +kernel
theorem dX2_init_24 : decode cX2_init 24 = .ok (.newarray .int, 2) := by decide +kernel
theorem dX2_init_26 : decode cX2_init 26 = .ok (.putfield 18, 3) := by decide +kernel
theorem dX2_init_29 : decode cX2_init 29 = .ok (.aload_n 0, 1) := by decide +kernel
theorem dX2_init_30 : decode cX2_init 30 = .ok (.bipush 22, 2) := by decide +kernel
theorem dX2_init_32 : decode cX2_init 32 = .ok (.newarray .int, 2) := by decide +kernel
theorem dX2_init_34 : decode cX2_init 34 = .ok (.putfield 21, 3) := by decide +kernel
theorem dX2_init_37 : decode cX2_init 37 = .ok (.aload_n 0, 1) := by decide +kernel
theorem dX2_init_38 : decode cX2_init 38 = .ok (.iconst 2, 1) := by decide +kernel
theorem dX2_init_39 : decode cX2_init 39 = .ok (.newarray .boolean, 2) := by decide +kernel
theorem dX2_init_41 : decode cX2_init 41 = .ok (.putfield 24, 3) := by decide +kernel
theorem dX2_init_44 : decode cX2_init 44 = .ok (.aload_n 0, 1) := by decide +kernel
theorem dX2_init_45 : decode cX2_init 45 = .ok (.aload_n 1, 1) := by decide +kernel
theorem dX2_init_46 : decode cX2_init 46 = .ok (.putfield 28, 3) := by decide +kernel
theorem dX2_init_49 : decode cX2_init 49 = .ok (.return_, 1) := by decide +kernel
set_option maxHeartbeats 4000000 in
set_option maxRecDepth 100000 in
theorem kX2_init (l : Launch) (D : va_G) (dT : Nat → ClassId) (h0 h1 sz : Nat) : Met l yX2_init wsX2_init ({ frames := 1, cells := 5, slots := 176, locals := 12 }) (va_Pc [.ref h0, .ref h1] (fun U => U.heap.size = sz ∧ va_P D vwCl [(h0, .inr (2, [.null, .int 0, .int 0, .null, .null, .null, .int 0, .null, .null]))] U.heap ∧ va_K D vwCl (rh_tys dT) U ∧ va_D (fun _ => True) [(h0, .inr (2, [.null, .int 0, .int 0, .null, .null, .null, .int 0, .null, .null]))] ∧ ∀ w ∈ kn_ws, va_Nw w U)) (va_Qv (fun _ : Unit => True) (fun _ t => ∃ q1 q2 q3 q4 q5 : Nat, va_P D vwCl [(h0, .inr (2, [.ref h1, .int 0, .int 0, .ref q1, .ref q2, .ref q3, .int 0, .ref q4, .ref q5])), (q1, .inl (dT 0, 9, .inl (fun _ => 0))), (q2, .inl (dT 0, 11, .inl (fun _ => 0))), (q3, .inl (dT 0, 132, .inl (fun _ => 0))), (q4, .inl (dT 0, 22, .inl (fun _ => 0))), (q5, .inl (dT 3, 2, .inl (fun _ => 0)))] t.heap ∧ va_D (va_A [(h0, .inr (2, [.null, .int 0, .int 0, .null, .null, .null, .int 0, .null, .null]))] sz) [(h0, .inr (2, [.ref h1, .int 0, .int 0, .ref q1, .ref q2, .ref q3, .int 0, .ref q4, .ref q5])), (q1, .inl (dT 0, 9, .inl (fun _ => 0))), (q2, .inl (dT 0, 11, .inl (fun _ => 0))), (q3, .inl (dT 0, 132, .inl (fun _ => 0))), (q4, .inl (dT 0, 22, .inl (fun _ => 0))), (q5, .inl (dT 3, 2, .inl (fun _ => 0)))]) (va_A [(h0, .inr (2, [.null, .int 0, .int 0, .null, .null, .null, .int 0, .null, .null]))] sz)) 5 176 (va_A [(h0, .inr (2, [.null, .int 0, .int 0, .null, .null, .null, .int 0, .null, .null]))] sz) := by
  refine Met.ofW (cc := cX2_init) (maxL := 2) (ret := none) (by decide) rfl ?_
  intro p e s m args below meth c s₁ B hml hv
  obtain ⟨rfl, hsz, hP, hK, hD0, hN⟩ := hv
  have hx := B.exec
  have hb := B.bytes
  have hr := B.returns
  have hts := atoms_spec (ws := wsX2_init) B.pre
  have hown : s.vm.findClass RX2 = some m.cls := findClass_of_methodNamed B.named
  have hin : meth.name = "<init>" := (name_of_methodNamed B.named B.method).1
  subst hsz
  have hD := hD0.self (sz := s.heap.size)
  generalize hAe : va_A [(h0, .inr (2, [.null, .int 0, .int 0, .null, .null, .null, .int 0, .null, .null]))] s.heap.size = A at hD ⊢
  have hA : ∀ q : Nat, s.heap.size ≤ q → A q := fun q h => by rw [← hAe]; exact Or.inr h
  have hS : va_S A s.heap s.heap [] := va_S.rf
  have hP : va_P D vwCl [(h0, .inr (2, [.null, .int 0, .int 0, .null, .null, .null, .int 0, .null, .null]))] s.heap := hP
  have hl := lv_entry ([.ref h0, .ref h1]) (n := 2) (Nat.le_of_ble_eq_true rfl)
  rw [lg_entry_eq]
  generalize (lg_sl ([.ref h0, .ref h1]) ++ List.replicate (2 - (lg_sl ([.ref h0, .ref h1])).length) Slot.unset).toArray = ls at hl ⊢
  have hl : lv_has ls 2 [(0, .ref h0), (1, .ref h1)] := hl
  refine lv_aload_n hx hb dX2_init_0 rfl (lv_at hl 0 rfl) ?_
  refine W.objInit hx hb hown (hts (.methodLink RX2 3 objectInit) (by decide +kernel)) (hts (.instanceMethod objectInit) (by decide +kernel)) (hts _ (List.mem_cons_of_mem _ (List.mem_append_left _ (List.mem_of_getElem? (i := 2) rfl)))) rfl (by rw [hml]; exact hl.1) rfl dX2_init_1 (Nat.le_of_ble_eq_true rfl) (Nat.le_of_ble_eq_true rfl) ?_
  refine W.eq (g2 := F0 m 4 ls []) rfl ?_
  refine lv_aload_n hx hb dX2_init_4 rfl (lv_at hl 0 rfl) ?_
  refine lv_bipush hx hb dX2_init_5 (v := 9) (by decide) ?_
  refine va_newa (atype := .int) (ty := .int) (a0 := (9, .inl (fun _ => 0))) hx hb (hts (.arrayClass .int) (by decide +kernel)) rfl hK hP hD hS hA (fun _ => rfl) (by decide) rfl (Nat.le_of_ble_eq_true rfl) (Nat.le_of_ble_eq_true rfl) (Nat.le_of_ble_eq_true rfl) dX2_init_7 (fun q1 cA H hK1 hP hD hS => ?_)
  obtain rfl : cA = dT 0 := kt_0 hK1
  have hP : va_P D vwCl [(h0, .inr (2, [.null, .int 0, .int 0, .null, .null, .null, .int 0, .null, .null])), (q1, .inl (dT 0, 9, .inl (fun _ => 0)))] H := hP
  have hD : va_D A [(h0, .inr (2, [.null, .int 0, .int 0, .null, .null, .null, .int 0, .null, .null])), (q1, .inl (dT 0, 9, .inl (fun _ => 0)))] := hD
  clear hK1
  refine W.widen (k := 1) (n := 9) (Nat.le_of_ble_eq_true rfl) (Nat.le_of_ble_eq_true rfl) ?_
  refine va_putF (D := D) (ci := 2) (v := .ref q1) (ty := .array .int) (C := RX2) (T := TX2) (N := 9) hx hb hts (by decide +kernel) tyX2 tyX2_ok nmX2 hown hK hP hD hS 0 rfl rfl 3 (by decide) (hts (.fieldLink RX2 9 "LighterAtDusk$Deck" "places" "[I") (by decide +kernel)) (fun _ h9 => h9) rfl hin rfl (by decide +kernel) rfl rfl (Nat.le_of_ble_eq_true rfl) dX2_init_9 (fun H locs hP hD hS => ?_)
  have hP : va_P D vwCl [(h0, .inr (2, [.null, .int 0, .int 0, .ref q1, .null, .null, .int 0, .null, .null])), (q1, .inl (dT 0, 9, .inl (fun _ => 0)))] H := hP
  have hD : va_D A [(h0, .inr (2, [.null, .int 0, .int 0, .ref q1, .null, .null, .int 0, .null, .null])), (q1, .inl (dT 0, 9, .inl (fun _ => 0)))] := hD
  refine lv_aload_n hx hb dX2_init_12 rfl (lv_at hl 0 rfl) ?_
  refine lv_bipush hx hb dX2_init_13 (v := 11) (by decide) ?_
  refine va_newa (atype := .int) (ty := .int) (a0 := (11, .inl (fun _ => 0))) hx hb (hts (.arrayClass .int) (by decide +kernel)) rfl hK hP hD hS hA (fun _ => rfl) (by decide) rfl (Nat.le_of_ble_eq_true rfl) (Nat.le_of_ble_eq_true rfl) (Nat.le_of_ble_eq_true rfl) dX2_init_15 (fun q2 cA H hK1 hP hD hS => ?_)
  obtain rfl : cA = dT 0 := kt_0 hK1
  have hP : va_P D vwCl [(h0, .inr (2, [.null, .int 0, .int 0, .ref q1, .null, .null, .int 0, .null, .null])), (q1, .inl (dT 0, 9, .inl (fun _ => 0))), (q2, .inl (dT 0, 11, .inl (fun _ => 0)))] H := hP
  have hD : va_D A [(h0, .inr (2, [.null, .int 0, .int 0, .ref q1, .null, .null, .int 0, .null, .null])), (q1, .inl (dT 0, 9, .inl (fun _ => 0))), (q2, .inl (dT 0, 11, .inl (fun _ => 0)))] := hD
  clear hK1
  refine W.widen (k := 2) (n := 20) (Nat.le_of_ble_eq_true rfl) (Nat.le_of_ble_eq_true rfl) ?_
  refine va_putF (D := D) (ci := 2) (v := .ref q2) (ty := .array .int) (C := RX2) (T := TX2) (N := 9) hx hb hts (by decide +kernel) tyX2 tyX2_ok nmX2 hown hK hP hD hS 0 rfl rfl 4 (by decide) (hts (.fieldLink RX2 15 "LighterAtDusk$Deck" "marked" "[I") (by decide +kernel)) (fun _ h9 => h9) rfl hin rfl (by decide +kernel) rfl rfl (Nat.le_of_ble_eq_true rfl) dX2_init_17 (fun H locs hP hD hS => ?_)
  have hP : va_P D vwCl [(h0, .inr (2, [.null, .int 0, .int 0, .ref q1, .ref q2, .null, .int 0, .null, .null])), (q1, .inl (dT 0, 9, .inl (fun _ => 0))), (q2, .inl (dT 0, 11, .inl (fun _ => 0)))] H := hP
  have hD : va_D A [(h0, .inr (2, [.null, .int 0, .int 0, .ref q1, .ref q2, .null, .int 0, .null, .null])), (q1, .inl (dT 0, 9, .inl (fun _ => 0))), (q2, .inl (dT 0, 11, .inl (fun _ => 0)))] := hD
  refine lv_aload_n hx hb dX2_init_20 rfl (lv_at hl 0 rfl) ?_
  refine lv_sipush hx hb dX2_init_21 (v := 132) (by decide) ?_
  refine va_newa (atype := .int) (ty := .int) (a0 := (132, .inl (fun _ => 0))) hx hb (hts (.arrayClass .int) (by decide +kernel)) rfl hK hP hD hS hA (fun _ => rfl) (by decide) rfl (Nat.le_of_ble_eq_true rfl) (Nat.le_of_ble_eq_true rfl) (Nat.le_of_ble_eq_true rfl) dX2_init_24 (fun q3 cA H hK1 hP hD hS => ?_)
  obtain rfl : cA = dT 0 := kt_0 hK1
  have hP : va_P D vwCl [(h0, .inr (2, [.null, .int 0, .int 0, .ref q1, .ref q2, .null, .int 0, .null, .null])), (q1, .inl (dT 0, 9, .inl (fun _ => 0))), (q2, .inl (dT 0, 11, .inl (fun _ => 0))), (q3, .inl (dT 0, 132, .inl (fun _ => 0)))] H := hP
  have hD : va_D A [(h0, .inr (2, [.null, .int 0, .int 0, .ref q1, .ref q2, .null, .int 0, .null, .null])), (q1, .inl (dT 0, 9, .inl (fun _ => 0))), (q2, .inl (dT 0, 11, .inl (fun _ => 0))), (q3, .inl (dT 0, 132, .inl (fun _ => 0)))] := hD
  clear hK1
  refine W.widen (k := 3) (n := 152) (Nat.le_of_ble_eq_true rfl) (Nat.le_of_ble_eq_true rfl) ?_
  refine va_putF (D := D) (ci := 2) (v := .ref q3) (ty := .array .int) (C := RX2) (T := TX2) (N := 9) hx hb hts (by decide +kernel) tyX2 tyX2_ok nmX2 hown hK hP hD hS 0 rfl rfl 5 (by decide) (hts (.fieldLink RX2 18 "LighterAtDusk$Deck" "past" "[I") (by decide +kernel)) (fun _ h9 => h9) rfl hin rfl (by decide +kernel) rfl rfl (Nat.le_of_ble_eq_true rfl) dX2_init_26 (fun H locs hP hD hS => ?_)
  have hP : va_P D vwCl [(h0, .inr (2, [.null, .int 0, .int 0, .ref q1, .ref q2, .ref q3, .int 0, .null, .null])), (q1, .inl (dT 0, 9, .inl (fun _ => 0))), (q2, .inl (dT 0, 11, .inl (fun _ => 0))), (q3, .inl (dT 0, 132, .inl (fun _ => 0)))] H := hP
  have hD : va_D A [(h0, .inr (2, [.null, .int 0, .int 0, .ref q1, .ref q2, .ref q3, .int 0, .null, .null])), (q1, .inl (dT 0, 9, .inl (fun _ => 0))), (q2, .inl (dT 0, 11, .inl (fun _ => 0))), (q3, .inl (dT 0, 132, .inl (fun _ => 0)))] := hD
  refine lv_aload_n hx hb dX2_init_29 rfl (lv_at hl 0 rfl) ?_
  refine lv_bipush hx hb dX2_init_30 (v := 22) (by decide) ?_
  refine va_newa (atype := .int) (ty := .int) (a0 := (22, .inl (fun _ => 0))) hx hb (hts (.arrayClass .int) (by decide +kernel)) rfl hK hP hD hS hA (fun _ => rfl) (by decide) rfl (Nat.le_of_ble_eq_true rfl) (Nat.le_of_ble_eq_true rfl) (Nat.le_of_ble_eq_true rfl) dX2_init_32 (fun q4 cA H hK1 hP hD hS => ?_)
  obtain rfl : cA = dT 0 := kt_0 hK1
  have hP : va_P D vwCl [(h0, .inr (2, [.null, .int 0, .int 0, .ref q1, .ref q2, .ref q3, .int 0, .null, .null])), (q1, .inl (dT 0, 9, .inl (fun _ => 0))), (q2, .inl (dT 0, 11, .inl (fun _ => 0))), (q3, .inl (dT 0, 132, .inl (fun _ => 0))), (q4, .inl (dT 0, 22, .inl (fun _ => 0)))] H := hP
  have hD : va_D A [(h0, .inr (2, [.null, .int 0, .int 0, .ref q1, .ref q2, .ref q3, .int 0, .null, .null])), (q1, .inl (dT 0, 9, .inl (fun _ => 0))), (q2, .inl (dT 0, 11, .inl (fun _ => 0))), (q3, .inl (dT 0, 132, .inl (fun _ => 0))), (q4, .inl (dT 0, 22, .inl (fun _ => 0)))] := hD
  clear hK1
  refine W.widen (k := 4) (n := 174) (Nat.le_of_ble_eq_true rfl) (Nat.le_of_ble_eq_true rfl) ?_
  refine va_putF (D := D) (ci := 2) (v := .ref q4) (ty := .array .int) (C := RX2) (T := TX2) (N := 9) hx hb hts (by decide +kernel) tyX2 tyX2_ok nmX2 hown hK hP hD hS 0 rfl rfl 7 (by decide) (hts (.fieldLink RX2 21 "LighterAtDusk$Deck" "kept" "[I") (by decide +kernel)) (fun _ h9 => h9) rfl hin rfl (by decide +kernel) rfl rfl (Nat.le_of_ble_eq_true rfl) dX2_init_34 (fun H locs hP hD hS => ?_)
  have hP : va_P D vwCl [(h0, .inr (2, [.null, .int 0, .int 0, .ref q1, .ref q2, .ref q3, .int 0, .ref q4, .null])), (q1, .inl (dT 0, 9, .inl (fun _ => 0))), (q2, .inl (dT 0, 11, .inl (fun _ => 0))), (q3, .inl (dT 0, 132, .inl (fun _ => 0))), (q4, .inl (dT 0, 22, .inl (fun _ => 0)))] H := hP
  have hD : va_D A [(h0, .inr (2, [.null, .int 0, .int 0, .ref q1, .ref q2, .ref q3, .int 0, .ref q4, .null])), (q1, .inl (dT 0, 9, .inl (fun _ => 0))), (q2, .inl (dT 0, 11, .inl (fun _ => 0))), (q3, .inl (dT 0, 132, .inl (fun _ => 0))), (q4, .inl (dT 0, 22, .inl (fun _ => 0)))] := hD
  refine lv_aload_n hx hb dX2_init_37 rfl (lv_at hl 0 rfl) ?_
  refine lv_iconst hx hb dX2_init_38 (v := 2) (by decide) ?_
  refine va_newa (atype := .boolean) (ty := .boolean) (a0 := (2, .inl (fun _ => 0))) hx hb (hts (.arrayClass .boolean) (by decide +kernel)) rfl hK hP hD hS hA (fun _ => rfl) (by decide) rfl (Nat.le_of_ble_eq_true rfl) (Nat.le_of_ble_eq_true rfl) (Nat.le_of_ble_eq_true rfl) dX2_init_39 (fun q5 cA H hK1 hP hD hS => ?_)
  obtain rfl : cA = dT 3 := kt_3 hK1
  have hP : va_P D vwCl [(h0, .inr (2, [.null, .int 0, .int 0, .ref q1, .ref q2, .ref q3, .int 0, .ref q4, .null])), (q1, .inl (dT 0, 9, .inl (fun _ => 0))), (q2, .inl (dT 0, 11, .inl (fun _ => 0))), (q3, .inl (dT 0, 132, .inl (fun _ => 0))), (q4, .inl (dT 0, 22, .inl (fun _ => 0))), (q5, .inl (dT 3, 2, .inl (fun _ => 0)))] H := hP
  have hD : va_D A [(h0, .inr (2, [.null, .int 0, .int 0, .ref q1, .ref q2, .ref q3, .int 0, .ref q4, .null])), (q1, .inl (dT 0, 9, .inl (fun _ => 0))), (q2, .inl (dT 0, 11, .inl (fun _ => 0))), (q3, .inl (dT 0, 132, .inl (fun _ => 0))), (q4, .inl (dT 0, 22, .inl (fun _ => 0))), (q5, .inl (dT 3, 2, .inl (fun _ => 0)))] := hD
  clear hK1
  refine W.widen (k := 5) (n := 176) (Nat.le_of_ble_eq_true rfl) (Nat.le_of_ble_eq_true rfl) ?_
  refine va_putF (D := D) (ci := 2) (v := .ref q5) (ty := .array .boolean) (C := RX2) (T := TX2) (N := 9) hx hb hts (by decide +kernel) tyX2 tyX2_ok nmX2 hown hK hP hD hS 0 rfl rfl 8 (by decide) (hts (.fieldLink RX2 24 "LighterAtDusk$Deck" "isKept" "[Z") (by decide +kernel)) (fun _ h9 => h9) rfl hin rfl (by decide +kernel) rfl rfl (Nat.le_of_ble_eq_true rfl) dX2_init_41 (fun H locs hP hD hS => ?_)
  have hP : va_P D vwCl [(h0, .inr (2, [.null, .int 0, .int 0, .ref q1, .ref q2, .ref q3, .int 0, .ref q4, .ref q5])), (q1, .inl (dT 0, 9, .inl (fun _ => 0))), (q2, .inl (dT 0, 11, .inl (fun _ => 0))), (q3, .inl (dT 0, 132, .inl (fun _ => 0))), (q4, .inl (dT 0, 22, .inl (fun _ => 0))), (q5, .inl (dT 3, 2, .inl (fun _ => 0)))] H := hP
  have hD : va_D A [(h0, .inr (2, [.null, .int 0, .int 0, .ref q1, .ref q2, .ref q3, .int 0, .ref q4, .ref q5])), (q1, .inl (dT 0, 9, .inl (fun _ => 0))), (q2, .inl (dT 0, 11, .inl (fun _ => 0))), (q3, .inl (dT 0, 132, .inl (fun _ => 0))), (q4, .inl (dT 0, 22, .inl (fun _ => 0))), (q5, .inl (dT 3, 2, .inl (fun _ => 0)))] := hD
  refine lv_aload_n hx hb dX2_init_44 rfl (lv_at hl 0 rfl) ?_
  refine lv_aload_n hx hb dX2_init_45 rfl (lv_at hl 1 rfl) ?_
  refine va_putF (D := D) (ci := 2) (v := .ref h1) (ty := .object "LighterAtDusk$Crowd") (C := RX2) (T := TX2) (N := 9) hx hb hts (by decide +kernel) tyX2 tyX2_ok nmX2 hown hK hP hD hS 0 rfl rfl 0 (by decide) (hts (.fieldLink RX2 28 "LighterAtDusk$Deck" "crowd" "LLighterAtDusk$Crowd;") (by decide +kernel)) (fun _ h9 => h9) rfl hin rfl (by decide +kernel) rfl rfl (Nat.le_of_ble_eq_true rfl) dX2_init_46 (fun H locs hP hD hS => ?_)
  have hP : va_P D vwCl [(h0, .inr (2, [.ref h1, .int 0, .int 0, .ref q1, .ref q2, .ref q3, .int 0, .ref q4, .ref q5])), (q1, .inl (dT 0, 9, .inl (fun _ => 0))), (q2, .inl (dT 0, 11, .inl (fun _ => 0))), (q3, .inl (dT 0, 132, .inl (fun _ => 0))), (q4, .inl (dT 0, 22, .inl (fun _ => 0))), (q5, .inl (dT 3, 2, .inl (fun _ => 0)))] H := hP
  have hD : va_D A [(h0, .inr (2, [.ref h1, .int 0, .int 0, .ref q1, .ref q2, .ref q3, .int 0, .ref q4, .ref q5])), (q1, .inl (dT 0, 9, .inl (fun _ => 0))), (q2, .inl (dT 0, 11, .inl (fun _ => 0))), (q3, .inl (dT 0, 132, .inl (fun _ => 0))), (q4, .inl (dT 0, 22, .inl (fun _ => 0))), (q5, .inl (dT 3, 2, .inl (fun _ => 0)))] := hD
  exact W.vret hx hb hr (fun t ht hW => ⟨⟨(), rfl, trivial, q1, q2, q3, q4, q5, by rw [ht]; exact hP, hD⟩, hS.F ht⟩) hS.2.2 dX2_init_49
def wsX3_init : List Cond := .code yX3_init cX3_init 1 none :: ([.arrayClass .int, .fieldLink RX3 9 "LighterAtDusk$FolkReader" "bases" "[I", .instanceMethod yX5_init, .initialized RX5, .code yX5_init cX5_init 1 none, .methodLink RX5 1 objectInit, .instanceMethod objectInit, .code objectInit ⟨#[0xb1]⟩ 1 none] ++ wsX30)
set_option maxRecDepth 20000 in
theorem ggX3_init_X5_init : GoodIn wsX3_init wsX5_init := goodIn_r _ [5, 6, 7, 8] (by decide +kernel) (by decide +kernel)
theorem dX3_init_0 : decode cX3_init 0 = .ok (.aload_n 0, 1) := by decide +kernel
theorem dX3_init_1 : decode cX3_init 1 = .ok (.invokespecial 3, 3) := by decide +kernel
theorem dX3_init_4 : decode cX3_init 4 = .ok (.aload_n 0, 1) := by decide +kernel
theorem dX3_init_5 : decode cX3_init 5 = .ok (.bipush 9, 2) := by decide +kernel
theorem dX3_init_7 : decode cX3_init 7 = .ok (.newarray .int, 2) := by decide +kernel
theorem dX3_init_9 : decode cX3_init 9 = .ok (.putfield 9, 3) := by decide +kernel
theorem dX3_init_12 : decode cX3_init 12 = .ok (.return_, 1) := by decide +kernel
set_option maxHeartbeats 4000000 in
set_option maxRecDepth 100000 in
theorem kX3_init (l : Launch) (D : va_G) (dT : Nat → ClassId) (h0 sz : Nat) : Met l yX3_init wsX3_init ({ frames := 2, cells := 1, slots := 9, locals := 32 }) (va_Pc [.ref h0] (fun U => U.heap.size = sz ∧ va_P D vwCl [(h0, .inr (3, [.null, .int 0, .int 0, .int 0, .int 0, .int 0]))] U.heap ∧ va_K D vwCl (rh_tys dT) U ∧ va_D (fun _ => True) [(h0, .inr (3, [.null, .int 0, .int 0, .int 0, .int 0, .int 0]))] ∧ ∀ w ∈ kn_ws, va_Nw w U)) (va_Qv (fun _ : Unit => True) (fun _ t => ∃ q1 : Nat, va_P D vwCl [(h0, .inr (3, [.ref q1, .int 0, .int 0, .int 0, .int 0, .int 0])), (q1, .inl (dT 0, 9, .inl (fun _ => 0)))] t.heap ∧ va_D (va_A [(h0, .inr (3, [.null, .int 0, .int 0, .int 0, .int 0, .int 0]))] sz) [(h0, .inr (3, [.ref q1, .int 0, .int 0, .int 0, .int 0, .int 0])), (q1, .inl (dT 0, 9, .inl (fun _ => 0)))]) (va_A [(h0, .inr (3, [.null, .int 0, .int 0, .int 0, .int 0, .int 0]))] sz)) 1 9 (va_A [(h0, .inr (3, [.null, .int 0, .int 0, .int 0, .int 0, .int 0]))] sz) := by
  refine Met.ofW (cc := cX3_init) (maxL := 1) (ret := none) (by decide) rfl ?_
  intro p e s m args below meth c s₁ B hml hv
  obtain ⟨rfl, hsz, hP, hK, hD0, hN⟩ := hv
  have hx := B.exec
  have hb := B.bytes
  have hr := B.returns
  have hts := atoms_spec (ws := wsX3_init) B.pre
  have hown : s.vm.findClass RX3 = some m.cls := findClass_of_methodNamed B.named
  have hin : meth.name = "<init>" := (name_of_methodNamed B.named B.method).1
  subst hsz
  have hD := hD0.self (sz := s.heap.size)
  generalize hAe : va_A [(h0, .inr (3, [.null, .int 0, .int 0, .int 0, .int 0, .int 0]))] s.heap.size = A at hD ⊢
  have hA : ∀ q : Nat, s.heap.size ≤ q → A q := fun q h => by rw [← hAe]; exact Or.inr h
  have hS : va_S A s.heap s.heap [] := va_S.rf
  have hP : va_P D vwCl [(h0, .inr (3, [.null, .int 0, .int 0, .int 0, .int 0, .int 0]))] s.heap := hP
  have hl := lv_entry ([.ref h0]) (n := 1) (Nat.le_of_ble_eq_true rfl)
  rw [lg_entry_eq]
  generalize (lg_sl ([.ref h0]) ++ List.replicate (1 - (lg_sl ([.ref h0])).length) Slot.unset).toArray = ls at hl ⊢
  have hl : lv_has ls 1 [(0, .ref h0)] := hl
  refine lv_aload_n hx hb dX3_init_0 rfl (lv_at hl 0 rfl) ?_
  have hPc := hP.sub (ws' := [(h0, .inr (3, [.null, .int 0, .int 0, .int 0, .int 0, .int 0]))]) [0] rfl
  have hDc := hD.sub (ws' := [(h0, .inr (3, [.null, .int 0, .int 0, .int 0, .int 0, .int 0]))]) [0] (by decide) rfl
  have hFc := va_free (wc := [(h0, .inr (3, [.null, .int 0, .int 0, .int 0, .int 0, .int 0]))]) hD hS hA [0] rfl
  refine va_callv (va_runIN (As := []) (rest := []) ⟨hx, hb, hml, hown, hts⟩ (kX5_init l D dT h0 s.heap.size 3 [.null, .int 0, .int 0, .int 0, .int 0, .int 0]) ⟨va_cnB 0 hts ggX3_init_X5_init rfl rfl rfl (hN (.methodLinkNest RX3 3 yX5_init RX11) (by decide +kernel)) (hts (.initialized RX5) (by decide +kernel)) (by decide +kernel) ⟨Nat.le_of_ble_eq_true rfl, Nat.le_of_ble_eq_true rfl⟩, rfl, (hts (.instanceMethod yX5_init) (by decide +kernel))⟩ ⟨fun a U g mk q => by obtain ⟨q0, q1, qP, qK, qD, qN⟩ := q; exact ⟨q0, q1, qP, va_K.moved (u := U) (U := U.calling g mk a) (Vm.Alike.refl U.vm) qK, qD, kn_same (u := U) (U := U.calling g mk a) rfl qN⟩, fun U hU hW => ⟨rfl, by rw [hU], by rw [hU]; exact hPc, va_K.moved hW.alike hK, hDc.weaken (fun _ _ _ _ => trivial), kn_warm hW hN⟩⟩ rfl rfl hl.1 rfl (lv_room (Nat.le_of_ble_eq_true rfl)) dX3_init_1 ⟨Nat.le_of_ble_eq_true rfl, Nat.le_of_ble_eq_true rfl⟩) hS (fun q _ h => hFc q h) hFc (fun u t H1 locs ht hvm hw hB hz1 hk1 hS => ?_)
  obtain ⟨hP1, hD1⟩ := hB
  rw [ht] at hP1
  obtain ⟨hP, hD⟩ := va_join (wr := []) (w1 := [(h0, .inr (3, [.null, .int 0, .int 0, .int 0, .int 0, .int 0]))]) hP hD [0] [] rfl rfl (by decide) (by decide) hk1 hFc hP1 hD1
  generalize H1 = H at hP hS ⊢
  have hP : va_P D vwCl [(h0, .inr (3, [.null, .int 0, .int 0, .int 0, .int 0, .int 0]))] H := hP
  have hD : va_D A [(h0, .inr (3, [.null, .int 0, .int 0, .int 0, .int 0, .int 0]))] := hD
  clear hPc hDc hFc hP1 hD1 hz1 hk1 hw
  refine lv_aload_n hx hb dX3_init_4 rfl (lv_at hl 0 rfl) ?_
  refine lv_bipush hx hb dX3_init_5 (v := 9) (by decide) ?_
  refine va_newa (atype := .int) (ty := .int) (a0 := (9, .inl (fun _ => 0))) hx hb (hts (.arrayClass .int) (by decide +kernel)) rfl hK hP hD hS hA (fun _ => rfl) (by decide) rfl (Nat.le_of_ble_eq_true rfl) (Nat.le_of_ble_eq_true rfl) (Nat.le_of_ble_eq_true rfl) dX3_init_7 (fun q1 cA H hK1 hP hD hS => ?_)
  obtain rfl : cA = dT 0 := kt_0 hK1
  have hP : va_P D vwCl [(h0, .inr (3, [.null, .int 0, .int 0, .int 0, .int 0, .int 0])), (q1, .inl (dT 0, 9, .inl (fun _ => 0)))] H := hP
  have hD : va_D A [(h0, .inr (3, [.null, .int 0, .int 0, .int 0, .int 0, .int 0])), (q1, .inl (dT 0, 9, .inl (fun _ => 0)))] := hD
  clear hK1
  refine W.widen (k := 1) (n := 9) (Nat.le_of_ble_eq_true rfl) (Nat.le_of_ble_eq_true rfl) ?_
  refine va_putF (D := D) (ci := 3) (v := .ref q1) (ty := .array .int) (C := RX3) (T := TX3) (N := 6) hx hb hts (by decide +kernel) tyX3 tyX3_ok nmX3 hown hK hP hD hS 0 rfl rfl 0 (by decide) (hts (.fieldLink RX3 9 "LighterAtDusk$FolkReader" "bases" "[I") (by decide +kernel)) (fun _ h9 => h9) rfl hin rfl (by decide +kernel) rfl rfl (Nat.le_of_ble_eq_true rfl) dX3_init_9 (fun H locs hP hD hS => ?_)
  have hP : va_P D vwCl [(h0, .inr (3, [.ref q1, .int 0, .int 0, .int 0, .int 0, .int 0])), (q1, .inl (dT 0, 9, .inl (fun _ => 0)))] H := hP
  have hD : va_D A [(h0, .inr (3, [.ref q1, .int 0, .int 0, .int 0, .int 0, .int 0])), (q1, .inl (dT 0, 9, .inl (fun _ => 0)))] := hD
  exact W.vret hx hb hr (fun t ht hW => ⟨⟨(), rfl, trivial, q1, by rw [ht]; exact hP, hD⟩, hS.F ht⟩) hS.2.2 dX3_init_12
def wsX1_init : List Cond := .code yX1_init cX1_init 1 none :: ([.arrayClass .int, .fieldLink RX1 9 "LighterAtDusk$DayReader" "kinds" "[I", .fieldLink RX1 13 "LighterAtDusk$DayReader" "whos" "[I", .fieldLink RX1 16 "LighterAtDusk$DayReader" "amounts" "[I", .instanceMethod yX5_init, .initialized RX5, .code yX5_init cX5_init 1 none, .methodLink RX5 1 objectInit, .instanceMethod objectInit, .code objectInit ⟨#[0xb1]⟩ 1 none] ++ wsX10)
set_option maxRecDepth 20000 in
theorem ggX1_init_X5_init : GoodIn wsX1_init wsX5_init := goodIn_r _ [7, 8, 9, 10] (by decide +kernel) (by decide +kernel)
theorem dX1_init_0 : decode cX1_init 0 = .ok (.aload_n 0, 1) := by decide +kernel
theorem dX1_init_1 : decode cX1_init 1 = .ok (.invokespecial 1, 3) := by decide +kernel
theorem dX1_init_4 : decode cX1_init 4 = .ok (.aload_n 0, 1) := by decide +kernel
theorem dX1_init_5 : decode cX1_init 5 = .ok (.bipush 24, 2) := by decide +kernel
theorem dX1_init_7 : decode cX1_init 7 = .ok (.newarray .int, 2) := by decide +kernel
theorem dX1_init_9 : decode cX1_init 9 = .ok (.putfield 9, 3) := by decide +kernel
theorem dX1_init_12 : decode cX1_init 12 = .ok (.aload_n 0, 1) := by decide +kernel
theorem dX1_init_13 : decode cX1_init 13 = .ok (.bipush 24, 2) := by decide +kernel
theorem dX1_init_15 : decode cX1_init 15 = .ok (.newarray .int, 2) := by decide +kernel
theorem dX1_init_17 : decode cX1_init 17 = .ok (.putfield 13, 3) := by decide +kernel
theorem dX1_init_20 : decode cX1_init 20 = .ok (.aload_n 0, 1) := by decide +kernel
theorem dX1_init_21 : decode cX1_init 21 = .ok (.bipush 24, 2) := by decide +kernel
theorem dX1_init_23 : decode cX1_init 23 = .ok (.newarray .int, 2) := by decide +kernel
theorem dX1_init_25 : decode cX1_init 25 = .ok (.putfield 16, 3) := by decide +kernel
theorem dX1_init_28 : decode cX1_init 28 = .ok (.return_, 1) := by decide +kernel
set_option maxHeartbeats 4000000 in
set_option maxRecDepth 100000 in
theorem kX1_init (l : Launch) (D : va_G) (dT : Nat → ClassId) (h0 sz : Nat) : Met l yX1_init wsX1_init ({ frames := 2, cells := 3, slots := 72, locals := 32 }) (va_Pc [.ref h0] (fun U => U.heap.size = sz ∧ va_P D vwCl [(h0, .inr (1, [.null, .null, .null, .int 0, .int 0, .int 0, .int 0]))] U.heap ∧ va_K D vwCl (rh_tys dT) U ∧ va_D (fun _ => True) [(h0, .inr (1, [.null, .null, .null, .int 0, .int 0, .int 0, .int 0]))] ∧ ∀ w ∈ kn_ws, va_Nw w U)) (va_Qv (fun _ : Unit => True) (fun _ t => ∃ q1 q2 q3 : Nat, va_P D vwCl [(h0, .inr (1, [.ref q1, .ref q2, .ref q3, .int 0, .int 0, .int 0, .int 0])), (q1, .inl (dT 0, 24, .inl (fun _ => 0))), (q2, .inl (dT 0, 24, .inl (fun _ => 0))), (q3, .inl (dT 0, 24, .inl (fun _ => 0)))] t.heap ∧ va_D (va_A [(h0, .inr (1, [.null, .null, .null, .int 0, .int 0, .int 0, .int 0]))] sz) [(h0, .inr (1, [.ref q1, .ref q2, .ref q3, .int 0, .int 0, .int 0, .int 0])), (q1, .inl (dT 0, 24, .inl (fun _ => 0))), (q2, .inl (dT 0, 24, .inl (fun _ => 0))), (q3, .inl (dT 0, 24, .inl (fun _ => 0)))]) (va_A [(h0, .inr (1, [.null, .null, .null, .int 0, .int 0, .int 0, .int 0]))] sz)) 3 72 (va_A [(h0, .inr (1, [.null, .null, .null, .int 0, .int 0, .int 0, .int 0]))] sz) := by
  refine Met.ofW (cc := cX1_init) (maxL := 1) (ret := none) (by decide) rfl ?_
  intro p e s m args below meth c s₁ B hml hv
  obtain ⟨rfl, hsz, hP, hK, hD0, hN⟩ := hv
  have hx := B.exec
  have hb := B.bytes
  have hr := B.returns
  have hts := atoms_spec (ws := wsX1_init) B.pre
  have hown : s.vm.findClass RX1 = some m.cls := findClass_of_methodNamed B.named
  have hin : meth.name = "<init>" := (name_of_methodNamed B.named B.method).1
  subst hsz
  have hD := hD0.self (sz := s.heap.size)
  generalize hAe : va_A [(h0, .inr (1, [.null, .null, .null, .int 0, .int 0, .int 0, .int 0]))] s.heap.size = A at hD ⊢
  have hA : ∀ q : Nat, s.heap.size ≤ q → A q := fun q h => by rw [← hAe]; exact Or.inr h
  have hS : va_S A s.heap s.heap [] := va_S.rf
  have hP : va_P D vwCl [(h0, .inr (1, [.null, .null, .null, .int 0, .int 0, .int 0, .int 0]))] s.heap := hP
  have hl := lv_entry ([.ref h0]) (n := 1) (Nat.le_of_ble_eq_true rfl)
  rw [lg_entry_eq]
  generalize (lg_sl ([.ref h0]) ++ List.replicate (1 - (lg_sl ([.ref h0])).length) Slot.unset).toArray = ls at hl ⊢
  have hl : lv_has ls 1 [(0, .ref h0)] := hl
  refine lv_aload_n hx hb dX1_init_0 rfl (lv_at hl 0 rfl) ?_
  have hPc := hP.sub (ws' := [(h0, .inr (1, [.null, .null, .null, .int 0, .int 0, .int 0, .int 0]))]) [0] rfl
  have hDc := hD.sub (ws' := [(h0, .inr (1, [.null, .null, .null, .int 0, .int 0, .int 0, .int 0]))]) [0] (by decide) rfl
  have hFc := va_free (wc := [(h0, .inr (1, [.null, .null, .null, .int 0, .int 0, .int 0, .int 0]))]) hD hS hA [0] rfl
  refine va_callv (va_runIN (As := []) (rest := []) ⟨hx, hb, hml, hown, hts⟩ (kX5_init l D dT h0 s.heap.size 1 [.null, .null, .null, .int 0, .int 0, .int 0, .int 0]) ⟨va_cnB 0 hts ggX1_init_X5_init rfl rfl rfl (hN (.methodLinkNest RX1 1 yX5_init RX11) (by decide +kernel)) (hts (.initialized RX5) (by decide +kernel)) (by decide +kernel) ⟨Nat.le_of_ble_eq_true rfl, Nat.le_of_ble_eq_true rfl⟩, rfl, (hts (.instanceMethod yX5_init) (by decide +kernel))⟩ ⟨fun a U g mk q => by obtain ⟨q0, q1, qP, qK, qD, qN⟩ := q; exact ⟨q0, q1, qP, va_K.moved (u := U) (U := U.calling g mk a) (Vm.Alike.refl U.vm) qK, qD, kn_same (u := U) (U := U.calling g mk a) rfl qN⟩, fun U hU hW => ⟨rfl, by rw [hU], by rw [hU]; exact hPc, va_K.moved hW.alike hK, hDc.weaken (fun _ _ _ _ => trivial), kn_warm hW hN⟩⟩ rfl rfl hl.1 rfl (lv_room (Nat.le_of_ble_eq_true rfl)) dX1_init_1 ⟨Nat.le_of_ble_eq_true rfl, Nat.le_of_ble_eq_true rfl⟩) hS (fun q _ h => hFc q h) hFc (fun u t H1 locs ht hvm hw hB hz1 hk1 hS => ?_)
  obtain ⟨hP1, hD1⟩ := hB
  rw [ht] at hP1
  obtain ⟨hP, hD⟩ := va_join (wr := []) (w1 := [(h0, .inr (1, [.null, .null, .null, .int 0, .int 0, .int 0, .int 0]))]) hP hD [0] [] rfl rfl (by decide) (by decide) hk1 hFc hP1 hD1
  generalize H1 = H at hP hS ⊢
  have hP : va_P D vwCl [(h0, .inr (1, [.null, .null, .null, .int 0, .int 0, .int 0, .int 0]))] H := hP
  have hD : va_D A [(h0, .inr (1, [.null, .null, .null, .int 0, .int 0, .int 0, .int 0]))] := hD
  clear hPc hDc hFc hP1 hD1 hz1 hk1 hw
  refine lv_aload_n hx hb dX1_init_4 rfl (lv_at hl 0 rfl) ?_
  refine lv_bipush hx hb dX1_init_5 (v := 24) (by decide) ?_
  refine va_newa (atype := .int) (ty := .int) (a0 := (24, .inl (fun _ => 0))) hx hb (hts (.arrayClass .int) (by decide +kernel)) rfl hK hP hD hS hA (fun _ => rfl) (by decide) rfl (Nat.le_of_ble_eq_true rfl) (Nat.le_of_ble_eq_true rfl) (Nat.le_of_ble_eq_true rfl) dX1_init_7 (fun q1 cA H hK1 hP hD hS => ?_)
  obtain rfl : cA = dT 0 := kt_0 hK1
  have hP : va_P D vwCl [(h0, .inr (1, [.null, .null, .null, .int 0, .int 0, .int 0, .int 0])), (q1, .inl (dT 0, 24, .inl (fun _ => 0)))] H := hP
  have hD : va_D A [(h0, .inr (1, [.null, .null, .null, .int 0, .int 0, .int 0, .int 0])), (q1, .inl (dT 0, 24, .inl (fun _ => 0)))] := hD
  clear hK1
  refine W.widen (k := 1) (n := 24) (Nat.le_of_ble_eq_true rfl) (Nat.le_of_ble_eq_true rfl) ?_
  refine va_putF (D := D) (ci := 1) (v := .ref q1) (ty := .array .int) (C := RX1) (T := TX1) (N := 7) hx hb hts (by decide +kernel) tyX1 tyX1_ok nmX1 hown hK hP hD hS 0 rfl rfl 0 (by decide) (hts (.fieldLink RX1 9 "LighterAtDusk$DayReader" "kinds" "[I") (by decide +kernel)) (fun _ h9 => h9) rfl hin rfl (by decide +kernel) rfl rfl (Nat.le_of_ble_eq_true rfl) dX1_init_9 (fun H locs hP hD hS => ?_)
  have hP : va_P D vwCl [(h0, .inr (1, [.ref q1, .null, .null, .int 0, .int 0, .int 0, .int 0])), (q1, .inl (dT 0, 24, .inl (fun _ => 0)))] H := hP
  have hD : va_D A [(h0, .inr (1, [.ref q1, .null, .null, .int 0, .int 0, .int 0, .int 0])), (q1, .inl (dT 0, 24, .inl (fun _ => 0)))] := hD
  refine lv_aload_n hx hb dX1_init_12 rfl (lv_at hl 0 rfl) ?_
  refine lv_bipush hx hb dX1_init_13 (v := 24) (by decide) ?_
  refine va_newa (atype := .int) (ty := .int) (a0 := (24, .inl (fun _ => 0))) hx hb (hts (.arrayClass .int) (by decide +kernel)) rfl hK hP hD hS hA (fun _ => rfl) (by decide) rfl (Nat.le_of_ble_eq_true rfl) (Nat.le_of_ble_eq_true rfl) (Nat.le_of_ble_eq_true rfl) dX1_init_15 (fun q2 cA H hK1 hP hD hS => ?_)
  obtain rfl : cA = dT 0 := kt_0 hK1
  have hP : va_P D vwCl [(h0, .inr (1, [.ref q1, .null, .null, .int 0, .int 0, .int 0, .int 0])), (q1, .inl (dT 0, 24, .inl (fun _ => 0))), (q2, .inl (dT 0, 24, .inl (fun _ => 0)))] H := hP
  have hD : va_D A [(h0, .inr (1, [.ref q1, .null, .null, .int 0, .int 0, .int 0, .int 0])), (q1, .inl (dT 0, 24, .inl (fun _ => 0))), (q2, .inl (dT 0, 24, .inl (fun _ => 0)))] := hD
  clear hK1
  refine W.widen (k := 2) (n := 48) (Nat.le_of_ble_eq_true rfl) (Nat.le_of_ble_eq_true rfl) ?_
  refine va_putF (D := D) (ci := 1) (v := .ref q2) (ty := .array .int) (C := RX1) (T := TX1) (N := 7) hx hb hts (by decide +kernel) tyX1 tyX1_ok nmX1 hown hK hP hD hS 0 rfl rfl 1 (by decide) (hts (.fieldLink RX1 13 "LighterAtDusk$DayReader" "whos" "[I") (by decide +kernel)) (fun _ h9 => h9) rfl hin rfl (by decide +kernel) rfl rfl (Nat.le_of_ble_eq_true rfl) dX1_init_17 (fun H locs hP hD hS => ?_)
  have hP : va_P D vwCl [(h0, .inr (1, [.ref q1, .ref q2, .null, .int 0, .int 0, .int 0, .int 0])), (q1, .inl (dT 0, 24, .inl (fun _ => 0))), (q2, .inl (dT 0, 24, .inl (fun _ => 0)))] H := hP
  have hD : va_D A [(h0, .inr (1, [.ref q1, .ref q2, .null, .int 0, .int 0, .int 0, .int 0])), (q1, .inl (dT 0, 24, .inl (fun _ => 0))), (q2, .inl (dT 0, 24, .inl (fun _ => 0)))] := hD
  refine lv_aload_n hx hb dX1_init_20 rfl (lv_at hl 0 rfl) ?_
  refine lv_bipush hx hb dX1_init_21 (v := 24) (by decide) ?_
  refine va_newa (atype := .int) (ty := .int) (a0 := (24, .inl (fun _ => 0))) hx hb (hts (.arrayClass .int) (by decide +kernel)) rfl hK hP hD hS hA (fun _ => rfl) (by decide) rfl (Nat.le_of_ble_eq_true rfl) (Nat.le_of_ble_eq_true rfl) (Nat.le_of_ble_eq_true rfl) dX1_init_23 (fun q3 cA H hK1 hP hD hS => ?_)
  obtain rfl : cA = dT 0 := kt_0 hK1
  have hP : va_P D vwCl [(h0, .inr (1, [.ref q1, .ref q2, .null, .int 0, .int 0, .int 0, .int 0])), (q1, .inl (dT 0, 24, .inl (fun _ => 0))), (q2, .inl (dT 0, 24, .inl (fun _ => 0))), (q3, .inl (dT 0, 24, .inl (fun _ => 0)))] H := hP
  have hD : va_D A [(h0, .inr (1, [.ref q1, .ref q2, .null, .int 0, .int 0, .int 0, .int 0])), (q1, .inl (dT 0, 24, .inl (fun _ => 0))), (q2, .inl (dT 0, 24, .inl (fun _ => 0))), (q3, .inl (dT 0, 24, .inl (fun _ => 0)))] := hD
  clear hK1
  refine W.widen (k := 3) (n := 72) (Nat.le_of_ble_eq_true rfl) (Nat.le_of_ble_eq_true rfl) ?_
  refine va_putF (D := D) (ci := 1) (v := .ref q3) (ty := .array .int) (C := RX1) (T := TX1) (N := 7) hx hb hts (by decide +kernel) tyX1 tyX1_ok nmX1 hown hK hP hD hS 0 rfl rfl 2 (by decide) (hts (.fieldLink RX1 16 "LighterAtDusk$DayReader" "amounts" "[I") (by decide +kernel)) (fun _ h9 => h9) rfl hin rfl (by decide +kernel) rfl rfl (Nat.le_of_ble_eq_true rfl) dX1_init_25 (fun H locs hP hD hS => ?_)
  have hP : va_P D vwCl [(h0, .inr (1, [.ref q1, .ref q2, .ref q3, .int 0, .int 0, .int 0, .int 0])), (q1, .inl (dT 0, 24, .inl (fun _ => 0))), (q2, .inl (dT 0, 24, .inl (fun _ => 0))), (q3, .inl (dT 0, 24, .inl (fun _ => 0)))] H := hP
  have hD : va_D A [(h0, .inr (1, [.ref q1, .ref q2, .ref q3, .int 0, .int 0, .int 0, .int 0])), (q1, .inl (dT 0, 24, .inl (fun _ => 0))), (q2, .inl (dT 0, 24, .inl (fun _ => 0))), (q3, .inl (dT 0, 24, .inl (fun _ => 0)))] := hD
  exact W.vret hx hb hr (fun t ht hW => ⟨⟨(), rfl, trivial, q1, q2, q3, by rw [ht]; exact hP, hD⟩, hS.F ht⟩) hS.2.2 dX1_init_28
def wsX10_init : List Cond := .code yX10_init cX10_init 1 none :: ([.methodLink RX10 3 objectInit, .instanceMethod objectInit, .code objectInit ⟨#[0xb1]⟩ 1 none, .arrayClass .int, .fieldLink RX10 9 "LighterAtDusk$Tasks" "lows" "[I", .fieldLink RX10 15 "LighterAtDusk$Tasks" "highs" "[I", .fieldLink RX10 18 "LighterAtDusk$Tasks" "doableAt" "[I", .arrayClass .long, .fieldLink RX10 21 "LighterAtDusk$Tasks" "left" "[J", .fieldLink RX10 25 "LighterAtDusk$Tasks" "groups" "[J", .fieldLink RX10 28 "LighterAtDusk$Tasks" "able" "[I"] ++ wsX100)
theorem dX10_init_0 : decode cX10_init 0 = .ok (.aload_n 0, 1) := by decide +kernel
theorem dX10_init_1 : decode cX10_init 1 = .ok (.invokespecial 3, 3) := by decide +kernel
theorem dX10_init_4 : decode cX10_init 4 = .ok (.aload_n 0, 1) := by decide +kernel
theorem dX10_init_5 : decode cX10_init 5 = .ok (.bipush 6, 2) := by decide +kernel
theorem dX10_init_7 : decode cX10_init 7 = .ok (.newarray .int, 2) := by decide +kernel
theorem dX10_init_9 : decode cX10_init 9 = .ok (.putfield 9, 3) := by decide +kernel
theorem dX10_init_12 : decode cX10_init 12 = .ok (.aload_n 0, 1) := by decide +kernel
theorem dX10_init_13 : decode cX10_init 13 = .ok (.bipush 6, 2) := by decide +kernel
theorem dX10_init_15 : decode cX10_init 15 = .ok (.newarray .int, 2) := by decide +kernel
theorem dX10_init_17 : decode cX10_init 17 = .ok (.putfield 15, 3) := by decide +kernel
theorem dX10_init_20 : decode cX10_init 20 = .ok (.aload_n 0, 1) := by decide +kernel
theorem dX10_init_21 : decode cX10_init 21 = .ok (.bipush 9, 2) := by decide +kernel
theorem dX10_init_23 : decode cX10_init 23 = .ok (.newarray .int, 2) := by decide +kernel
theorem dX10_init_25 : decode cX10_init 25 = .ok (.putfield 18, 3) := by decide +kernel
theorem dX10_init_28 : decode cX10_init 28 = .ok (.aload_n 0, 1) := by decide +kernel
theorem dX10_init_29 : decode cX10_init 29 = .ok (.bipush 10, 2) := by decide +kernel
theorem dX10_init_31 : decode cX10_init 31 = .ok (.newarray .long, 2) := by decide +kernel
theorem dX10_init_33 : decode cX10_init 33 = .ok (.putfield 21, 3) := by decide +kernel
theorem dX10_init_36 : decode cX10_init 36 = .ok (.aload_n 0, 1) := by decide +kernel
theorem dX10_init_37 : decode cX10_init 37 = .ok (.sipush 512, 3) := by decide +kernel
theorem dX10_init_40 : decode cX10_init 40 = .ok (.newarray .long, 2) := by decide +kernel
theorem dX10_init_42 : decode cX10_init 42 = .ok (.putfield 25, 3) := by decide +kernel
theorem dX10_init_45 : decode cX10_init 45 = .ok (.aload_n 0, 1) := by decide +kernel
theorem dX10_init_46 : decode cX10_init 46 = .ok (.sipush 512, 3) := by decide +kernel
theorem dX10_init_49 : decode cX10_init 49 = .ok (.newarray .int, 2) := by decide +kernel
theorem dX10_init_51 : decode cX10_init 51 = .ok (.putfield 28, 3) := by decide +kernel
theorem dX10_init_54 : decode cX10_init 54 = .ok (.return_, 1) := by decide +kernel
set_option maxHeartbeats 4000000 in
set_option maxRecDepth 100000 in
theorem kX10_init (l : Launch) (D : va_G) (dT : Nat → ClassId) (h0 sz : Nat) : Met l yX10_init wsX10_init ({ frames := 1, cells := 6, slots := 1055, locals := 12 }) (va_Pc [.ref h0] (fun U => U.heap.size = sz ∧ va_P D vwCl [(h0, .inr (9, [.int 0, .null, .null, .null, .null, .null, .null]))] U.heap ∧ va_K D vwCl (rh_tys dT) U ∧ va_D (fun _ => True) [(h0, .inr (9, [.int 0, .null, .null, .null, .null, .null, .null]))] ∧ ∀ w ∈ kn_ws, va_Nw w U)) (va_Qv (fun _ : Unit => True) (fun _ t => ∃ q1 q2 q3 q4 q5 q6 : Nat, va_P D vwCl [(h0, .inr (9, [.int 0, .ref q1, .ref q2, .ref q3, .ref q4, .ref q5, .ref q6])), (q1, .inl (dT 0, 6, .inl (fun _ => 0))), (q2, .inl (dT 0, 6, .inl (fun _ => 0))), (q3, .inl (dT 0, 9, .inl (fun _ => 0))), (q4, .inl (dT 1, 10, .inr (.inl (fun _ => 0)))), (q5, .inl (dT 1, 512, .inr (.inl (fun _ => 0)))), (q6, .inl (dT 0, 512, .inl (fun _ => 0)))] t.heap ∧ va_D (va_A [(h0, .inr (9, [.int 0, .null, .null, .null, .null, .null, .null]))] sz) [(h0, .inr (9, [.int 0, .ref q1, .ref q2, .ref q3, .ref q4, .ref q5, .ref q6])), (q1, .inl (dT 0, 6, .inl (fun _ => 0))), (q2, .inl (dT 0, 6, .inl (fun _ => 0))), (q3, .inl (dT 0, 9, .inl (fun _ => 0))), (q4, .inl (dT 1, 10, .inr (.inl (fun _ => 0)))), (q5, .inl (dT 1, 512, .inr (.inl (fun _ => 0)))), (q6, .inl (dT 0, 512, .inl (fun _ => 0)))]) (va_A [(h0, .inr (9, [.int 0, .null, .null, .null, .null, .null, .null]))] sz)) 6 1055 (va_A [(h0, .inr (9, [.int 0, .null, .null, .null, .null, .null, .null]))] sz) := by
  refine Met.ofW (cc := cX10_init) (maxL := 1) (ret := none) (by decide) rfl ?_
  intro p e s m args below meth c s₁ B hml hv
  obtain ⟨rfl, hsz, hP, hK, hD0, hN⟩ := hv
  have hx := B.exec
  have hb := B.bytes
  have hr := B.returns
  have hts := atoms_spec (ws := wsX10_init) B.pre
  have hown : s.vm.findClass RX10 = some m.cls := findClass_of_methodNamed B.named
  have hin : meth.name = "<init>" := (name_of_methodNamed B.named B.method).1
  subst hsz
  have hD := hD0.self (sz := s.heap.size)
  generalize hAe : va_A [(h0, .inr (9, [.int 0, .null, .null, .null, .null, .null, .null]))] s.heap.size = A at hD ⊢
  have hA : ∀ q : Nat, s.heap.size ≤ q → A q := fun q h => by rw [← hAe]; exact Or.inr h
  have hS : va_S A s.heap s.heap [] := va_S.rf
  have hP : va_P D vwCl [(h0, .inr (9, [.int 0, .null, .null, .null, .null, .null, .null]))] s.heap := hP
  have hl := lv_entry ([.ref h0]) (n := 1) (Nat.le_of_ble_eq_true rfl)
  rw [lg_entry_eq]
  generalize (lg_sl ([.ref h0]) ++ List.replicate (1 - (lg_sl ([.ref h0])).length) Slot.unset).toArray = ls at hl ⊢
  have hl : lv_has ls 1 [(0, .ref h0)] := hl
  refine lv_aload_n hx hb dX10_init_0 rfl (lv_at hl 0 rfl) ?_
  refine W.objInit hx hb hown (hts (.methodLink RX10 3 objectInit) (by decide +kernel)) (hts (.instanceMethod objectInit) (by decide +kernel)) (hts _ (List.mem_cons_of_mem _ (List.mem_append_left _ (List.mem_of_getElem? (i := 2) rfl)))) rfl (by rw [hml]; exact hl.1) rfl dX10_init_1 (Nat.le_of_ble_eq_true rfl) (Nat.le_of_ble_eq_true rfl) ?_
  refine W.eq (g2 := F0 m 4 ls []) rfl ?_
  refine lv_aload_n hx hb dX10_init_4 rfl (lv_at hl 0 rfl) ?_
  refine lv_bipush hx hb dX10_init_5 (v := 6) (by decide) ?_
  refine va_newa (atype := .int) (ty := .int) (a0 := (6, .inl (fun _ => 0))) hx hb (hts (.arrayClass .int) (by decide +kernel)) rfl hK hP hD hS hA (fun _ => rfl) (by decide) rfl (Nat.le_of_ble_eq_true rfl) (Nat.le_of_ble_eq_true rfl) (Nat.le_of_ble_eq_true rfl) dX10_init_7 (fun q1 cA H hK1 hP hD hS => ?_)
  obtain rfl : cA = dT 0 := kt_0 hK1
  have hP : va_P D vwCl [(h0, .inr (9, [.int 0, .null, .null, .null, .null, .null, .null])), (q1, .inl (dT 0, 6, .inl (fun _ => 0)))] H := hP
  have hD : va_D A [(h0, .inr (9, [.int 0, .null, .null, .null, .null, .null, .null])), (q1, .inl (dT 0, 6, .inl (fun _ => 0)))] := hD
  clear hK1
  refine W.widen (k := 1) (n := 6) (Nat.le_of_ble_eq_true rfl) (Nat.le_of_ble_eq_true rfl) ?_
  refine va_putF (D := D) (ci := 9) (v := .ref q1) (ty := .array .int) (C := RX10) (T := TX10) (N := 7) hx hb hts (by decide +kernel) tyX10 tyX10_ok nmX10 hown hK hP hD hS 0 rfl rfl 1 (by decide) (hts (.fieldLink RX10 9 "LighterAtDusk$Tasks" "lows" "[I") (by decide +kernel)) (fun _ h9 => h9) rfl hin rfl (by decide +kernel) rfl rfl (Nat.le_of_ble_eq_true rfl) dX10_init_9 (fun H locs hP hD hS => ?_)
  have hP : va_P D vwCl [(h0, .inr (9, [.int 0, .ref q1, .null, .null, .null, .null, .null])), (q1, .inl (dT 0, 6, .inl (fun _ => 0)))] H := hP
  have hD : va_D A [(h0, .inr (9, [.int 0, .ref q1, .null, .null, .null, .null, .null])), (q1, .inl (dT 0, 6, .inl (fun _ => 0)))] := hD
  refine lv_aload_n hx hb dX10_init_12 rfl (lv_at hl 0 rfl) ?_
  refine lv_bipush hx hb dX10_init_13 (v := 6) (by decide) ?_
  refine va_newa (atype := .int) (ty := .int) (a0 := (6, .inl (fun _ => 0))) hx hb (hts (.arrayClass .int) (by decide +kernel)) rfl hK hP hD hS hA (fun _ => rfl) (by decide) rfl (Nat.le_of_ble_eq_true rfl) (Nat.le_of_ble_eq_true rfl) (Nat.le_of_ble_eq_true rfl) dX10_init_15 (fun q2 cA H hK1 hP hD hS => ?_)
  obtain rfl : cA = dT 0 := kt_0 hK1
  have hP : va_P D vwCl [(h0, .inr (9, [.int 0, .ref q1, .null, .null, .null, .null, .null])), (q1, .inl (dT 0, 6, .inl (fun _ => 0))), (q2, .inl (dT 0, 6, .inl (fun _ => 0)))] H := hP
  have hD : va_D A [(h0, .inr (9, [.int 0, .ref q1, .null, .null, .null, .null, .null])), (q1, .inl (dT 0, 6, .inl (fun _ => 0))), (q2, .inl (dT 0, 6, .inl (fun _ => 0)))] := hD
  clear hK1
  refine W.widen (k := 2) (n := 12) (Nat.le_of_ble_eq_true rfl) (Nat.le_of_ble_eq_true rfl) ?_
  refine va_putF (D := D) (ci := 9) (v := .ref q2) (ty := .array .int) (C := RX10) (T := TX10) (N := 7) hx hb hts (by decide +kernel) tyX10 tyX10_ok nmX10 hown hK hP hD hS 0 rfl rfl 2 (by decide) (hts (.fieldLink RX10 15 "LighterAtDusk$Tasks" "highs" "[I") (by decide +kernel)) (fun _ h9 => h9) rfl hin rfl (by decide +kernel) rfl rfl (Nat.le_of_ble_eq_true rfl) dX10_init_17 (fun H locs hP hD hS => ?_)
  have hP : va_P D vwCl [(h0, .inr (9, [.int 0, .ref q1, .ref q2, .null, .null, .null, .null])), (q1, .inl (dT 0, 6, .inl (fun _ => 0))), (q2, .inl (dT 0, 6, .inl (fun _ => 0)))] H := hP
  have hD : va_D A [(h0, .inr (9, [.int 0, .ref q1, .ref q2, .null, .null, .null, .null])), (q1, .inl (dT 0, 6, .inl (fun _ => 0))), (q2, .inl (dT 0, 6, .inl (fun _ => 0)))] := hD
  refine lv_aload_n hx hb dX10_init_20 rfl (lv_at hl 0 rfl) ?_
  refine lv_bipush hx hb dX10_init_21 (v := 9) (by decide) ?_
  refine va_newa (atype := .int) (ty := .int) (a0 := (9, .inl (fun _ => 0))) hx hb (hts (.arrayClass .int) (by decide +kernel)) rfl hK hP hD hS hA (fun _ => rfl) (by decide) rfl (Nat.le_of_ble_eq_true rfl) (Nat.le_of_ble_eq_true rfl) (Nat.le_of_ble_eq_true rfl) dX10_init_23 (fun q3 cA H hK1 hP hD hS => ?_)
  obtain rfl : cA = dT 0 := kt_0 hK1
  have hP : va_P D vwCl [(h0, .inr (9, [.int 0, .ref q1, .ref q2, .null, .null, .null, .null])), (q1, .inl (dT 0, 6, .inl (fun _ => 0))), (q2, .inl (dT 0, 6, .inl (fun _ => 0))), (q3, .inl (dT 0, 9, .inl (fun _ => 0)))] H := hP
  have hD : va_D A [(h0, .inr (9, [.int 0, .ref q1, .ref q2, .null, .null, .null, .null])), (q1, .inl (dT 0, 6, .inl (fun _ => 0))), (q2, .inl (dT 0, 6, .inl (fun _ => 0))), (q3, .inl (dT 0, 9, .inl (fun _ => 0)))] := hD
  clear hK1
  refine W.widen (k := 3) (n := 21) (Nat.le_of_ble_eq_true rfl) (Nat.le_of_ble_eq_true rfl) ?_
  refine va_putF (D := D) (ci := 9) (v := .ref q3) (ty := .array .int) (C := RX10) (T := TX10) (N := 7) hx hb hts (by decide +kernel) tyX10 tyX10_ok nmX10 hown hK hP hD hS 0 rfl rfl 3 (by decide) (hts (.fieldLink RX10 18 "LighterAtDusk$Tasks" "doableAt" "[I") (by decide +kernel)) (fun _ h9 => h9) rfl hin rfl (by decide +kernel) rfl rfl (Nat.le_of_ble_eq_true rfl) dX10_init_25 (fun H locs hP hD hS => ?_)
  have hP : va_P D vwCl [(h0, .inr (9, [.int 0, .ref q1, .ref q2, .ref q3, .null, .null, .null])), (q1, .inl (dT 0, 6, .inl (fun _ => 0))), (q2, .inl (dT 0, 6, .inl (fun _ => 0))), (q3, .inl (dT 0, 9, .inl (fun _ => 0)))] H := hP
  have hD : va_D A [(h0, .inr (9, [.int 0, .ref q1, .ref q2, .ref q3, .null, .null, .null])), (q1, .inl (dT 0, 6, .inl (fun _ => 0))), (q2, .inl (dT 0, 6, .inl (fun _ => 0))), (q3, .inl (dT 0, 9, .inl (fun _ => 0)))] := hD
  refine lv_aload_n hx hb dX10_init_28 rfl (lv_at hl 0 rfl) ?_
  refine lv_bipush hx hb dX10_init_29 (v := 10) (by decide) ?_
  refine va_newa (atype := .long) (ty := .long) (a0 := (10, .inr (.inl (fun _ => 0)))) hx hb (hts (.arrayClass .long) (by decide +kernel)) rfl hK hP hD hS hA (fun _ => rfl) (by decide) rfl (Nat.le_of_ble_eq_true rfl) (Nat.le_of_ble_eq_true rfl) (Nat.le_of_ble_eq_true rfl) dX10_init_31 (fun q4 cA H hK1 hP hD hS => ?_)
  obtain rfl : cA = dT 1 := kt_1 hK1
  have hP : va_P D vwCl [(h0, .inr (9, [.int 0, .ref q1, .ref q2, .ref q3, .null, .null, .null])), (q1, .inl (dT 0, 6, .inl (fun _ => 0))), (q2, .inl (dT 0, 6, .inl (fun _ => 0))), (q3, .inl (dT 0, 9, .inl (fun _ => 0))), (q4, .inl (dT 1, 10, .inr (.inl (fun _ => 0))))] H := hP
  have hD : va_D A [(h0, .inr (9, [.int 0, .ref q1, .ref q2, .ref q3, .null, .null, .null])), (q1, .inl (dT 0, 6, .inl (fun _ => 0))), (q2, .inl (dT 0, 6, .inl (fun _ => 0))), (q3, .inl (dT 0, 9, .inl (fun _ => 0))), (q4, .inl (dT 1, 10, .inr (.inl (fun _ => 0))))] := hD
  clear hK1
  refine W.widen (k := 4) (n := 31) (Nat.le_of_ble_eq_true rfl) (Nat.le_of_ble_eq_true rfl) ?_
  refine va_putF (D := D) (ci := 9) (v := .ref q4) (ty := .array .long) (C := RX10) (T := TX10) (N := 7) hx hb hts (by decide +kernel) tyX10 tyX10_ok nmX10 hown hK hP hD hS 0 rfl rfl 4 (by decide) (hts (.fieldLink RX10 21 "LighterAtDusk$Tasks" "left" "[J") (by decide +kernel)) (fun _ h9 => h9) rfl hin rfl (by decide +kernel) rfl rfl (Nat.le_of_ble_eq_true rfl) dX10_init_33 (fun H locs hP hD hS => ?_)
  have hP : va_P D vwCl [(h0, .inr (9, [.int 0, .ref q1, .ref q2, .ref q3, .ref q4, .null, .null])), (q1, .inl (dT 0, 6, .inl (fun _ => 0))), (q2, .inl (dT 0, 6, .inl (fun _ => 0))), (q3, .inl (dT 0, 9, .inl (fun _ => 0))), (q4, .inl (dT 1, 10, .inr (.inl (fun _ => 0))))] H := hP
  have hD : va_D A [(h0, .inr (9, [.int 0, .ref q1, .ref q2, .ref q3, .ref q4, .null, .null])), (q1, .inl (dT 0, 6, .inl (fun _ => 0))), (q2, .inl (dT 0, 6, .inl (fun _ => 0))), (q3, .inl (dT 0, 9, .inl (fun _ => 0))), (q4, .inl (dT 1, 10, .inr (.inl (fun _ => 0))))] := hD
  refine lv_aload_n hx hb dX10_init_36 rfl (lv_at hl 0 rfl) ?_
  refine lv_sipush hx hb dX10_init_37 (v := 512) (by decide) ?_
  refine va_newa (atype := .long) (ty := .long) (a0 := (512, .inr (.inl (fun _ => 0)))) hx hb (hts (.arrayClass .long) (by decide +kernel)) rfl hK hP hD hS hA (fun _ => rfl) (by decide) rfl (Nat.le_of_ble_eq_true rfl) (Nat.le_of_ble_eq_true rfl) (Nat.le_of_ble_eq_true rfl) dX10_init_40 (fun q5 cA H hK1 hP hD hS => ?_)
  obtain rfl : cA = dT 1 := kt_1 hK1
  have hP : va_P D vwCl [(h0, .inr (9, [.int 0, .ref q1, .ref q2, .ref q3, .ref q4, .null, .null])), (q1, .inl (dT 0, 6, .inl (fun _ => 0))), (q2, .inl (dT 0, 6, .inl (fun _ => 0))), (q3, .inl (dT 0, 9, .inl (fun _ => 0))), (q4, .inl (dT 1, 10, .inr (.inl (fun _ => 0)))), (q5, .inl (dT 1, 512, .inr (.inl (fun _ => 0))))] H := hP
  have hD : va_D A [(h0, .inr (9, [.int 0, .ref q1, .ref q2, .ref q3, .ref q4, .null, .null])), (q1, .inl (dT 0, 6, .inl (fun _ => 0))), (q2, .inl (dT 0, 6, .inl (fun _ => 0))), (q3, .inl (dT 0, 9, .inl (fun _ => 0))), (q4, .inl (dT 1, 10, .inr (.inl (fun _ => 0)))), (q5, .inl (dT 1, 512, .inr (.inl (fun _ => 0))))] := hD
  clear hK1
  refine W.widen (k := 5) (n := 543) (Nat.le_of_ble_eq_true rfl) (Nat.le_of_ble_eq_true rfl) ?_
  refine va_putF (D := D) (ci := 9) (v := .ref q5) (ty := .array .long) (C := RX10) (T := TX10) (N := 7) hx hb hts (by decide +kernel) tyX10 tyX10_ok nmX10 hown hK hP hD hS 0 rfl rfl 5 (by decide) (hts (.fieldLink RX10 25 "LighterAtDusk$Tasks" "groups" "[J") (by decide +kernel)) (fun _ h9 => h9) rfl hin rfl (by decide +kernel) rfl rfl (Nat.le_of_ble_eq_true rfl) dX10_init_42 (fun H locs hP hD hS => ?_)
  have hP : va_P D vwCl [(h0, .inr (9, [.int 0, .ref q1, .ref q2, .ref q3, .ref q4, .ref q5, .null])), (q1, .inl (dT 0, 6, .inl (fun _ => 0))), (q2, .inl (dT 0, 6, .inl (fun _ => 0))), (q3, .inl (dT 0, 9, .inl (fun _ => 0))), (q4, .inl (dT 1, 10, .inr (.inl (fun _ => 0)))), (q5, .inl (dT 1, 512, .inr (.inl (fun _ => 0))))] H := hP
  have hD : va_D A [(h0, .inr (9, [.int 0, .ref q1, .ref q2, .ref q3, .ref q4, .ref q5, .null])), (q1, .inl (dT 0, 6, .inl (fun _ => 0))), (q2, .inl (dT 0, 6, .inl (fun _ => 0))), (q3, .inl (dT 0, 9, .inl (fun _ => 0))), (q4, .inl (dT 1, 10, .inr (.inl (fun _ => 0)))), (q5, .inl (dT 1, 512, .inr (.inl (fun _ => 0))))] := hD
  refine lv_aload_n hx hb dX10_init_45 rfl (lv_at hl 0 rfl) ?_
  refine lv_sipush hx hb dX10_init_46 (v := 512) (by decide) ?_
  refine va_newa (atype := .int) (ty := .int) (a0 := (512, .inl (fun _ => 0))) hx hb (hts (.arrayClass .int) (by decide +kernel)) rfl hK hP hD hS hA (fun _ => rfl) (by decide) rfl (Nat.le_of_ble_eq_true rfl) (Nat.le_of_ble_eq_true rfl) (Nat.le_of_ble_eq_true rfl) dX10_init_49 (fun q6 cA H hK1 hP hD hS => ?_)
  obtain rfl : cA = dT 0 := kt_0 hK1
  have hP : va_P D vwCl [(h0, .inr (9, [.int 0, .ref q1, .ref q2, .ref q3, .ref q4, .ref q5, .null])), (q1, .inl (dT 0, 6, .inl (fun _ => 0))), (q2, .inl (dT 0, 6, .inl (fun _ => 0))), (q3, .inl (dT 0, 9, .inl (fun _ => 0))), (q4, .inl (dT 1, 10, .inr (.inl (fun _ => 0)))), (q5, .inl (dT 1, 512, .inr (.inl (fun _ => 0)))), (q6, .inl (dT 0, 512, .inl (fun _ => 0)))] H := hP
  have hD : va_D A [(h0, .inr (9, [.int 0, .ref q1, .ref q2, .ref q3, .ref q4, .ref q5, .null])), (q1, .inl (dT 0, 6, .inl (fun _ => 0))), (q2, .inl (dT 0, 6, .inl (fun _ => 0))), (q3, .inl (dT 0, 9, .inl (fun _ => 0))), (q4, .inl (dT 1, 10, .inr (.inl (fun _ => 0)))), (q5, .inl (dT 1, 512, .inr (.inl (fun _ => 0)))), (q6, .inl (dT 0, 512, .inl (fun _ => 0)))] := hD
  clear hK1
  refine W.widen (k := 6) (n := 1055) (Nat.le_of_ble_eq_true rfl) (Nat.le_of_ble_eq_true rfl) ?_
  refine va_putF (D := D) (ci := 9) (v := .ref q6) (ty := .array .int) (C := RX10) (T := TX10) (N := 7) hx hb hts (by decide +kernel) tyX10 tyX10_ok nmX10 hown hK hP hD hS 0 rfl rfl 6 (by decide) (hts (.fieldLink RX10 28 "LighterAtDusk$Tasks" "able" "[I") (by decide +kernel)) (fun _ h9 => h9) rfl hin rfl (by decide +kernel) rfl rfl (Nat.le_of_ble_eq_true rfl) dX10_init_51 (fun H locs hP hD hS => ?_)
  have hP : va_P D vwCl [(h0, .inr (9, [.int 0, .ref q1, .ref q2, .ref q3, .ref q4, .ref q5, .ref q6])), (q1, .inl (dT 0, 6, .inl (fun _ => 0))), (q2, .inl (dT 0, 6, .inl (fun _ => 0))), (q3, .inl (dT 0, 9, .inl (fun _ => 0))), (q4, .inl (dT 1, 10, .inr (.inl (fun _ => 0)))), (q5, .inl (dT 1, 512, .inr (.inl (fun _ => 0)))), (q6, .inl (dT 0, 512, .inl (fun _ => 0)))] H := hP
  have hD : va_D A [(h0, .inr (9, [.int 0, .ref q1, .ref q2, .ref q3, .ref q4, .ref q5, .ref q6])), (q1, .inl (dT 0, 6, .inl (fun _ => 0))), (q2, .inl (dT 0, 6, .inl (fun _ => 0))), (q3, .inl (dT 0, 9, .inl (fun _ => 0))), (q4, .inl (dT 1, 10, .inr (.inl (fun _ => 0)))), (q5, .inl (dT 1, 512, .inr (.inl (fun _ => 0)))), (q6, .inl (dT 0, 512, .inl (fun _ => 0)))] := hD
  exact W.vret hx hb hr (fun t ht hW => ⟨⟨(), rfl, trivial, q1, q2, q3, q4, q5, q6, by rw [ht]; exact hP, hD⟩, hS.F ht⟩) hS.2.2 dX10_init_54
def wsX6_init : List Cond := .code yX6_init cX6_init 2 none :: ([.methodLink RX6 3 objectInit, .instanceMethod objectInit, .code objectInit ⟨#[0xb1]⟩ 1 none, .arrayClass .long, .fieldLink RX6 11 "LighterAtDusk$River" "reached" "[J", .fieldLink RX6 15 "LighterAtDusk$River" "crowd" "LLighterAtDusk$Crowd;"] ++ wsX60)
theorem dX6_init_0 : decode cX6_init 0 = .ok (.aload_n 0, 1) := by decide +kernel
theorem dX6_init_1 : decode cX6_init 1 = .ok (.invokespecial 3, 3) := by decide +kernel
theorem dX6_init_4 : decode cX6_init 4 = .ok (.aload_n 0, 1) := by decide +kernel
theorem dX6_init_5 : decode cX6_init 5 = .ok (.sipush 160, 3) := by decide +kernel
theorem dX6_init_8 : decode cX6_init 8 = .ok (.newarray .long, 2) := by decide +kernel
theorem dX6_init_10 : decode cX6_init 10 = .ok (.putfield 11, 3) := by decide +kernel
theorem dX6_init_13 : decode cX6_init 13 = .ok (.aload_n 0, 1) := by decide +kernel
theorem dX6_init_14 : decode cX6_init 14 = .ok (.aload_n 1, 1) := by decide +kernel
theorem dX6_init_15 : decode cX6_init 15 = .ok (.putfield 15, 3) := by decide +kernel
theorem dX6_init_18 : decode cX6_init 18 = .ok (.return_, 1) := by decide +kernel
set_option maxHeartbeats 4000000 in
set_option maxRecDepth 100000 in
theorem kX6_init (l : Launch) (D : va_G) (dT : Nat → ClassId) (h0 h1 sz : Nat) : Met l yX6_init wsX6_init ({ frames := 1, cells := 1, slots := 160, locals := 12 }) (va_Pc [.ref h0, .ref h1] (fun U => U.heap.size = sz ∧ va_P D vwCl [(h0, .inr (5, [.null, .null, .int 0, .int 0, .int 0]))] U.heap ∧ va_K D vwCl (rh_tys dT) U ∧ va_D (fun _ => True) [(h0, .inr (5, [.null, .null, .int 0, .int 0, .int 0]))] ∧ ∀ w ∈ kn_ws, va_Nw w U)) (va_Qv (fun _ : Unit => True) (fun _ t => ∃ q1 : Nat, va_P D vwCl [(h0, .inr (5, [.ref h1, .ref q1, .int 0, .int 0, .int 0])), (q1, .inl (dT 1, 160, .inr (.inl (fun _ => 0))))] t.heap ∧ va_D (va_A [(h0, .inr (5, [.null, .null, .int 0, .int 0, .int 0]))] sz) [(h0, .inr (5, [.ref h1, .ref q1, .int 0, .int 0, .int 0])), (q1, .inl (dT 1, 160, .inr (.inl (fun _ => 0))))]) (va_A [(h0, .inr (5, [.null, .null, .int 0, .int 0, .int 0]))] sz)) 1 160 (va_A [(h0, .inr (5, [.null, .null, .int 0, .int 0, .int 0]))] sz) := by
  refine Met.ofW (cc := cX6_init) (maxL := 2) (ret := none) (by decide) rfl ?_
  intro p e s m args below meth c s₁ B hml hv
  obtain ⟨rfl, hsz, hP, hK, hD0, hN⟩ := hv
  have hx := B.exec
  have hb := B.bytes
  have hr := B.returns
  have hts := atoms_spec (ws := wsX6_init) B.pre
  have hown : s.vm.findClass RX6 = some m.cls := findClass_of_methodNamed B.named
  have hin : meth.name = "<init>" := (name_of_methodNamed B.named B.method).1
  subst hsz
  have hD := hD0.self (sz := s.heap.size)
  generalize hAe : va_A [(h0, .inr (5, [.null, .null, .int 0, .int 0, .int 0]))] s.heap.size = A at hD ⊢
  have hA : ∀ q : Nat, s.heap.size ≤ q → A q := fun q h => by rw [← hAe]; exact Or.inr h
  have hS : va_S A s.heap s.heap [] := va_S.rf
  have hP : va_P D vwCl [(h0, .inr (5, [.null, .null, .int 0, .int 0, .int 0]))] s.heap := hP
  have hl := lv_entry ([.ref h0, .ref h1]) (n := 2) (Nat.le_of_ble_eq_true rfl)
  rw [lg_entry_eq]
  generalize (lg_sl ([.ref h0, .ref h1]) ++ List.replicate (2 - (lg_sl ([.ref h0, .ref h1])).length) Slot.unset).toArray = ls at hl ⊢
  have hl : lv_has ls 2 [(0, .ref h0), (1, .ref h1)] := hl
  refine lv_aload_n hx hb dX6_init_0 rfl (lv_at hl 0 rfl) ?_
  refine W.objInit hx hb hown (hts (.methodLink RX6 3 objectInit) (by decide +kernel)) (hts (.instanceMethod objectInit) (by decide +kernel)) (hts _ (List.mem_cons_of_mem _ (List.mem_append_left _ (List.mem_of_getElem? (i := 2) rfl)))) rfl (by rw [hml]; exact hl.1) rfl dX6_init_1 (Nat.le_of_ble_eq_true rfl) (Nat.le_of_ble_eq_true rfl) ?_
  refine W.eq (g2 := F0 m 4 ls []) rfl ?_
  refine lv_aload_n hx hb dX6_init_4 rfl (lv_at hl 0 rfl) ?_
  refine lv_sipush hx hb dX6_init_5 (v := 160) (by decide) ?_
  refine va_newa (atype := .long) (ty := .long) (a0 := (160, .inr (.inl (fun _ => 0)))) hx hb (hts (.arrayClass .long) (by decide +kernel)) rfl hK hP hD hS hA (fun _ => rfl) (by decide) rfl (Nat.le_of_ble_eq_true rfl) (Nat.le_of_ble_eq_true rfl) (Nat.le_of_ble_eq_true rfl) dX6_init_8 (fun q1 cA H hK1 hP hD hS => ?_)
  obtain rfl : cA = dT 1 := kt_1 hK1
  have hP : va_P D vwCl [(h0, .inr (5, [.null, .null, .int 0, .int 0, .int 0])), (q1, .inl (dT 1, 160, .inr (.inl (fun _ => 0))))] H := hP
  have hD : va_D A [(h0, .inr (5, [.null, .null, .int 0, .int 0, .int 0])), (q1, .inl (dT 1, 160, .inr (.inl (fun _ => 0))))] := hD
  clear hK1
  refine W.widen (k := 1) (n := 160) (Nat.le_of_ble_eq_true rfl) (Nat.le_of_ble_eq_true rfl) ?_
  refine va_putF (D := D) (ci := 5) (v := .ref q1) (ty := .array .long) (C := RX6) (T := TX6) (N := 5) hx hb hts (by decide +kernel) tyX6 tyX6_ok nmX6 hown hK hP hD hS 0 rfl rfl 1 (by decide) (hts (.fieldLink RX6 11 "LighterAtDusk$River" "reached" "[J") (by decide +kernel)) (fun _ h9 => h9) rfl hin rfl (by decide +kernel) rfl rfl (Nat.le_of_ble_eq_true rfl) dX6_init_10 (fun H locs hP hD hS => ?_)
  have hP : va_P D vwCl [(h0, .inr (5, [.null, .ref q1, .int 0, .int 0, .int 0])), (q1, .inl (dT 1, 160, .inr (.inl (fun _ => 0))))] H := hP
  have hD : va_D A [(h0, .inr (5, [.null, .ref q1, .int 0, .int 0, .int 0])), (q1, .inl (dT 1, 160, .inr (.inl (fun _ => 0))))] := hD
  refine lv_aload_n hx hb dX6_init_13 rfl (lv_at hl 0 rfl) ?_
  refine lv_aload_n hx hb dX6_init_14 rfl (lv_at hl 1 rfl) ?_
  refine va_putF (D := D) (ci := 5) (v := .ref h1) (ty := .object "LighterAtDusk$Crowd") (C := RX6) (T := TX6) (N := 5) hx hb hts (by decide +kernel) tyX6 tyX6_ok nmX6 hown hK hP hD hS 0 rfl rfl 0 (by decide) (hts (.fieldLink RX6 15 "LighterAtDusk$River" "crowd" "LLighterAtDusk$Crowd;") (by decide +kernel)) (fun _ h9 => h9) rfl hin rfl (by decide +kernel) rfl rfl (Nat.le_of_ble_eq_true rfl) dX6_init_15 (fun H locs hP hD hS => ?_)
  have hP : va_P D vwCl [(h0, .inr (5, [.ref h1, .ref q1, .int 0, .int 0, .int 0])), (q1, .inl (dT 1, 160, .inr (.inl (fun _ => 0))))] H := hP
  have hD : va_D A [(h0, .inr (5, [.ref h1, .ref q1, .int 0, .int 0, .int 0])), (q1, .inl (dT 1, 160, .inr (.inl (fun _ => 0))))] := hD
  exact W.vret hx hb hr (fun t ht hW => ⟨⟨(), rfl, trivial, q1, by rw [ht]; exact hP, hD⟩, hS.F ht⟩) hS.2.2 dX6_init_18
def wsX8_init : List Cond := .code yX8_init cX8_init 2 none :: ([.methodLink RX8 3 objectInit, .instanceMethod objectInit, .code objectInit ⟨#[0xb1]⟩ 1 none, .arrayClass .int, .fieldLink RX8 11 "LighterAtDusk$Scales" "sets" "[I", .fieldLink RX8 15 "LighterAtDusk$Scales" "waits" "[I", .fieldLink RX8 18 "LighterAtDusk$Scales" "sums" "[I", .fieldLink RX8 21 "LighterAtDusk$Scales" "needs" "[I", .fieldLink RX8 24 "LighterAtDusk$Scales" "moments" "[I", .fieldLink RX8 27 "LighterAtDusk$Scales" "crowd" "LLighterAtDusk$Crowd;"] ++ wsX80)
theorem dX8_init_0 : decode cX8_init 0 = .ok (.aload_n 0, 1) := by decide +kernel
theorem dX8_init_1 : decode cX8_init 1 = .ok (.invokespecial 3, 3) := by decide +kernel
theorem dX8_init_4 : decode cX8_init 4 = .ok (.aload_n 0, 1) := by decide +kernel
theorem dX8_init_5 : decode cX8_init 5 = .ok (.bipush 10, 2) := by decide +kernel
theorem dX8_init_7 : decode cX8_init 7 = .ok (.newarray .int, 2) := by decide +kernel
theorem dX8_init_9 : decode cX8_init 9 = .ok (.putfield 11, 3) := by decide +kernel
theorem dX8_init_12 : decode cX8_init 12 = .ok (.aload_n 0, 1) := by decide +kernel
theorem dX8_init_13 : decode cX8_init 13 = .ok (.bipush 10, 2) := by decide +kernel
theorem dX8_init_15 : decode cX8_init 15 = .ok (.newarray .int, 2) := by decide +kernel
theorem dX8_init_17 : decode cX8_init 17 = .ok (.putfield 15, 3) := by decide +kernel
theorem dX8_init_20 : decode cX8_init 20 = .ok (.aload_n 0, 1) := by decide +kernel
theorem dX8_init_21 : decode cX8_init 21 = .ok (.bipush 10, 2) := by decide +kernel
theorem dX8_init_23 : decode cX8_init 23 = .ok (.newarray .int, 2) := by decide +kernel
theorem dX8_init_25 : decode cX8_init 25 = .ok (.putfield 18, 3) := by decide +kernel
theorem dX8_init_28 : decode cX8_init 28 = .ok (.aload_n 0, 1) := by decide +kernel
theorem dX8_init_29 : decode cX8_init 29 = .ok (.bipush 10, 2) := by decide +kernel
theorem dX8_init_31 : decode cX8_init 31 = .ok (.newarray .int, 2) := by decide +kernel
theorem dX8_init_33 : decode cX8_init 33 = .ok (.putfield 21, 3) := by decide +kernel
theorem dX8_init_36 : decode cX8_init 36 = .ok (.aload_n 0, 1) := by decide +kernel
theorem dX8_init_37 : decode cX8_init 37 = .ok (.bipush 10, 2) := by decide +kernel
theorem dX8_init_39 : decode cX8_init 39 = .ok (.newarray .int, 2) := by decide +kernel
theorem dX8_init_41 : decode cX8_init 41 = .ok (.putfield 24, 3) := by decide +kernel
theorem dX8_init_44 : decode cX8_init 44 = .ok (.aload_n 0, 1) := by decide +kernel
theorem dX8_init_45 : decode cX8_init 45 = .ok (.aload_n 1, 1) := by decide +kernel
theorem dX8_init_46 : decode cX8_init 46 = .ok (.putfield 27, 3) := by decide +kernel
theorem dX8_init_49 : decode cX8_init 49 = .ok (.return_, 1) := by decide +kernel
set_option maxHeartbeats 4000000 in
set_option maxRecDepth 100000 in
theorem kX8_init (l : Launch) (D : va_G) (dT : Nat → ClassId) (h0 h1 sz : Nat) : Met l yX8_init wsX8_init ({ frames := 1, cells := 5, slots := 50, locals := 12 }) (va_Pc [.ref h0, .ref h1] (fun U => U.heap.size = sz ∧ va_P D vwCl [(h0, .inr (7, [.null, .int 0, .null, .null, .null, .null, .null, .int 0]))] U.heap ∧ va_K D vwCl (rh_tys dT) U ∧ va_D (fun _ => True) [(h0, .inr (7, [.null, .int 0, .null, .null, .null, .null, .null, .int 0]))] ∧ ∀ w ∈ kn_ws, va_Nw w U)) (va_Qv (fun _ : Unit => True) (fun _ t => ∃ q1 q2 q3 q4 q5 : Nat, va_P D vwCl [(h0, .inr (7, [.ref h1, .int 0, .ref q1, .ref q2, .ref q3, .ref q4, .ref q5, .int 0])), (q1, .inl (dT 0, 10, .inl (fun _ => 0))), (q2, .inl (dT 0, 10, .inl (fun _ => 0))), (q3, .inl (dT 0, 10, .inl (fun _ => 0))), (q4, .inl (dT 0, 10, .inl (fun _ => 0))), (q5, .inl (dT 0, 10, .inl (fun _ => 0)))] t.heap ∧ va_D (va_A [(h0, .inr (7, [.null, .int 0, .null, .null, .null, .null, .null, .int 0]))] sz) [(h0, .inr (7, [.ref h1, .int 0, .ref q1, .ref q2, .ref q3, .ref q4, .ref q5, .int 0])), (q1, .inl (dT 0, 10, .inl (fun _ => 0))), (q2, .inl (dT 0, 10, .inl (fun _ => 0))), (q3, .inl (dT 0, 10, .inl (fun _ => 0))), (q4, .inl (dT 0, 10, .inl (fun _ => 0))), (q5, .inl (dT 0, 10, .inl (fun _ => 0)))]) (va_A [(h0, .inr (7, [.null, .int 0, .null, .null, .null, .null, .null, .int 0]))] sz)) 5 50 (va_A [(h0, .inr (7, [.null, .int 0, .null, .null, .null, .null, .null, .int 0]))] sz) := by
  refine Met.ofW (cc := cX8_init) (maxL := 2) (ret := none) (by decide) rfl ?_
  intro p e s m args below meth c s₁ B hml hv
  obtain ⟨rfl, hsz, hP, hK, hD0, hN⟩ := hv
  have hx := B.exec
  have hb := B.bytes
  have hr := B.returns
  have hts := atoms_spec (ws := wsX8_init) B.pre
  have hown : s.vm.findClass RX8 = some m.cls := findClass_of_methodNamed B.named
  have hin : meth.name = "<init>" := (name_of_methodNamed B.named B.method).1
  subst hsz
  have hD := hD0.self (sz := s.heap.size)
  generalize hAe : va_A [(h0, .inr (7, [.null, .int 0, .null, .null, .null, .null, .null, .int 0]))] s.heap.size = A at hD ⊢
  have hA : ∀ q : Nat, s.heap.size ≤ q → A q := fun q h => by rw [← hAe]; exact Or.inr h
  have hS : va_S A s.heap s.heap [] := va_S.rf
  have hP : va_P D vwCl [(h0, .inr (7, [.null, .int 0, .null, .null, .null, .null, .null, .int 0]))] s.heap := hP
  have hl := lv_entry ([.ref h0, .ref h1]) (n := 2) (Nat.le_of_ble_eq_true rfl)
  rw [lg_entry_eq]
  generalize (lg_sl ([.ref h0, .ref h1]) ++ List.replicate (2 - (lg_sl ([.ref h0, .ref h1])).length) Slot.unset).toArray = ls at hl ⊢
  have hl : lv_has ls 2 [(0, .ref h0), (1, .ref h1)] := hl
  refine lv_aload_n hx hb dX8_init_0 rfl (lv_at hl 0 rfl) ?_
  refine W.objInit hx hb hown (hts (.methodLink RX8 3 objectInit) (by decide +kernel)) (hts (.instanceMethod objectInit) (by decide +kernel)) (hts _ (List.mem_cons_of_mem _ (List.mem_append_left _ (List.mem_of_getElem? (i := 2) rfl)))) rfl (by rw [hml]; exact hl.1) rfl dX8_init_1 (Nat.le_of_ble_eq_true rfl) (Nat.le_of_ble_eq_true rfl) ?_
  refine W.eq (g2 := F0 m 4 ls []) rfl ?_
  refine lv_aload_n hx hb dX8_init_4 rfl (lv_at hl 0 rfl) ?_
  refine lv_bipush hx hb dX8_init_5 (v := 10) (by decide) ?_
  refine va_newa (atype := .int) (ty := .int) (a0 := (10, .inl (fun _ => 0))) hx hb (hts (.arrayClass .int) (by decide +kernel)) rfl hK hP hD hS hA (fun _ => rfl) (by decide) rfl (Nat.le_of_ble_eq_true rfl) (Nat.le_of_ble_eq_true rfl) (Nat.le_of_ble_eq_true rfl) dX8_init_7 (fun q1 cA H hK1 hP hD hS => ?_)
  obtain rfl : cA = dT 0 := kt_0 hK1
  have hP : va_P D vwCl [(h0, .inr (7, [.null, .int 0, .null, .null, .null, .null, .null, .int 0])), (q1, .inl (dT 0, 10, .inl (fun _ => 0)))] H := hP
  have hD : va_D A [(h0, .inr (7, [.null, .int 0, .null, .null, .null, .null, .null, .int 0])), (q1, .inl (dT 0, 10, .inl (fun _ => 0)))] := hD
  clear hK1
  refine W.widen (k := 1) (n := 10) (Nat.le_of_ble_eq_true rfl) (Nat.le_of_ble_eq_true rfl) ?_
  refine va_putF (D := D) (ci := 7) (v := .ref q1) (ty := .array .int) (C := RX8) (T := TX8) (N := 8) hx hb hts (by decide +kernel) tyX8 tyX8_ok nmX8 hown hK hP hD hS 0 rfl rfl 2 (by decide) (hts (.fieldLink RX8 11 "LighterAtDusk$Scales" "sets" "[I") (by decide +kernel)) (fun _ h9 => h9) rfl hin rfl (by decide +kernel) rfl rfl (Nat.le_of_ble_eq_true rfl) dX8_init_9 (fun H locs hP hD hS => ?_)
  have hP : va_P D vwCl [(h0, .inr (7, [.null, .int 0, .ref q1, .null, .null, .null, .null, .int 0])), (q1, .inl (dT 0, 10, .inl (fun _ => 0)))] H := hP
  have hD : va_D A [(h0, .inr (7, [.null, .int 0, .ref q1, .null, .null, .null, .null, .int 0])), (q1, .inl (dT 0, 10, .inl (fun _ => 0)))] := hD
  refine lv_aload_n hx hb dX8_init_12 rfl (lv_at hl 0 rfl) ?_
  refine lv_bipush hx hb dX8_init_13 (v := 10) (by decide) ?_
  refine va_newa (atype := .int) (ty := .int) (a0 := (10, .inl (fun _ => 0))) hx hb (hts (.arrayClass .int) (by decide +kernel)) rfl hK hP hD hS hA (fun _ => rfl) (by decide) rfl (Nat.le_of_ble_eq_true rfl) (Nat.le_of_ble_eq_true rfl) (Nat.le_of_ble_eq_true rfl) dX8_init_15 (fun q2 cA H hK1 hP hD hS => ?_)
  obtain rfl : cA = dT 0 := kt_0 hK1
  have hP : va_P D vwCl [(h0, .inr (7, [.null, .int 0, .ref q1, .null, .null, .null, .null, .int 0])), (q1, .inl (dT 0, 10, .inl (fun _ => 0))), (q2, .inl (dT 0, 10, .inl (fun _ => 0)))] H := hP
  have hD : va_D A [(h0, .inr (7, [.null, .int 0, .ref q1, .null, .null, .null, .null, .int 0])), (q1, .inl (dT 0, 10, .inl (fun _ => 0))), (q2, .inl (dT 0, 10, .inl (fun _ => 0)))] := hD
  clear hK1
  refine W.widen (k := 2) (n := 20) (Nat.le_of_ble_eq_true rfl) (Nat.le_of_ble_eq_true rfl) ?_
  refine va_putF (D := D) (ci := 7) (v := .ref q2) (ty := .array .int) (C := RX8) (T := TX8) (N := 8) hx hb hts (by decide +kernel) tyX8 tyX8_ok nmX8 hown hK hP hD hS 0 rfl rfl 3 (by decide) (hts (.fieldLink RX8 15 "LighterAtDusk$Scales" "waits" "[I") (by decide +kernel)) (fun _ h9 => h9) rfl hin rfl (by decide +kernel) rfl rfl (Nat.le_of_ble_eq_true rfl) dX8_init_17 (fun H locs hP hD hS => ?_)
  have hP : va_P D vwCl [(h0, .inr (7, [.null, .int 0, .ref q1, .ref q2, .null, .null, .null, .int 0])), (q1, .inl (dT 0, 10, .inl (fun _ => 0))), (q2, .inl (dT 0, 10, .inl (fun _ => 0)))] H := hP
  have hD : va_D A [(h0, .inr (7, [.null, .int 0, .ref q1, .ref q2, .null, .null, .null, .int 0])), (q1, .inl (dT 0, 10, .inl (fun _ => 0))), (q2, .inl (dT 0, 10, .inl (fun _ => 0)))] := hD
  refine lv_aload_n hx hb dX8_init_20 rfl (lv_at hl 0 rfl) ?_
  refine lv_bipush hx hb dX8_init_21 (v := 10) (by decide) ?_
  refine va_newa (atype := .int) (ty := .int) (a0 := (10, .inl (fun _ => 0))) hx hb (hts (.arrayClass .int) (by decide +kernel)) rfl hK hP hD hS hA (fun _ => rfl) (by decide) rfl (Nat.le_of_ble_eq_true rfl) (Nat.le_of_ble_eq_true rfl) (Nat.le_of_ble_eq_true rfl) dX8_init_23 (fun q3 cA H hK1 hP hD hS => ?_)
  obtain rfl : cA = dT 0 := kt_0 hK1
  have hP : va_P D vwCl [(h0, .inr (7, [.null, .int 0, .ref q1, .ref q2, .null, .null, .null, .int 0])), (q1, .inl (dT 0, 10, .inl (fun _ => 0))), (q2, .inl (dT 0, 10, .inl (fun _ => 0))), (q3, .inl (dT 0, 10, .inl (fun _ => 0)))] H := hP
  have hD : va_D A [(h0, .inr (7, [.null, .int 0, .ref q1, .ref q2, .null, .null, .null, .int 0])), (q1, .inl (dT 0, 10, .inl (fun _ => 0))), (q2, .inl (dT 0, 10, .inl (fun _ => 0))), (q3, .inl (dT 0, 10, .inl (fun _ => 0)))] := hD
  clear hK1
  refine W.widen (k := 3) (n := 30) (Nat.le_of_ble_eq_true rfl) (Nat.le_of_ble_eq_true rfl) ?_
  refine va_putF (D := D) (ci := 7) (v := .ref q3) (ty := .array .int) (C := RX8) (T := TX8) (N := 8) hx hb hts (by decide +kernel) tyX8 tyX8_ok nmX8 hown hK hP hD hS 0 rfl rfl 4 (by decide) (hts (.fieldLink RX8 18 "LighterAtDusk$Scales" "sums" "[I") (by decide +kernel)) (fun _ h9 => h9) rfl hin rfl (by decide +kernel) rfl rfl (Nat.le_of_ble_eq_true rfl) dX8_init_25 (fun H locs hP hD hS => ?_)
  have hP : va_P D vwCl [(h0, .inr (7, [.null, .int 0, .ref q1, .ref q2, .ref q3, .null, .null, .int 0])), (q1, .inl (dT 0, 10, .inl (fun _ => 0))), (q2, .inl (dT 0, 10, .inl (fun _ => 0))), (q3, .inl (dT 0, 10, .inl (fun _ => 0)))] H := hP
  have hD : va_D A [(h0, .inr (7, [.null, .int 0, .ref q1, .ref q2, .ref q3, .null, .null, .int 0])), (q1, .inl (dT 0, 10, .inl (fun _ => 0))), (q2, .inl (dT 0, 10, .inl (fun _ => 0))), (q3, .inl (dT 0, 10, .inl (fun _ => 0)))] := hD
  refine lv_aload_n hx hb dX8_init_28 rfl (lv_at hl 0 rfl) ?_
  refine lv_bipush hx hb dX8_init_29 (v := 10) (by decide) ?_
  refine va_newa (atype := .int) (ty := .int) (a0 := (10, .inl (fun _ => 0))) hx hb (hts (.arrayClass .int) (by decide +kernel)) rfl hK hP hD hS hA (fun _ => rfl) (by decide) rfl (Nat.le_of_ble_eq_true rfl) (Nat.le_of_ble_eq_true rfl) (Nat.le_of_ble_eq_true rfl) dX8_init_31 (fun q4 cA H hK1 hP hD hS => ?_)
  obtain rfl : cA = dT 0 := kt_0 hK1
  have hP : va_P D vwCl [(h0, .inr (7, [.null, .int 0, .ref q1, .ref q2, .ref q3, .null, .null, .int 0])), (q1, .inl (dT 0, 10, .inl (fun _ => 0))), (q2, .inl (dT 0, 10, .inl (fun _ => 0))), (q3, .inl (dT 0, 10, .inl (fun _ => 0))), (q4, .inl (dT 0, 10, .inl (fun _ => 0)))] H := hP
  have hD : va_D A [(h0, .inr (7, [.null, .int 0, .ref q1, .ref q2, .ref q3, .null, .null, .int 0])), (q1, .inl (dT 0, 10, .inl (fun _ => 0))), (q2, .inl (dT 0, 10, .inl (fun _ => 0))), (q3, .inl (dT 0, 10, .inl (fun _ => 0))), (q4, .inl (dT 0, 10, .inl (fun _ => 0)))] := hD
  clear hK1
  refine W.widen (k := 4) (n := 40) (Nat.le_of_ble_eq_true rfl) (Nat.le_of_ble_eq_true rfl) ?_
  refine va_putF (D := D) (ci := 7) (v := .ref q4) (ty := .array .int) (C := RX8) (T := TX8) (N := 8) hx hb hts (by decide +kernel) tyX8 tyX8_ok nmX8 hown hK hP hD hS 0 rfl rfl 5 (by decide) (hts (.fieldLink RX8 21 "LighterAtDusk$Scales" "needs" "[I") (by decide +kernel)) (fun _ h9 => h9) rfl hin rfl (by decide +kernel) rfl rfl (Nat.le_of_ble_eq_true rfl) dX8_init_33 (fun H locs hP hD hS => ?_)
  have hP : va_P D vwCl [(h0, .inr (7, [.null, .int 0, .ref q1, .ref q2, .ref q3, .ref q4, .null, .int 0])), (q1, .inl (dT 0, 10, .inl (fun _ => 0))), (q2, .inl (dT 0, 10, .inl (fun _ => 0))), (q3, .inl (dT 0, 10, .inl (fun _ => 0))), (q4, .inl (dT 0, 10, .inl (fun _ => 0)))] H := hP
  have hD : va_D A [(h0, .inr (7, [.null, .int 0, .ref q1, .ref q2, .ref q3, .ref q4, .null, .int 0])), (q1, .inl (dT 0, 10, .inl (fun _ => 0))), (q2, .inl (dT 0, 10, .inl (fun _ => 0))), (q3, .inl (dT 0, 10, .inl (fun _ => 0))), (q4, .inl (dT 0, 10, .inl (fun _ => 0)))] := hD
  refine lv_aload_n hx hb dX8_init_36 rfl (lv_at hl 0 rfl) ?_
  refine lv_bipush hx hb dX8_init_37 (v := 10) (by decide) ?_
  refine va_newa (atype := .int) (ty := .int) (a0 := (10, .inl (fun _ => 0))) hx hb (hts (.arrayClass .int) (by decide +kernel)) rfl hK hP hD hS hA (fun _ => rfl) (by decide) rfl (Nat.le_of_ble_eq_true rfl) (Nat.le_of_ble_eq_true rfl) (Nat.le_of_ble_eq_true rfl) dX8_init_39 (fun q5 cA H hK1 hP hD hS => ?_)
  obtain rfl : cA = dT 0 := kt_0 hK1
  have hP : va_P D vwCl [(h0, .inr (7, [.null, .int 0, .ref q1, .ref q2, .ref q3, .ref q4, .null, .int 0])), (q1, .inl (dT 0, 10, .inl (fun _ => 0))), (q2, .inl (dT 0, 10, .inl (fun _ => 0))), (q3, .inl (dT 0, 10, .inl (fun _ => 0))), (q4, .inl (dT 0, 10, .inl (fun _ => 0))), (q5, .inl (dT 0, 10, .inl (fun _ => 0)))] H := hP
  have hD : va_D A [(h0, .inr (7, [.null, .int 0, .ref q1, .ref q2, .ref q3, .ref q4, .null, .int 0])), (q1, .inl (dT 0, 10, .inl (fun _ => 0))), (q2, .inl (dT 0, 10, .inl (fun _ => 0))), (q3, .inl (dT 0, 10, .inl (fun _ => 0))), (q4, .inl (dT 0, 10, .inl (fun _ => 0))), (q5, .inl (dT 0, 10, .inl (fun _ => 0)))] := hD
  clear hK1
  refine W.widen (k := 5) (n := 50) (Nat.le_of_ble_eq_true rfl) (Nat.le_of_ble_eq_true rfl) ?_
  refine va_putF (D := D) (ci := 7) (v := .ref q5) (ty := .array .int) (C := RX8) (T := TX8) (N := 8) hx hb hts (by decide +kernel) tyX8 tyX8_ok nmX8 hown hK hP hD hS 0 rfl rfl 6 (by decide) (hts (.fieldLink RX8 24 "LighterAtDusk$Scales" "moments" "[I") (by decide +kernel)) (fun _ h9 => h9) rfl hin rfl (by decide +kernel) rfl rfl (Nat.le_of_ble_eq_true rfl) dX8_init_41 (fun H locs hP hD hS => ?_)
  have hP : va_P D vwCl [(h0, .inr (7, [.null, .int 0, .ref q1, .ref q2, .ref q3, .ref q4, .ref q5, .int 0])), (q1, .inl (dT 0, 10, .inl (fun _ => 0))), (q2, .inl (dT 0, 10, .inl (fun _ => 0))), (q3, .inl (dT 0, 10, .inl (fun _ => 0))), (q4, .inl (dT 0, 10, .inl (fun _ => 0))), (q5, .inl (dT 0, 10, .inl (fun _ => 0)))] H := hP
  have hD : va_D A [(h0, .inr (7, [.null, .int 0, .ref q1, .ref q2, .ref q3, .ref q4, .ref q5, .int 0])), (q1, .inl (dT 0, 10, .inl (fun _ => 0))), (q2, .inl (dT 0, 10, .inl (fun _ => 0))), (q3, .inl (dT 0, 10, .inl (fun _ => 0))), (q4, .inl (dT 0, 10, .inl (fun _ => 0))), (q5, .inl (dT 0, 10, .inl (fun _ => 0)))] := hD
  refine lv_aload_n hx hb dX8_init_44 rfl (lv_at hl 0 rfl) ?_
  refine lv_aload_n hx hb dX8_init_45 rfl (lv_at hl 1 rfl) ?_
  refine va_putF (D := D) (ci := 7) (v := .ref h1) (ty := .object "LighterAtDusk$Crowd") (C := RX8) (T := TX8) (N := 8) hx hb hts (by decide +kernel) tyX8 tyX8_ok nmX8 hown hK hP hD hS 0 rfl rfl 0 (by decide) (hts (.fieldLink RX8 27 "LighterAtDusk$Scales" "crowd" "LLighterAtDusk$Crowd;") (by decide +kernel)) (fun _ h9 => h9) rfl hin rfl (by decide +kernel) rfl rfl (Nat.le_of_ble_eq_true rfl) dX8_init_46 (fun H locs hP hD hS => ?_)
  have hP : va_P D vwCl [(h0, .inr (7, [.ref h1, .int 0, .ref q1, .ref q2, .ref q3, .ref q4, .ref q5, .int 0])), (q1, .inl (dT 0, 10, .inl (fun _ => 0))), (q2, .inl (dT 0, 10, .inl (fun _ => 0))), (q3, .inl (dT 0, 10, .inl (fun _ => 0))), (q4, .inl (dT 0, 10, .inl (fun _ => 0))), (q5, .inl (dT 0, 10, .inl (fun _ => 0)))] H := hP
  have hD : va_D A [(h0, .inr (7, [.ref h1, .int 0, .ref q1, .ref q2, .ref q3, .ref q4, .ref q5, .int 0])), (q1, .inl (dT 0, 10, .inl (fun _ => 0))), (q2, .inl (dT 0, 10, .inl (fun _ => 0))), (q3, .inl (dT 0, 10, .inl (fun _ => 0))), (q4, .inl (dT 0, 10, .inl (fun _ => 0))), (q5, .inl (dT 0, 10, .inl (fun _ => 0)))] := hD
  exact W.vret hx hb hr (fun t ht hW => ⟨⟨(), rfl, trivial, q1, q2, q3, q4, q5, by rw [ht]; exact hP, hD⟩, hS.F ht⟩) hS.2.2 dX8_init_49
def wsX9_init : List Cond := .code yX9_init cX9_init 3 none :: ([.methodLink RX9 3 objectInit, .instanceMethod objectInit, .code objectInit ⟨#[0xb1]⟩ 1 none, .arrayClass .int, .fieldLink RX9 9 "LighterAtDusk$Stance" "standing" "[I", .fieldLink RX9 15 "LighterAtDusk$Stance" "weights" "[I", .fieldLink RX9 18 "LighterAtDusk$Stance" "ways" "[I", .fieldLink RX9 21 "LighterAtDusk$Stance" "wayCounts" "[I", .fieldLink RX9 24 "LighterAtDusk$Stance" "best" "[I", .fieldLink RX9 27 "LighterAtDusk$Stance" "slots" "[I", .fieldLink RX9 30 "LighterAtDusk$Stance" "crowd" "LLighterAtDusk$Crowd;", .fieldLink RX9 34 "LighterAtDusk$Stance" "deck" "LLighterAtDusk$Deck;"] ++ wsX90)
theorem dX9_init_0 : decode cX9_init 0 = .ok (.aload_n 0, 1) := by decide +kernel
theorem dX9_init_1 : decode cX9_init 1 = .ok (.invokespecial 3, 3) := by decide +kernel
theorem dX9_init_4 : decode cX9_init 4 = .ok (.aload_n 0, 1) := by decide +kernel
theorem dX9_init_5 : decode cX9_init 5 = .ok (.bipush 9, 2) := by decide +kernel
theorem dX9_init_7 : decode cX9_init 7 = .ok (.newarray .int, 2) := by decide +kernel
theorem dX9_init_9 : decode cX9_init 9 = .ok (.putfield 9, 3) := by decide +kernel
theorem dX9_init_12 : decode cX9_init 12 = .ok (.aload_n 0, 1) := by decide +kernel
theorem dX9_init_13 : decode cX9_init 13 = .ok (.bipush 9, 2) := by decide +kernel
theorem dX9_init_15 : decode cX9_init 15 = .ok (.newarray .int, 2) := by decide +kernel
theorem dX9_init_17 : decode cX9_init 17 = .ok (.putfield 15, 3) := by decide +kernel
theorem dX9_init_20 : decode cX9_init 20 = .ok (.aload_n 0, 1) := by decide +kernel
theorem dX9_init_21 : decode cX9_init 21 = .ok (.sipush 10500, 3) := by decide +kernel
theorem dX9_init_24 : decode cX9_init 24 = .ok (.newarray .int, 2) := by decide +kernel
theorem dX9_init_26 : decode cX9_init 26 = .ok (.putfield 18, 3) := by decide +kernel
theorem dX9_init_29 : decode cX9_init 29 = .ok (.aload_n 0, 1) := by decide +kernel
theorem dX9_init_30 : decode cX9_init 30 = .ok (.bipush 21, 2) := by decide +kernel
theorem dX9_init_32 : decode cX9_init 32 = .ok (.newarray .int, 2) := by decide +kernel
theorem dX9_init_34 : decode cX9_init 34 = .ok (.putfield 21, 3) := by decide +kernel
theorem dX9_init_37 : decode cX9_init 37 = .ok (.aload_n 0, 1) := by decide +kernel
theorem dX9_init_38 : decode cX9_init 38 = .ok (.sipush 10500, 3) := by decide +kernel
theorem dX9_init_41 : decode cX9_init 41 = .ok (.newarray .int, 2) := by decide +kernel
theorem dX9_init_43 : decode cX9_init 43 = .ok (.putfield 24, 3) := by decide +kernel
theorem dX9_init_46 : decode cX9_init 46 = .ok (.aload_n 0, 1) := by decide +kernel
theorem dX9_init_47 : decode cX9_init 47 = .ok (.sipush 1024, 3) := by decide +kernel
theorem dX9_init_50 : decode cX9_init 50 = .ok (.newarray .int, 2) := by decide +kernel
theorem dX9_init_52 : decode cX9_init 52 = .ok (.putfield 27, 3) := by decide +kernel
theorem dX9_init_55 : decode cX9_init 55 = .ok (.aload_n 0, 1) := by decide +kernel
theorem dX9_init_56 : decode cX9_init 56 = .ok (.aload_n 1, 1) := by decide +kernel
theorem dX9_init_57 : decode cX9_init 57 = .ok (.putfield 30, 3) := by decide +kernel
theorem dX9_init_60 : decode cX9_init 60 = .ok (.aload_n 0, 1) := by decide +kernel
theorem dX9_init_61 : decode cX9_init 61 = .ok (.aload_n 2, 1) := by decide +kernel
theorem dX9_init_62 : decode cX9_init 62 = .ok (.putfield 34, 3) := by decide +kernel
theorem dX9_init_65 : decode cX9_init 65 = .ok (.return_, 1) := by decide +kernel
set_option maxHeartbeats 4000000 in
set_option maxRecDepth 100000 in
theorem kX9_init (l : Launch) (D : va_G) (dT : Nat → ClassId) (h0 h1 h2 sz : Nat) : Met l yX9_init wsX9_init ({ frames := 1, cells := 6, slots := 22063, locals := 12 }) (va_Pc [.ref h0, .ref h1, .ref h2] (fun U => U.heap.size = sz ∧ va_P D vwCl [(h0, .inr (8, [.null, .null, .null, .int 0, .null, .null, .null, .null, .null, .int 0]))] U.heap ∧ va_K D vwCl (rh_tys dT) U ∧ va_D (fun _ => True) [(h0, .inr (8, [.null, .null, .null, .int 0, .null, .null, .null, .null, .null, .int 0]))] ∧ ∀ w ∈ kn_ws, va_Nw w U)) (va_Qv (fun _ : Unit => True) (fun _ t => ∃ q1 q2 q3 q4 q5 q6 : Nat, va_P D vwCl [(h0, .inr (8, [.ref h1, .ref h2, .ref q1, .int 0, .ref q2, .ref q3, .ref q4, .ref q5, .ref q6, .int 0])), (q1, .inl (dT 0, 9, .inl (fun _ => 0))), (q2, .inl (dT 0, 9, .inl (fun _ => 0))), (q3, .inl (dT 0, 10500, .inl (fun _ => 0))), (q4, .inl (dT 0, 21, .inl (fun _ => 0))), (q5, .inl (dT 0, 10500, .inl (fun _ => 0))), (q6, .inl (dT 0, 1024, .inl (fun _ => 0)))] t.heap ∧ va_D (va_A [(h0, .inr (8, [.null, .null, .null, .int 0, .null, .null, .null, .null, .null, .int 0]))] sz) [(h0, .inr (8, [.ref h1, .ref h2, .ref q1, .int 0, .ref q2, .ref q3, .ref q4, .ref q5, .ref q6, .int 0])), (q1, .inl (dT 0, 9, .inl (fun _ => 0))), (q2, .inl (dT 0, 9, .inl (fun _ => 0))), (q3, .inl (dT 0, 10500, .inl (fun _ => 0))), (q4, .inl (dT 0, 21, .inl (fun _ => 0))), (q5, .inl (dT 0, 10500, .inl (fun _ => 0))), (q6, .inl (dT 0, 1024, .inl (fun _ => 0)))]) (va_A [(h0, .inr (8, [.null, .null, .null, .int 0, .null, .null, .null, .null, .null, .int 0]))] sz)) 6 22063 (va_A [(h0, .inr (8, [.null, .null, .null, .int 0, .null, .null, .null, .null, .null, .int 0]))] sz) := by
  refine Met.ofW (cc := cX9_init) (maxL := 3) (ret := none) (by decide) rfl ?_
  intro p e s m args below meth c s₁ B hml hv
  obtain ⟨rfl, hsz, hP, hK, hD0, hN⟩ := hv
  have hx := B.exec
  have hb := B.bytes
  have hr := B.returns
  have hts := atoms_spec (ws := wsX9_init) B.pre
  have hown : s.vm.findClass RX9 = some m.cls := findClass_of_methodNamed B.named
  have hin : meth.name = "<init>" := (name_of_methodNamed B.named B.method).1
  subst hsz
  have hD := hD0.self (sz := s.heap.size)
  generalize hAe : va_A [(h0, .inr (8, [.null, .null, .null, .int 0, .null, .null, .null, .null, .null, .int 0]))] s.heap.size = A at hD ⊢
  have hA : ∀ q : Nat, s.heap.size ≤ q → A q := fun q h => by rw [← hAe]; exact Or.inr h
  have hS : va_S A s.heap s.heap [] := va_S.rf
  have hP : va_P D vwCl [(h0, .inr (8, [.null, .null, .null, .int 0, .null, .null, .null, .null, .null, .int 0]))] s.heap := hP
  have hl := lv_entry ([.ref h0, .ref h1, .ref h2]) (n := 3) (Nat.le_of_ble_eq_true rfl)
  rw [lg_entry_eq]
  generalize (lg_sl ([.ref h0, .ref h1, .ref h2]) ++ List.replicate (3 - (lg_sl ([.ref h0, .ref h1, .ref h2])).length) Slot.unset).toArray = ls at hl ⊢
  have hl : lv_has ls 3 [(0, .ref h0), (1, .ref h1), (2, .ref h2)] := hl
  refine lv_aload_n hx hb dX9_init_0 rfl (lv_at hl 0 rfl) ?_
  refine W.objInit hx hb hown (hts (.methodLink RX9 3 objectInit) (by decide +kernel)) (hts (.instanceMethod objectInit) (by decide +kernel)) (hts _ (List.mem_cons_of_mem _ (List.mem_append_left _ (List.mem_of_getElem? (i := 2) rfl)))) rfl (by rw [hml]; exact hl.1) rfl dX9_init_1 (Nat.le_of_ble_eq_true rfl) (Nat.le_of_ble_eq_true rfl) ?_
  refine W.eq (g2 := F0 m 4 ls []) rfl ?_
  refine lv_aload_n hx hb dX9_init_4 rfl (lv_at hl 0 rfl) ?_
  refine lv_bipush hx hb dX9_init_5 (v := 9) (by decide) ?_
  refine va_newa (atype := .int) (ty := .int) (a0 := (9, .inl (fun _ => 0))) hx hb (hts (.arrayClass .int) (by decide +kernel)) rfl hK hP hD hS hA (fun _ => rfl) (by decide) rfl (Nat.le_of_ble_eq_true rfl) (Nat.le_of_ble_eq_true rfl) (Nat.le_of_ble_eq_true rfl) dX9_init_7 (fun q1 cA H hK1 hP hD hS => ?_)
  obtain rfl : cA = dT 0 := kt_0 hK1
  have hP : va_P D vwCl [(h0, .inr (8, [.null, .null, .null, .int 0, .null, .null, .null, .null, .null, .int 0])), (q1, .inl (dT 0, 9, .inl (fun _ => 0)))] H := hP
  have hD : va_D A [(h0, .inr (8, [.null, .null, .null, .int 0, .null, .null, .null, .null, .null, .int 0])), (q1, .inl (dT 0, 9, .inl (fun _ => 0)))] := hD
  clear hK1
  refine W.widen (k := 1) (n := 9) (Nat.le_of_ble_eq_true rfl) (Nat.le_of_ble_eq_true rfl) ?_
  refine va_putF (D := D) (ci := 8) (v := .ref q1) (ty := .array .int) (C := RX9) (T := TX9) (N := 10) hx hb hts (by decide +kernel) tyX9 tyX9_ok nmX9 hown hK hP hD hS 0 rfl rfl 2 (by decide) (hts (.fieldLink RX9 9 "LighterAtDusk$Stance" "standing" "[I") (by decide +kernel)) (fun _ h9 => h9) rfl hin rfl (by decide +kernel) rfl rfl (Nat.le_of_ble_eq_true rfl) dX9_init_9 (fun H locs hP hD hS => ?_)
  have hP : va_P D vwCl [(h0, .inr (8, [.null, .null, .ref q1, .int 0, .null, .null, .null, .null, .null, .int 0])), (q1, .inl (dT 0, 9, .inl (fun _ => 0)))] H := hP
  have hD : va_D A [(h0, .inr (8, [.null, .null, .ref q1, .int 0, .null, .null, .null, .null, .null, .int 0])), (q1, .inl (dT 0, 9, .inl (fun _ => 0)))] := hD
  refine lv_aload_n hx hb dX9_init_12 rfl (lv_at hl 0 rfl) ?_
  refine lv_bipush hx hb dX9_init_13 (v := 9) (by decide) ?_
  refine va_newa (atype := .int) (ty := .int) (a0 := (9, .inl (fun _ => 0))) hx hb (hts (.arrayClass .int) (by decide +kernel)) rfl hK hP hD hS hA (fun _ => rfl) (by decide) rfl (Nat.le_of_ble_eq_true rfl) (Nat.le_of_ble_eq_true rfl) (Nat.le_of_ble_eq_true rfl) dX9_init_15 (fun q2 cA H hK1 hP hD hS => ?_)
  obtain rfl : cA = dT 0 := kt_0 hK1
  have hP : va_P D vwCl [(h0, .inr (8, [.null, .null, .ref q1, .int 0, .null, .null, .null, .null, .null, .int 0])), (q1, .inl (dT 0, 9, .inl (fun _ => 0))), (q2, .inl (dT 0, 9, .inl (fun _ => 0)))] H := hP
  have hD : va_D A [(h0, .inr (8, [.null, .null, .ref q1, .int 0, .null, .null, .null, .null, .null, .int 0])), (q1, .inl (dT 0, 9, .inl (fun _ => 0))), (q2, .inl (dT 0, 9, .inl (fun _ => 0)))] := hD
  clear hK1
  refine W.widen (k := 2) (n := 18) (Nat.le_of_ble_eq_true rfl) (Nat.le_of_ble_eq_true rfl) ?_
  refine va_putF (D := D) (ci := 8) (v := .ref q2) (ty := .array .int) (C := RX9) (T := TX9) (N := 10) hx hb hts (by decide +kernel) tyX9 tyX9_ok nmX9 hown hK hP hD hS 0 rfl rfl 4 (by decide) (hts (.fieldLink RX9 15 "LighterAtDusk$Stance" "weights" "[I") (by decide +kernel)) (fun _ h9 => h9) rfl hin rfl (by decide +kernel) rfl rfl (Nat.le_of_ble_eq_true rfl) dX9_init_17 (fun H locs hP hD hS => ?_)
  have hP : va_P D vwCl [(h0, .inr (8, [.null, .null, .ref q1, .int 0, .ref q2, .null, .null, .null, .null, .int 0])), (q1, .inl (dT 0, 9, .inl (fun _ => 0))), (q2, .inl (dT 0, 9, .inl (fun _ => 0)))] H := hP
  have hD : va_D A [(h0, .inr (8, [.null, .null, .ref q1, .int 0, .ref q2, .null, .null, .null, .null, .int 0])), (q1, .inl (dT 0, 9, .inl (fun _ => 0))), (q2, .inl (dT 0, 9, .inl (fun _ => 0)))] := hD
  refine lv_aload_n hx hb dX9_init_20 rfl (lv_at hl 0 rfl) ?_
  refine lv_sipush hx hb dX9_init_21 (v := 10500) (by decide) ?_
  refine va_newa (atype := .int) (ty := .int) (a0 := (10500, .inl (fun _ => 0))) hx hb (hts (.arrayClass .int) (by decide +kernel)) rfl hK hP hD hS hA (fun _ => rfl) (by decide) rfl (Nat.le_of_ble_eq_true rfl) (Nat.le_of_ble_eq_true rfl) (Nat.le_of_ble_eq_true rfl) dX9_init_24 (fun q3 cA H hK1 hP hD hS => ?_)
  obtain rfl : cA = dT 0 := kt_0 hK1
  have hP : va_P D vwCl [(h0, .inr (8, [.null, .null, .ref q1, .int 0, .ref q2, .null, .null, .null, .null, .int 0])), (q1, .inl (dT 0, 9, .inl (fun _ => 0))), (q2, .inl (dT 0, 9, .inl (fun _ => 0))), (q3, .inl (dT 0, 10500, .inl (fun _ => 0)))] H := hP
  have hD : va_D A [(h0, .inr (8, [.null, .null, .ref q1, .int 0, .ref q2, .null, .null, .null, .null, .int 0])), (q1, .inl (dT 0, 9, .inl (fun _ => 0))), (q2, .inl (dT 0, 9, .inl (fun _ => 0))), (q3, .inl (dT 0, 10500, .inl (fun _ => 0)))] := hD
  clear hK1
  refine W.widen (k := 3) (n := 10518) (Nat.le_of_ble_eq_true rfl) (Nat.le_of_ble_eq_true rfl) ?_
  refine va_putF (D := D) (ci := 8) (v := .ref q3) (ty := .array .int) (C := RX9) (T := TX9) (N := 10) hx hb hts (by decide +kernel) tyX9 tyX9_ok nmX9 hown hK hP hD hS 0 rfl rfl 5 (by decide) (hts (.fieldLink RX9 18 "LighterAtDusk$Stance" "ways" "[I") (by decide +kernel)) (fun _ h9 => h9) rfl hin rfl (by decide +kernel) rfl rfl (Nat.le_of_ble_eq_true rfl) dX9_init_26 (fun H locs hP hD hS => ?_)
  have hP : va_P D vwCl [(h0, .inr (8, [.null, .null, .ref q1, .int 0, .ref q2, .ref q3, .null, .null, .null, .int 0])), (q1, .inl (dT 0, 9, .inl (fun _ => 0))), (q2, .inl (dT 0, 9, .inl (fun _ => 0))), (q3, .inl (dT 0, 10500, .inl (fun _ => 0)))] H := hP
  have hD : va_D A [(h0, .inr (8, [.null, .null, .ref q1, .int 0, .ref q2, .ref q3, .null, .null, .null, .int 0])), (q1, .inl (dT 0, 9, .inl (fun _ => 0))), (q2, .inl (dT 0, 9, .inl (fun _ => 0))), (q3, .inl (dT 0, 10500, .inl (fun _ => 0)))] := hD
  refine lv_aload_n hx hb dX9_init_29 rfl (lv_at hl 0 rfl) ?_
  refine lv_bipush hx hb dX9_init_30 (v := 21) (by decide) ?_
  refine va_newa (atype := .int) (ty := .int) (a0 := (21, .inl (fun _ => 0))) hx hb (hts (.arrayClass .int) (by decide +kernel)) rfl hK hP hD hS hA (fun _ => rfl) (by decide) rfl (Nat.le_of_ble_eq_true rfl) (Nat.le_of_ble_eq_true rfl) (Nat.le_of_ble_eq_true rfl) dX9_init_32 (fun q4 cA H hK1 hP hD hS => ?_)
  obtain rfl : cA = dT 0 := kt_0 hK1
  have hP : va_P D vwCl [(h0, .inr (8, [.null, .null, .ref q1, .int 0, .ref q2, .ref q3, .null, .null, .null, .int 0])), (q1, .inl (dT 0, 9, .inl (fun _ => 0))), (q2, .inl (dT 0, 9, .inl (fun _ => 0))), (q3, .inl (dT 0, 10500, .inl (fun _ => 0))), (q4, .inl (dT 0, 21, .inl (fun _ => 0)))] H := hP
  have hD : va_D A [(h0, .inr (8, [.null, .null, .ref q1, .int 0, .ref q2, .ref q3, .null, .null, .null, .int 0])), (q1, .inl (dT 0, 9, .inl (fun _ => 0))), (q2, .inl (dT 0, 9, .inl (fun _ => 0))), (q3, .inl (dT 0, 10500, .inl (fun _ => 0))), (q4, .inl (dT 0, 21, .inl (fun _ => 0)))] := hD
  clear hK1
  refine W.widen (k := 4) (n := 10539) (Nat.le_of_ble_eq_true rfl) (Nat.le_of_ble_eq_true rfl) ?_
  refine va_putF (D := D) (ci := 8) (v := .ref q4) (ty := .array .int) (C := RX9) (T := TX9) (N := 10) hx hb hts (by decide +kernel) tyX9 tyX9_ok nmX9 hown hK hP hD hS 0 rfl rfl 6 (by decide) (hts (.fieldLink RX9 21 "LighterAtDusk$Stance" "wayCounts" "[I") (by decide +kernel)) (fun _ h9 => h9) rfl hin rfl (by decide +kernel) rfl rfl (Nat.le_of_ble_eq_true rfl) dX9_init_34 (fun H locs hP hD hS => ?_)
  have hP : va_P D vwCl [(h0, .inr (8, [.null, .null, .ref q1, .int 0, .ref q2, .ref q3, .ref q4, .null, .null, .int 0])), (q1, .inl (dT 0, 9, .inl (fun _ => 0))), (q2, .inl (dT 0, 9, .inl (fun _ => 0))), (q3, .inl (dT 0, 10500, .inl (fun _ => 0))), (q4, .inl (dT 0, 21, .inl (fun _ => 0)))] H := hP
  have hD : va_D A [(h0, .inr (8, [.null, .null, .ref q1, .int 0, .ref q2, .ref q3, .ref q4, .null, .null, .int 0])), (q1, .inl (dT 0, 9, .inl (fun _ => 0))), (q2, .inl (dT 0, 9, .inl (fun _ => 0))), (q3, .inl (dT 0, 10500, .inl (fun _ => 0))), (q4, .inl (dT 0, 21, .inl (fun _ => 0)))] := hD
  refine lv_aload_n hx hb dX9_init_37 rfl (lv_at hl 0 rfl) ?_
  refine lv_sipush hx hb dX9_init_38 (v := 10500) (by decide) ?_
  refine va_newa (atype := .int) (ty := .int) (a0 := (10500, .inl (fun _ => 0))) hx hb (hts (.arrayClass .int) (by decide +kernel)) rfl hK hP hD hS hA (fun _ => rfl) (by decide) rfl (Nat.le_of_ble_eq_true rfl) (Nat.le_of_ble_eq_true rfl) (Nat.le_of_ble_eq_true rfl) dX9_init_41 (fun q5 cA H hK1 hP hD hS => ?_)
  obtain rfl : cA = dT 0 := kt_0 hK1
  have hP : va_P D vwCl [(h0, .inr (8, [.null, .null, .ref q1, .int 0, .ref q2, .ref q3, .ref q4, .null, .null, .int 0])), (q1, .inl (dT 0, 9, .inl (fun _ => 0))), (q2, .inl (dT 0, 9, .inl (fun _ => 0))), (q3, .inl (dT 0, 10500, .inl (fun _ => 0))), (q4, .inl (dT 0, 21, .inl (fun _ => 0))), (q5, .inl (dT 0, 10500, .inl (fun _ => 0)))] H := hP
  have hD : va_D A [(h0, .inr (8, [.null, .null, .ref q1, .int 0, .ref q2, .ref q3, .ref q4, .null, .null, .int 0])), (q1, .inl (dT 0, 9, .inl (fun _ => 0))), (q2, .inl (dT 0, 9, .inl (fun _ => 0))), (q3, .inl (dT 0, 10500, .inl (fun _ => 0))), (q4, .inl (dT 0, 21, .inl (fun _ => 0))), (q5, .inl (dT 0, 10500, .inl (fun _ => 0)))] := hD
  clear hK1
  refine W.widen (k := 5) (n := 21039) (Nat.le_of_ble_eq_true rfl) (Nat.le_of_ble_eq_true rfl) ?_
  refine va_putF (D := D) (ci := 8) (v := .ref q5) (ty := .array .int) (C := RX9) (T := TX9) (N := 10) hx hb hts (by decide +kernel) tyX9 tyX9_ok nmX9 hown hK hP hD hS 0 rfl rfl 7 (by decide) (hts (.fieldLink RX9 24 "LighterAtDusk$Stance" "best" "[I") (by decide +kernel)) (fun _ h9 => h9) rfl hin rfl (by decide +kernel) rfl rfl (Nat.le_of_ble_eq_true rfl) dX9_init_43 (fun H locs hP hD hS => ?_)
  have hP : va_P D vwCl [(h0, .inr (8, [.null, .null, .ref q1, .int 0, .ref q2, .ref q3, .ref q4, .ref q5, .null, .int 0])), (q1, .inl (dT 0, 9, .inl (fun _ => 0))), (q2, .inl (dT 0, 9, .inl (fun _ => 0))), (q3, .inl (dT 0, 10500, .inl (fun _ => 0))), (q4, .inl (dT 0, 21, .inl (fun _ => 0))), (q5, .inl (dT 0, 10500, .inl (fun _ => 0)))] H := hP
  have hD : va_D A [(h0, .inr (8, [.null, .null, .ref q1, .int 0, .ref q2, .ref q3, .ref q4, .ref q5, .null, .int 0])), (q1, .inl (dT 0, 9, .inl (fun _ => 0))), (q2, .inl (dT 0, 9, .inl (fun _ => 0))), (q3, .inl (dT 0, 10500, .inl (fun _ => 0))), (q4, .inl (dT 0, 21, .inl (fun _ => 0))), (q5, .inl (dT 0, 10500, .inl (fun _ => 0)))] := hD
  refine lv_aload_n hx hb dX9_init_46 rfl (lv_at hl 0 rfl) ?_
  refine lv_sipush hx hb dX9_init_47 (v := 1024) (by decide) ?_
  refine va_newa (atype := .int) (ty := .int) (a0 := (1024, .inl (fun _ => 0))) hx hb (hts (.arrayClass .int) (by decide +kernel)) rfl hK hP hD hS hA (fun _ => rfl) (by decide) rfl (Nat.le_of_ble_eq_true rfl) (Nat.le_of_ble_eq_true rfl) (Nat.le_of_ble_eq_true rfl) dX9_init_50 (fun q6 cA H hK1 hP hD hS => ?_)
  obtain rfl : cA = dT 0 := kt_0 hK1
  have hP : va_P D vwCl [(h0, .inr (8, [.null, .null, .ref q1, .int 0, .ref q2, .ref q3, .ref q4, .ref q5, .null, .int 0])), (q1, .inl (dT 0, 9, .inl (fun _ => 0))), (q2, .inl (dT 0, 9, .inl (fun _ => 0))), (q3, .inl (dT 0, 10500, .inl (fun _ => 0))), (q4, .inl (dT 0, 21, .inl (fun _ => 0))), (q5, .inl (dT 0, 10500, .inl (fun _ => 0))), (q6, .inl (dT 0, 1024, .inl (fun _ => 0)))] H := hP
  have hD : va_D A [(h0, .inr (8, [.null, .null, .ref q1, .int 0, .ref q2, .ref q3, .ref q4, .ref q5, .null, .int 0])), (q1, .inl (dT 0, 9, .inl (fun _ => 0))), (q2, .inl (dT 0, 9, .inl (fun _ => 0))), (q3, .inl (dT 0, 10500, .inl (fun _ => 0))), (q4, .inl (dT 0, 21, .inl (fun _ => 0))), (q5, .inl (dT 0, 10500, .inl (fun _ => 0))), (q6, .inl (dT 0, 1024, .inl (fun _ => 0)))] := hD
  clear hK1
  refine W.widen (k := 6) (n := 22063) (Nat.le_of_ble_eq_true rfl) (Nat.le_of_ble_eq_true rfl) ?_
  refine va_putF (D := D) (ci := 8) (v := .ref q6) (ty := .array .int) (C := RX9) (T := TX9) (N := 10) hx hb hts (by decide +kernel) tyX9 tyX9_ok nmX9 hown hK hP hD hS 0 rfl rfl 8 (by decide) (hts (.fieldLink RX9 27 "LighterAtDusk$Stance" "slots" "[I") (by decide +kernel)) (fun _ h9 => h9) rfl hin rfl (by decide +kernel) rfl rfl (Nat.le_of_ble_eq_true rfl) dX9_init_52 (fun H locs hP hD hS => ?_)
  have hP : va_P D vwCl [(h0, .inr (8, [.null, .null, .ref q1, .int 0, .ref q2, .ref q3, .ref q4, .ref q5, .ref q6, .int 0])), (q1, .inl (dT 0, 9, .inl (fun _ => 0))), (q2, .inl (dT 0, 9, .inl (fun _ => 0))), (q3, .inl (dT 0, 10500, .inl (fun _ => 0))), (q4, .inl (dT 0, 21, .inl (fun _ => 0))), (q5, .inl (dT 0, 10500, .inl (fun _ => 0))), (q6, .inl (dT 0, 1024, .inl (fun _ => 0)))] H := hP
  have hD : va_D A [(h0, .inr (8, [.null, .null, .ref q1, .int 0, .ref q2, .ref q3, .ref q4, .ref q5, .ref q6, .int 0])), (q1, .inl (dT 0, 9, .inl (fun _ => 0))), (q2, .inl (dT 0, 9, .inl (fun _ => 0))), (q3, .inl (dT 0, 10500, .inl (fun _ => 0))), (q4, .inl (dT 0, 21, .inl (fun _ => 0))), (q5, .inl (dT 0, 10500, .inl (fun _ => 0))), (q6, .inl (dT 0, 1024, .inl (fun _ => 0)))] := hD
  refine lv_aload_n hx hb dX9_init_55 rfl (lv_at hl 0 rfl) ?_
  refine lv_aload_n hx hb dX9_init_56 rfl (lv_at hl 1 rfl) ?_
  refine va_putF (D := D) (ci := 8) (v := .ref h1) (ty := .object "LighterAtDusk$Crowd") (C := RX9) (T := TX9) (N := 10) hx hb hts (by decide +kernel) tyX9 tyX9_ok nmX9 hown hK hP hD hS 0 rfl rfl 0 (by decide) (hts (.fieldLink RX9 30 "LighterAtDusk$Stance" "crowd" "LLighterAtDusk$Crowd;") (by decide +kernel)) (fun _ h9 => h9) rfl hin rfl (by decide +kernel) rfl rfl (Nat.le_of_ble_eq_true rfl) dX9_init_57 (fun H locs hP hD hS => ?_)
  have hP : va_P D vwCl [(h0, .inr (8, [.ref h1, .null, .ref q1, .int 0, .ref q2, .ref q3, .ref q4, .ref q5, .ref q6, .int 0])), (q1, .inl (dT 0, 9, .inl (fun _ => 0))), (q2, .inl (dT 0, 9, .inl (fun _ => 0))), (q3, .inl (dT 0, 10500, .inl (fun _ => 0))), (q4, .inl (dT 0, 21, .inl (fun _ => 0))), (q5, .inl (dT 0, 10500, .inl (fun _ => 0))), (q6, .inl (dT 0, 1024, .inl (fun _ => 0)))] H := hP
  have hD : va_D A [(h0, .inr (8, [.ref h1, .null, .ref q1, .int 0, .ref q2, .ref q3, .ref q4, .ref q5, .ref q6, .int 0])), (q1, .inl (dT 0, 9, .inl (fun _ => 0))), (q2, .inl (dT 0, 9, .inl (fun _ => 0))), (q3, .inl (dT 0, 10500, .inl (fun _ => 0))), (q4, .inl (dT 0, 21, .inl (fun _ => 0))), (q5, .inl (dT 0, 10500, .inl (fun _ => 0))), (q6, .inl (dT 0, 1024, .inl (fun _ => 0)))] := hD
  refine lv_aload_n hx hb dX9_init_60 rfl (lv_at hl 0 rfl) ?_
  refine lv_aload_n hx hb dX9_init_61 rfl (lv_at hl 2 rfl) ?_
  refine va_putF (D := D) (ci := 8) (v := .ref h2) (ty := .object "LighterAtDusk$Deck") (C := RX9) (T := TX9) (N := 10) hx hb hts (by decide +kernel) tyX9 tyX9_ok nmX9 hown hK hP hD hS 0 rfl rfl 1 (by decide) (hts (.fieldLink RX9 34 "LighterAtDusk$Stance" "deck" "LLighterAtDusk$Deck;") (by decide +kernel)) (fun _ h9 => h9) rfl hin rfl (by decide +kernel) rfl rfl (Nat.le_of_ble_eq_true rfl) dX9_init_62 (fun H locs hP hD hS => ?_)
  have hP : va_P D vwCl [(h0, .inr (8, [.ref h1, .ref h2, .ref q1, .int 0, .ref q2, .ref q3, .ref q4, .ref q5, .ref q6, .int 0])), (q1, .inl (dT 0, 9, .inl (fun _ => 0))), (q2, .inl (dT 0, 9, .inl (fun _ => 0))), (q3, .inl (dT 0, 10500, .inl (fun _ => 0))), (q4, .inl (dT 0, 21, .inl (fun _ => 0))), (q5, .inl (dT 0, 10500, .inl (fun _ => 0))), (q6, .inl (dT 0, 1024, .inl (fun _ => 0)))] H := hP
  have hD : va_D A [(h0, .inr (8, [.ref h1, .ref h2, .ref q1, .int 0, .ref q2, .ref q3, .ref q4, .ref q5, .ref q6, .int 0])), (q1, .inl (dT 0, 9, .inl (fun _ => 0))), (q2, .inl (dT 0, 9, .inl (fun _ => 0))), (q3, .inl (dT 0, 10500, .inl (fun _ => 0))), (q4, .inl (dT 0, 21, .inl (fun _ => 0))), (q5, .inl (dT 0, 10500, .inl (fun _ => 0))), (q6, .inl (dT 0, 1024, .inl (fun _ => 0)))] := hD
  exact W.vret hx hb hr (fun t ht hW => ⟨⟨(), rfl, trivial, q1, q2, q3, q4, q5, q6, by rw [ht]; exact hP, hD⟩, hS.F ht⟩) hS.2.2 dX9_init_65
