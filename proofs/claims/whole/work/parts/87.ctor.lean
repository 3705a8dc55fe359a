/-! constructors that make arrays alone -/
def kn_ws : List Cond := [.methodLinkNest RX11 15 yX7_init RX11, .methodLinkNest RX11 22 yX0_init RX11, .methodLinkNest RX0 17 yX4_init RX11, .methodLinkNest RX4 3 yX5_init RX11, .methodLinkNest RX11 38 yX3_init RX11, .methodLinkNest RX3 3 yX5_init RX11, .methodLinkNest RX11 45 yX1_init RX11, .methodLinkNest RX1 1 yX5_init RX11, .methodLinkNest RX11 52 yX10_init RX11]
theorem kn_all {P : Cond → Prop} (h0 : ∀ a i x b, P (.methodLinkNest a i x b)) : ∀ w ∈ kn_ws, P w := fun w hw => by
  simp only [kn_ws, List.mem_cons, List.not_mem_nil, or_false] at hw
  rcases hw with rfl | rfl | rfl | rfl | rfl | rfl | rfl | rfl | rfl <;> exact h0 _ _ _ _
theorem kn_same {u U : State} (h : u.vm = U.vm) (hq : ∀ w ∈ kn_ws, va_Nw w u) : ∀ w ∈ kn_ws, va_Nw w U := fun w hw => va_Nw.same (kn_all (P := fun w => w.onTables = true) (fun _ _ _ _ => rfl) w hw) h (hq w hw)
theorem kn_warm {s U : State} (h : s.WarmedH U.vm) (hq : ∀ w ∈ kn_ws, va_Nw w s) : ∀ w ∈ kn_ws, va_Nw w U := fun w hw => kn_all (P := fun w => va_Nw w s → va_Nw w U) (fun _ _ _ _ => va_Nw.warmM h) w hw (hq w hw)
theorem kt_0 {D : va_G} {dT : Nat → ClassId} {U : State} {cA : ClassId} (h : va_K D vwCl (rh_tys dT ++ [(cA, .int)]) U) : cA = dT 0 := Option.some.inj ((show U.vm.findClass ("[" ++ FieldType.int.toString) = some cA from (h.2 4 _ rfl).2).symm.trans (show U.vm.findClass ("[" ++ FieldType.int.toString) = some (dT 0) from (h.2 0 _ rfl).2))
theorem kt_1 {D : va_G} {dT : Nat → ClassId} {U : State} {cA : ClassId} (h : va_K D vwCl (rh_tys dT ++ [(cA, .long)]) U) : cA = dT 1 := Option.some.inj ((show U.vm.findClass ("[" ++ FieldType.long.toString) = some cA from (h.2 4 _ rfl).2).symm.trans (show U.vm.findClass ("[" ++ FieldType.long.toString) = some (dT 1) from (h.2 1 _ rfl).2))
theorem kt_2 {D : va_G} {dT : Nat → ClassId} {U : State} {cA : ClassId} (h : va_K D vwCl (rh_tys dT ++ [(cA, .byte)]) U) : cA = dT 2 := Option.some.inj ((show U.vm.findClass ("[" ++ FieldType.byte.toString) = some cA from (h.2 4 _ rfl).2).symm.trans (show U.vm.findClass ("[" ++ FieldType.byte.toString) = some (dT 2) from (h.2 2 _ rfl).2))
theorem kt_3 {D : va_G} {dT : Nat → ClassId} {U : State} {cA : ClassId} (h : va_K D vwCl (rh_tys dT ++ [(cA, .boolean)]) U) : cA = dT 3 := Option.some.inj ((show U.vm.findClass ("[" ++ FieldType.boolean.toString) = some cA from (h.2 4 _ rfl).2).symm.trans (show U.vm.findClass ("[" ++ FieldType.boolean.toString) = some (dT 3) from (h.2 3 _ rfl).2))

def wsX5_init : List Cond := .code yX5_init cX5_init 1 none :: ([.methodLink RX5 1 objectInit, .instanceMethod objectInit, .code objectInit ⟨#[0xb1]⟩ 1 none])
theorem dX5_init_0 : decode cX5_init 0 = .ok (.aload_n 0, 1) := by decide +kernel
theorem dX5_init_1 : decode cX5_init 1 = .ok (.invokespecial 1, 3) := by decide +kernel
theorem dX5_init_4 : decode cX5_init 4 = .ok (.return_, 1) := by decide +kernel
set_option maxHeartbeats 4000000 in
set_option maxRecDepth 100000 in
theorem kX5_init (l : Launch) (D : va_G) (dT : Nat → ClassId) (h0 sz ci : Nat) (fs : List Value) : Met l yX5_init wsX5_init ({ frames := 1, cells := 0, slots := 0, locals := 12 }) (va_Pc [.ref h0] (fun U => U.heap.size = sz ∧ va_P D vwCl [(h0, .inr (ci, fs))] U.heap ∧ va_K D vwCl (rh_tys dT) U ∧ va_D (fun _ => True) [(h0, .inr (ci, fs))] ∧ ∀ w ∈ kn_ws, va_Nw w U)) (va_Qv (fun _ : Unit => True) (fun _ t => va_P D vwCl [(h0, .inr (ci, fs))] t.heap ∧ va_D (va_A [(h0, .inr (ci, fs))] sz) [(h0, .inr (ci, fs))]) (va_A [(h0, .inr (ci, fs))] sz)) 0 0 (va_A [(h0, .inr (ci, fs))] sz) := by
  refine Met.ofW (cc := cX5_init) (maxL := 1) (ret := none) (by decide) rfl ?_
  intro p e s m args below meth c s₁ B hml hv
  obtain ⟨rfl, hsz, hP, hK, hD0, hN⟩ := hv
  have hx := B.exec
  have hb := B.bytes
  have hr := B.returns
  have hts := atoms_spec (ws := wsX5_init) B.pre
  have hown : s.vm.findClass RX5 = some m.cls := findClass_of_methodNamed B.named
  have hin : meth.name = "<init>" := (name_of_methodNamed B.named B.method).1
  subst hsz
  have hD := hD0.self (sz := s.heap.size)
  generalize hAe : va_A [(h0, .inr (ci, fs))] s.heap.size = A at hD ⊢
  have hA : ∀ q : Nat, s.heap.size ≤ q → A q := fun q h => by rw [← hAe]; exact Or.inr h
  have hS : va_S A s.heap s.heap [] := va_S.rf
  have hP : va_P D vwCl [(h0, .inr (ci, fs))] s.heap := hP
  have hl := lv_entry ([.ref h0]) (n := 1) (Nat.le_of_ble_eq_true rfl)
  rw [lg_entry_eq]
  generalize (lg_sl ([.ref h0]) ++ List.replicate (1 - (lg_sl ([.ref h0])).length) Slot.unset).toArray = ls at hl ⊢
  have hl : lv_has ls 1 [(0, .ref h0)] := hl
  refine lv_aload_n hx hb dX5_init_0 rfl (lv_at hl 0 rfl) ?_
  refine W.objInit hx hb hown (hts (.methodLink RX5 1 objectInit) (by decide +kernel)) (hts (.instanceMethod objectInit) (by decide +kernel)) (hts _ (List.mem_of_getElem? (i := 3) rfl)) rfl (by rw [hml]; exact hl.1) rfl dX5_init_1 (Nat.le_of_ble_eq_true rfl) (Nat.le_of_ble_eq_true rfl) ?_
  refine W.eq (g2 := F0 m 4 ls []) rfl ?_
  exact W.vret hx hb hr (fun t ht hW => ⟨⟨(), rfl, trivial, by rw [ht]; exact hP, hD⟩, hS.F ht⟩) hS.2.2 dX5_init_4
def wsX7_init : List Cond := .code yX7_init cX7_init 1 none :: ([.methodLink RX7 3 objectInit, .instanceMethod objectInit, .code objectInit ⟨#[0xb1]⟩ 1 none, .arrayClass .int, .fieldLink RX7 9 "LighterAtDusk$Row" "numbers" "[I"] ++ wsX70)
theorem dX7_init_0 : decode cX7_init 0 = .ok (.aload_n 0, 1) := by decide +kernel
theorem dX7_init_1 : decode cX7_init 1 = .ok (.invokespecial 3, 3) := by decide +kernel
theorem dX7_init_4 : decode cX7_init 4 = .ok (.aload_n 0, 1) := by decide +kernel
theorem dX7_init_5 : decode cX7_init 5 = .ok (.bipush 11, 2) := by decide +kernel
theorem dX7_init_7 : decode cX7_init 7 = .ok (.newarray .int, 2) := by decide +kernel
theorem dX7_init_9 : decode cX7_init 9 = .ok (.putfield 9, 3) := by decide +kernel
theorem dX7_init_12 : decode cX7_init 12 = .ok (.return_, 1) := by decide +kernel
set_option maxHeartbeats 4000000 in
set_option maxRecDepth 100000 in
theorem kX7_init (l : Launch) (D : va_G) (dT : Nat → ClassId) (h0 sz : Nat) : Met l yX7_init wsX7_init ({ frames := 1, cells := 1, slots := 11, locals := 12 }) (va_Pc [.ref h0] (fun U => U.heap.size = sz ∧ va_P D vwCl [(h0, .inr (6, [.null, .int 0]))] U.heap ∧ va_K D vwCl (rh_tys dT) U ∧ va_D (fun _ => True) [(h0, .inr (6, [.null, .int 0]))] ∧ ∀ w ∈ kn_ws, va_Nw w U)) (va_Qv (fun _ : Unit => True) (fun _ t => ∃ q1 : Nat, va_P D vwCl [(h0, .inr (6, [.ref q1, .int 0])), (q1, .inl (dT 0, 11, .inl (fun _ => 0)))] t.heap ∧ va_D (va_A [(h0, .inr (6, [.null, .int 0]))] sz) [(h0, .inr (6, [.ref q1, .int 0])), (q1, .inl (dT 0, 11, .inl (fun _ => 0)))]) (va_A [(h0, .inr (6, [.null, .int 0]))] sz)) 1 11 (va_A [(h0, .inr (6, [.null, .int 0]))] sz) := by
  refine Met.ofW (cc := cX7_init) (maxL := 1) (ret := none) (by decide) rfl ?_
  intro p e s m args below meth c s₁ B hml hv
  obtain ⟨rfl, hsz, hP, hK, hD0, hN⟩ := hv
  have hx := B.exec
  have hb := B.bytes
  have hr := B.returns
  have hts := atoms_spec (ws := wsX7_init) B.pre
  have hown : s.vm.findClass RX7 = some m.cls := findClass_of_methodNamed B.named
  have hin : meth.name = "<init>" := (name_of_methodNamed B.named B.method).1
  subst hsz
  have hD := hD0.self (sz := s.heap.size)
  generalize hAe : va_A [(h0, .inr (6, [.null, .int 0]))] s.heap.size = A at hD ⊢
  have hA : ∀ q : Nat, s.heap.size ≤ q → A q := fun q h => by rw [← hAe]; exact Or.inr h
  have hS : va_S A s.heap s.heap [] := va_S.rf
  have hP : va_P D vwCl [(h0, .inr (6, [.null, .int 0]))] s.heap := hP
  have hl := lv_entry ([.ref h0]) (n := 1) (Nat.le_of_ble_eq_true rfl)
  rw [lg_entry_eq]
  generalize (lg_sl ([.ref h0]) ++ List.replicate (1 - (lg_sl ([.ref h0])).length) Slot.unset).toArray = ls at hl ⊢
  have hl : lv_has ls 1 [(0, .ref h0)] := hl
  refine lv_aload_n hx hb dX7_init_0 rfl (lv_at hl 0 rfl) ?_
  refine W.objInit hx hb hown (hts (.methodLink RX7 3 objectInit) (by decide +kernel)) (hts (.instanceMethod objectInit) (by decide +kernel)) (hts _ (List.mem_cons_of_mem _ (List.mem_append_left _ (List.mem_of_getElem? (i := 2) rfl)))) rfl (by rw [hml]; exact hl.1) rfl dX7_init_1 (Nat.le_of_ble_eq_true rfl) (Nat.le_of_ble_eq_true rfl) ?_
  refine W.eq (g2 := F0 m 4 ls []) rfl ?_
  refine lv_aload_n hx hb dX7_init_4 rfl (lv_at hl 0 rfl) ?_
  refine lv_bipush hx hb dX7_init_5 (v := 11) (by decide) ?_
  refine va_newa (atype := .int) (ty := .int) (a0 := (11, .inl (fun _ => 0))) hx hb (hts (.arrayClass .int) (by decide +kernel)) rfl hK hP hD hS hA (fun _ => rfl) (by decide) rfl (Nat.le_of_ble_eq_true rfl) (Nat.le_of_ble_eq_true rfl) (Nat.le_of_ble_eq_true rfl) dX7_init_7 (fun q1 cA H hK1 hP hD hS => ?_)
  obtain rfl : cA = dT 0 := kt_0 hK1
  have hP : va_P D vwCl [(h0, .inr (6, [.null, .int 0])), (q1, .inl (dT 0, 11, .inl (fun _ => 0)))] H := hP
  have hD : va_D A [(h0, .inr (6, [.null, .int 0])), (q1, .inl (dT 0, 11, .inl (fun _ => 0)))] := hD
  clear hK1
  refine W.widen (k := 1) (n := 11) (Nat.le_of_ble_eq_true rfl) (Nat.le_of_ble_eq_true rfl) ?_
  refine va_putF (D := D) (ci := 6) (v := .ref q1) (ty := .array .int) (C := RX7) (T := TX7) (N := 2) hx hb hts (by decide +kernel) tyX7 tyX7_ok nmX7 hown hK hP hD hS 0 rfl rfl 0 (by decide) (hts (.fieldLink RX7 9 "LighterAtDusk$Row" "numbers" "[I") (by decide +kernel)) (fun _ h9 => h9) rfl hin rfl (by decide +kernel) rfl rfl (Nat.le_of_ble_eq_true rfl) dX7_init_9 (fun H locs hP hD hS => ?_)
  have hP : va_P D vwCl [(h0, .inr (6, [.ref q1, .int 0])), (q1, .inl (dT 0, 11, .inl (fun _ => 0)))] H := hP
  have hD : va_D A [(h0, .inr (6, [.ref q1, .int 0])), (q1, .inl (dT 0, 11, .inl (fun _ => 0)))] := hD
  exact W.vret hx hb hr (fun t ht hW => ⟨⟨(), rfl, trivial, q1, by rw [ht]; exact hP, hD⟩, hS.F ht⟩) hS.2.2 dX7_init_12
def wsX4_init : List Cond := .code yX4_init cX4_init 1 none :: ([.arrayClass .int, .fieldLink RX4 11 "LighterAtDusk$Habit" "codes" "[I", .fieldLink RX4 15 "LighterAtDusk$Habit" "stack" "[I", .fieldLink RX4 18 "LighterAtDusk$Habit" "draft" "[I", .fieldLink RX4 21 "LighterAtDusk$Habit" "waiting" "[I", .arrayClass .boolean, .fieldLink RX4 24 "LighterAtDusk$Habit" "compared" "[Z", .instanceMethod yX5_init, .initialized RX5, .code yX5_init cX5_init 1 none, .methodLink RX5 1 objectInit, .instanceMethod objectInit, .code objectInit ⟨#[0xb1]⟩ 1 none] ++ wsX40)
set_option maxRecDepth 20000 in
theorem ggX4_init_X5_init : GoodIn wsX4_init wsX5_init := goodIn_r _ [10, 11, 12, 13] (by decide +kernel) (by decide +kernel)
theorem dX4_init_0 : decode cX4_init 0 = .ok (.aload_n 0, 1) := by decide +kernel
theorem dX4_init_1 : decode cX4_init 1 = .ok (.invokespecial 3, 3) := by decide +kernel
theorem dX4_init_4 : decode cX4_init 4 = .ok (.aload_n 0, 1) := by decide +kernel
theorem dX4_init_5 : decode cX4_init 5 = .ok (.bipush 48, 2) := by decide +kernel
theorem dX4_init_7 : decode cX4_init 7 = .ok (.newarray .int, 2) := by decide +kernel
theorem dX4_init_9 : decode cX4_init 9 = .ok (.putfield 11, 3) := by decide +kernel
theorem dX4_init_12 : decode cX4_init 12 = .ok (.aload_n 0, 1) := by decide +kernel
theorem dX4_init_13 : decode cX4_init 13 = .ok (.bipush 48, 2) := by decide +kernel
theorem dX4_init_15 : decode cX4_init 15 = .ok (.newarray .int, 2) := by decide +kernel
theorem dX4_init_17 : decode cX4_init 17 = .ok (.putfield 15, 3) := by decide +kernel
theorem dX4_init_20 : decode cX4_init 20 = .ok (.aload_n 0, 1) := by decide +kernel
theorem dX4_init_21 : decode cX4_init 21 = .ok (.bipush 48, 2) := by decide +kernel
theorem dX4_init_23 : decode cX4_init 23 = .ok (.newarray .int, 2) := by decide +kernel
theorem dX4_init_25 : decode cX4_init 25 = .ok (.putfield 18, 3) := by decide +kernel
theorem dX4_init_28 : decode cX4_init 28 = .ok (.aload_n 0, 1) := by decide +kernel
theorem dX4_init_29 : decode cX4_init 29 = .ok (.bipush 48, 2) := by decide +kernel
theorem dX4_init_31 : decode cX4_init 31 = .ok (.newarray .int, 2) := by decide +kernel
theorem dX4_init_33 : decode cX4_init 33 = .ok (.putfield 21, 3) := by decide +kernel
theorem dX4_init_36 : decode cX4_init 36 = .ok (.aload_n 0, 1) := by decide +kernel
theorem dX4_init_37 : decode cX4_init 37 = .ok (.iconst 5, 1) := by decide +kernel
theorem dX4_init_38 : decode cX4_init 38 = .ok (.newarray .boolean, 2) := by decide +kernel
theorem dX4_init_40 : decode cX4_init 40 = .ok (.putfield 24, 3) := by decide +kernel
theorem dX4_init_43 : decode cX4_init 43 = .ok (.return_, 1) := by decide +kernel
set_option maxHeartbeats 4000000 in
set_option maxRecDepth 100000 in
theorem kX4_init (l : Launch) (D : va_G) (dT : Nat → ClassId) (h0 sz : Nat) : Met l yX4_init wsX4_init ({ frames := 2, cells := 5, slots := 197, locals := 32 }) (va_Pc [.ref h0] (fun U => U.heap.size = sz ∧ va_P D vwCl [(h0, .inr (4, [.null, .int 0, .null, .null, .int 0, .null, .int 0, .null, .int 0, .int 0, .int 0]))] U.heap ∧ va_K D vwCl (rh_tys dT) U ∧ va_D (fun _ => True) [(h0, .inr (4, [.null, .int 0, .null, .null, .int 0, .null, .int 0, .null, .int 0, .int 0, .int 0]))] ∧ ∀ w ∈ kn_ws, va_Nw w U)) (va_Qv (fun _ : Unit => True) (fun _ t => ∃ q1 q2 q3 q4 q5 : Nat, va_P D vwCl [(h0, .inr (4, [.ref q1, .int 0, .ref q2, .ref q3, .int 0, .ref q4, .int 0, .ref q5, .int 0, .int 0, .int 0])), (q1, .inl (dT 0, 48, .inl (fun _ => 0))), (q2, .inl (dT 0, 48, .inl (fun _ => 0))), (q3, .inl (dT 0, 48, .inl (fun _ => 0))), (q4, .inl (dT 0, 48, .inl (fun _ => 0))), (q5, .inl (dT 3, 5, .inl (fun _ => 0)))] t.heap ∧ va_D (va_A [(h0, .inr (4, [.null, .int 0, .null, .null, .int 0, .null, .int 0, .null, .int 0, .int 0, .int 0]))] sz) [(h0, .inr (4, [.ref q1, .int 0, .ref q2, .ref q3, .int 0, .ref q4, .int 0, .ref q5, .int 0, .int 0, .int 0])), (q1, .inl (dT 0, 48, .inl (fun _ => 0))), (q2, .inl (dT 0, 48, .inl (fun _ => 0))), (q3, .inl (dT 0, 48, .inl (fun _ => 0))), (q4, .inl (dT 0, 48, .inl (fun _ => 0))), (q5, .inl (dT 3, 5, .inl (fun _ => 0)))]) (va_A [(h0, .inr (4, [.null, .int 0, .null, .null, .int 0, .null, .int 0, .null, .int 0, .int 0, .int 0]))] sz)) 5 197 (va_A [(h0, .inr (4, [.null, .int 0, .null, .null, .int 0, .null, .int 0, .null, .int 0, .int 0, .int 0]))] sz) := by
  refine Met.ofW (cc := cX4_init) (maxL := 1) (ret := none) (by decide) rfl ?_
  intro p e s m args below meth c s₁ B hml hv
  obtain ⟨rfl, hsz, hP, hK, hD0, hN⟩ := hv
  have hx := B.exec
  have hb := B.bytes
  have hr := B.returns
  have hts := atoms_spec (ws := wsX4_init) B.pre
  have hown : s.vm.findClass RX4 = some m.cls := findClass_of_methodNamed B.named
  have hin : meth.name = "<init>" := (name_of_methodNamed B.named B.method).1
  subst hsz
  have hD := hD0.self (sz := s.heap.size)
  generalize hAe : va_A [(h0, .inr (4, [.null, .int 0, .null, .null, .int 0, .null, .int 0, .null, .int 0, .int 0, .int 0]))] s.heap.size = A at hD ⊢
  have hA : ∀ q : Nat, s.heap.size ≤ q → A q := fun q h => by rw [← hAe]; exact Or.inr h
  have hS : va_S A s.heap s.heap [] := va_S.rf
  have hP : va_P D vwCl [(h0, .inr (4, [.null, .int 0, .null, .null, .int 0, .null, .int 0, .null, .int 0, .int 0, .int 0]))] s.heap := hP
  have hl := lv_entry ([.ref h0]) (n := 1) (Nat.le_of_ble_eq_true rfl)
  rw [lg_entry_eq]
  generalize (lg_sl ([.ref h0]) ++ List.replicate (1 - (lg_sl ([.ref h0])).length) Slot.unset).toArray = ls at hl ⊢
  have hl : lv_has ls 1 [(0, .ref h0)] := hl
  refine lv_aload_n hx hb dX4_init_0 rfl (lv_at hl 0 rfl) ?_
  have hPc := hP.sub (ws' := [(h0, .inr (4, [.null, .int 0, .null, .null, .int 0, .null, .int 0, .null, .int 0, .int 0, .int 0]))]) [0] rfl
  have hDc := hD.sub (ws' := [(h0, .inr (4, [.null, .int 0, .null, .null, .int 0, .null, .int 0, .null, .int 0, .int 0, .int 0]))]) [0] (by decide) rfl
  have hFc := va_free (wc := [(h0, .inr (4, [.null, .int 0, .null, .null, .int 0, .null, .int 0, .null, .int 0, .int 0, .int 0]))]) hD hS hA [0] rfl
  refine va_callv (va_runIN (As := []) (rest := []) ⟨hx, hb, hml, hown, hts⟩ (kX5_init l D dT h0 s.heap.size 4 [.null, .int 0, .null, .null, .int 0, .null, .int 0, .null, .int 0, .int 0, .int 0]) ⟨va_cnB 0 hts ggX4_init_X5_init rfl rfl rfl (hN (.methodLinkNest RX4 3 yX5_init RX11) (by decide +kernel)) (hts (.initialized RX5) (by decide +kernel)) (by decide +kernel) ⟨Nat.le_of_ble_eq_true rfl, Nat.le_of_ble_eq_true rfl⟩, rfl, (hts (.instanceMethod yX5_init) (by decide +kernel))⟩ ⟨fun a U g mk q => by obtain ⟨q0, q1, qP, qK, qD, qN⟩ := q; exact ⟨q0, q1, qP, va_K.moved (u := U) (U := U.calling g mk a) (Vm.Alike.refl U.vm) qK, qD, kn_same (u := U) (U := U.calling g mk a) rfl qN⟩, fun U hU hW => ⟨rfl, by rw [hU], by rw [hU]; exact hPc, va_K.moved hW.alike hK, hDc.weaken (fun _ _ _ _ => trivial), kn_warm hW hN⟩⟩ rfl rfl hl.1 rfl (lv_room (Nat.le_of_ble_eq_true rfl)) dX4_init_1 ⟨Nat.le_of_ble_eq_true rfl, Nat.le_of_ble_eq_true rfl⟩) hS (fun q _ h => hFc q h) hFc (fun u t H1 locs ht hvm hw hB hz1 hk1 hS => ?_)
  obtain ⟨hP1, hD1⟩ := hB
  rw [ht] at hP1
  obtain ⟨hP, hD⟩ := va_join (wr := []) (w1 := [(h0, .inr (4, [.null, .int 0, .null, .null, .int 0, .null, .int 0, .null, .int 0, .int 0, .int 0]))]) hP hD [0] [] rfl rfl (by decide) (by decide) hk1 hFc hP1 hD1
  generalize H1 = H at hP hS ⊢
  have hP : va_P D vwCl [(h0, .inr (4, [.null, .int 0, .null, .null, .int 0, .null, .int 0, .null, .int 0, .int 0, .int 0]))] H := hP
  have hD : va_D A [(h0, .inr (4, [.null, .int 0, .null, .null, .int 0, .null, .int 0, .null, .int 0, .int 0, .int 0]))] := hD
  clear hPc hDc hFc hP1 hD1 hz1 hk1 hw
  refine lv_aload_n hx hb dX4_init_4 rfl (lv_at hl 0 rfl) ?_
  refine lv_bipush hx hb dX4_init_5 (v := 48) (by decide) ?_
  refine va_newa (atype := .int) (ty := .int) (a0 := (48, .inl (fun _ => 0))) hx hb (hts (.arrayClass .int) (by decide +kernel)) rfl hK hP hD hS hA (fun _ => rfl) (by decide) rfl (Nat.le_of_ble_eq_true rfl) (Nat.le_of_ble_eq_true rfl) (Nat.le_of_ble_eq_true rfl) dX4_init_7 (fun q1 cA H hK1 hP hD hS => ?_)
  obtain rfl : cA = dT 0 := kt_0 hK1
  have hP : va_P D vwCl [(h0, .inr (4, [.null, .int 0, .null, .null, .int 0, .null, .int 0, .null, .int 0, .int 0, .int 0])), (q1, .inl (dT 0, 48, .inl (fun _ => 0)))] H := hP
  have hD : va_D A [(h0, .inr (4, [.null, .int 0, .null, .null, .int 0, .null, .int 0, .null, .int 0, .int 0, .int 0])), (q1, .inl (dT 0, 48, .inl (fun _ => 0)))] := hD
  clear hK1
  refine W.widen (k := 1) (n := 48) (Nat.le_of_ble_eq_true rfl) (Nat.le_of_ble_eq_true rfl) ?_
  refine va_putF (D := D) (ci := 4) (v := .ref q1) (ty := .array .int) (C := RX4) (T := TX4) (N := 11) hx hb hts (by decide +kernel) tyX4 tyX4_ok nmX4 hown hK hP hD hS 0 rfl rfl 0 (by decide) (hts (.fieldLink RX4 11 "LighterAtDusk$Habit" "codes" "[I") (by decide +kernel)) (fun _ h9 => h9) rfl hin rfl (by decide +kernel) rfl rfl (Nat.le_of_ble_eq_true rfl) dX4_init_9 (fun H locs hP hD hS => ?_)
  have hP : va_P D vwCl [(h0, .inr (4, [.ref q1, .int 0, .null, .null, .int 0, .null, .int 0, .null, .int 0, .int 0, .int 0])), (q1, .inl (dT 0, 48, .inl (fun _ => 0)))] H := hP
  have hD : va_D A [(h0, .inr (4, [.ref q1, .int 0, .null, .null, .int 0, .null, .int 0, .null, .int 0, .int 0, .int 0])), (q1, .inl (dT 0, 48, .inl (fun _ => 0)))] := hD
  refine lv_aload_n hx hb dX4_init_12 rfl (lv_at hl 0 rfl) ?_
  refine lv_bipush hx hb dX4_init_13 (v := 48) (by decide) ?_
  refine va_newa (atype := .int) (ty := .int) (a0 := (48, .inl (fun _ => 0))) hx hb (hts (.arrayClass .int) (by decide +kernel)) rfl hK hP hD hS hA (fun _ => rfl) (by decide) rfl (Nat.le_of_ble_eq_true rfl) (Nat.le_of_ble_eq_true rfl) (Nat.le_of_ble_eq_true rfl) dX4_init_15 (fun q2 cA H hK1 hP hD hS => ?_)
  obtain rfl : cA = dT 0 := kt_0 hK1
  have hP : va_P D vwCl [(h0, .inr (4, [.ref q1, .int 0, .null, .null, .int 0, .null, .int 0, .null, .int 0, .int 0, .int 0])), (q1, .inl (dT 0, 48, .inl (fun _ => 0))), (q2, .inl (dT 0, 48, .inl (fun _ => 0)))] H := hP
  have hD : va_D A [(h0, .inr (4, [.ref q1, .int 0, .null, .null, .int 0, .null, .int 0, .null, .int 0, .int 0, .int 0])), (q1, .inl (dT 0, 48, .inl (fun _ => 0))), (q2, .inl (dT 0, 48, .inl (fun _ => 0)))] := hD
  clear hK1
  refine W.widen (k := 2) (n := 96) (Nat.le_of_ble_eq_true rfl) (Nat.le_of_ble_eq_true rfl) ?_
  refine va_putF (D := D) (ci := 4) (v := .ref q2) (ty := .array .int) (C := RX4) (T := TX4) (N := 11) hx hb hts (by decide +kernel) tyX4 tyX4_ok nmX4 hown hK hP hD hS 0 rfl rfl 2 (by decide) (hts (.fieldLink RX4 15 "LighterAtDusk$Habit" "stack" "[I") (by decide +kernel)) (fun _ h9 => h9) rfl hin rfl (by decide +kernel) rfl rfl (Nat.le_of_ble_eq_true rfl) dX4_init_17 (fun H locs hP hD hS => ?_)
  have hP : va_P D vwCl [(h0, .inr (4, [.ref q1, .int 0, .ref q2, .null, .int 0, .null, .int 0, .null, .int 0, .int 0, .int 0])), (q1, .inl (dT 0, 48, .inl (fun _ => 0))), (q2, .inl (dT 0, 48, .inl (fun _ => 0)))] H := hP
  have hD : va_D A [(h0, .inr (4, [.ref q1, .int 0, .ref q2, .null, .int 0, .null, .int 0, .null, .int 0, .int 0, .int 0])), (q1, .inl (dT 0, 48, .inl (fun _ => 0))), (q2, .inl (dT 0, 48, .inl (fun _ => 0)))] := hD
  refine lv_aload_n hx hb dX4_init_20 rfl (lv_at hl 0 rfl) ?_
  refine lv_bipush hx hb dX4_init_21 (v := 48) (by decide) ?_
  refine va_newa (atype := .int) (ty := .int) (a0 := (48, .inl (fun _ => 0))) hx hb (hts (.arrayClass .int) (by decide +kernel)) rfl hK hP hD hS hA (fun _ => rfl) (by decide) rfl (Nat.le_of_ble_eq_true rfl) (Nat.le_of_ble_eq_true rfl) (Nat.le_of_ble_eq_true rfl) dX4_init_23 (fun q3 cA H hK1 hP hD hS => ?_)
  obtain rfl : cA = dT 0 := kt_0 hK1
  have hP : va_P D vwCl [(h0, .inr (4, [.ref q1, .int 0, .ref q2, .null, .int 0, .null, .int 0, .null, .int 0, .int 0, .int 0])), (q1, .inl (dT 0, 48, .inl (fun _ => 0))), (q2, .inl (dT 0, 48, .inl (fun _ => 0))), (q3, .inl (dT 0, 48, .inl (fun _ => 0)))] H := hP
  have hD : va_D A [(h0, .inr (4, [.ref q1, .int 0, .ref q2, .null, .int 0, .null, .int 0, .null, .int 0, .int 0, .int 0])), (q1, .inl (dT 0, 48, .inl (fun _ => 0))), (q2, .inl (dT 0, 48, .inl (fun _ => 0))), (q3, .inl (dT 0, 48, .inl (fun _ => 0)))] := hD
  clear hK1
  refine W.widen (k := 3) (n := 144) (Nat.le_of_ble_eq_true rfl) (Nat.le_of_ble_eq_true rfl) ?_
  refine va_putF (D := D) (ci := 4) (v := .ref q3) (ty := .array .int) (C := RX4) (T := TX4) (N := 11) hx hb hts (by decide +kernel) tyX4 tyX4_ok nmX4 hown hK hP hD hS 0 rfl rfl 3 (by decide) (hts (.fieldLink RX4 18 "LighterAtDusk$Habit" "draft" "[I") (by decide +kernel)) (fun _ h9 => h9) rfl hin rfl (by decide +kernel) rfl rfl (Nat.le_of_ble_eq_true rfl) dX4_init_25 (fun H locs hP hD hS => ?_)
  have hP : va_P D vwCl [(h0, .inr (4, [.ref q1, .int 0, .ref q2, .ref q3, .int 0, .null, .int 0, .null, .int 0, .int 0, .int 0])), (q1, .inl (dT 0, 48, .inl (fun _ => 0))), (q2, .inl (dT 0, 48, .inl (fun _ => 0))), (q3, .inl (dT 0, 48, .inl (fun _ => 0)))] H := hP
  have hD : va_D A [(h0, .inr (4, [.ref q1, .int 0, .ref q2, .ref q3, .int 0, .null, .int 0, .null, .int 0, .int 0, .int 0])), (q1, .inl (dT 0, 48, .inl (fun _ => 0))), (q2, .inl (dT 0, 48, .inl (fun _ => 0))), (q3, .inl (dT 0, 48, .inl (fun _ => 0)))] := hD
  refine lv_aload_n hx hb dX4_init_28 rfl (lv_at hl 0 rfl) ?_
  refine lv_bipush hx hb dX4_init_29 (v := 48) (by decide) ?_
  refine va_newa (atype := .int) (ty := .int) (a0 := (48, .inl (fun _ => 0))) hx hb (hts (.arrayClass .int) (by decide +kernel)) rfl hK hP hD hS hA (fun _ => rfl) (by decide) rfl (Nat.le_of_ble_eq_true rfl) (Nat.le_of_ble_eq_true rfl) (Nat.le_of_ble_eq_true rfl) dX4_init_31 (fun q4 cA H hK1 hP hD hS => ?_)
  obtain rfl : cA = dT 0 := kt_0 hK1
  have hP : va_P D vwCl [(h0, .inr (4, [.ref q1, .int 0, .ref q2, .ref q3, .int 0, .null, .int 0, .null, .int 0, .int 0, .int 0])), (q1, .inl (dT 0, 48, .inl (fun _ => 0))), (q2, .inl (dT 0, 48, .inl (fun _ => 0))), (q3, .inl (dT 0, 48, .inl (fun _ => 0))), (q4, .inl (dT 0, 48, .inl (fun _ => 0)))] H := hP
  have hD : va_D A [(h0, .inr (4, [.ref q1, .int 0, .ref q2, .ref q3, .int 0, .null, .int 0, .null, .int 0, .int 0, .int 0])), (q1, .inl (dT 0, 48, .inl (fun _ => 0))), (q2, .inl (dT 0, 48, .inl (fun _ => 0))), (q3, .inl (dT 0, 48, .inl (fun _ => 0))), (q4, .inl (dT 0, 48, .inl (fun _ => 0)))] := hD
  clear hK1
  refine W.widen (k := 4) (n := 192) (Nat.le_of_ble_eq_true rfl) (Nat.le_of_ble_eq_true rfl) ?_
  refine va_putF (D := D) (ci := 4) (v := .ref q4) (ty := .array .int) (C := RX4) (T := TX4) (N := 11) hx hb hts (by decide +kernel) tyX4 tyX4_ok nmX4 hown hK hP hD hS 0 rfl rfl 5 (by decide) (hts (.fieldLink RX4 21 "LighterAtDusk$Habit" "waiting" "[I") (by decide +kernel)) (fun _ h9 => h9) rfl hin rfl (by decide +kernel) rfl rfl (Nat.le_of_ble_eq_true rfl) dX4_init_33 (fun H locs hP hD hS => ?_)
  have hP : va_P D vwCl [(h0, .inr (4, [.ref q1, .int 0, .ref q2, .ref q3, .int 0, .ref q4, .int 0, .null, .int 0, .int 0, .int 0])), (q1, .inl (dT 0, 48, .inl (fun _ => 0))), (q2, .inl (dT 0, 48, .inl (fun _ => 0))), (q3, .inl (dT 0, 48, .inl (fun _ => 0))), (q4, .inl (dT 0, 48, .inl (fun _ => 0)))] H := hP
  have hD : va_D A [(h0, .inr (4, [.ref q1, .int 0, .ref q2, .ref q3, .int 0, .ref q4, .int 0, .null, .int 0, .int 0, .int 0])), (q1, .inl (dT 0, 48, .inl (fun _ => 0))), (q2, .inl (dT 0, 48, .inl (fun _ => 0))), (q3, .inl (dT 0, 48, .inl (fun _ => 0))), (q4, .inl (dT 0, 48, .inl (fun _ => 0)))] := hD
  refine lv_aload_n hx hb dX4_init_36 rfl (lv_at hl 0 rfl) ?_
  refine lv_iconst hx hb dX4_init_37 (v := 5) (by decide) ?_
  refine va_newa (atype := .boolean) (ty := .boolean) (a0 := (5, .inl (fun _ => 0))) hx hb (hts (.arrayClass .boolean) (by decide +kernel)) rfl hK hP hD hS hA (fun _ => rfl) (by decide) rfl (Nat.le_of_ble_eq_true rfl) (Nat.le_of_ble_eq_true rfl) (Nat.le_of_ble_eq_true rfl) dX4_init_38 (fun q5 cA H hK1 hP hD hS => ?_)
  obtain rfl : cA = dT 3 := kt_3 hK1
  have hP : va_P D vwCl [(h0, .inr (4, [.ref q1, .int 0, .ref q2, .ref q3, .int 0, .ref q4, .int 0, .null, .int 0, .int 0, .int 0])), (q1, .inl (dT 0, 48, .inl (fun _ => 0))), (q2, .inl (dT 0, 48, .inl (fun _ => 0))), (q3, .inl (dT 0, 48, .inl (fun _ => 0))), (q4, .inl (dT 0, 48, .inl (fun _ => 0))), (q5, .inl (dT 3, 5, .inl (fun _ => 0)))] H := hP
  have hD : va_D A [(h0, .inr (4, [.ref q1, .int 0, .ref q2, .ref q3, .int 0, .ref q4, .int 0, .null, .int 0, .int 0, .int 0])), (q1, .inl (dT 0, 48, .inl (fun _ => 0))), (q2, .inl (dT 0, 48, .inl (fun _ => 0))), (q3, .inl (dT 0, 48, .inl (fun _ => 0))), (q4, .inl (dT 0, 48, .inl (fun _ => 0))), (q5, .inl (dT 3, 5, .inl (fun _ => 0)))] := hD
  clear hK1
  refine W.widen (k := 5) (n := 197) (Nat.le_of_ble_eq_true rfl) (Nat.le_of_ble_eq_true rfl) ?_
  refine va_putF (D := D) (ci := 4) (v := .ref q5) (ty := .array .boolean) (C := RX4) (T := TX4) (N := 11) hx hb hts (by decide +kernel) tyX4 tyX4_ok nmX4 hown hK hP hD hS 0 rfl rfl 7 (by decide) (hts (.fieldLink RX4 24 "LighterAtDusk$Habit" "compared" "[Z") (by decide +kernel)) (fun _ h9 => h9) rfl hin rfl (by decide +kernel) rfl rfl (Nat.le_of_ble_eq_true rfl) dX4_init_40 (fun H locs hP hD hS => ?_)
  have hP : va_P D vwCl [(h0, .inr (4, [.ref q1, .int 0, .ref q2, .ref q3, .int 0, .ref q4, .int 0, .ref q5, .int 0, .int 0, .int 0])), (q1, .inl (dT 0, 48, .inl (fun _ => 0))), (q2, .inl (dT 0, 48, .inl (fun _ => 0))), (q3, .inl (dT 0, 48, .inl (fun _ => 0))), (q4, .inl (dT 0, 48, .inl (fun _ => 0))), (q5, .inl (dT 3, 5, .inl (fun _ => 0)))] H := hP
  have hD : va_D A [(h0, .inr (4, [.ref q1, .int 0, .ref q2, .ref q3, .int 0, .ref q4, .int 0, .ref q5, .int 0, .int 0, .int 0])), (q1, .inl (dT 0, 48, .inl (fun _ => 0))), (q2, .inl (dT 0, 48, .inl (fun _ => 0))), (q3, .inl (dT 0, 48, .inl (fun _ => 0))), (q4, .inl (dT 0, 48, .inl (fun _ => 0))), (q5, .inl (dT 3, 5, .inl (fun _ => 0)))] := hD
  exact W.vret hx hb hr (fun t ht hW => ⟨⟨(), rfl, trivial, q1, q2, q3, q4, q5, by rw [ht]; exact hP, hD⟩, hS.F ht⟩) hS.2.2 dX4_init_43
def wsX3_init : List Cond := .code yX3_init cX3_init 1 none :: ([.arrayClass .int, .fieldLink RX3 9 "LighterAtDusk$FolkReader" "bases" "[I", .instanceMethod yX5_init, .initialized RX5, .code yX5_init cX5_init 1 none, .methodLink RX5 1 objectInit, .instanceMethod objectInit, .code objectInit ⟨#[0xb1]⟩ 1 none] ++ wsX30)
set_option maxRecDepth 20000 in
theorem ggX3_init_X5_init : GoodIn wsX3_init wsX5_init := goodIn_r _ [5, 6, 7, 8] (by decide +kernel) (by decide +kernel)
theorem dX3_init_0 : decode cX3_init 0 = .ok (.aload_n 0, 1) := by decide +kernel
theorem dX3_init_1 : decode cX3_init 1 = .ok (.invokespecial 3, 3) := by decide +kernel
theorem dX3_init_4 : decode cX3_init 4 = .ok (.aload_n 0, 1) := by decide +kernel
theorem dX3_init_5 : decode cX3_init 5 = .ok (.bipush 9, 2) := by decide +kernel
theorem dX3_init_7 : decode cX3_init 7 = .ok (.newarray .int, 2) := by decide +kernel
theorem dX3_init_9 : decode cX3_init 9 = .ok (.putfield 9, 3) := by decide +kernel
theorem dX3_init_12 : decode cX3_init 12 = .ok (.return_, 1) := by decide +kernel
set_option maxHeartbeats 4000000 in
set_option maxRecDepth 100000 in
theorem kX3_init (l : Launch) (D : va_G) (dT : Nat → ClassId) (h0 sz : Nat) : Met l yX3_init wsX3_init ({ frames := 2, cells := 1, slots := 9, locals := 32 }) (va_Pc [.ref h0] (fun U => U.heap.size = sz ∧ va_P D vwCl [(h0, .inr (3, [.null, .int 0, .int 0, .int 0, .int 0, .int 0]))] U.heap ∧ va_K D vwCl (rh_tys dT) U ∧ va_D (fun _ => True) [(h0, .inr (3, [.null, .int 0, .int 0, .int 0, .int 0, .int 0]))] ∧ ∀ w ∈ kn_ws, va_Nw w U)) (va_Qv (fun _ : Unit => True) (fun _ t => ∃ q1 : Nat, va_P D vwCl [(h0, .inr (3, [.ref q1, .int 0, .int 0, .int 0, .int 0, .int 0])), (q1, .inl (dT 0, 9, .inl (fun _ => 0)))] t.heap ∧ va_D (va_A [(h0, .inr (3, [.null, .int 0, .int 0, .int 0, .int 0, .int 0]))] sz) [(h0, .inr (3, [.ref q1, .int 0, .int 0, .int 0, .int 0, .int 0])), (q1, .inl (dT 0, 9, .inl (fun _ => 0)))]) (va_A [(h0, .inr (3, [.null, .int 0, .int 0, .int 0, .int 0, .int 0]))] sz)) 1 9 (va_A [(h0, .inr (3, [.null, .int 0, .int 0, .int 0, .int 0, .int 0]))] sz) := by
  refine Met.ofW (cc := cX3_init) (maxL := 1) (ret := none) (by decide) rfl ?_
  intro p e s m args below meth c s₁ B hml hv
  obtain ⟨rfl, hsz, hP, hK, hD0, hN⟩ := hv
  have hx := B.exec
  have hb := B.bytes
  have hr := B.returns
  have hts := atoms_spec (ws := wsX3_init) B.pre
  have hown : s.vm.findClass RX3 = some m.cls := findClass_of_methodNamed B.named
  have hin : meth.name = "<init>" := (name_of_methodNamed B.named B.method).1
  subst hsz
  have hD := hD0.self (sz := s.heap.size)
  generalize hAe : va_A [(h0, .inr (3, [.null, .int 0, .int 0, .int 0, .int 0, .int 0]))] s.heap.size = A at hD ⊢
  have hA : ∀ q : Nat, s.heap.size ≤ q → A q := fun q h => by rw [← hAe]; exact Or.inr h
  have hS : va_S A s.heap s.heap [] := va_S.rf
  have hP : va_P D vwCl [(h0, .inr (3, [.null, .int 0, .int 0, .int 0, .int 0, .int 0]))] s.heap := hP
  have hl := lv_entry ([.ref h0]) (n := 1) (Nat.le_of_ble_eq_true rfl)
  rw [lg_entry_eq]
  generalize (lg_sl ([.ref h0]) ++ List.replicate (1 - (lg_sl ([.ref h0])).length) Slot.unset).toArray = ls at hl ⊢
  have hl : lv_has ls 1 [(0, .ref h0)] := hl
  refine lv_aload_n hx hb dX3_init_0 rfl (lv_at hl 0 rfl) ?_
  have hPc := hP.sub (ws' := [(h0, .inr (3, [.null, .int 0, .int 0, .int 0, .int 0, .int 0]))]) [0] rfl
  have hDc := hD.sub (ws' := [(h0, .inr (3, [.null, .int 0, .int 0, .int 0, .int 0, .int 0]))]) [0] (by decide) rfl
  have hFc := va_free (wc := [(h0, .inr (3, [.null, .int 0, .int 0, .int 0, .int 0, .int 0]))]) hD hS hA [0] rfl
  refine va_callv (va_runIN (As := []) (rest := []) ⟨hx, hb, hml, hown, hts⟩ (kX5_init l D dT h0 s.heap.size 3 [.null, .int 0, .int 0, .int 0, .int 0, .int 0]) ⟨va_cnB 0 hts ggX3_init_X5_init rfl rfl rfl (hN (.methodLinkNest RX3 3 yX5_init RX11) (by decide +kernel)) (hts (.initialized RX5) (by decide +kernel)) (by decide +kernel) ⟨Nat.le_of_ble_eq_true rfl, Nat.le_of_ble_eq_true rfl⟩, rfl, (hts (.instanceMethod yX5_init) (by decide +kernel))⟩ ⟨fun a U g mk q => by obtain ⟨q0, q1, qP, qK, qD, qN⟩ := q; exact ⟨q0, q1, qP, va_K.moved (u := U) (U := U.calling g mk a) (Vm.Alike.refl U.vm) qK, qD, kn_same (u := U) (U := U.calling g mk a) rfl qN⟩, fun U hU hW => ⟨rfl, by rw [hU], by rw [hU]; exact hPc, va_K.moved hW.alike hK, hDc.weaken (fun _ _ _ _ => trivial), kn_warm hW hN⟩⟩ rfl rfl hl.1 rfl (lv_room (Nat.le_of_ble_eq_true rfl)) dX3_init_1 ⟨Nat.le_of_ble_eq_true rfl, Nat.le_of_ble_eq_true rfl⟩) hS (fun q _ h => hFc q h) hFc (fun u t H1 locs ht hvm hw hB hz1 hk1 hS => ?_)
  obtain ⟨hP1, hD1⟩ := hB
  rw [ht] at hP1
  obtain ⟨hP, hD⟩ := va_join (wr := []) (w1 := [(h0, .inr (3, [.null, .int 0, .int 0, .int 0, .int 0, .int 0]))]) hP hD [0] [] rfl rfl (by decide) (by decide) hk1 hFc hP1 hD1
  generalize H1 = H at hP hS ⊢
  have hP : va_P D vwCl [(h0, .inr (3, [.null, .int 0, .int 0, .int 0, .int 0, .int 0]))] H := hP
  have hD : va_D A [(h0, .inr (3, [.null, .int 0, .int 0, .int 0, .int 0, .int 0]))] := hD
  clear hPc hDc hFc hP1 hD1 hz1 hk1 hw
  refine lv_aload_n hx hb dX3_init_4 rfl (lv_at hl 0 rfl) ?_
  refine lv_bipush hx hb dX3_init_5 (v := 9) (by decide) ?_
  refine va_newa (atype := .int) (ty := .int) (a0 := (9, .inl (fun _ => 0))) hx hb (hts (.arrayClass .int) (by decide +kernel)) rfl hK hP hD hS hA (fun _ => rfl) (by decide) rfl (Nat.le_of_ble_eq_true rfl) (Nat.le_of_ble_eq_true rfl) (Nat.le_of_ble_eq_true rfl) dX3_init_7 (fun q1 cA H hK1 hP hD hS => ?_)
  obtain rfl : cA = dT 0 := kt_0 hK1
  have hP : va_P D vwCl [(h0, .inr (3, [.null, .int 0, .int 0, .int 0, .int 0, .int 0])), (q1, .inl (dT 0, 9, .inl (fun _ => 0)))] H := hP
  have hD : va_D A [(h0, .inr (3, [.null, .int 0, .int 0, .int 0, .int 0, .int 0])), (q1, .inl (dT 0, 9, .inl (fun _ => 0)))] := hD
  clear hK1
  refine W.widen (k := 1) (n := 9) (Nat.le_of_ble_eq_true rfl) (Nat.le_of_ble_eq_true rfl) ?_
  refine va_putF (D := D) (ci := 3) (v := .ref q1) (ty := .array .int) (C := RX3) (T := TX3) (N := 6) hx hb hts (by decide +kernel) tyX3 tyX3_ok nmX3 hown hK hP hD hS 0 rfl rfl 0 (by decide) (hts (.fieldLink RX3 9 "LighterAtDusk$FolkReader" "bases" "[I") (by decide +kernel)) (fun _ h9 => h9) rfl hin rfl (by decide +kernel) rfl rfl (Nat.le_of_ble_eq_true rfl) dX3_init_9 (fun H locs hP hD hS => ?_)
  have hP : va_P D vwCl [(h0, .inr (3, [.ref q1, .int 0, .int 0, .int 0, .int 0, .int 0])), (q1, .inl (dT 0, 9, .inl (fun _ => 0)))] H := hP
  have hD : va_D A [(h0, .inr (3, [.ref q1, .int 0, .int 0, .int 0, .int 0, .int 0])), (q1, .inl (dT 0, 9, .inl (fun _ => 0)))] := hD
  exact W.vret hx hb hr (fun t ht hW => ⟨⟨(), rfl, trivial, q1, by rw [ht]; exact hP, hD⟩, hS.F ht⟩) hS.2.2 dX3_init_12
def wsX9_init : List Cond := .code yX9_init cX9_init 3 none :: ([.methodLink RX9 3 objectInit, .instanceMethod objectInit, .code objectInit ⟨#[0xb1]⟩ 1 none, .arrayClass .int, .fieldLink RX9 9 "LighterAtDusk$Stance" "standing" "[I", .fieldLink RX9 15 "LighterAtDusk$Stance" "weights" "[I", .fieldLink RX9 18 "LighterAtDusk$Stance" "ways" "[I", .fieldLink RX9 21 "LighterAtDusk$Stance" "wayCounts" "[I", .fieldLink RX9 24 "LighterAtDusk$Stance" "best" "[I", .fieldLink RX9 27 "LighterAtDusk$Stance" "slots" "[I", .fieldLink RX9 30 "LighterAtDusk$Stance" "crowd" "LLighterAtDusk$Crowd;", .fieldLink RX9 34 "LighterAtDusk$Stance" "deck" "LLighterAtDusk$Deck;"] ++ wsX90)
theorem dX9_init_0 : decode cX9_init 0 = .ok (.aload_n 0, 1) := by decide +kernel
theorem dX9_init_1 : decode cX9_init 1 = .ok (.invokespecial 3, 3) := by decide +kernel
theorem dX9_init_4 : decode cX9_init 4 = .ok (.aload_n 0, 1) := by decide +kernel
theorem dX9_init_5 : decode cX9_init 5 = .ok (.bipush 9, 2) := by decide +kernel
theorem dX9_init_7 : decode cX9_init 7 = .ok (.newarray .int, 2) := by decide +kernel
theorem dX9_init_9 : decode cX9_init 9 = .ok (.putfield 9, 3) := by decide +kernel
theorem dX9_init_12 : decode cX9_init 12 = .ok (.aload_n 0, 1) := by decide +kernel
theorem dX9_init_13 : decode cX9_init 13 = .ok (.bipush 9, 2) := by decide +kernel
theorem dX9_init_15 : decode cX9_init 15 = .ok (.newarray .int, 2) := by decide +kernel
theorem dX9_init_17 : decode cX9_init 17 = .ok (.putfield 15, 3) := by decide +kernel
theorem dX9_init_20 : decode cX9_init 20 = .ok (.aload_n 0, 1) := by decide +kernel
theorem dX9_init_21 : decode cX9_init 21 = .ok (.sipush 10500, 3) := by decide +kernel
theorem dX9_init_24 : decode cX9_init 24 = .ok (.newarray .int, 2) := by decide +kernel
theorem dX9_init_26 : decode cX9_init 26 = .ok (.putfield 18, 3) := by decide +kernel
theorem dX9_init_29 : decode cX9_init 29 = .ok (.aload_n 0, 1) := by decide +kernel
theorem dX9_init_30 : decode cX9_init 30 = .ok (.bipush 21, 2) := by decide +kernel
theorem dX9_init_32 : decode cX9_init 32 = .ok (.newarray .int, 2) := by decide +kernel
theorem dX9_init_34 : decode cX9_init 34 = .ok (.putfield 21, 3) := by decide +kernel
theorem dX9_init_37 : decode cX9_init 37 = .ok (.aload_n 0, 1) := by decide +kernel
theorem dX9_init_38 : decode cX9_init 38 = .ok (.sipush 10500, 3) := by decide +kernel
theorem dX9_init_41 : decode cX9_init 41 = .ok (.newarray .int, 2) := by decide +kernel
theorem dX9_init_43 : decode cX9_init 43 = .ok (.putfield 24, 3) := by decide +kernel
theorem dX9_init_46 : decode cX9_init 46 = .ok (.aload_n 0, 1) := by decide +kernel
theorem dX9_init_47 : decode cX9_init 47 = .ok (.sipush 1024, 3) := by decide +kernel
theorem dX9_init_50 : decode cX9_init 50 = .ok (.newarray .int, 2) := by decide +kernel
theorem dX9_init_52 : decode cX9_init 52 = .ok (.putfield 27, 3) := by decide +kernel
theorem dX9_init_55 : decode cX9_init 55 = .ok (.aload_n 0, 1) := by decide +kernel
theorem dX9_init_56 : decode cX9_init 56 = .ok (.aload_n 1, 1) := by decide +kernel
theorem dX9_init_57 : decode cX9_init 57 = .ok (.putfield 30, 3) := by decide +kernel
theorem dX9_init_60 : decode cX9_init 60 = .ok (.aload_n 0, 1) := by decide +kernel
theorem dX9_init_61 : decode cX9_init 61 = .ok (.aload_n 2, 1) := by decide +kernel
theorem dX9_init_62 : decode cX9_init 62 = .ok (.putfield 34, 3) := by decide +kernel
theorem dX9_init_65 : decode cX9_init 65 = .ok (.return_, 1) := by decide +kernel
set_option maxHeartbeats 4000000 in
set_option maxRecDepth 100000 in
theorem kX9_init (l : Launch) (D : va_G) (dT : Nat → ClassId) (h0 h1 h2 sz : Nat) : Met l yX9_init wsX9_init ({ frames := 1, cells := 6, slots := 22063, locals := 12 }) (va_Pc [.ref h0, .ref h1, .ref h2] (fun U => U.heap.size = sz ∧ va_P D vwCl [(h0, .inr (8, [.null, .null, .null, .int 0, .null, .null, .null, .null, .null, .int 0]))] U.heap ∧ va_K D vwCl (rh_tys dT) U ∧ va_D (fun _ => True) [(h0, .inr (8, [.null, .null, .null, .int 0, .null, .null, .null, .null, .null, .int 0]))] ∧ ∀ w ∈ kn_ws, va_Nw w U)) (va_Qv (fun _ : Unit => True) (fun _ t => ∃ q1 q2 q3 q4 q5 q6 : Nat, va_P D vwCl [(h0, .inr (8, [.ref h1, .ref h2, .ref q1, .int 0, .ref q2, .ref q3, .ref q4, .ref q5, .ref q6, .int 0])), (q1, .inl (dT 0, 9, .inl (fun _ => 0))), (q2, .inl (dT 0, 9, .inl (fun _ => 0))), (q3, .inl (dT 0, 10500, .inl (fun _ => 0))), (q4, .inl (dT 0, 21, .inl (fun _ => 0))), (q5, .inl (dT 0, 10500, .inl (fun _ => 0))), (q6, .inl (dT 0, 1024, .inl (fun _ => 0)))] t.heap ∧ va_D (va_A [(h0, .inr (8, [.null, .null, .null, .int 0, .null, .null, .null, .null, .null, .int 0]))] sz) [(h0, .inr (8, [.ref h1, .ref h2, .ref q1, .int 0, .ref q2, .ref q3, .ref q4, .ref q5, .ref q6, .int 0])), (q1, .inl (dT 0, 9, .inl (fun _ => 0))), (q2, .inl (dT 0, 9, .inl (fun _ => 0))), (q3, .inl (dT 0, 10500, .inl (fun _ => 0))), (q4, .inl (dT 0, 21, .inl (fun _ => 0))), (q5, .inl (dT 0, 10500, .inl (fun _ => 0))), (q6, .inl (dT 0, 1024, .inl (fun _ => 0)))]) (va_A [(h0, .inr (8, [.null, .null, .null, .int 0, .null, .null, .null, .null, .null, .int 0]))] sz)) 6 22063 (va_A [(h0, .inr (8, [.null, .null, .null, .int 0, .null, .null, .null, .null, .null, .int 0]))] sz) := by
  refine Met.ofW (cc := cX9_init) (maxL := 3) (ret := none) (by decide) rfl ?_
  intro p e s m args below meth c s₁ B hml hv
  obtain ⟨rfl, hsz, hP, hK, hD0, hN⟩ := hv
  have hx := B.exec
  have hb := B.bytes
  have hr := B.returns
  have hts := atoms_spec (ws := wsX9_init) B.pre
  have hown : s.vm.findClass RX9 = some m.cls := findClass_of_methodNamed B.named
  have hin : meth.name = "<init>" := (name_of_methodNamed B.named B.method).1
  subst hsz
  have hD := hD0.self (sz := s.heap.size)
  generalize hAe : va_A [(h0, .inr (8, [.null, .null, .null, .int 0, .null, .null, .null, .null, .null, .int 0]))] s.heap.size = A at hD ⊢
  have hA : ∀ q : Nat, s.heap.size ≤ q → A q := fun q h => by rw [← hAe]; exact Or.inr h
  have hS : va_S A s.heap s.heap [] := va_S.rf
  have hP : va_P D vwCl [(h0, .inr (8, [.null, .null, .null, .int 0, .null, .null, .null, .null, .null, .int 0]))] s.heap := hP
  have hl := lv_entry ([.ref h0, .ref h1, .ref h2]) (n := 3) (Nat.le_of_ble_eq_true rfl)
  rw [lg_entry_eq]
  generalize (lg_sl ([.ref h0, .ref h1, .ref h2]) ++ List.replicate (3 - (lg_sl ([.ref h0, .ref h1, .ref h2])).length) Slot.unset).toArray = ls at hl ⊢
  have hl : lv_has ls 3 [(0, .ref h0), (1, .ref h1), (2, .ref h2)] := hl
  refine lv_aload_n hx hb dX9_init_0 rfl (lv_at hl 0 rfl) ?_
  refine W.objInit hx hb hown (hts (.methodLink RX9 3 objectInit) (by decide +kernel)) (hts (.instanceMethod objectInit) (by decide +kernel)) (hts _ (List.mem_cons_of_mem _ (List.mem_append_left _ (List.mem_of_getElem? (i := 2) rfl)))) rfl (by rw [hml]; exact hl.1) rfl dX9_init_1 (Nat.le_of_ble_eq_true rfl) (Nat.le_of_ble_eq_true rfl) ?_
  refine W.eq (g2 := F0 m 4 ls []) rfl ?_
  refine lv_aload_n hx hb dX9_init_4 rfl (lv_at hl 0 rfl) ?_
  refine lv_bipush hx hb dX9_init_5 (v := 9) (by decide) ?_
  refine va_newa (atype := .int) (ty := .int) (a0 := (9, .inl (fun _ => 0))) hx hb (hts (.arrayClass .int) (by decide +kernel)) rfl hK hP hD hS hA (fun _ => rfl) (by decide) rfl (Nat.le_of_ble_eq_true rfl) (Nat.le_of_ble_eq_true rfl) (Nat.le_of_ble_eq_true rfl) dX9_init_7 (fun q1 cA H hK1 hP hD hS => ?_)
  obtain rfl : cA = dT 0 := kt_0 hK1
  have hP : va_P D vwCl [(h0, .inr (8, [.null, .null, .null, .int 0, .null, .null, .null, .null, .null, .int 0])), (q1, .inl (dT 0, 9, .inl (fun _ => 0)))] H := hP
  have hD : va_D A [(h0, .inr (8, [.null, .null, .null, .int 0, .null, .null, .null, .null, .null, .int 0])), (q1, .inl (dT 0, 9, .inl (fun _ => 0)))] := hD
  clear hK1
  refine W.widen (k := 1) (n := 9) (Nat.le_of_ble_eq_true rfl) (Nat.le_of_ble_eq_true rfl) ?_
  refine va_putF (D := D) (ci := 8) (v := .ref q1) (ty := .array .int) (C := RX9) (T := TX9) (N := 10) hx hb hts (by decide +kernel) tyX9 tyX9_ok nmX9 hown hK hP hD hS 0 rfl rfl 2 (by decide) (hts (.fieldLink RX9 9 "LighterAtDusk$Stance" "standing" "[I") (by decide +kernel)) (fun _ h9 => h9) rfl hin rfl (by decide +kernel) rfl rfl (Nat.le_of_ble_eq_true rfl) dX9_init_9 (fun H locs hP hD hS => ?_)
  have hP : va_P D vwCl [(h0, .inr (8, [.null, .null, .ref q1, .int 0, .null, .null, .null, .null, .null, .int 0])), (q1, .inl (dT 0, 9, .inl (fun _ => 0)))] H := hP
  have hD : va_D A [(h0, .inr (8, [.null, .null, .ref q1, .int 0, .null, .null, .null, .null, .null, .int 0])), (q1, .inl (dT 0, 9, .inl (fun _ => 0)))] := hD
  refine lv_aload_n hx hb dX9_init_12 rfl (lv_at hl 0 rfl) ?_
  refine lv_bipush hx hb dX9_init_13 (v := 9) (by decide) ?_
  refine va_newa (atype := .int) (ty := .int) (a0 := (9, .inl (fun _ => 0))) hx hb (hts (.arrayClass .int) (by decide +kernel)) rfl hK hP hD hS hA (fun _ => rfl) (by decide) rfl (Nat.le_of_ble_eq_true rfl) (Nat.le_of_ble_eq_true rfl) (Nat.le_of_ble_eq_true rfl) dX9_init_15 (fun q2 cA H hK1 hP hD hS => ?_)
  obtain rfl : cA = dT 0 := kt_0 hK1
  have hP : va_P D vwCl [(h0, .inr (8, [.null, .null, .ref q1, .int 0, .null, .null, .null, .null, .null, .int 0])), (q1, .inl (dT 0, 9, .inl (fun _ => 0))), (q2, .inl (dT 0, 9, .inl (fun _ => 0)))] H := hP
  have hD : va_D A [(h0, .inr (8, [.null, .null, .ref q1, .int 0, .null, .null, .null, .null, .null, .int 0])), (q1, .inl (dT 0, 9, .inl (fun _ => 0))), (q2, .inl (dT 0, 9, .inl (fun _ => 0)))] := hD
  clear hK1
  refine W.widen (k := 2) (n := 18) (Nat.le_of_ble_eq_true rfl) (Nat.le_of_ble_eq_true rfl) ?_
  refine va_putF (D := D) (ci := 8) (v := .ref q2) (ty := .array .int) (C := RX9) (T := TX9) (N := 10) hx hb hts (by decide +kernel) tyX9 tyX9_ok nmX9 hown hK hP hD hS 0 rfl rfl 4 (by decide) (hts (.fieldLink RX9 15 "LighterAtDusk$Stance" "weights" "[I") (by decide +kernel)) (fun _ h9 => h9) rfl hin rfl (by decide +kernel) rfl rfl (Nat.le_of_ble_eq_true rfl) dX9_init_17 (fun H locs hP hD hS => ?_)
  have hP : va_P D vwCl [(h0, .inr (8, [.null, .null, .ref q1, .int 0, .ref q2, .null, .null, .null, .null, .int 0])), (q1, .inl (dT 0, 9, .inl (fun _ => 0))), (q2, .inl (dT 0, 9, .inl (fun _ => 0)))] H := hP
  have hD : va_D A [(h0, .inr (8, [.null, .null, .ref q1, .int 0, .ref q2, .null, .null, .null, .null, .int 0])), (q1, .inl (dT 0, 9, .inl (fun _ => 0))), (q2, .inl (dT 0, 9, .inl (fun _ => 0)))] := hD
  refine lv_aload_n hx hb dX9_init_20 rfl (lv_at hl 0 rfl) ?_
  refine lv_sipush hx hb dX9_init_21 (v := 10500) (by decide) ?_
  refine va_newa (atype := .int) (ty := .int) (a0 := (10500, .inl (fun _ => 0))) hx hb (hts (.arrayClass .int) (by decide +kernel)) rfl hK hP hD hS hA (fun _ => rfl) (by decide) rfl (Nat.le_of_ble_eq_true rfl) (Nat.le_of_ble_eq_true rfl) (Nat.le_of_ble_eq_true rfl) dX9_init_24 (fun q3 cA H hK1 hP hD hS => ?_)
  obtain rfl : cA = dT 0 := kt_0 hK1
  have hP : va_P D vwCl [(h0, .inr (8, [.null, .null, .ref q1, .int 0, .ref q2, .null, .null, .null, .null, .int 0])), (q1, .inl (dT 0, 9, .inl (fun _ => 0))), (q2, .inl (dT 0, 9, .inl (fun _ => 0))), (q3, .inl (dT 0, 10500, .inl (fun _ => 0)))] H := hP
  have hD : va_D A [(h0, .inr (8, [.null, .null, .ref q1, .int 0, .ref q2, .null, .null, .null, .null, .int 0])), (q1, .inl (dT 0, 9, .inl (fun _ => 0))), (q2, .inl (dT 0, 9, .inl (fun _ => 0))), (q3, .inl (dT 0, 10500, .inl (fun _ => 0)))] := hD
  clear hK1
  refine W.widen (k := 3) (n := 10518) (Nat.le_of_ble_eq_true rfl) (Nat.le_of_ble_eq_true rfl) ?_
  refine va_putF (D := D) (ci := 8) (v := .ref q3) (ty := .array .int) (C := RX9) (T := TX9) (N := 10) hx hb hts (by decide +kernel) tyX9 tyX9_ok nmX9 hown hK hP hD hS 0 rfl rfl 5 (by decide) (hts (.fieldLink RX9 18 "LighterAtDusk$Stance" "ways" "[I") (by decide +kernel)) (fun _ h9 => h9) rfl hin rfl (by decide +kernel) rfl rfl (Nat.le_of_ble_eq_true rfl) dX9_init_26 (fun H locs hP hD hS => ?_)
  have hP : va_P D vwCl [(h0, .inr (8, [.null, .null, .ref q1, .int 0, .ref q2, .ref q3, .null, .null, .null, .int 0])), (q1, .inl (dT 0, 9, .inl (fun _ => 0))), (q2, .inl (dT 0, 9, .inl (fun _ => 0))), (q3, .inl (dT 0, 10500, .inl (fun _ => 0)))] H := hP
  have hD : va_D A [(h0, .inr (8, [.null, .null, .ref q1, .int 0, .ref q2, .ref q3, .null, .null, .null, .int 0])), (q1, .inl (dT 0, 9, .inl (fun _ => 0))), (q2, .inl (dT 0, 9, .inl (fun _ => 0))), (q3, .inl (dT 0, 10500, .inl (fun _ => 0)))] := hD
  refine lv_aload_n hx hb dX9_init_29 rfl (lv_at hl 0 rfl) ?_
  refine lv_bipush hx hb dX9_init_30 (v := 21) (by decide) ?_
  refine va_newa (atype := .int) (ty := .int) (a0 := (21, .inl (fun _ => 0))) hx hb (hts (.arrayClass .int) (by decide +kernel)) rfl hK hP hD hS hA (fun _ => rfl) (by decide) rfl (Nat.le_of_ble_eq_true rfl) (Nat.le_of_ble_eq_true rfl) (Nat.le_of_ble_eq_true rfl) dX9_init_32 (fun q4 cA H hK1 hP hD hS => ?_)
  obtain rfl : cA = dT 0 := kt_0 hK1
  have hP : va_P D vwCl [(h0, .inr (8, [.null, .null, .ref q1, .int 0, .ref q2, .ref q3, .null, .null, .null, .int 0])), (q1, .inl (dT 0, 9, .inl (fun _ => 0))), (q2, .inl (dT 0, 9, .inl (fun _ => 0))), (q3, .inl (dT 0, 10500, .inl (fun _ => 0))), (q4, .inl (dT 0, 21, .inl (fun _ => 0)))] H := hP
  have hD : va_D A [(h0, .inr (8, [.null, .null, .ref q1, .int 0, .ref q2, .ref q3, .null, .null, .null, .int 0])), (q1, .inl (dT 0, 9, .inl (fun _ => 0))), (q2, .inl (dT 0, 9, .inl (fun _ => 0))), (q3, .inl (dT 0, 10500, .inl (fun _ => 0))), (q4, .inl (dT 0, 21, .inl (fun _ => 0)))] := hD
  clear hK1
  refine W.widen (k := 4) (n := 10539) (Nat.le_of_ble_eq_true rfl) (Nat.le_of_ble_eq_true rfl) ?_
  refine va_putF (D := D) (ci := 8) (v := .ref q4) (ty := .array .int) (C := RX9) (T := TX9) (N := 10) hx hb hts (by decide +kernel) tyX9 tyX9_ok nmX9 hown hK hP hD hS 0 rfl rfl 6 (by decide) (hts (.fieldLink RX9 21 "LighterAtDusk$Stance" "wayCounts" "[I") (by decide +kernel)) (fun _ h9 => h9) rfl hin rfl (by decide +kernel) rfl rfl (Nat.le_of_ble_eq_true rfl) dX9_init_34 (fun H locs hP hD hS => ?_)
  have hP : va_P D vwCl [(h0, .inr (8, [.null, .null, .ref q1, .int 0, .ref q2, .ref q3, .ref q4, .null, .null, .int 0])), (q1, .inl (dT 0, 9, .inl (fun _ => 0))), (q2, .inl (dT 0, 9, .inl (fun _ => 0))), (q3, .inl (dT 0, 10500, .inl (fun _ => 0))), (q4, .inl (dT 0, 21, .inl (fun _ => 0)))] H := hP
  have hD : va_D A [(h0, .inr (8, [.null, .null, .ref q1, .int 0, .ref q2, .ref q3, .ref q4, .null, .null, .int 0])), (q1, .inl (dT 0, 9, .inl (fun _ => 0))), (q2, .inl (dT 0, 9, .inl (fun _ => 0))), (q3, .inl (dT 0, 10500, .inl (fun _ => 0))), (q4, .inl (dT 0, 21, .inl (fun _ => 0)))] := hD
  refine lv_aload_n hx hb dX9_init_37 rfl (lv_at hl 0 rfl) ?_
  refine lv_sipush hx hb dX9_init_38 (v := 10500) (by decide) ?_
  refine va_newa (atype := .int) (ty := .int) (a0 := (10500, .inl (fun _ => 0))) hx hb (hts (.arrayClass .int) (by decide +kernel)) rfl hK hP hD hS hA (fun _ => rfl) (by decide) rfl (Nat.le_of_ble_eq_true rfl) (Nat.le_of_ble_eq_true rfl) (Nat.le_of_ble_eq_true rfl) dX9_init_41 (fun q5 cA H hK1 hP hD hS => ?_)
  obtain rfl : cA = dT 0 := kt_0 hK1
  have hP : va_P D vwCl [(h0, .inr (8, [.null, .null, .ref q1, .int 0, .ref q2, .ref q3, .ref q4, .null, .null, .int 0])), (q1, .inl (dT 0, 9, .inl (fun _ => 0))), (q2, .inl (dT 0, 9, .inl (fun _ => 0))), (q3, .inl (dT 0, 10500, .inl (fun _ => 0))), (q4, .inl (dT 0, 21, .inl (fun _ => 0))), (q5, .inl (dT 0, 10500, .inl (fun _ => 0)))] H := hP
  have hD : va_D A [(h0, .inr (8, [.null, .null, .ref q1, .int 0, .ref q2, .ref q3, .ref q4, .null, .null, .int 0])), (q1, .inl (dT 0, 9, .inl (fun _ => 0))), (q2, .inl (dT 0, 9, .inl (fun _ => 0))), (q3, .inl (dT 0, 10500, .inl (fun _ => 0))), (q4, .inl (dT 0, 21, .inl (fun _ => 0))), (q5, .inl (dT 0, 10500, .inl (fun _ => 0)))] := hD
  clear hK1
  refine W.widen (k := 5) (n := 21039) (Nat.le_of_ble_eq_true rfl) (Nat.le_of_ble_eq_true rfl) ?_
  refine va_putF (D := D) (ci := 8) (v := .ref q5) (ty := .array .int) (C := RX9) (T := TX9) (N := 10) hx hb hts (by decide +kernel) tyX9 tyX9_ok nmX9 hown hK hP hD hS 0 rfl rfl 7 (by decide) (hts (.fieldLink RX9 24 "LighterAtDusk$Stance" "best" "[I") (by decide +kernel)) (fun _ h9 => h9) rfl hin rfl (by decide +kernel) rfl rfl (Nat.le_of_ble_eq_true rfl) dX9_init_43 (fun H locs hP hD hS => ?_)
  have hP : va_P D vwCl [(h0, .inr (8, [.null, .null, .ref q1, .int 0, .ref q2, .ref q3, .ref q4, .ref q5, .null, .int 0])), (q1, .inl (dT 0, 9, .inl (fun _ => 0))), (q2, .inl (dT 0, 9, .inl (fun _ => 0))), (q3, .inl (dT 0, 10500, .inl (fun _ => 0))), (q4, .inl (dT 0, 21, .inl (fun _ => 0))), (q5, .inl (dT 0, 10500, .inl (fun _ => 0)))] H := hP
  have hD : va_D A [(h0, .inr (8, [.null, .null, .ref q1, .int 0, .ref q2, .ref q3, .ref q4, .ref q5, .null, .int 0])), (q1, .inl (dT 0, 9, .inl (fun _ => 0))), (q2, .inl (dT 0, 9, .inl (fun _ => 0))), (q3, .inl (dT 0, 10500, .inl (fun _ => 0))), (q4, .inl (dT 0, 21, .inl (fun _ => 0))), (q5, .inl (dT 0, 10500, .inl (fun _ => 0)))] := hD
  refine lv_aload_n hx hb dX9_init_46 rfl (lv_at hl 0 rfl) ?_
  refine lv_sipush hx hb dX9_init_47 (v := 1024) (by decide) ?_
  refine va_newa (atype := .int) (ty := .int) (a0 := (1024, .inl (fun _ => 0))) hx hb (hts (.arrayClass .int) (by decide +kernel)) rfl hK hP hD hS hA (fun _ => rfl) (by decide) rfl (Nat.le_of_ble_eq_true rfl) (Nat.le_of_ble_eq_true rfl) (Nat.le_of_ble_eq_true rfl) dX9_init_50 (fun q6 cA H hK1 hP hD hS => ?_)
  obtain rfl : cA = dT 0 := kt_0 hK1
  have hP : va_P D vwCl [(h0, .inr (8, [.null, .null, .ref q1, .int 0, .ref q2, .ref q3, .ref q4, .ref q5, .null, .int 0])), (q1, .inl (dT 0, 9, .inl (fun _ => 0))), (q2, .inl (dT 0, 9, .inl (fun _ => 0))), (q3, .inl (dT 0, 10500, .inl (fun _ => 0))), (q4, .inl (dT 0, 21, .inl (fun _ => 0))), (q5, .inl (dT 0, 10500, .inl (fun _ => 0))), (q6, .inl (dT 0, 1024, .inl (fun _ => 0)))] H := hP
  have hD : va_D A [(h0, .inr (8, [.null, .null, .ref q1, .int 0, .ref q2, .ref q3, .ref q4, .ref q5, .null, .int 0])), (q1, .inl (dT 0, 9, .inl (fun _ => 0))), (q2, .inl (dT 0, 9, .inl (fun _ => 0))), (q3, .inl (dT 0, 10500, .inl (fun _ => 0))), (q4, .inl (dT 0, 21, .inl (fun _ => 0))), (q5, .inl (dT 0, 10500, .inl (fun _ => 0))), (q6, .inl (dT 0, 1024, .inl (fun _ => 0)))] := hD
  clear hK1
  refine W.widen (k := 6) (n := 22063) (Nat.le_of_ble_eq_true rfl) (Nat.le_of_ble_eq_true rfl) ?_
  refine va_putF (D := D) (ci := 8) (v := .ref q6) (ty := .array .int) (C := RX9) (T := TX9) (N := 10) hx hb hts (by decide +kernel) tyX9 tyX9_ok nmX9 hown hK hP hD hS 0 rfl rfl 8 (by decide) (hts (.fieldLink RX9 27 "LighterAtDusk$Stance" "slots" "[I") (by decide +kernel)) (fun _ h9 => h9) rfl hin rfl (by decide +kernel) rfl rfl (Nat.le_of_ble_eq_true rfl) dX9_init_52 (fun H locs hP hD hS => ?_)
  have hP : va_P D vwCl [(h0, .inr (8, [.null, .null, .ref q1, .int 0, .ref q2, .ref q3, .ref q4, .ref q5, .ref q6, .int 0])), (q1, .inl (dT 0, 9, .inl (fun _ => 0))), (q2, .inl (dT 0, 9, .inl (fun _ => 0))), (q3, .inl (dT 0, 10500, .inl (fun _ => 0))), (q4, .inl (dT 0, 21, .inl (fun _ => 0))), (q5, .inl (dT 0, 10500, .inl (fun _ => 0))), (q6, .inl (dT 0, 1024, .inl (fun _ => 0)))] H := hP
  have hD : va_D A [(h0, .inr (8, [.null, .null, .ref q1, .int 0, .ref q2, .ref q3, .ref q4, .ref q5, .ref q6, .int 0])), (q1, .inl (dT 0, 9, .inl (fun _ => 0))), (q2, .inl (dT 0, 9, .inl (fun _ => 0))), (q3, .inl (dT 0, 10500, .inl (fun _ => 0))), (q4, .inl (dT 0, 21, .inl (fun _ => 0))), (q5, .inl (dT 0, 10500, .inl (fun _ => 0))), (q6, .inl (dT 0, 1024, .inl (fun _ => 0)))] := hD
  refine lv_aload_n hx hb dX9_init_55 rfl (lv_at hl 0 rfl) ?_
  refine lv_aload_n hx hb dX9_init_56 rfl (lv_at hl 1 rfl) ?_
  refine va_putF (D := D) (ci := 8) (v := .ref h1) (ty := .object "LighterAtDusk$Crowd") (C := RX9) (T := TX9) (N := 10) hx hb hts (by decide +kernel) tyX9 tyX9_ok nmX9 hown hK hP hD hS 0 rfl rfl 0 (by decide) (hts (.fieldLink RX9 30 "LighterAtDusk$Stance" "crowd" "LLighterAtDusk$Crowd;") (by decide +kernel)) (fun _ h9 => h9) rfl hin rfl (by decide +kernel) rfl rfl (Nat.le_of_ble_eq_true rfl) dX9_init_57 (fun H locs hP hD hS => ?_)
  have hP : va_P D vwCl [(h0, .inr (8, [.ref h1, .null, .ref q1, .int 0, .ref q2, .ref q3, .ref q4, .ref q5, .ref q6, .int 0])), (q1, .inl (dT 0, 9, .inl (fun _ => 0))), (q2, .inl (dT 0, 9, .inl (fun _ => 0))), (q3, .inl (dT 0, 10500, .inl (fun _ => 0))), (q4, .inl (dT 0, 21, .inl (fun _ => 0))), (q5, .inl (dT 0, 10500, .inl (fun _ => 0))), (q6, .inl (dT 0, 1024, .inl (fun _ => 0)))] H := hP
  have hD : va_D A [(h0, .inr (8, [.ref h1, .null, .ref q1, .int 0, .ref q2, .ref q3, .ref q4, .ref q5, .ref q6, .int 0])), (q1, .inl (dT 0, 9, .inl (fun _ => 0))), (q2, .inl (dT 0, 9, .inl (fun _ => 0))), (q3, .inl (dT 0, 10500, .inl (fun _ => 0))), (q4, .inl (dT 0, 21, .inl (fun _ => 0))), (q5, .inl (dT 0, 10500, .inl (fun _ => 0))), (q6, .inl (dT 0, 1024, .inl (fun _ => 0)))] := hD
  refine lv_aload_n hx hb dX9_init_60 rfl (lv_at hl 0 rfl) ?_
  refine lv_aload_n hx hb dX9_init_61 rfl (lv_at hl 2 rfl) ?_
  refine va_putF (D := D) (ci := 8) (v := .ref h2) (ty := .object "LighterAtDusk$Deck") (C := RX9) (T := TX9) (N := 10) hx hb hts (by decide +kernel) tyX9 tyX9_ok nmX9 hown hK hP hD hS 0 rfl rfl 1 (by decide) (hts (.fieldLink RX9 34 "LighterAtDusk$Stance" "deck" "LLighterAtDusk$Deck;") (by decide +kernel)) (fun _ h9 => h9) rfl hin rfl (by decide +kernel) rfl rfl (Nat.le_of_ble_eq_true rfl) dX9_init_62 (fun H locs hP hD hS => ?_)
  have hP : va_P D vwCl [(h0, .inr (8, [.ref h1, .ref h2, .ref q1, .int 0, .ref q2, .ref q3, .ref q4, .ref q5, .ref q6, .int 0])), (q1, .inl (dT 0, 9, .inl (fun _ => 0))), (q2, .inl (dT 0, 9, .inl (fun _ => 0))), (q3, .inl (dT 0, 10500, .inl (fun _ => 0))), (q4, .inl (dT 0, 21, .inl (fun _ => 0))), (q5, .inl (dT 0, 10500, .inl (fun _ => 0))), (q6, .inl (dT 0, 1024, .inl (fun _ => 0)))] H := hP
  have hD : va_D A [(h0, .inr (8, [.ref h1, .ref h2, .ref q1, .int 0, .ref q2, .ref q3, .ref q4, .ref q5, .ref q6, .int 0])), (q1, .inl (dT 0, 9, .inl (fun _ => 0))), (q2, .inl (dT 0, 9, .inl (fun _ => 0))), (q3, .inl (dT 0, 10500, .inl (fun _ => 0))), (q4, .inl (dT 0, 21, .inl (fun _ => 0))), (q5, .inl (dT 0, 10500, .inl (fun _ => 0))), (q6, .inl (dT 0, 1024, .inl (fun _ => 0)))] := hD
  exact W.vret hx hb hr (fun t ht hW => ⟨⟨(), rfl, trivial, q1, q2, q3, q4, q5, q6, by rw [ht]; exact hP, hD⟩, hS.F ht⟩) hS.2.2 dX9_init_65
