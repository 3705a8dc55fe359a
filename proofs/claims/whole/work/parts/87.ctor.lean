/-! constructors that make arrays alone -/
theorem kt_0 {D : va_G} {dT : Nat → ClassId} {U : State} {cA : ClassId} (h : va_K D vwCl (rh_tys dT ++ [(cA, .int)]) U) : cA = dT 0 := Option.some.inj ((show U.vm.findClass ("[" ++ FieldType.int.toString) = some cA from (h.2 4 _ rfl).2).symm.trans (show U.vm.findClass ("[" ++ FieldType.int.toString) = some (dT 0) from (h.2 0 _ rfl).2))
theorem kt_1 {D : va_G} {dT : Nat → ClassId} {U : State} {cA : ClassId} (h : va_K D vwCl (rh_tys dT ++ [(cA, .long)]) U) : cA = dT 1 := Option.some.inj ((show U.vm.findClass ("[" ++ FieldType.long.toString) = some cA from (h.2 4 _ rfl).2).symm.trans (show U.vm.findClass ("[" ++ FieldType.long.toString) = some (dT 1) from (h.2 1 _ rfl).2))
theorem kt_2 {D : va_G} {dT : Nat → ClassId} {U : State} {cA : ClassId} (h : va_K D vwCl (rh_tys dT ++ [(cA, .byte)]) U) : cA = dT 2 := Option.some.inj ((show U.vm.findClass ("[" ++ FieldType.byte.toString) = some cA from (h.2 4 _ rfl).2).symm.trans (show U.vm.findClass ("[" ++ FieldType.byte.toString) = some (dT 2) from (h.2 2 _ rfl).2))
theorem kt_3 {D : va_G} {dT : Nat → ClassId} {U : State} {cA : ClassId} (h : va_K D vwCl (rh_tys dT ++ [(cA, .boolean)]) U) : cA = dT 3 := Option.some.inj ((show U.vm.findClass ("[" ++ FieldType.boolean.toString) = some cA from (h.2 4 _ rfl).2).symm.trans (show U.vm.findClass ("[" ++ FieldType.boolean.toString) = some (dT 3) from (h.2 3 _ rfl).2))

def wsX9_init : List Cond := .code yX9_init cX9_init 3 none :: ([.methodLink RX9 3 objectInit, .instanceMethod objectInit, .code objectInit ⟨#[0xb1]⟩ 1 none, .arrayClass .int, .fieldLink RX9 9 "LighterAtDusk$Stance" "standing" "[I", .fieldLink RX9 15 "LighterAtDusk$Stance" "weights" "[I", .fieldLink RX9 18 "LighterAtDusk$Stance" "ways" "[I", .fieldLink RX9 21 "LighterAtDusk$Stance" "wayCounts" "[I", .fieldLink RX9 24 "LighterAtDusk$Stance" "best" "[I", .fieldLink RX9 27 "LighterAtDusk$Stance" "slots" "[I", .fieldLink RX9 30 "LighterAtDusk$Stance" "crowd" "LLighterAtDusk$Crowd;", .fieldLink RX9 34 "LighterAtDusk$Stance" "deck" "LLighterAtDusk$Deck;"] ++ wsX90)
theorem dX9_init_0 : decode cX9_init 0 = .ok (.aload_n 0, 1) := by decide +kernel
theorem dX9_init_1 : decode cX9_init 1 = .ok (.invokespecial 3, 3) := by decide +kernel
theorem dX9_init_4 : decode cX9_init 4 = .ok (.aload_n 0, 1) := by decide +kernel
theorem dX9_init_5 : decode cX9_init 5 = .ok (.bipush 9, 2) := by decide +kernel
theorem dX9_init_7 : decode cX9_init 7 = .ok (.newarray .int, 2) := by decide +kernel
theorem dX9_init_9 : decode cX9_init 9 = .ok (.putfield 9, 3) := by decide +kernel
theorem dX9_init_12 : decode cX9_init 12 = .ok (.aload_n 0, 1) := by decide +kernel
theorem dX9_init_13 : decode cX9_init 13 = .ok (.bipush 9, 2) := by decide +kernel
theorem dX9_init_15 : decode cX9_init 15 = .ok (.newarray .int, 2) := by decide +kernel
theorem dX9_init_17 : decode cX9_init 17 = .ok (.putfield 15, 3) := by decide +kernel
theorem dX9_init_20 : decode cX9_init 20 = .ok (.aload_n 0, 1) := by decide +kernel
theorem dX9_init_21 : decode cX9_init 21 = .ok (.sipush 10500, 3) := by decide +kernel
theorem dX9_init_24 : decode cX9_init 24 = .ok (.newarray .int, 2) := by decide +kernel
theorem dX9_init_26 : decode cX9_init 26 = .ok (.putfield 18, 3) := by decide +kernel
theorem dX9_init_29 : decode cX9_init 29 = .ok (.aload_n 0, 1) := by decide +kernel
theorem dX9_init_30 : decode cX9_init 30 = .ok (.bipush 21, 2) := by decide +kernel
theorem dX9_init_32 : decode cX9_init 32 = .ok (.newarray .int, 2) := by decide +kernel
theorem dX9_init_34 : decode cX9_init 34 = .ok (.putfield 21, 3) := by decide +kernel
theorem dX9_init_37 : decode cX9_init 37 = .ok (.aload_n 0, 1) := by decide +kernel
theorem dX9_init_38 : decode cX9_init 38 = .ok (.sipush 10500, 3) := by decide +kernel
theorem dX9_init_41 : decode cX9_init 41 = .ok (.newarray .int, 2) := by decide +kernel
theorem dX9_init_43 : decode cX9_init 43 = .ok (.putfield 24, 3) := by decide +kernel
theorem dX9_init_46 : decode cX9_init 46 = .ok (.aload_n 0, 1) := by decide +kernel
theorem dX9_init_47 : decode cX9_init 47 = .ok (.sipush 1024, 3) := by decide +kernel
theorem dX9_init_50 : decode cX9_init 50 = .ok (.newarray .int, 2) := by decide +kernel
theorem dX9_init_52 : decode cX9_init 52 = .ok (.putfield 27, 3) := by decide +kernel
theorem dX9_init_55 : decode cX9_init 55 = .ok (.aload_n 0, 1) := by decide +kernel
theorem dX9_init_56 : decode cX9_init 56 = .ok (.aload_n 1, 1) := by decide +kernel
theorem dX9_init_57 : decode cX9_init 57 = .ok (.putfield 30, 3) := by decide +kernel
theorem dX9_init_60 : decode cX9_init 60 = .ok (.aload_n 0, 1) := by decide +kernel
theorem dX9_init_61 : decode cX9_init 61 = .ok (.aload_n 2, 1) := by decide +kernel
theorem dX9_init_62 : decode cX9_init 62 = .ok (.putfield 34, 3) := by decide +kernel
theorem dX9_init_65 : decode cX9_init 65 = .ok (.return_, 1) := by decide +kernel
set_option maxHeartbeats 4000000 in
set_option maxRecDepth 100000 in
theorem kX9_init (l : Launch) (D : va_G) (dT : Nat → ClassId) (h0 h1 h2 sz : Nat) : Met l yX9_init wsX9_init ({ frames := 1, cells := 6, slots := 22063, locals := 12 }) (va_Pc [.ref h0, .ref h1, .ref h2] (fun U => U.heap.size = sz ∧ va_P D vwCl [(h0, .inr (8, [.null, .null, .null, .int 0, .null, .null, .null, .null, .null, .int 0]))] U.heap ∧ va_K D vwCl (rh_tys dT) U ∧ va_D (fun _ => True) [(h0, .inr (8, [.null, .null, .null, .int 0, .null, .null, .null, .null, .null, .int 0]))])) (va_Qv (fun _ : Unit => True) (fun _ t => ∃ q1 q2 q3 q4 q5 q6 : Nat, va_P D vwCl [(h0, .inr (8, [.ref h1, .ref h2, .ref q1, .int 0, .ref q2, .ref q3, .ref q4, .ref q5, .ref q6, .int 0])), (q1, .inl (dT 0, 9, .inl (fun _ => 0))), (q2, .inl (dT 0, 9, .inl (fun _ => 0))), (q3, .inl (dT 0, 10500, .inl (fun _ => 0))), (q4, .inl (dT 0, 21, .inl (fun _ => 0))), (q5, .inl (dT 0, 10500, .inl (fun _ => 0))), (q6, .inl (dT 0, 1024, .inl (fun _ => 0)))] t.heap ∧ va_D (va_A [(h0, .inr (8, [.null, .null, .null, .int 0, .null, .null, .null, .null, .null, .int 0]))] sz) [(h0, .inr (8, [.ref h1, .ref h2, .ref q1, .int 0, .ref q2, .ref q3, .ref q4, .ref q5, .ref q6, .int 0])), (q1, .inl (dT 0, 9, .inl (fun _ => 0))), (q2, .inl (dT 0, 9, .inl (fun _ => 0))), (q3, .inl (dT 0, 10500, .inl (fun _ => 0))), (q4, .inl (dT 0, 21, .inl (fun _ => 0))), (q5, .inl (dT 0, 10500, .inl (fun _ => 0))), (q6, .inl (dT 0, 1024, .inl (fun _ => 0)))]) (va_A [(h0, .inr (8, [.null, .null, .null, .int 0, .null, .null, .null, .null, .null, .int 0]))] sz)) 6 22063 (va_A [(h0, .inr (8, [.null, .null, .null, .int 0, .null, .null, .null, .null, .null, .int 0]))] sz) := by
  refine Met.ofW (cc := cX9_init) (maxL := 3) (ret := none) (by decide) rfl ?_
  intro p e s m args below meth c s₁ B hml hv
  obtain ⟨rfl, hsz, hP, hK, hD0⟩ := hv
  have hx := B.exec
  have hb := B.bytes
  have hr := B.returns
  have hts := atoms_spec (ws := wsX9_init) B.pre
  have hown : s.vm.findClass RX9 = some m.cls := findClass_of_methodNamed B.named
  have hin : meth.name = "<init>" := (name_of_methodNamed B.named B.method).1
  subst hsz
  have hD := hD0.self (sz := s.heap.size)
  generalize hAe : va_A [(h0, .inr (8, [.null, .null, .null, .int 0, .null, .null, .null, .null, .null, .int 0]))] s.heap.size = A at hD ⊢
  have hA : ∀ q : Nat, s.heap.size ≤ q → A q := fun q h => by rw [← hAe]; exact Or.inr h
  have hS : va_S A s.heap s.heap [] := va_S.rf
  have hP : va_P D vwCl [(h0, .inr (8, [.null, .null, .null, .int 0, .null, .null, .null, .null, .null, .int 0]))] s.heap := hP
  have hl := lv_entry ([.ref h0, .ref h1, .ref h2]) (n := 3) (Nat.le_of_ble_eq_true rfl)
  rw [lg_entry_eq]
  generalize (lg_sl ([.ref h0, .ref h1, .ref h2]) ++ List.replicate (3 - (lg_sl ([.ref h0, .ref h1, .ref h2])).length) Slot.unset).toArray = ls at hl ⊢
  have hl : lv_has ls 3 [(0, .ref h0), (1, .ref h1), (2, .ref h2)] := hl
  refine lv_aload_n hx hb dX9_init_0 rfl (lv_at hl 0 rfl) ?_
  refine W.objInit hx hb hown (hts (.methodLink RX9 3 objectInit) (by decide +kernel)) (hts (.instanceMethod objectInit) (by decide +kernel)) (hts _ (List.mem_cons_of_mem _ (List.mem_append_left _ (List.mem_of_getElem? (i := 2) rfl)))) rfl (by rw [hml]; exact hl.1) rfl dX9_init_1 (Nat.le_of_ble_eq_true rfl) (Nat.le_of_ble_eq_true rfl) ?_
  refine W.eq (g2 := F0 m 4 ls []) rfl ?_
  refine lv_aload_n hx hb dX9_init_4 rfl (lv_at hl 0 rfl) ?_
  refine lv_bipush hx hb dX9_init_5 (v := 9) (by decide) ?_
  refine va_newa (atype := .int) (ty := .int) (a0 := (9, .inl (fun _ => 0))) hx hb (hts (.arrayClass .int) (by decide +kernel)) rfl hK hP hD hS hA (fun _ => rfl) (by decide) rfl (Nat.le_of_ble_eq_true rfl) (Nat.le_of_ble_eq_true rfl) (Nat.le_of_ble_eq_true rfl) dX9_init_7 (fun q1 cA H hK1 hP hD hS => ?_)
  obtain rfl : cA = dT 0 := kt_0 hK1
  have hP : va_P D vwCl [(h0, .inr (8, [.null, .null, .null, .int 0, .null, .null, .null, .null, .null, .int 0])), (q1, .inl (dT 0, 9, .inl (fun _ => 0)))] H := hP
  have hD : va_D A [(h0, .inr (8, [.null, .null, .null, .int 0, .null, .null, .null, .null, .null, .int 0])), (q1, .inl (dT 0, 9, .inl (fun _ => 0)))] := hD
  clear hK1
  refine W.widen (k := 1) (n := 9) (Nat.le_of_ble_eq_true rfl) (Nat.le_of_ble_eq_true rfl) ?_
  refine va_putF (D := D) (ci := 8) (v := .ref q1) (ty := .array .int) (C := RX9) (T := TX9) (N := 10) hx hb hts (by decide +kernel) tyX9 tyX9_ok nmX9 hown hK hP hD hS 0 rfl rfl 2 (by decide) (hts (.fieldLink RX9 9 "LighterAtDusk$Stance" "standing" "[I") (by decide +kernel)) (fun _ h9 => h9) rfl hin rfl (by decide +kernel) rfl rfl (Nat.le_of_ble_eq_true rfl) dX9_init_9 (fun H locs hP hD hS => ?_)
  have hP : va_P D vwCl [(h0, .inr (8, [.null, .null, .ref q1, .int 0, .null, .null, .null, .null, .null, .int 0])), (q1, .inl (dT 0, 9, .inl (fun _ => 0)))] H := hP
  have hD : va_D A [(h0, .inr (8, [.null, .null, .ref q1, .int 0, .null, .null, .null, .null, .null, .int 0])), (q1, .inl (dT 0, 9, .inl (fun _ => 0)))] := hD
  refine lv_aload_n hx hb dX9_init_12 rfl (lv_at hl 0 rfl) ?_
  refine lv_bipush hx hb dX9_init_13 (v := 9) (by decide) ?_
  refine va_newa (atype := .int) (ty := .int) (a0 := (9, .inl (fun _ => 0))) hx hb (hts (.arrayClass .int) (by decide +kernel)) rfl hK hP hD hS hA (fun _ => rfl) (by decide) rfl (Nat.le_of_ble_eq_true rfl) (Nat.le_of_ble_eq_true rfl) (Nat.le_of_ble_eq_true rfl) dX9_init_15 (fun q2 cA H hK1 hP hD hS => ?_)
  obtain rfl : cA = dT 0 := kt_0 hK1
  have hP : va_P D vwCl [(h0, .inr (8, [.null, .null, .ref q1, .int 0, .null, .null, .null, .null, .null, .int 0])), (q1, .inl (dT 0, 9, .inl (fun _ => 0))), (q2, .inl (dT 0, 9, .inl (fun _ => 0)))] H := hP
  have hD : va_D A [(h0, .inr (8, [.null, .null, .ref q1, .int 0, .null, .null, .null, .null, .null, .int 0])), (q1, .inl (dT 0, 9, .inl (fun _ => 0))), (q2, .inl (dT 0, 9, .inl (fun _ => 0)))] := hD
  clear hK1
  refine W.widen (k := 2) (n := 18) (Nat.le_of_ble_eq_true rfl) (Nat.le_of_ble_eq_true rfl) ?_
  refine va_putF (D := D) (ci := 8) (v := .ref q2) (ty := .array .int) (C := RX9) (T := TX9) (N := 10) hx hb hts (by decide +kernel) tyX9 tyX9_ok nmX9 hown hK hP hD hS 0 rfl rfl 4 (by decide) (hts (.fieldLink RX9 15 "LighterAtDusk$Stance" "weights" "[I") (by decide +kernel)) (fun _ h9 => h9) rfl hin rfl (by decide +kernel) rfl rfl (Nat.le_of_ble_eq_true rfl) dX9_init_17 (fun H locs hP hD hS => ?_)
  have hP : va_P D vwCl [(h0, .inr (8, [.null, .null, .ref q1, .int 0, .ref q2, .null, .null, .null, .null, .int 0])), (q1, .inl (dT 0, 9, .inl (fun _ => 0))), (q2, .inl (dT 0, 9, .inl (fun _ => 0)))] H := hP
  have hD : va_D A [(h0, .inr (8, [.null, .null, .ref q1, .int 0, .ref q2, .null, .null, .null, .null, .int 0])), (q1, .inl (dT 0, 9, .inl (fun _ => 0))), (q2, .inl (dT 0, 9, .inl (fun _ => 0)))] := hD
  refine lv_aload_n hx hb dX9_init_20 rfl (lv_at hl 0 rfl) ?_
  refine lv_sipush hx hb dX9_init_21 (v := 10500) (by decide) ?_
  refine va_newa (atype := .int) (ty := .int) (a0 := (10500, .inl (fun _ => 0))) hx hb (hts (.arrayClass .int) (by decide +kernel)) rfl hK hP hD hS hA (fun _ => rfl) (by decide) rfl (Nat.le_of_ble_eq_true rfl) (Nat.le_of_ble_eq_true rfl) (Nat.le_of_ble_eq_true rfl) dX9_init_24 (fun q3 cA H hK1 hP hD hS => ?_)
  obtain rfl : cA = dT 0 := kt_0 hK1
  have hP : va_P D vwCl [(h0, .inr (8, [.null, .null, .ref q1, .int 0, .ref q2, .null, .null, .null, .null, .int 0])), (q1, .inl (dT 0, 9, .inl (fun _ => 0))), (q2, .inl (dT 0, 9, .inl (fun _ => 0))), (q3, .inl (dT 0, 10500, .inl (fun _ => 0)))] H := hP
  have hD : va_D A [(h0, .inr (8, [.null, .null, .ref q1, .int 0, .ref q2, .null, .null, .null, .null, .int 0])), (q1, .inl (dT 0, 9, .inl (fun _ => 0))), (q2, .inl (dT 0, 9, .inl (fun _ => 0))), (q3, .inl (dT 0, 10500, .inl (fun _ => 0)))] := hD
  clear hK1
  refine W.widen (k := 3) (n := 10518) (Nat.le_of_ble_eq_true rfl) (Nat.le_of_ble_eq_true rfl) ?_
  refine va_putF (D := D) (ci := 8) (v := .ref q3) (ty := .array .int) (C := RX9) (T := TX9) (N := 10) hx hb hts (by decide +kernel) tyX9 tyX9_ok nmX9 hown hK hP hD hS 0 rfl rfl 5 (by decide) (hts (.fieldLink RX9 18 "LighterAtDusk$Stance" "ways" "[I") (by decide +kernel)) (fun _ h9 => h9) rfl hin rfl (by decide +kernel) rfl rfl (Nat.le_of_ble_eq_true rfl) dX9_init_26 (fun H locs hP hD hS => ?_)
  have hP : va_P D vwCl [(h0, .inr (8, [.null, .null, .ref q1, .int 0, .ref q2, .ref q3, .null, .null, .null, .int 0])), (q1, .inl (dT 0, 9, .inl (fun _ => 0))), (q2, .inl (dT 0, 9, .inl (fun _ => 0))), (q3, .inl (dT 0, 10500, .inl (fun _ => 0)))] H := hP
  have hD : va_D A [(h0, .inr (8, [.null, .null, .ref q1, .int 0, .ref q2, .ref q3, .null, .null, .null, .int 0])), (q1, .inl (dT 0, 9, .inl (fun _ => 0))), (q2, .inl (dT 0, 9, .inl (fun _ => 0))), (q3, .inl (dT 0, 10500, .inl (fun _ => 0)))] := hD
  refine lv_aload_n hx hb dX9_init_29 rfl (lv_at hl 0 rfl) ?_
  refine lv_bipush hx hb dX9_init_30 (v := 21) (by decide) ?_
  refine va_newa (atype := .int) (ty := .int) (a0 := (21, .inl (fun _ => 0))) hx hb (hts (.arrayClass .int) (by decide +kernel)) rfl hK hP hD hS hA (fun _ => rfl) (by decide) rfl (Nat.le_of_ble_eq_true rfl) (Nat.le_of_ble_eq_true rfl) (Nat.le_of_ble_eq_true rfl) dX9_init_32 (fun q4 cA H hK1 hP hD hS => ?_)
  obtain rfl : cA = dT 0 := kt_0 hK1
  have hP : va_P D vwCl [(h0, .inr (8, [.null, .null, .ref q1, .int 0, .ref q2, .ref q3, .null, .null, .null, .int 0])), (q1, .inl (dT 0, 9, .inl (fun _ => 0))), (q2, .inl (dT 0, 9, .inl (fun _ => 0))), (q3, .inl (dT 0, 10500, .inl (fun _ => 0))), (q4, .inl (dT 0, 21, .inl (fun _ => 0)))] H := hP
  have hD : va_D A [(h0, .inr (8, [.null, .null, .ref q1, .int 0, .ref q2, .ref q3, .null, .null, .null, .int 0])), (q1, .inl (dT 0, 9, .inl (fun _ => 0))), (q2, .inl (dT 0, 9, .inl (fun _ => 0))), (q3, .inl (dT 0, 10500, .inl (fun _ => 0))), (q4, .inl (dT 0, 21, .inl (fun _ => 0)))] := hD
  clear hK1
  refine W.widen (k := 4) (n := 10539) (Nat.le_of_ble_eq_true rfl) (Nat.le_of_ble_eq_true rfl) ?_
  refine va_putF (D := D) (ci := 8) (v := .ref q4) (ty := .array .int) (C := RX9) (T := TX9) (N := 10) hx hb hts (by decide +kernel) tyX9 tyX9_ok nmX9 hown hK hP hD hS 0 rfl rfl 6 (by decide) (hts (.fieldLink RX9 21 "LighterAtDusk$Stance" "wayCounts" "[I") (by decide +kernel)) (fun _ h9 => h9) rfl hin rfl (by decide +kernel) rfl rfl (Nat.le_of_ble_eq_true rfl) dX9_init_34 (fun H locs hP hD hS => ?_)
  have hP : va_P D vwCl [(h0, .inr (8, [.null, .null, .ref q1, .int 0, .ref q2, .ref q3, .ref q4, .null, .null, .int 0])), (q1, .inl (dT 0, 9, .inl (fun _ => 0))), (q2, .inl (dT 0, 9, .inl (fun _ => 0))), (q3, .inl (dT 0, 10500, .inl (fun _ => 0))), (q4, .inl (dT 0, 21, .inl (fun _ => 0)))] H := hP
  have hD : va_D A [(h0, .inr (8, [.null, .null, .ref q1, .int 0, .ref q2, .ref q3, .ref q4, .null, .null, .int 0])), (q1, .inl (dT 0, 9, .inl (fun _ => 0))), (q2, .inl (dT 0, 9, .inl (fun _ => 0))), (q3, .inl (dT 0, 10500, .inl (fun _ => 0))), (q4, .inl (dT 0, 21, .inl (fun _ => 0)))] := hD
  refine lv_aload_n hx hb dX9_init_37 rfl (lv_at hl 0 rfl) ?_
  refine lv_sipush hx hb dX9_init_38 (v := 10500) (by decide) ?_
  refine va_newa (atype := .int) (ty := .int) (a0 := (10500, .inl (fun _ => 0))) hx hb (hts (.arrayClass .int) (by decide +kernel)) rfl hK hP hD hS hA (fun _ => rfl) (by decide) rfl (Nat.le_of_ble_eq_true rfl) (Nat.le_of_ble_eq_true rfl) (Nat.le_of_ble_eq_true rfl) dX9_init_41 (fun q5 cA H hK1 hP hD hS => ?_)
  obtain rfl : cA = dT 0 := kt_0 hK1
  have hP : va_P D vwCl [(h0, .inr (8, [.null, .null, .ref q1, .int 0, .ref q2, .ref q3, .ref q4, .null, .null, .int 0])), (q1, .inl (dT 0, 9, .inl (fun _ => 0))), (q2, .inl (dT 0, 9, .inl (fun _ => 0))), (q3, .inl (dT 0, 10500, .inl (fun _ => 0))), (q4, .inl (dT 0, 21, .inl (fun _ => 0))), (q5, .inl (dT 0, 10500, .inl (fun _ => 0)))] H := hP
  have hD : va_D A [(h0, .inr (8, [.null, .null, .ref q1, .int 0, .ref q2, .ref q3, .ref q4, .null, .null, .int 0])), (q1, .inl (dT 0, 9, .inl (fun _ => 0))), (q2, .inl (dT 0, 9, .inl (fun _ => 0))), (q3, .inl (dT 0, 10500, .inl (fun _ => 0))), (q4, .inl (dT 0, 21, .inl (fun _ => 0))), (q5, .inl (dT 0, 10500, .inl (fun _ => 0)))] := hD
  clear hK1
  refine W.widen (k := 5) (n := 21039) (Nat.le_of_ble_eq_true rfl) (Nat.le_of_ble_eq_true rfl) ?_
  refine va_putF (D := D) (ci := 8) (v := .ref q5) (ty := .array .int) (C := RX9) (T := TX9) (N := 10) hx hb hts (by decide +kernel) tyX9 tyX9_ok nmX9 hown hK hP hD hS 0 rfl rfl 7 (by decide) (hts (.fieldLink RX9 24 "LighterAtDusk$Stance" "best" "[I") (by decide +kernel)) (fun _ h9 => h9) rfl hin rfl (by decide +kernel) rfl rfl (Nat.le_of_ble_eq_true rfl) dX9_init_43 (fun H locs hP hD hS => ?_)
  have hP : va_P D vwCl [(h0, .inr (8, [.null, .null, .ref q1, .int 0, .ref q2, .ref q3, .ref q4, .ref q5, .null, .int 0])), (q1, .inl (dT 0, 9, .inl (fun _ => 0))), (q2, .inl (dT 0, 9, .inl (fun _ => 0))), (q3, .inl (dT 0, 10500, .inl (fun _ => 0))), (q4, .inl (dT 0, 21, .inl (fun _ => 0))), (q5, .inl (dT 0, 10500, .inl (fun _ => 0)))] H := hP
  have hD : va_D A [(h0, .inr (8, [.null, .null, .ref q1, .int 0, .ref q2, .ref q3, .ref q4, .ref q5, .null, .int 0])), (q1, .inl (dT 0, 9, .inl (fun _ => 0))), (q2, .inl (dT 0, 9, .inl (fun _ => 0))), (q3, .inl (dT 0, 10500, .inl (fun _ => 0))), (q4, .inl (dT 0, 21, .inl (fun _ => 0))), (q5, .inl (dT 0, 10500, .inl (fun _ => 0)))] := hD
  refine lv_aload_n hx hb dX9_init_46 rfl (lv_at hl 0 rfl) ?_
  refine lv_sipush hx hb dX9_init_47 (v := 1024) (by decide) ?_
  refine va_newa (atype := .int) (ty := .int) (a0 := (1024, .inl (fun _ => 0))) hx hb (hts (.arrayClass .int) (by decide +kernel)) rfl hK hP hD hS hA (fun _ => rfl) (by decide) rfl (Nat.le_of_ble_eq_true rfl) (Nat.le_of_ble_eq_true rfl) (Nat.le_of_ble_eq_true rfl) dX9_init_50 (fun q6 cA H hK1 hP hD hS => ?_)
  obtain rfl : cA = dT 0 := kt_0 hK1
  have hP : va_P D vwCl [(h0, .inr (8, [.null, .null, .ref q1, .int 0, .ref q2, .ref q3, .ref q4, .ref q5, .null, .int 0])), (q1, .inl (dT 0, 9, .inl (fun _ => 0))), (q2, .inl (dT 0, 9, .inl (fun _ => 0))), (q3, .inl (dT 0, 10500, .inl (fun _ => 0))), (q4, .inl (dT 0, 21, .inl (fun _ => 0))), (q5, .inl (dT 0, 10500, .inl (fun _ => 0))), (q6, .inl (dT 0, 1024, .inl (fun _ => 0)))] H := hP
  have hD : va_D A [(h0, .inr (8, [.null, .null, .ref q1, .int 0, .ref q2, .ref q3, .ref q4, .ref q5, .null, .int 0])), (q1, .inl (dT 0, 9, .inl (fun _ => 0))), (q2, .inl (dT 0, 9, .inl (fun _ => 0))), (q3, .inl (dT 0, 10500, .inl (fun _ => 0))), (q4, .inl (dT 0, 21, .inl (fun _ => 0))), (q5, .inl (dT 0, 10500, .inl (fun _ => 0))), (q6, .inl (dT 0, 1024, .inl (fun _ => 0)))] := hD
  clear hK1
  refine W.widen (k := 6) (n := 22063) (Nat.le_of_ble_eq_true rfl) (Nat.le_of_ble_eq_true rfl) ?_
  refine va_putF (D := D) (ci := 8) (v := .ref q6) (ty := .array .int) (C := RX9) (T := TX9) (N := 10) hx hb hts (by decide +kernel) tyX9 tyX9_ok nmX9 hown hK hP hD hS 0 rfl rfl 8 (by decide) (hts (.fieldLink RX9 27 "LighterAtDusk$Stance" "slots" "[I") (by decide +kernel)) (fun _ h9 => h9) rfl hin rfl (by decide +kernel) rfl rfl (Nat.le_of_ble_eq_true rfl) dX9_init_52 (fun H locs hP hD hS => ?_)
  have hP : va_P D vwCl [(h0, .inr (8, [.null, .null, .ref q1, .int 0, .ref q2, .ref q3, .ref q4, .ref q5, .ref q6, .int 0])), (q1, .inl (dT 0, 9, .inl (fun _ => 0))), (q2, .inl (dT 0, 9, .inl (fun _ => 0))), (q3, .inl (dT 0, 10500, .inl (fun _ => 0))), (q4, .inl (dT 0, 21, .inl (fun _ => 0))), (q5, .inl (dT 0, 10500, .inl (fun _ => 0))), (q6, .inl (dT 0, 1024, .inl (fun _ => 0)))] H := hP
  have hD : va_D A [(h0, .inr (8, [.null, .null, .ref q1, .int 0, .ref q2, .ref q3, .ref q4, .ref q5, .ref q6, .int 0])), (q1, .inl (dT 0, 9, .inl (fun _ => 0))), (q2, .inl (dT 0, 9, .inl (fun _ => 0))), (q3, .inl (dT 0, 10500, .inl (fun _ => 0))), (q4, .inl (dT 0, 21, .inl (fun _ => 0))), (q5, .inl (dT 0, 10500, .inl (fun _ => 0))), (q6, .inl (dT 0, 1024, .inl (fun _ => 0)))] := hD
  refine lv_aload_n hx hb dX9_init_55 rfl (lv_at hl 0 rfl) ?_
  refine lv_aload_n hx hb dX9_init_56 rfl (lv_at hl 1 rfl) ?_
  refine va_putF (D := D) (ci := 8) (v := .ref h1) (ty := .object "LighterAtDusk$Crowd") (C := RX9) (T := TX9) (N := 10) hx hb hts (by decide +kernel) tyX9 tyX9_ok nmX9 hown hK hP hD hS 0 rfl rfl 0 (by decide) (hts (.fieldLink RX9 30 "LighterAtDusk$Stance" "crowd" "LLighterAtDusk$Crowd;") (by decide +kernel)) (fun _ h9 => h9) rfl hin rfl (by decide +kernel) rfl rfl (Nat.le_of_ble_eq_true rfl) dX9_init_57 (fun H locs hP hD hS => ?_)
  have hP : va_P D vwCl [(h0, .inr (8, [.ref h1, .null, .ref q1, .int 0, .ref q2, .ref q3, .ref q4, .ref q5, .ref q6, .int 0])), (q1, .inl (dT 0, 9, .inl (fun _ => 0))), (q2, .inl (dT 0, 9, .inl (fun _ => 0))), (q3, .inl (dT 0, 10500, .inl (fun _ => 0))), (q4, .inl (dT 0, 21, .inl (fun _ => 0))), (q5, .inl (dT 0, 10500, .inl (fun _ => 0))), (q6, .inl (dT 0, 1024, .inl (fun _ => 0)))] H := hP
  have hD : va_D A [(h0, .inr (8, [.ref h1, .null, .ref q1, .int 0, .ref q2, .ref q3, .ref q4, .ref q5, .ref q6, .int 0])), (q1, .inl (dT 0, 9, .inl (fun _ => 0))), (q2, .inl (dT 0, 9, .inl (fun _ => 0))), (q3, .inl (dT 0, 10500, .inl (fun _ => 0))), (q4, .inl (dT 0, 21, .inl (fun _ => 0))), (q5, .inl (dT 0, 10500, .inl (fun _ => 0))), (q6, .inl (dT 0, 1024, .inl (fun _ => 0)))] := hD
  refine lv_aload_n hx hb dX9_init_60 rfl (lv_at hl 0 rfl) ?_
  refine lv_aload_n hx hb dX9_init_61 rfl (lv_at hl 2 rfl) ?_
  refine va_putF (D := D) (ci := 8) (v := .ref h2) (ty := .object "LighterAtDusk$Deck") (C := RX9) (T := TX9) (N := 10) hx hb hts (by decide +kernel) tyX9 tyX9_ok nmX9 hown hK hP hD hS 0 rfl rfl 1 (by decide) (hts (.fieldLink RX9 34 "LighterAtDusk$Stance" "deck" "LLighterAtDusk$Deck;") (by decide +kernel)) (fun _ h9 => h9) rfl hin rfl (by decide +kernel) rfl rfl (Nat.le_of_ble_eq_true rfl) dX9_init_62 (fun H locs hP hD hS => ?_)
  have hP : va_P D vwCl [(h0, .inr (8, [.ref h1, .ref h2, .ref q1, .int 0, .ref q2, .ref q3, .ref q4, .ref q5, .ref q6, .int 0])), (q1, .inl (dT 0, 9, .inl (fun _ => 0))), (q2, .inl (dT 0, 9, .inl (fun _ => 0))), (q3, .inl (dT 0, 10500, .inl (fun _ => 0))), (q4, .inl (dT 0, 21, .inl (fun _ => 0))), (q5, .inl (dT 0, 10500, .inl (fun _ => 0))), (q6, .inl (dT 0, 1024, .inl (fun _ => 0)))] H := hP
  have hD : va_D A [(h0, .inr (8, [.ref h1, .ref h2, .ref q1, .int 0, .ref q2, .ref q3, .ref q4, .ref q5, .ref q6, .int 0])), (q1, .inl (dT 0, 9, .inl (fun _ => 0))), (q2, .inl (dT 0, 9, .inl (fun _ => 0))), (q3, .inl (dT 0, 10500, .inl (fun _ => 0))), (q4, .inl (dT 0, 21, .inl (fun _ => 0))), (q5, .inl (dT 0, 10500, .inl (fun _ => 0))), (q6, .inl (dT 0, 1024, .inl (fun _ => 0)))] := hD
  exact W.vret hx hb hr (fun t ht hW => ⟨⟨(), rfl, trivial, q1, q2, q3, q4, q5, q6, by rw [ht]; exact hP, hD⟩, hS.F ht⟩) hS.2.2 dX9_init_65
