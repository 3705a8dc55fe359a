/-! what the start gives -/
theorem ls_D {args : Array Value} {s : State} (h : ∀ w ∈ rh_all, w.before args s = true) : ∃ D : va_G, ∀ (k : Nat) (q : vw_C), vwCl[k]? = some q → u_Kn s q.1 q.2.1 q.2.2 (D.1 k) (D.2 k) := by
  have key : ∀ k : Nat, ∃ z : ClassId × (Nat → Nat), ∀ q : vw_C, vwCl[k]? = some q → u_Kn s q.1 q.2.1 q.2.2 z.1 z.2 := by
    intro k
    match k with
    | 0 =>
      obtain ⟨a, b, hh⟩ := u_known (C := RX0) (T := TX0) (N := 5) (n := 5) h cl_0.2.1 (h _ (rh_in (rh_t1 (List.mem_of_getElem? (i := 47) rfl)) rfl))
      exact ⟨(a, b), fun q hq => by cases hq; exact hh⟩
    | 1 =>
      obtain ⟨a, b, hh⟩ := u_known (C := RX1) (T := TX1) (N := 7) (n := 7) h cl_1.2.1 (h _ (rh_in (rh_t1 (List.mem_of_getElem? (i := 192) rfl)) rfl))
      exact ⟨(a, b), fun q hq => by cases hq; exact hh⟩
    | 2 =>
      obtain ⟨a, b, hh⟩ := u_known (C := RX2) (T := TX2) (N := 9) (n := 9) h cl_2.2.1 (h _ (rh_in (rh_t1 (List.mem_of_getElem? (i := 123) rfl)) rfl))
      exact ⟨(a, b), fun q hq => by cases hq; exact hh⟩
    | 3 =>
      obtain ⟨a, b, hh⟩ := u_known (C := RX3) (T := TX3) (N := 6) (n := 6) h cl_3.2.1 (h _ (rh_in (rh_t1 (List.mem_of_getElem? (i := 164) rfl)) rfl))
      exact ⟨(a, b), fun q hq => by cases hq; exact hh⟩
    | 4 =>
      obtain ⟨a, b, hh⟩ := u_known (C := RX4) (T := TX4) (N := 11) (n := 11) h cl_4.2.1 (h _ (rh_in (rh_t1 (List.mem_of_getElem? (i := 53) rfl)) rfl))
      exact ⟨(a, b), fun q hq => by cases hq; exact hh⟩
    | 5 =>
      obtain ⟨a, b, hh⟩ := u_known (C := RX6) (T := TX6) (N := 5) (n := 5) h cl_5.2.1 (h _ (rh_in (rh_t2 (List.mem_of_getElem? (i := 17) rfl)) rfl))
      exact ⟨(a, b), fun q hq => by cases hq; exact hh⟩
    | 6 =>
      obtain ⟨a, b, hh⟩ := u_known (C := RX7) (T := TX7) (N := 2) (n := 2) h cl_6.2.1 (h _ (rh_in (rh_t1 (List.mem_of_getElem? (i := 31) rfl)) rfl))
      exact ⟨(a, b), fun q hq => by cases hq; exact hh⟩
    | 7 =>
      obtain ⟨a, b, hh⟩ := u_known (C := RX8) (T := TX8) (N := 8) (n := 8) h cl_7.2.1 (h _ (rh_in (rh_t2 (List.mem_of_getElem? (i := 39) rfl)) rfl))
      exact ⟨(a, b), fun q hq => by cases hq; exact hh⟩
    | 8 =>
      obtain ⟨a, b, hh⟩ := u_known (C := RX9) (T := TX9) (N := 10) (n := 10) h cl_8.2.1 (h _ (rh_in (rh_t4 (List.mem_of_getElem? (i := 173) rfl)) rfl))
      exact ⟨(a, b), fun q hq => by cases hq; exact hh⟩
    | 9 =>
      obtain ⟨a, b, hh⟩ := u_known (C := RX10) (T := TX10) (N := 7) (n := 7) h cl_9.2.1 (h _ (rh_in (rh_t1 (List.mem_of_getElem? (i := 224) rfl)) rfl))
      exact ⟨(a, b), fun q hq => by cases hq; exact hh⟩
    | 10 =>
      obtain ⟨a, b, hh⟩ := u_known (C := RX11) (T := TX11) (N := 13) (n := 13) h cl_10.2.1 (h _ (rh_in (rh_t1 (List.mem_of_getElem? (i := 23) rfl)) rfl))
      exact ⟨(a, b), fun q hq => by cases hq; exact hh⟩
    | 11 =>
      obtain ⟨a, b, hh⟩ := u_known (C := RX12) (T := TX12) (N := 53) (n := 53) h cl_11.2.1 (h _ (rh_in (rh_t6 (List.mem_of_getElem? (i := 47) rfl)) rfl))
      exact ⟨(a, b), fun q hq => by cases hq; exact hh⟩
    | k + 12 => exact ⟨(0, fun _ => 0), fun q hq => by simp [vwCl] at hq⟩
  obtain ⟨f, hf⟩ := Classical.axiomOfChoice key
  exact ⟨(fun k => (f k).1, fun k => (f k).2), fun k q hq => hf k q hq⟩
theorem ls_T {args : Array Value} {s : State} (h : ∀ w ∈ rh_all, w.before args s = true) : ∃ dT : Nat → ClassId, ∀ (k : Nat) (q : ClassId × FieldType), (rh_tys dT)[k]? = some q → ArrOfT s q.1 q.2 ∧ va_RA s q.1 q.2 := by
  obtain ⟨c0, k0, m0, g0, h0, i0⟩ := Cond.arrayClass_spec (h _ (rh_in (rh_t1 (List.mem_of_getElem? (i := 45) rfl)) rfl))
  obtain ⟨c1, k1, m1, g1, h1, i1⟩ := Cond.arrayClass_spec (h _ (rh_in (rh_t2 (List.mem_of_getElem? (i := 15) rfl)) rfl))
  obtain ⟨c2, k2, m2, g2, h2, i2⟩ := Cond.arrayClass_spec (h _ (rh_in (rh_t6 (List.mem_of_getElem? (i := 213) rfl)) rfl))
  obtain ⟨c3, k3, m3, g3, h3, i3⟩ := Cond.arrayClass_spec (h _ (rh_in (rh_t1 (List.mem_of_getElem? (i := 95) rfl)) rfl))
  refine ⟨fun i => match i with | 0 => c0 | 1 => c1 | 2 => c2 | _ => c3, fun k q hq => ?_⟩
  match k, hq with
  | 0, hq => cases hq; exact ⟨fun n z => ⟨fun k h => (by cases h), k0, h0, m0, i0⟩, g0⟩
  | 1, hq => cases hq; exact ⟨fun n z => ⟨fun k h => (by cases h), k1, h1, m1, i1⟩, g1⟩
  | 2, hq => cases hq; exact ⟨fun n z => ⟨fun k h => (by cases h), k2, h2, m2, i2⟩, g2⟩
  | 3, hq => cases hq; exact ⟨fun n z => ⟨fun k h => (by cases h), k3, h3, m3, i3⟩, g3⟩
  | k + 4, hq => simp [rh_tys] at hq
theorem ls_Z {b : Nat} {s : State} (h : ∀ w ∈ lw_tbl, w.before #[Value.ref b] s = true) (hg : (Jvm.Cond.and given_1 narrow_1).before #[Value.ref b] s = true) : ∃ z0 z1 : Nat, rh_Z (az z0 z1) (lk_A s) s s.heap := by
  have hnA : ∀ a : Nat, a < s.heap.size → ¬ lk_A s a := fun a h => Nat.not_le.mpr h
  have hs := flat_of_before _ hg
  obtain ⟨z0, e0, t0⟩ := va_Tof (tm := .static RX10 "GROUPS_WITH" "[J") (ty := .long) (N := 6) (f := fun i => .long (rh_GW i)) (by decide) (hs (Cond.arrayOf (.static RX10 "GROUPS_WITH" "[J") .long) (by decide +kernel)) (va_eqt (hs (Cond.eq (.length (.static RX10 "GROUPS_WITH" "[J")) (.int 6)) (by decide +kernel))) (fun j hj => by
    rcases (show j = 0 ∨ j = 1 ∨ j = 2 ∨ j = 3 ∨ j = 4 ∨ j = 5 by omega) with rfl | rfl | rfl | rfl | rfl | rfl
    · exact va_eqtl (hs (Cond.eq (.elem (.static RX10 "GROUPS_WITH" "[J") (.int 0)) (.long (-6148914691236517206))) (by decide +kernel))
    · exact va_eqtl (hs (Cond.eq (.elem (.static RX10 "GROUPS_WITH" "[J") (.int 1)) (.long (-3689348814741910324))) (by decide +kernel))
    · exact va_eqtl (hs (Cond.eq (.elem (.static RX10 "GROUPS_WITH" "[J") (.int 2)) (.long (-1085102592571150096))) (by decide +kernel))
    · exact va_eqtl (hs (Cond.eq (.elem (.static RX10 "GROUPS_WITH" "[J") (.int 3)) (.long (-71777214294589696))) (by decide +kernel))
    · exact va_eqtl (hs (Cond.eq (.elem (.static RX10 "GROUPS_WITH" "[J") (.int 4)) (.long (-281470681808896))) (by decide +kernel))
    · exact va_eqtl (hs (Cond.eq (.elem (.static RX10 "GROUPS_WITH" "[J") (.int 5)) (.long (-4294967296))) (by decide +kernel))) hnA
  obtain ⟨z1, e1, t1⟩ := va_Tof (tm := .static RX9 "UNITS" "[I") (ty := .int) (N := 9) (f := fun i => .int (rh_UN i)) (by decide) (hs (Cond.arrayOf (.static RX9 "UNITS" "[I") .int) (by decide +kernel)) (va_eqt (hs (Cond.eq (.length (.static RX9 "UNITS" "[I")) (.int 9)) (by decide +kernel))) (fun j hj => by
    rcases (show j = 0 ∨ j = 1 ∨ j = 2 ∨ j = 3 ∨ j = 4 ∨ j = 5 ∨ j = 6 ∨ j = 7 ∨ j = 8 by omega) with rfl | rfl | rfl | rfl | rfl | rfl | rfl | rfl | rfl
    · exact va_eqt (hs (Cond.eq (.elem (.static RX9 "UNITS" "[I") (.int 0)) (.int 1)) (by decide +kernel))
    · exact va_eqt (hs (Cond.eq (.elem (.static RX9 "UNITS" "[I") (.int 1)) (.int 9)) (by decide +kernel))
    · exact va_eqt (hs (Cond.eq (.elem (.static RX9 "UNITS" "[I") (.int 2)) (.int 81)) (by decide +kernel))
    · exact va_eqt (hs (Cond.eq (.elem (.static RX9 "UNITS" "[I") (.int 3)) (.int 729)) (by decide +kernel))
    · exact va_eqt (hs (Cond.eq (.elem (.static RX9 "UNITS" "[I") (.int 4)) (.int 6561)) (by decide +kernel))
    · exact va_eqt (hs (Cond.eq (.elem (.static RX9 "UNITS" "[I") (.int 5)) (.int 59049)) (by decide +kernel))
    · exact va_eqt (hs (Cond.eq (.elem (.static RX9 "UNITS" "[I") (.int 6)) (.int 531441)) (by decide +kernel))
    · exact va_eqt (hs (Cond.eq (.elem (.static RX9 "UNITS" "[I") (.int 7)) (.int 4782969)) (by decide +kernel))
    · exact va_eqt (hs (Cond.eq (.elem (.static RX9 "UNITS" "[I") (.int 8)) (.int 43046721)) (by decide +kernel))) hnA
  refine ⟨z0, z1, ⟨va_Zof (h _ (rh_t4 (List.mem_of_getElem? (i := 68) rfl))) (h _ (rh_t1 (List.mem_of_getElem? (i := 9) rfl))) e0 hnA, t0⟩, va_Zof (h _ (rh_t4 (List.mem_of_getElem? (i := 219) rfl))) (h _ (rh_t1 (List.mem_of_getElem? (i := 21) rfl))) e1 hnA, t1, ?_⟩
  intro w hw
  simp only [rh_dec, List.mem_cons, List.not_mem_nil, or_false] at hw
  rcases hw with rfl | rfl | rfl
  · exact va_Nw.of rfl (h _ (rh_t2 (List.mem_of_getElem? (i := 133) rfl)))
  · exact va_Nw.of rfl (h _ (rh_t2 (List.mem_of_getElem? (i := 148) rfl)))
  · exact va_Nw.of rfl (h _ (rh_t2 (List.mem_of_getElem? (i := 239) rfl)))
theorem ls_N {b : Nat} {s : State} (h : ∀ w ∈ lw_tbl, w.before #[Value.ref b] s = true) : ∀ w ∈ kn_ws, va_Nw w s := by
  intro w hw
  simp only [kn_ws, List.mem_cons, List.not_mem_nil, or_false] at hw
  rcases hw with rfl | rfl | rfl | rfl | rfl | rfl | rfl | rfl | rfl
  · exact va_Nw.of rfl (h _ (rh_t1 (List.mem_of_getElem? (i := 32) rfl)))
  · exact va_Nw.of rfl (h _ (rh_t1 (List.mem_of_getElem? (i := 48) rfl)))
  · exact va_Nw.of rfl (h _ (rh_t1 (List.mem_of_getElem? (i := 54) rfl)))
  · exact va_Nw.of rfl (h _ (rh_t1 (List.mem_of_getElem? (i := 57) rfl)))
  · exact va_Nw.of rfl (h _ (rh_t1 (List.mem_of_getElem? (i := 165) rfl)))
  · exact va_Nw.of rfl (h _ (rh_t1 (List.mem_of_getElem? (i := 168) rfl)))
  · exact va_Nw.of rfl (h _ (rh_t1 (List.mem_of_getElem? (i := 193) rfl)))
  · exact va_Nw.of rfl (h _ (rh_t1 (List.mem_of_getElem? (i := 196) rfl)))
  · exact va_Nw.of rfl (h _ (rh_t1 (List.mem_of_getElem? (i := 225) rfl)))
theorem ls_X {b : Nat} {s : State} (h : ∀ w ∈ lw_tbl, w.before #[Value.ref b] s = true) (hg : (Jvm.Cond.and given_1 narrow_1).before #[Value.ref b] s = true) : xk (lk_A s) s s.heap := by
  have hnA : ∀ a : Nat, a < s.heap.size → ¬ lk_A s a := fun a h => Nat.not_le.mpr h
  have hs := flat_of_before _ hg
  refine ⟨vx_Zqof (h _ (rh_t5 (List.mem_of_getElem? (i := 206) rfl))) (h _ (rh_t1 (List.mem_of_getElem? (i := 15) rfl))) (hs (Cond.isRef (.static "java/lang/Throwable" "UNASSIGNED_STACK" "[Ljava/lang/StackTraceElement;")) (by decide +kernel)) hnA, vx_Zqof (h _ (rh_t5 (List.mem_of_getElem? (i := 208) rfl))) (h _ (rh_t1 (List.mem_of_getElem? (i := 15) rfl))) (hs (Cond.isRef (.static "java/lang/Throwable" "SUPPRESSED_SENTINEL" "Ljava/util/List;")) (by decide +kernel)) hnA, ?_⟩
  intro w hw
  simp only [xn_ws, List.mem_cons, List.not_mem_nil, or_false] at hw
  rcases hw with rfl | rfl | rfl | rfl
  · exact va_Nw.of rfl (h _ (rh_t5 (List.mem_of_getElem? (i := 181) rfl)))
  · exact va_Nw.of rfl (h _ (rh_t5 (List.mem_of_getElem? (i := 182) rfl)))
  · exact va_Nw.of rfl (h _ (rh_t5 (List.mem_of_getElem? (i := 184) rfl)))
  · exact va_Nw.of rfl (h _ (rh_t5 (List.mem_of_getElem? (i := 186) rfl)))
