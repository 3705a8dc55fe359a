/-! calls: what each kind asks of the tables -/
theorem rh_gi {ws : List Cond} (h : ∀ w ∈ ws, w ∈ rh_all) : GoodIn rh_all ws := fun w hw => ⟨h w hw, good_of_word (List.mem_filter.mp (h w hw)).2⟩
theorem rh_cn {a b : Cond} {l : List Cond} (ha : a ∈ rh_all) (hl : ∀ w ∈ l, w ∈ rh_all) : ∀ w ∈ a :: l, w ∈ rh_all := fun w hw => by
  rcases List.mem_cons.mp hw with h | h
  · rw [h]; exact ha
  · exact hl w h
def rh_yok (y : MethodName) (n : Nat) : Prop := y.cls ≠ "java/lang/invoke/MethodHandle" ∧ y.cls ≠ "java/lang/invoke/VarHandle" ∧ (parseMethodDescriptor y.desc).map (fun d => d.parameters.length) = some n
section CL
variable {own : String} {cc : ByteArray} {nL pc idx n maxL : Nat} {y : MethodName} {bytes : ByteArray} {ret : Option FieldType}
theorem rc_V {ci N : Nat} {C : String} {T : u_T} (hq : vwCl[ci]? = some (C, T, N)) (hC : y.cls = C) (h1 : Cond.methodLink own idx y ∈ rh_all) (h2 : Cond.instanceMethod y ∈ rh_all) (h3 : Cond.selects C y y ∈ rh_all) (h4 : Cond.initialized C ∈ rh_all) (h5 : Cond.code y bytes maxL ret ∈ rh_all) (hy : rh_yok y n) (hm : maxL ≤ 21) (hdg : decode cc pc = .ok (.invokevirtual idx, 3)) : rh_Call own cc nL pc y bytes maxL ret (n + 1) (some ci) := by
  refine ⟨hm, ?_⟩
  intro p l e R s m args below meth c D dT A adr hCx Pc Qc free rm hM hrc hrs hfr hlo hbl H locs cells slots ls As rest hce hsl hls hAs hrcv hW hPc
  obtain ⟨hx, hb, hml, hown, hts, -⟩ := hCx
  obtain ⟨b, As', q, rfl, hq', cell, g1, g2, g3⟩ := hrcv ci rfl
  cases hq.symm.trans hq'
  have hT : GoodIn rh_all (wsV own idx C y (Cond.code y bytes maxL ret :: rh_all)) := rh_gi (fun w hw => by
    simp only [wsV, List.cons_append, List.nil_append, List.mem_cons] at hw
    rcases hw with rfl | rfl | rfl | rfl | rfl | h
    · exact h1
    · exact h2
    · exact h3
    · exact h4
    · exact h5
    · exact h)
  have hh : (As'.reverse ++ [Value.ref b]) ++ rest = As'.reverse ++ Value.ref b :: rest := by simp
  exact va_runV (Ts := rh_all) ⟨hx, hb, hml, hown, hts⟩ hM (cwV n hts hT rfl hrc hrs ⟨hC, hy⟩ ⟨hfr, hlo⟩) ⟨hbl, ⟨cell, g1, g2, g3⟩, hPc⟩ rfl (by simpa using hAs) hls (by simp) (lv_room hW) hdg ⟨hce, hsl⟩
theorem rc_S (h1 : Cond.methodLink own idx y ∈ rh_all) (h2 : Cond.static y ∈ rh_all) (h3 : Cond.initialized y.cls ∈ rh_all) (h5 : Cond.code y bytes maxL ret ∈ rh_all) (hy : rh_yok y n) (hm : maxL ≤ 21) (hdg : decode cc pc = .ok (.invokestatic idx, 3)) : rh_Call own cc nL pc y bytes maxL ret n none := by
  refine ⟨hm, ?_⟩
  intro p l e R s m args below meth c D dT A adr hCx Pc Qc free rm hM hrc hrs hfr hlo hbl H locs cells slots ls As rest hce hsl hls hAs hrcv hW hPc
  obtain ⟨hx, hb, hml, hown, hts, -⟩ := hCx
  have hT : GoodIn rh_all (va_wsS own idx y (Cond.code y bytes maxL ret :: rh_all)) := rh_gi (fun w hw => by
    simp only [va_wsS, List.cons_append, List.nil_append, List.mem_cons] at hw
    rcases hw with rfl | rfl | rfl | rfl | h
    · exact h1
    · exact h2
    · exact h3
    · exact h5
    · exact h)
  exact va_runS (Ts := rh_all) ⟨hx, hb, hml, hown, hts⟩ hM (va_cwS n hts hT rfl hrc hrs hy ⟨hfr, hlo⟩) ⟨hbl, hPc⟩ rfl hAs hls rfl (lv_room hW) hdg ⟨hce, hsl⟩
/-- inherited (y is what the reference finds) -/
theorem rc_U {ci N : Nat} {C owner : String} {T : u_T} {x : MethodName} (hq : vwCl[ci]? = some (C, T, N)) (hyx : y = ⟨owner, x.name, x.desc⟩) (h1 : Cond.methodLink own idx x ∈ rh_all) (h2 : Cond.sameMethod x.cls owner x.name x.desc ∈ rh_all) (h3 : Cond.selects C x y ∈ rh_all) (h4 : Cond.instanceMethod y ∈ rh_all) (h6 : Cond.initialized y.cls ∈ rh_all) (h5 : Cond.code y bytes maxL ret ∈ rh_all) (hy : rh_yok ⟨owner, x.name, x.desc⟩ n) (hm : maxL ≤ 21) (hdg : decode cc pc = .ok (.invokevirtual idx, 3)) : rh_Call own cc nL pc y bytes maxL ret (n + 1) (some ci) := by
  refine ⟨hm, ?_⟩
  intro p l e R s m args below meth c D dT A adr hCx Pc Qc free rm hM hrc hrs hfr hlo hbl H locs cells slots ls As rest hce hsl hls hAs hrcv hW hPc
  obtain ⟨hx, hb, hml, hown, hts, -⟩ := hCx
  obtain ⟨b, As', q, rfl, hq', cell, g1, g2, g3⟩ := hrcv ci rfl
  cases hq.symm.trans hq'
  have hT : GoodIn rh_all (va_wsU own idx C owner x y (Cond.code y bytes maxL ret :: rh_all)) := rh_gi (fun w hw => by
    simp only [va_wsU, List.cons_append, List.nil_append, List.mem_cons] at hw
    rcases hw with rfl | rfl | rfl | rfl | rfl | rfl | h
    · exact h1
    · exact h2
    · exact h3
    · exact h4
    · exact h6
    · exact h5
    · exact h)
  exact va_runU (Ts := rh_all) ⟨hx, hb, hml, hown, hts⟩ hM (va_cwU n hts hT rfl hrc hrs hyx hy ⟨hfr, hlo⟩) ⟨hbl, ⟨cell, g1, g2, g3⟩, hPc⟩ rfl (by simpa using hAs) hls (by simp) (lv_room hW) hdg ⟨hce, hsl⟩
/-- overriding a method with code -/
theorem rc_O {ci N m0 : Nat} {C owner : String} {T : u_T} {x : MethodName} {b0 : ByteArray} {r0 : Option FieldType} (hq : vwCl[ci]? = some (C, T, N)) (h0 : Cond.code ⟨owner, x.name, x.desc⟩ b0 m0 r0 ∈ rh_all) (h7 : Cond.instanceMethod ⟨owner, x.name, x.desc⟩ ∈ rh_all) (h1 : Cond.methodLink own idx x ∈ rh_all) (h2 : Cond.sameMethod x.cls owner x.name x.desc ∈ rh_all) (h3 : Cond.selects C x y ∈ rh_all) (h4 : Cond.instanceMethod y ∈ rh_all) (h6 : Cond.initialized y.cls ∈ rh_all) (h5 : Cond.code y bytes maxL ret ∈ rh_all) (hy : rh_yok ⟨owner, x.name, x.desc⟩ n) (hm : maxL ≤ 21) (hdg : decode cc pc = .ok (.invokevirtual idx, 3)) : rh_Call own cc nL pc y bytes maxL ret (n + 1) (some ci) := by
  refine ⟨hm, ?_⟩
  intro p l e R s m args below meth c D dT A adr hCx Pc Qc free rm hM hrc hrs hfr hlo hbl H locs cells slots ls As rest hce hsl hls hAs hrcv hW hPc
  obtain ⟨hx, hb, hml, hown, hts, -⟩ := hCx
  obtain ⟨b, As', q, rfl, hq', cell, g1, g2, g3⟩ := hrcv ci rfl
  cases hq.symm.trans hq'
  have hT : GoodIn rh_all (va_wsO own idx C owner x y (Cond.code y bytes maxL ret :: rh_all)) := rh_gi (fun w hw => by
    simp only [va_wsO, List.cons_append, List.nil_append, List.mem_cons] at hw
    rcases hw with rfl | rfl | rfl | rfl | rfl | rfl | rfl | h
    · exact h1
    · exact h2
    · exact h7
    · exact h3
    · exact h4
    · exact h6
    · exact h5
    · exact h)
  exact va_runU (Ts := rh_all) ⟨hx, hb, hml, hown, hts⟩ hM (va_cwO n hts hT rfl hrc hrs h0 hy ⟨hfr, hlo⟩) ⟨hbl, ⟨cell, g1, g2, g3⟩, hPc⟩ rfl (by simpa using hAs) hls (by simp) (lv_room hW) hdg ⟨hce, hsl⟩
/-- of an abstract method -/
theorem rc_A {ci N : Nat} {C owner : String} {T : u_T} {x : MethodName} (hq : vwCl[ci]? = some (C, T, N)) (hz : Cond.declares ⟨owner, x.name, x.desc⟩ ∈ rh_dec) (h1 : Cond.methodLink own idx x ∈ rh_all) (h2 : Cond.sameMethod x.cls owner x.name x.desc ∈ rh_all) (h3 : Cond.selects C x y ∈ rh_all) (h4 : Cond.instanceMethod y ∈ rh_all) (h6 : Cond.initialized y.cls ∈ rh_all) (h5 : Cond.code y bytes maxL ret ∈ rh_all) (hy : rh_yok ⟨owner, x.name, x.desc⟩ n) (hm : maxL ≤ 21) (hdg : decode cc pc = .ok (.invokevirtual idx, 3)) : rh_Call own cc nL pc y bytes maxL ret (n + 1) (some ci) := by
  refine ⟨hm, ?_⟩
  intro p l e R s m args below meth c D dT A adr hCx Pc Qc free rm hM hrc hrs hfr hlo hbl H locs cells slots ls As rest hce hsl hls hAs hrcv hW hPc
  obtain ⟨hx, hb, hml, hown, hts, -, hZ, -⟩ := hCx
  obtain ⟨b, As', q, rfl, hq', cell, g1, g2, g3⟩ := hrcv ci rfl
  cases hq.symm.trans hq'
  have hT : GoodIn rh_all (va_wsU own idx C owner x y (Cond.code y bytes maxL ret :: rh_all)) := rh_gi (fun w hw => by
    simp only [va_wsU, List.cons_append, List.nil_append, List.mem_cons] at hw
    rcases hw with rfl | rfl | rfl | rfl | rfl | rfl | h
    · exact h1
    · exact h2
    · exact h3
    · exact h4
    · exact h6
    · exact h5
    · exact h)
  exact va_runU (Ts := rh_all) ⟨hx, hb, hml, hown, hts⟩ hM (va_cwA n hts hT rfl hrc hrs (hZ.2.2.2 _ hz) hy ⟨hfr, hlo⟩) ⟨hbl, ⟨cell, g1, g2, g3⟩, hPc⟩ rfl (by simpa using hAs) hls (by simp) (lv_room hW) hdg ⟨hce, hsl⟩
end CL
