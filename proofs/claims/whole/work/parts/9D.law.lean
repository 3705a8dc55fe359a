/-! the law: its world, and the shapes of its cases -/
def lk_A (s : State) : Nat → Prop := fun q => s.heap.size ≤ q
def az (z0 z1 : Nat) : Nat → Nat := fun k => if k = 1000 then z0 else z1
def lk_K (p : Program) (l : Launch) (s : State) (m : MethodId) (c : Code) (b L : Nat) (xs : Nat → Int32) (D : va_G) (dT : Nat → ClassId) (z0 z1 : Nat) : Prop :=
  p.tables.exec = Jvm.exec ∧ c.code = code ∧ c.maxLocals = 7 ∧ s.vm.findClass RL = some m.cls ∧ (∀ w ∈ rh_all, w.before #[Value.ref b] s = true) ∧ va_K D vwCl (rh_tys dT) s ∧ rh_Z (az z0 z1) (lk_A s) s s.heap ∧ va_X b L xs s s.heap ∧ b < s.heap.size ∧ (∀ w ∈ kn_ws, va_Nw w s) ∧ xk (lk_A s) s s.heap ∧ l.stackTraces = false ∧ L ≤ 2560
abbrev lk_lv (b a0 m0 qo k : Nat) : List (Nat × Value) := [(0, .ref b), (1, .ref a0), (2, .ref m0), (3, .ref qo), (4, .int (nI (5 * k)))]
abbrev lk_w (dT : Nat → ClassId) (aC : Nat → Nat) (xx : rh_L) (hC : rh_H) (aM : Nat → Nat) (hM : rh_H) (qo : Nat) (fo : Nat → Int64) : va_W := rh_ws dT aC (cw_L ++ xx) hC ++ (rh_ws dT aM mw_L hM ++ [(qo, .inl (dT 1, 1, .inr (.inl fo)))])
def lk_I (s : State) (D : va_G) (dT : Nat → ClassId) (z0 z1 a0 qo : Nat) (aM : Nat → Nat) (k : Nat) (aC : Nat → Nat) (xx : rh_L) (sv : Option Nat) (hc : HI) (gc : Nat → Nat → Int64) (hm : HI) (gm : Nat → Nat → Int64) (rd : Option Nat) (fo : Nat → Int64) (H : Heap) (locs : List Loc) : Prop := lk_ok xx sv ∧ (∃ (n Pm : Nat) (B : Nat → Nat) (V : Nat → Nat → Nat → Nat), RLt k n Pm B V hc hm) ∧ aC 0 = a0 ∧ aC 1000 = z0 ∧ aC 1001 = z1 ∧ va_P D vwCl (lk_w dT aC xx (hc, gc, cw_R sv) aM (hm, gm, mw_R rd) qo fo) H ∧ va_D (lk_A s) (lk_w dT aC xx (hc, gc, cw_R sv) aM (hm, gm, mw_R rd) qo fo) ∧ va_S (lk_A s) s.heap H locs
def lk_N (p : Program) (l : Launch) (e : Env) (s : State) (m : MethodId) (below : List Frame) (meth : Method) (c : Code) (b : Nat) (D : va_G) (dT : Nat → ClassId) (z0 z1 a0 qo : Nat) (aM : Nat → Nat) (k : Nat) (Q : State → Prop) : Prop := ∀ (aC : Nat → Nat) (xx : rh_L) (sv : Option Nat) (hc : HI) (gc : Nat → Nat → Int64) (hm : HI) (gm : Nat → Nat → Int64) (rd : Option Nat) (fo : Nat → Int64) (H : Heap) (locs : List Loc) (ls : Array Slot), lk_I s D dT z0 z1 a0 qo aM (k + 1) aC xx sv hc gc hm gm rd fo H locs → lv_has ls 7 (lk_lv b a0 (aM 0) qo k) → W p l e room_1 s m #[Value.ref b] below meth c H locs (74 + xx.length + (k + 1)) (70000 + 4000 * xx.length + 6 * (k + 1)) Q (F0 m 2135 ls [])
def dld (pc j : Nat) : Prop := decode code pc = .ok (.aload_n 0, 1) ∧ decode code (pc + 1) = .ok (.iload 4, 2) ∧ decode code (pc + 1 + 2) = .ok (.iconst (j : Int), 1) ∧ decode code (pc + 1 + 2 + 1) = .ok (.iadd, 1) ∧ decode code (pc + 1 + 2 + 1 + 1) = .ok (.iaload, 1)
theorem lk_len {xx : rh_L} {sv : Option Nat} (h : lk_ok xx sv) : xx.length ≤ 7 := by
  rcases h with ⟨rfl, -⟩ | ⟨rfl, -⟩ <;> decide
theorem lk_rC {xx : rh_L} {sv : Option Nat} {k : Nat} (h : lk_ok xx sv) (hk : k ≤ 512) : 74 + xx.length + k ≤ room_1.cells := by
  have := lk_len h
  show 74 + xx.length + k ≤ 856089
  omega
theorem lk_rS {xx : rh_L} {sv : Option Nat} {k : Nat} (h : lk_ok xx sv) (hk : k ≤ 512) : 70000 + 4000 * xx.length + 6 * k ≤ room_1.slots := by
  have := lk_len h
  show 70000 + 4000 * xx.length + 6 * k ≤ 6527838
  omega
theorem vP_rot {D : va_G} {cl : List vw_C} {a b c : va_W} {H : Heap} (h : va_P D cl (a ++ (b ++ c)) H) : va_P D cl (b ++ (c ++ a)) H := by rw [← List.append_assoc]; exact vP_comm h
theorem vD_rot {A : Nat → Prop} {a b c : va_W} (h : va_D A (a ++ (b ++ c))) : va_D A (b ++ (c ++ a)) := by rw [← List.append_assoc]; exact vD_comm h
theorem vP_tor {D : va_G} {cl : List vw_C} {a b c : va_W} {H : Heap} (h : va_P D cl (b ++ (c ++ a)) H) : va_P D cl (a ++ (b ++ c)) H := by rw [← List.append_assoc] at h; exact vP_comm h
theorem vD_tor {A : Nat → Prop} {a b c : va_W} (h : va_D A (b ++ (c ++ a))) : va_D A (a ++ (b ++ c)) := by rw [← List.append_assoc] at h; exact vD_comm h
section LK
variable {p : Program} {l : Launch} {e : Env} {s : State} {m : MethodId} {below : List Frame} {meth : Method} {c : Code} {b L : Nat} {xs : Nat → Int32} {D : va_G} {dT : Nat → ClassId} {z0 z1 a0 qo : Nat} {aM aC : Nat → Nat} {k : Nat} {Q : State → Prop} {H : Heap} {locs : List Loc} {ls : Array Slot} {cells slots pc : Nat} {st : List Value}
theorem lk_C (K : lk_K p l s m c b L xs D dT z0 z1) {adr : Nat → Nat} (e1 : adr 1000 = z0) (e2 : adr 1001 = z1) : rh_C p s m #[Value.ref b] c room_1 D dT (lk_A s) adr RL code 7 := ⟨K.1, K.2.1, K.2.2.1, K.2.2.2.1, K.2.2.2.2.1, K.2.2.2.2.2.1, rh_Z_adr K.2.2.2.2.2.2.1 (e1.trans rfl) (e2.trans rfl), Nat.le_of_ble_eq_true rfl, Nat.le_of_ble_eq_true rfl⟩
theorem lk_ld (K : lk_K p l s m c b L xs D dT z0 z1) (j : Nat) (hj : 5 * k + j < L) (hjv : Int32.ofInt (j : Int) = nI j) (hl : lv_has ls 7 (lk_lv b a0 (aM 0) qo k)) (hS : va_S (lk_A s) s.heap H locs) (d : dld pc j) (kk : W p l e room_1 s m #[Value.ref b] below meth c H locs cells slots Q (F0 m (pc + 6) ls (.int (xs (5 * k + j)) :: st))) : W p l e room_1 s m #[Value.ref b] below meth c H locs cells slots Q (F0 m pc ls st) := by
  obtain ⟨d0, d1, d2, d3, d4⟩ := d
  obtain ⟨hx, hb, -, -, -, -, -, hX, hbl, -, -, -, hL⟩ := K
  refine lv_aload_n hx hb d0 rfl (lv_at hl 0 rfl) ?_
  refine lv_iload hx hb d1 (lv_at hl 4 rfl) ?_
  refine lv_iconst (v := nI j) hx hb d2 hjv ?_
  refine lv_iadd hx hb d3 ?_
  rw [nI_add]
  refine va_sld hx hb hX hbl (Nat.not_le.mpr hbl) hS (vp_in_nI hj (by omega)) d4 ?_
  rw [nI_clamp (by omega)]
  exact kk
theorem lc_C (K : lk_K p l s m c b L xs D dT z0 z1) (e1 : aC 1000 = z0) (e2 : aC 1001 = z1) {xx : rh_L} {j : Nat} {a : List Value} {hh hh' : rh_H} {r : Int32} (hM : rh_M rh_PT (cw_L ++ xx) 300 j (.ref 0 :: a) hh (some (.int r)) hh') (hcall : rh_Call RL code 7 pc (rh_PT j).1 (rh_PT j).2.1 (rh_PT j).2.2.1 (rh_PT j).2.2.2.1 (a.length + 1) (some 10)) (hce : cells ≤ room_1.cells) (hsl : slots ≤ room_1.slots) {wb : va_W} (hP : va_P D vwCl (rh_ws dT aC (cw_L ++ xx) hh ++ wb) H) (hD : va_D (lk_A s) (rh_ws dT aC (cw_L ++ xx) hh ++ wb)) (hS : va_S (lk_A s) s.heap H locs) (hls : ls.size = 7) (hst : (st.map fun v => v.category).sum ≤ 8) (kk : ∀ (H1 : Heap) (locs1 : List Loc), va_P D vwCl (rh_ws dT aC (cw_L ++ xx) hh' ++ wb) H1 → va_D (lk_A s) (rh_ws dT aC (cw_L ++ xx) hh' ++ wb) → va_S (lk_A s) s.heap H1 locs1 → W p l e room_1 s m #[Value.ref b] below meth c H1 locs1 cells slots Q (F0 m (pc + 3) ls (.int r :: st))) : W p l e room_1 s m #[Value.ref b] below meth c H locs cells slots Q (F0 m pc ls ((a.map (rh_v aC)).reverse ++ .ref (aC 0) :: st)) := by
  have h := rk_call (r := st) (l := l) (e := e) (below := below) (meth := meth) (Q := Q) (lk_C K e1 e2) (fun _ h => h) hM hcall (show (cw_L ++ xx)[0]? = some (.inr 10) from rfl) (Nat.le_of_ble_eq_true rfl) (Nat.le_of_ble_eq_true rfl) hce hsl hP hD hS hls hst kk
  have e3 : ((.ref 0 :: a : List Value).map (rh_v aC)).reverse ++ st = (a.map (rh_v aC)).reverse ++ .ref (aC 0) :: st := by simp [rh_v]
  rw [e3] at h
  exact h
theorem lc_M (K : lk_K p l s m c b L xs D dT z0 z1) (e1 : aM 1000 = z0) (e2 : aM 1001 = z1) {j : Nat} {a : List Value} {hh hh' : rh_H} {r : Int32} (hM : rh_M rh_PT mw_L 300 j (.ref 0 :: a) hh (some (.int r)) hh') (hcall : rh_Call RL code 7 pc (rh_PT j).1 (rh_PT j).2.1 (rh_PT j).2.2.1 (rh_PT j).2.2.2.1 (a.length + 1) (some 11)) (hce : cells ≤ room_1.cells) (hsl : slots ≤ room_1.slots) {wa wo : va_W} (hP : va_P D vwCl (wa ++ (rh_ws dT aM mw_L hh ++ wo)) H) (hD : va_D (lk_A s) (wa ++ (rh_ws dT aM mw_L hh ++ wo))) (hS : va_S (lk_A s) s.heap H locs) (hls : ls.size = 7) (hst : (st.map fun v => v.category).sum ≤ 8) (kk : ∀ (H1 : Heap) (locs1 : List Loc), va_P D vwCl (wa ++ (rh_ws dT aM mw_L hh' ++ wo)) H1 → va_D (lk_A s) (wa ++ (rh_ws dT aM mw_L hh' ++ wo)) → va_S (lk_A s) s.heap H1 locs1 → W p l e room_1 s m #[Value.ref b] below meth c H1 locs1 cells slots Q (F0 m (pc + 3) ls (.int r :: st))) : W p l e room_1 s m #[Value.ref b] below meth c H locs cells slots Q (F0 m pc ls ((a.map (rh_v aM)).reverse ++ .ref (aM 0) :: st)) := by
  have h := rk_call (r := st) (l := l) (e := e) (below := below) (meth := meth) (Q := Q) (lk_C K e1 e2) (fun _ h => h) hM hcall (show mw_L[0]? = some (.inr 11) from rfl) (Nat.le_of_ble_eq_true rfl) (Nat.le_of_ble_eq_true rfl) hce hsl (vP_rot hP) (vD_rot hD) hS hls hst (fun H1 locs1 hP hD hS => kk H1 locs1 (vP_tor hP) (vD_tor hD) hS)
  have e3 : ((.ref 0 :: a : List Value).map (rh_v aM)).reverse ++ st = (a.map (rh_v aM)).reverse ++ .ref (aM 0) :: st := by simp [rh_v]
  rw [e3] at h
  exact h
theorem lk_case0 {jc jm : Nat} {xx : rh_L} {sv : Option Nat} {hc : HI} {gc : Nat → Nat → Int64} {hm : HI} {gm : Nat → Nat → Int64} {rd : Option Nat} {fo : Nat → Int64} (K : lk_K p l s m c b L xs D dT z0 z1) (m1 : aM 1000 = z0) (m2 : aM 1001 = z1) (hk : 5 * k + 5 ≤ L) (I : lk_I s D dT z0 z1 a0 qo aM k aC xx sv hc gc hm gm rd fo H locs) (hl : lv_has ls 7 (lk_lv b a0 (aM 0) qo k)) (N : lk_N p l e s m below meth c b D dT z0 z1 a0 qo aM k Q) (U : lk_P k jc jm []) (d0 : decode code pc = .ok (.aload_n 1, 1)) (q1 : rh_Call RL code 7 (pc + 1) (rh_PT jc).1 (rh_PT jc).2.1 (rh_PT jc).2.2.1 (rh_PT jc).2.2.2.1 1 (some 10)) (d2 : decode code (pc + 1 + 3) = .ok (.aload_n 2, 1)) (q2 : rh_Call RL code 7 (pc + 1 + 3 + 1) (rh_PT jm).1 (rh_PT jm).2.1 (rh_PT jm).2.2.1 (rh_PT jm).2.2.2.1 1 (some 11)) {off : Int} (d3 : decode code (pc + 1 + 3 + 1 + 3) = .ok (.if_icmp .eq off, 3)) (ht : ((pc + 1 + 3 + 1 + 3 : Nat) : Int) + off = ((2135 : Nat) : Int)) : W p l e room_1 s m #[Value.ref b] below meth c H locs (74 + xx.length + k) (70000 + 4000 * xx.length + 6 * k) Q (F0 m pc ls []) := by
  obtain ⟨ok, ⟨n, Pm, B, V, hR⟩, e0, e1, e2, hP, hD, hS⟩ := I
  have hL : L ≤ 2560 := K.2.2.2.2.2.2.2.2.2.2.2.2
  have hk5 : k ≤ 511 := by omega
  have hce := lk_rC ok (show k ≤ 512 by omega)
  have hsl := lk_rS ok (show k ≤ 512 by omega)
  have hx := K.1
  have hb := K.2.1
  subst e0
  obtain ⟨r, hc', gc', hm', gm', rd', n', Pm', B', V', M1, M2, hR'⟩ := U xx sv hc gc hm gm rd n Pm B V hR
  refine lv_aload_n hx hb d0 rfl (lv_at hl 1 rfl) ?_
  refine lc_C (a := []) (st := []) K e1 e2 M1 q1 hce hsl hP hD hS hl.1 (Nat.le_of_ble_eq_true rfl) (fun H1 locs1 hP hD hS => ?_)
  refine lv_aload_n hx hb d2 rfl (lv_at hl 2 rfl) ?_
  refine lc_M (a := []) (st := [.int r]) K m1 m2 M2 q2 hce hsl hP hD hS hl.1 (Nat.le_of_ble_eq_true rfl) (fun H2 locs2 hP hD hS => ?_)
  refine lv_icmp_eq (tgt := 2135) hx hb d3 ht (fun _ => ?_) (fun h => absurd rfl h)
  refine W.widen (k := 74 + xx.length + (k + 1)) (n := 70000 + 4000 * xx.length + 6 * (k + 1)) (by omega) (by omega) ?_
  exact N aC xx sv hc' gc' hm' gm' rd' fo H2 locs2 ls ⟨ok, ⟨n', Pm', B', V', hR'⟩, rfl, e1, e2, hP, hD, hS⟩ hl
theorem lk_case1 {jc jm : Nat} {xx : rh_L} {sv : Option Nat} {hc : HI} {gc : Nat → Nat → Int64} {hm : HI} {gm : Nat → Nat → Int64} {rd : Option Nat} {fo : Nat → Int64} (K : lk_K p l s m c b L xs D dT z0 z1) (m1 : aM 1000 = z0) (m2 : aM 1001 = z1) (hk : 5 * k + 5 ≤ L) (I : lk_I s D dT z0 z1 a0 qo aM k aC xx sv hc gc hm gm rd fo H locs) (hl : lv_has ls 7 (lk_lv b a0 (aM 0) qo k)) (N : lk_N p l e s m below meth c b D dT z0 z1 a0 qo aM k Q) (U : ∀ (v0 : Int32), lk_P k jc jm [.int v0]) (d0 : decode code pc = .ok (.aload_n 1, 1)) (f1 : dld (pc + 1) 1) (q1 : rh_Call RL code 7 (pc + 1 + 6) (rh_PT jc).1 (rh_PT jc).2.1 (rh_PT jc).2.2.1 (rh_PT jc).2.2.2.1 2 (some 10)) (d2 : decode code (pc + 1 + 6 + 3) = .ok (.aload_n 2, 1)) (g1 : dld (pc + 1 + 6 + 3 + 1) 1) (q2 : rh_Call RL code 7 (pc + 1 + 6 + 3 + 1 + 6) (rh_PT jm).1 (rh_PT jm).2.1 (rh_PT jm).2.2.1 (rh_PT jm).2.2.2.1 2 (some 11)) {off : Int} (d3 : decode code (pc + 1 + 6 + 3 + 1 + 6 + 3) = .ok (.if_icmp .eq off, 3)) (ht : ((pc + 1 + 6 + 3 + 1 + 6 + 3 : Nat) : Int) + off = ((2135 : Nat) : Int)) : W p l e room_1 s m #[Value.ref b] below meth c H locs (74 + xx.length + k) (70000 + 4000 * xx.length + 6 * k) Q (F0 m pc ls []) := by
  obtain ⟨ok, ⟨n, Pm, B, V, hR⟩, e0, e1, e2, hP, hD, hS⟩ := I
  have hL : L ≤ 2560 := K.2.2.2.2.2.2.2.2.2.2.2.2
  have hk5 : k ≤ 511 := by omega
  have hce := lk_rC ok (show k ≤ 512 by omega)
  have hsl := lk_rS ok (show k ≤ 512 by omega)
  have hx := K.1
  have hb := K.2.1
  subst e0
  obtain ⟨r, hc', gc', hm', gm', rd', n', Pm', B', V', M1, M2, hR'⟩ := U (xs (5 * k + 1)) xx sv hc gc hm gm rd n Pm B V hR
  refine lv_aload_n hx hb d0 rfl (lv_at hl 1 rfl) ?_
  refine lk_ld K 1 (by omega) (by decide) hl hS f1 ?_
  refine lc_C (a := [.int (xs (5 * k + 1))]) (st := []) K e1 e2 M1 q1 hce hsl hP hD hS hl.1 (Nat.le_of_ble_eq_true rfl) (fun H1 locs1 hP hD hS => ?_)
  refine lv_aload_n hx hb d2 rfl (lv_at hl 2 rfl) ?_
  refine lk_ld K 1 (by omega) (by decide) hl hS g1 ?_
  refine lc_M (a := [.int (xs (5 * k + 1))]) (st := [.int r]) K m1 m2 M2 q2 hce hsl hP hD hS hl.1 (Nat.le_of_ble_eq_true rfl) (fun H2 locs2 hP hD hS => ?_)
  refine lv_icmp_eq (tgt := 2135) hx hb d3 ht (fun _ => ?_) (fun h => absurd rfl h)
  refine W.widen (k := 74 + xx.length + (k + 1)) (n := 70000 + 4000 * xx.length + 6 * (k + 1)) (by omega) (by omega) ?_
  exact N aC xx sv hc' gc' hm' gm' rd' fo H2 locs2 ls ⟨ok, ⟨n', Pm', B', V', hR'⟩, rfl, e1, e2, hP, hD, hS⟩ hl
theorem lk_case2 {jc jm : Nat} {xx : rh_L} {sv : Option Nat} {hc : HI} {gc : Nat → Nat → Int64} {hm : HI} {gm : Nat → Nat → Int64} {rd : Option Nat} {fo : Nat → Int64} (K : lk_K p l s m c b L xs D dT z0 z1) (m1 : aM 1000 = z0) (m2 : aM 1001 = z1) (hk : 5 * k + 5 ≤ L) (I : lk_I s D dT z0 z1 a0 qo aM k aC xx sv hc gc hm gm rd fo H locs) (hl : lv_has ls 7 (lk_lv b a0 (aM 0) qo k)) (N : lk_N p l e s m below meth c b D dT z0 z1 a0 qo aM k Q) (U : ∀ (v0 : Int32) (v1 : Int32), lk_P k jc jm [.int v0, .int v1]) (d0 : decode code pc = .ok (.aload_n 1, 1)) (f1 : dld (pc + 1) 1) (f2 : dld (pc + 1 + 6) 2) (q1 : rh_Call RL code 7 (pc + 1 + 6 + 6) (rh_PT jc).1 (rh_PT jc).2.1 (rh_PT jc).2.2.1 (rh_PT jc).2.2.2.1 3 (some 10)) (d2 : decode code (pc + 1 + 6 + 6 + 3) = .ok (.aload_n 2, 1)) (g1 : dld (pc + 1 + 6 + 6 + 3 + 1) 1) (g2 : dld (pc + 1 + 6 + 6 + 3 + 1 + 6) 2) (q2 : rh_Call RL code 7 (pc + 1 + 6 + 6 + 3 + 1 + 6 + 6) (rh_PT jm).1 (rh_PT jm).2.1 (rh_PT jm).2.2.1 (rh_PT jm).2.2.2.1 3 (some 11)) {off : Int} (d3 : decode code (pc + 1 + 6 + 6 + 3 + 1 + 6 + 6 + 3) = .ok (.if_icmp .eq off, 3)) (ht : ((pc + 1 + 6 + 6 + 3 + 1 + 6 + 6 + 3 : Nat) : Int) + off = ((2135 : Nat) : Int)) : W p l e room_1 s m #[Value.ref b] below meth c H locs (74 + xx.length + k) (70000 + 4000 * xx.length + 6 * k) Q (F0 m pc ls []) := by
  obtain ⟨ok, ⟨n, Pm, B, V, hR⟩, e0, e1, e2, hP, hD, hS⟩ := I
  have hL : L ≤ 2560 := K.2.2.2.2.2.2.2.2.2.2.2.2
  have hk5 : k ≤ 511 := by omega
  have hce := lk_rC ok (show k ≤ 512 by omega)
  have hsl := lk_rS ok (show k ≤ 512 by omega)
  have hx := K.1
  have hb := K.2.1
  subst e0
  obtain ⟨r, hc', gc', hm', gm', rd', n', Pm', B', V', M1, M2, hR'⟩ := U (xs (5 * k + 1)) (xs (5 * k + 2)) xx sv hc gc hm gm rd n Pm B V hR
  refine lv_aload_n hx hb d0 rfl (lv_at hl 1 rfl) ?_
  refine lk_ld K 1 (by omega) (by decide) hl hS f1 ?_
  refine lk_ld K 2 (by omega) (by decide) hl hS f2 ?_
  refine lc_C (a := [.int (xs (5 * k + 1)), .int (xs (5 * k + 2))]) (st := []) K e1 e2 M1 q1 hce hsl hP hD hS hl.1 (Nat.le_of_ble_eq_true rfl) (fun H1 locs1 hP hD hS => ?_)
  refine lv_aload_n hx hb d2 rfl (lv_at hl 2 rfl) ?_
  refine lk_ld K 1 (by omega) (by decide) hl hS g1 ?_
  refine lk_ld K 2 (by omega) (by decide) hl hS g2 ?_
  refine lc_M (a := [.int (xs (5 * k + 1)), .int (xs (5 * k + 2))]) (st := [.int r]) K m1 m2 M2 q2 hce hsl hP hD hS hl.1 (Nat.le_of_ble_eq_true rfl) (fun H2 locs2 hP hD hS => ?_)
  refine lv_icmp_eq (tgt := 2135) hx hb d3 ht (fun _ => ?_) (fun h => absurd rfl h)
  refine W.widen (k := 74 + xx.length + (k + 1)) (n := 70000 + 4000 * xx.length + 6 * (k + 1)) (by omega) (by omega) ?_
  exact N aC xx sv hc' gc' hm' gm' rd' fo H2 locs2 ls ⟨ok, ⟨n', Pm', B', V', hR'⟩, rfl, e1, e2, hP, hD, hS⟩ hl
theorem lk_case3 {jc jm : Nat} {xx : rh_L} {sv : Option Nat} {hc : HI} {gc : Nat → Nat → Int64} {hm : HI} {gm : Nat → Nat → Int64} {rd : Option Nat} {fo : Nat → Int64} (K : lk_K p l s m c b L xs D dT z0 z1) (m1 : aM 1000 = z0) (m2 : aM 1001 = z1) (hk : 5 * k + 5 ≤ L) (I : lk_I s D dT z0 z1 a0 qo aM k aC xx sv hc gc hm gm rd fo H locs) (hl : lv_has ls 7 (lk_lv b a0 (aM 0) qo k)) (N : lk_N p l e s m below meth c b D dT z0 z1 a0 qo aM k Q) (U : ∀ (v0 : Int32) (v1 : Int32) (v2 : Int32), lk_P k jc jm [.int v0, .int v1, .int v2]) (d0 : decode code pc = .ok (.aload_n 1, 1)) (f1 : dld (pc + 1) 1) (f2 : dld (pc + 1 + 6) 2) (f3 : dld (pc + 1 + 6 + 6) 3) (q1 : rh_Call RL code 7 (pc + 1 + 6 + 6 + 6) (rh_PT jc).1 (rh_PT jc).2.1 (rh_PT jc).2.2.1 (rh_PT jc).2.2.2.1 4 (some 10)) (d2 : decode code (pc + 1 + 6 + 6 + 6 + 3) = .ok (.aload_n 2, 1)) (g1 : dld (pc + 1 + 6 + 6 + 6 + 3 + 1) 1) (g2 : dld (pc + 1 + 6 + 6 + 6 + 3 + 1 + 6) 2) (g3 : dld (pc + 1 + 6 + 6 + 6 + 3 + 1 + 6 + 6) 3) (q2 : rh_Call RL code 7 (pc + 1 + 6 + 6 + 6 + 3 + 1 + 6 + 6 + 6) (rh_PT jm).1 (rh_PT jm).2.1 (rh_PT jm).2.2.1 (rh_PT jm).2.2.2.1 4 (some 11)) {off : Int} (d3 : decode code (pc + 1 + 6 + 6 + 6 + 3 + 1 + 6 + 6 + 6 + 3) = .ok (.if_icmp .eq off, 3)) (ht : ((pc + 1 + 6 + 6 + 6 + 3 + 1 + 6 + 6 + 6 + 3 : Nat) : Int) + off = ((2135 : Nat) : Int)) : W p l e room_1 s m #[Value.ref b] below meth c H locs (74 + xx.length + k) (70000 + 4000 * xx.length + 6 * k) Q (F0 m pc ls []) := by
  obtain ⟨ok, ⟨n, Pm, B, V, hR⟩, e0, e1, e2, hP, hD, hS⟩ := I
  have hL : L ≤ 2560 := K.2.2.2.2.2.2.2.2.2.2.2.2
  have hk5 : k ≤ 511 := by omega
  have hce := lk_rC ok (show k ≤ 512 by omega)
  have hsl := lk_rS ok (show k ≤ 512 by omega)
  have hx := K.1
  have hb := K.2.1
  subst e0
  obtain ⟨r, hc', gc', hm', gm', rd', n', Pm', B', V', M1, M2, hR'⟩ := U (xs (5 * k + 1)) (xs (5 * k + 2)) (xs (5 * k + 3)) xx sv hc gc hm gm rd n Pm B V hR
  refine lv_aload_n hx hb d0 rfl (lv_at hl 1 rfl) ?_
  refine lk_ld K 1 (by omega) (by decide) hl hS f1 ?_
  refine lk_ld K 2 (by omega) (by decide) hl hS f2 ?_
  refine lk_ld K 3 (by omega) (by decide) hl hS f3 ?_
  refine lc_C (a := [.int (xs (5 * k + 1)), .int (xs (5 * k + 2)), .int (xs (5 * k + 3))]) (st := []) K e1 e2 M1 q1 hce hsl hP hD hS hl.1 (Nat.le_of_ble_eq_true rfl) (fun H1 locs1 hP hD hS => ?_)
  refine lv_aload_n hx hb d2 rfl (lv_at hl 2 rfl) ?_
  refine lk_ld K 1 (by omega) (by decide) hl hS g1 ?_
  refine lk_ld K 2 (by omega) (by decide) hl hS g2 ?_
  refine lk_ld K 3 (by omega) (by decide) hl hS g3 ?_
  refine lc_M (a := [.int (xs (5 * k + 1)), .int (xs (5 * k + 2)), .int (xs (5 * k + 3))]) (st := [.int r]) K m1 m2 M2 q2 hce hsl hP hD hS hl.1 (Nat.le_of_ble_eq_true rfl) (fun H2 locs2 hP hD hS => ?_)
  refine lv_icmp_eq (tgt := 2135) hx hb d3 ht (fun _ => ?_) (fun h => absurd rfl h)
  refine W.widen (k := 74 + xx.length + (k + 1)) (n := 70000 + 4000 * xx.length + 6 * (k + 1)) (by omega) (by omega) ?_
  exact N aC xx sv hc' gc' hm' gm' rd' fo H2 locs2 ls ⟨ok, ⟨n', Pm', B', V', hR'⟩, rfl, e1, e2, hP, hD, hS⟩ hl
theorem lk_case4 {jc jm : Nat} {xx : rh_L} {sv : Option Nat} {hc : HI} {gc : Nat → Nat → Int64} {hm : HI} {gm : Nat → Nat → Int64} {rd : Option Nat} {fo : Nat → Int64} (K : lk_K p l s m c b L xs D dT z0 z1) (m1 : aM 1000 = z0) (m2 : aM 1001 = z1) (hk : 5 * k + 5 ≤ L) (I : lk_I s D dT z0 z1 a0 qo aM k aC xx sv hc gc hm gm rd fo H locs) (hl : lv_has ls 7 (lk_lv b a0 (aM 0) qo k)) (N : lk_N p l e s m below meth c b D dT z0 z1 a0 qo aM k Q) (U : ∀ (v0 : Int32) (v1 : Int32) (v2 : Int32) (v3 : Int32), lk_P k jc jm [.int v0, .int v1, .int v2, .int v3]) (d0 : decode code pc = .ok (.aload_n 1, 1)) (f1 : dld (pc + 1) 1) (f2 : dld (pc + 1 + 6) 2) (f3 : dld (pc + 1 + 6 + 6) 3) (f4 : dld (pc + 1 + 6 + 6 + 6) 4) (q1 : rh_Call RL code 7 (pc + 1 + 6 + 6 + 6 + 6) (rh_PT jc).1 (rh_PT jc).2.1 (rh_PT jc).2.2.1 (rh_PT jc).2.2.2.1 5 (some 10)) (d2 : decode code (pc + 1 + 6 + 6 + 6 + 6 + 3) = .ok (.aload_n 2, 1)) (g1 : dld (pc + 1 + 6 + 6 + 6 + 6 + 3 + 1) 1) (g2 : dld (pc + 1 + 6 + 6 + 6 + 6 + 3 + 1 + 6) 2) (g3 : dld (pc + 1 + 6 + 6 + 6 + 6 + 3 + 1 + 6 + 6) 3) (g4 : dld (pc + 1 + 6 + 6 + 6 + 6 + 3 + 1 + 6 + 6 + 6) 4) (q2 : rh_Call RL code 7 (pc + 1 + 6 + 6 + 6 + 6 + 3 + 1 + 6 + 6 + 6 + 6) (rh_PT jm).1 (rh_PT jm).2.1 (rh_PT jm).2.2.1 (rh_PT jm).2.2.2.1 5 (some 11)) {off : Int} (d3 : decode code (pc + 1 + 6 + 6 + 6 + 6 + 3 + 1 + 6 + 6 + 6 + 6 + 3) = .ok (.if_icmp .eq off, 3)) (ht : ((pc + 1 + 6 + 6 + 6 + 6 + 3 + 1 + 6 + 6 + 6 + 6 + 3 : Nat) : Int) + off = ((2135 : Nat) : Int)) : W p l e room_1 s m #[Value.ref b] below meth c H locs (74 + xx.length + k) (70000 + 4000 * xx.length + 6 * k) Q (F0 m pc ls []) := by
  obtain ⟨ok, ⟨n, Pm, B, V, hR⟩, e0, e1, e2, hP, hD, hS⟩ := I
  have hL : L ≤ 2560 := K.2.2.2.2.2.2.2.2.2.2.2.2
  have hk5 : k ≤ 511 := by omega
  have hce := lk_rC ok (show k ≤ 512 by omega)
  have hsl := lk_rS ok (show k ≤ 512 by omega)
  have hx := K.1
  have hb := K.2.1
  subst e0
  obtain ⟨r, hc', gc', hm', gm', rd', n', Pm', B', V', M1, M2, hR'⟩ := U (xs (5 * k + 1)) (xs (5 * k + 2)) (xs (5 * k + 3)) (xs (5 * k + 4)) xx sv hc gc hm gm rd n Pm B V hR
  refine lv_aload_n hx hb d0 rfl (lv_at hl 1 rfl) ?_
  refine lk_ld K 1 (by omega) (by decide) hl hS f1 ?_
  refine lk_ld K 2 (by omega) (by decide) hl hS f2 ?_
  refine lk_ld K 3 (by omega) (by decide) hl hS f3 ?_
  refine lk_ld K 4 (by omega) (by decide) hl hS f4 ?_
  refine lc_C (a := [.int (xs (5 * k + 1)), .int (xs (5 * k + 2)), .int (xs (5 * k + 3)), .int (xs (5 * k + 4))]) (st := []) K e1 e2 M1 q1 hce hsl hP hD hS hl.1 (Nat.le_of_ble_eq_true rfl) (fun H1 locs1 hP hD hS => ?_)
  refine lv_aload_n hx hb d2 rfl (lv_at hl 2 rfl) ?_
  refine lk_ld K 1 (by omega) (by decide) hl hS g1 ?_
  refine lk_ld K 2 (by omega) (by decide) hl hS g2 ?_
  refine lk_ld K 3 (by omega) (by decide) hl hS g3 ?_
  refine lk_ld K 4 (by omega) (by decide) hl hS g4 ?_
  refine lc_M (a := [.int (xs (5 * k + 1)), .int (xs (5 * k + 2)), .int (xs (5 * k + 3)), .int (xs (5 * k + 4))]) (st := [.int r]) K m1 m2 M2 q2 hce hsl hP hD hS hl.1 (Nat.le_of_ble_eq_true rfl) (fun H2 locs2 hP hD hS => ?_)
  refine lv_icmp_eq (tgt := 2135) hx hb d3 ht (fun _ => ?_) (fun h => absurd rfl h)
  refine W.widen (k := 74 + xx.length + (k + 1)) (n := 70000 + 4000 * xx.length + 6 * (k + 1)) (by omega) (by omega) ?_
  exact N aC xx sv hc' gc' hm' gm' rd' fo H2 locs2 ls ⟨ok, ⟨n', Pm', B', V', hR'⟩, rfl, e1, e2, hP, hD, hS⟩ hl
end LK
