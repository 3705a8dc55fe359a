/-! steady in the law -/
section RK
variable {p : Program} {l : Launch} {e : Env} {R : Room} {s : State} {m : MethodId} {args : Array Value} {below : List Frame} {meth : Method} {c : Code} {D : va_G} {dT : Nat → ClassId} {A : Nat → Prop} {adr : Nat → Nat} {own : String} {cc : ByteArray} {nL d : Nat} {cells slots : Nat} {Q : State → Prop}
theorem rk_callT {L : rh_L} {j pc : Nat} {a : List Value} {h h' : rh_H} {v : Option Value} {rc : Option Nat} (hC : rh_C p s m args c R D dT A adr own cc nL) (hA : ∀ q, s.heap.size ≤ q → A q) (hM : rh_Mt rh_PT L d j a h v h') (hcall : rh_Call own cc nL pc (rh_PT j).1 (rh_PT j).2.1 (rh_PT j).2.2.1 (rh_PT j).2.2.2.1 a.length rc) (hrc : rh_rc L rc a) (hfr : d + 1 ≤ R.frames) (hlo : 40 * (d + 1) ≤ R.locals) (hce : cells ≤ R.cells) (hsl : slots ≤ R.slots)
    {wb : va_W} {H : Heap} {locs : List Loc} {ls : Array Slot} (hP : va_P D vwCl (rh_ws dT adr L h ++ wb) H) (hD : va_D A (rh_ws dT adr L h ++ wb)) (hS : va_S A s.heap H locs) (hls : ls.size = nL) {r : List Value} (hcs : (r.map fun v => v.category).sum ≤ 8)
    (kk : ∀ (H1 : Heap) (locs1 : List Loc), va_P D vwCl (rh_ws dT adr L h' ++ wb) H1 → va_D A (rh_ws dT adr L h' ++ wb) → va_S A s.heap H1 locs1 → W p l e R s m args below meth c H1 locs1 cells slots Q (F0 m (pc + 3) ls ((v.map (rh_v adr)).toList ++ r))) :
    W p l e R s m args below meth c H locs cells slots Q (F0 m pc ls ((a.map (rh_v adr)).reverse ++ r)) := by
  have hZ : rh_Z adr A s s.heap := hC.2.2.2.2.2.2.1
  have hK : va_K D vwCl (rh_tys dT) s := hC.2.2.2.2.2.1
  have hFc : ∀ z, va_A (rh_ws dT adr L h) H.size z → A z := vw_free hD hS hA
  have hP0 : va_P D vwCl (rh_ws dT adr L h) H := (vP_app.mp hP).1
  have hD0 : va_D A (rh_ws dT adr L h) := (vD_app.mp hD).1
  have hMt := hM l D dT adr H.size
  have hZ1 : rh_Z adr (va_A (rh_ws dT adr L h) H.size) s H := (hZ.kept (fun z h1 h2 => hS.2.1 z h1 h2)).narrow hFc
  have hrun := hcall.2 p l e R s m args below meth c D dT A adr hC _ _ _ (rh_rm d) hMt rfl rfl (show (rh_rm d).frames + 1 ≤ R.frames from hfr) (by have := hcall.1; show 8 + (_ + 11) + 40 * d ≤ R.locals; omega) (rh_blind D dT adr L h H.size a) H locs cells slots ls (a.map (rh_v adr)) r hce hsl hls (by rw [List.length_map])
    (fun ci hci => by
      rw [hci] at hrc
      obtain ⟨z, b', hb', hLz⟩ := rh_rc_some hrc
      obtain ⟨w, hw, -⟩ := hP0 z _ (rh_ws_at dT adr h hLz)
      exact ⟨adr z, b'.map (rh_v adr), w, by rw [hb']; rfl, hw, va_recv hK hP0 hw (rh_ws_at dT adr h hLz)⟩)
    hcs
    (fun U hU hW => ⟨rfl, by rw [hU], by rw [hU]; exact hP0, va_K.moved hW.alike hK, hD0.weaken (fun _ _ _ _ => trivial), by rw [hU]; exact hZ1.moved hW.alike⟩)
  refine rk_goes hrun hS (fun z _ hz => hFc z hz) hFc (fun H1 locs1 hP1 hk hS1 => ?_)
  have hj := vw_join hP hD hk hFc hP1 (rh_D_any h' hD0.self)
  exact kk H1 locs1 hj.1 hj.2 hS1
end RK
theorem wh_steady_ml : Cond.methodLink RL 178 yX11_steady ∈ rh_all := rh_in (rh_t4 (List.mem_of_getElem? (i := 168) rfl)) rfl
theorem wh_steady_im : Cond.instanceMethod yX11_steady ∈ rh_all := rh_in (rh_t4 (List.mem_of_getElem? (i := 169) rfl)) rfl
theorem wh_steady_se : Cond.selects RX11 yX11_steady yX11_steady ∈ rh_all := rh_in (rh_t4 (List.mem_of_getElem? (i := 170) rfl)) rfl
theorem wh_steady_co : Cond.code yX11_steady cX11_steady 3 (some .int) ∈ rh_all := rh_in (rh_t4 (List.mem_of_getElem? (i := 171) rfl)) rfl
theorem yk_steady : rh_yok yX11_steady 1 := by unfold rh_yok; decide +kernel
section LKS
variable {p : Program} {l : Launch} {e : Env} {s : State} {m : MethodId} {below : List Frame} {meth : Method} {c : Code} {b L : Nat} {xs : Nat → Int32} {D : va_G} {dT : Nat → ClassId} {z0 z1 a0 qo : Nat} {aM aC : Nat → Nat} {k : Nat} {Q : State → Prop} {H : Heap} {locs : List Loc} {ls : Array Slot} {cells slots pc : Nat} {st : List Value}
theorem lk_caseS {xx : rh_L} {sv : Option Nat} {hc : HI} {gc : Nat → Nat → Int64} {hm : HI} {gm : Nat → Nat → Int64} {rd : Option Nat} {fo : Nat → Int64} (K : lk_K p l s m c b L xs D dT z0 z1) (m1 : aM 1000 = z0) (m2 : aM 1001 = z1) (hk : 5 * k + 5 ≤ L) (I : lk_I s D dT z0 z1 a0 qo aM k aC xx sv hc gc hm gm rd fo H locs) (hl : lv_has ls 7 (lk_lv b a0 (aM 0) qo k)) (N : lk_N p l e s m below meth c b D dT z0 z1 a0 qo aM k Q) (d0 : decode code pc = .ok (.aload_n 1, 1)) (f1 : dld (pc + 1) 1) (dq : decode code (pc + 1 + 6) = .ok (.invokevirtual 178, 3)) (d2 : decode code (pc + 1 + 6 + 3) = .ok (.aload_n 2, 1)) (g1 : dld (pc + 1 + 6 + 3 + 1) 1) (q2 : rh_Call RL code 7 (pc + 1 + 6 + 3 + 1 + 6) (rh_PT 270).1 (rh_PT 270).2.1 (rh_PT 270).2.2.1 (rh_PT 270).2.2.2.1 2 (some 11)) {off : Int} (d3 : decode code (pc + 1 + 6 + 3 + 1 + 6 + 3) = .ok (.if_icmp .eq off, 3)) (ht : ((pc + 1 + 6 + 3 + 1 + 6 + 3 : Nat) : Int) + off = ((2135 : Nat) : Int)) : W p l e room_1 s m #[Value.ref b] below meth c H locs (74 + xx.length + k) (70000 + 4000 * xx.length + 6 * k) Q (F0 m pc ls []) := by
  obtain ⟨ok, ⟨n, Pm, B, V, hR⟩, e0, e1, e2, hP, hD, hS⟩ := I
  have hL : L ≤ 2560 := K.2.2.2.2.2.2.2.2.2.2.2.2
  have hk5 : k ≤ 511 := by omega
  have hce := lk_rC ok (show k ≤ 512 by omega)
  have hsl := lk_rS ok (show k ≤ 512 by omega)
  have hx := K.1
  have hb := K.2.1
  subst e0
  have q1 : rh_Call RL code 7 (pc + 1 + 6) (rh_PT 134).1 (rh_PT 134).2.1 (rh_PT 134).2.2.1 (rh_PT 134).2.2.2.1 2 (some 10) := rc_V (ci := 10) (N := 13) (C := RX11) (T := TX11) rfl rfl wh_steady_ml wh_steady_im wh_steady_se wh_in wh_steady_co yk_steady (Nat.le_of_ble_eq_true rfl) dq
  refine lv_aload_n hx hb d0 rfl (lv_at hl 1 rfl) ?_
  refine lk_ld K 1 (by omega) (by decide) hl hS f1 ?_
  -- behind the first call, where it has made nothing
  have go : ∀ (y : Int32 × HI) (z : Int32 × HI × (Nat → Nat → Int64) × Option Nat), f_Mo_steady hm gm rd (xs (5 * k + 1)) = some z → y.1 = z.1 → RLt (k + 1) n Pm B V y.2 z.2.1 → rh_Mt rh_PT (cw_L ++ xx) 6 134 [.ref 0, .int (xs (5 * k + 1))] (hc, gc, cw_R sv) (some (.int y.1)) (y.2, gc, cw_R sv) → W p l e room_1 s m #[Value.ref b] below meth c H locs (74 + xx.length + k) (70000 + 4000 * xx.length + 6 * k) Q (F0 m (pc + 1 + 6) ls [.int (xs (5 * k + 1)), .ref (aC 0)]) := by
    intro y z ez h1 hR' hM
    have M2 := R_Mo_steady 30 rd hm gm (xs (5 * k + 1)) ez
    rw [← h1] at M2
    refine rk_callT (r := []) (a := [.ref 0, .int (xs (5 * k + 1))]) (lk_C K e1 e2) (fun _ h => h) hM q1 (show (cw_L ++ xx)[0]? = some (.inr 10) from rfl) (Nat.le_of_ble_eq_true rfl) (Nat.le_of_ble_eq_true rfl) hce hsl hP hD hS hl.1 (Nat.le_of_ble_eq_true rfl) (fun H1 locs1 hP hD hS => ?_)
    show W _ _ _ _ _ _ _ _ _ _ _ _ _ _ _ (F0 m (pc + 1 + 6 + 3) ls [.int y.1])
    refine lv_aload_n hx hb d2 rfl (lv_at hl 2 rfl) ?_
    refine lk_ld K 1 (by omega) (by decide) hl hS g1 ?_
    refine lc_M (a := [.int (xs (5 * k + 1))]) (st := [.int y.1]) K m1 m2 M2 q2 hce hsl hP hD hS hl.1 (Nat.le_of_ble_eq_true rfl) (fun H2 locs2 hP hD hS => ?_)
    refine lv_icmp_eq (tgt := 2135) hx hb d3 ht (fun _ => ?_) (fun h => absurd rfl h)
    refine W.widen (k := 74 + xx.length + (k + 1)) (n := 70000 + 4000 * xx.length + 6 * (k + 1)) (by omega) (by omega) ?_
    exact N aC xx sv y.2 gc z.2.1 z.2.2.1 z.2.2.2 fo H2 locs2 ls ⟨ok, ⟨n, Pm, B, V, hR'⟩, rfl, e1, e2, hP, hD, hS⟩ hl
  rcases id ok with ⟨rfl, rfl⟩ | ⟨rfl, rfl⟩
  · obtain ⟨y, z, ey, ez, h1, hR'⟩ := op_steady hR (by omega) z42_es gm rd (xs (5 * k + 1))
    rcases st_pre 0 [] none hc gc (xs (5 * k + 1)) ey with hE | ⟨h2, hcc, hto⟩
    · exact go y z ez h1 hR' (st_exM 0 [] none hc gc (xs (5 * k + 1)) hE)
    · have M2 := R_Mo_steady 30 rd hm gm (xs (5 * k + 1)) ez
      rw [← h1] at M2
      have hC := lk_C K e1 e2
      have hK : va_K D vwCl (rh_tys dT) s := hC.2.2.2.2.2.1
      have hZ : rh_Z aC (lk_A s) s s.heap := hC.2.2.2.2.2.2.1
      have hNn : ∀ w ∈ kn_ws, va_Nw w s := K.2.2.2.2.2.2.2.2.2.1
      have hFc : ∀ z, va_A (rh_ws dT aC (cw_L ++ []) (hc, gc, cw_R none)) H.size z → lk_A s z := vw_free hD hS (fun _ h => h)
      have hP0 := (vP_app.mp hP).1
      have hD0 := (vD_app.mp hD).1
      have hZ1 := (hZ.kept (fun z h1 h2 => hS.2.1 z h1 h2)).narrow hFc
      have hce7 : 74 + ([] : rh_L).length + k + 7 ≤ room_1.cells := by show 74 + 0 + k + 7 ≤ 856089; omega
      have hsl7 : 70000 + 4000 * ([] : rh_L).length + 6 * k + 22073 ≤ room_1.slots := by show 70000 + 4000 * 0 + 6 * k + 22073 ≤ 6527838; omega
      refine va_calli (rm_runV (n := 1) (As := [.int (xs (5 * k + 1))]) (rest := []) (b := aC 0) rfl wh_steady_ml wh_steady_im wh_steady_se wh_in wh_steady_co yk_steady dq hC (st_newM 0 hc gc (xs (5 * k + 1)) hcc hto l D dT aC H.size) rfl rfl (show 0 + 6 + 1 ≤ 2048 by omega) (show 8 + (3 + 11) + 40 * (0 + 6) ≤ 84000 by omega) (sx_blind D dT aC (cw_L ++ []) (hc, gc, cw_R none) H.size _) ⟨hce7, hsl7⟩ hl.1 rfl (va_recv hK hP0 (ci := 10) (q0 := 0) rfl (rh_ws_at (L := cw_L ++ []) (o := 0) (k := .inr 10) dT aC (hc, gc, cw_R none) rfl)) (Nat.le_of_ble_eq_true rfl) (fun U hU hW => ⟨rfl, by rw [hU], by rw [hU]; exact hP0, va_K.moved hW.alike hK, hD0.weaken (fun _ _ _ _ => trivial), by rw [hU]; exact hZ1.moved hW.alike, kn_warm hW hNn⟩)) hS (fun z _ hz => hFc z hz) hFc (fun r u t H1 locs1 ht1 hvm hpost hB hle hk1 hS => ?_)
      subst hpost
      obtain ⟨aD, f0, f1', f2', hP1, hD1⟩ := hB
      rw [ht1] at hP1
      obtain ⟨hP, hD⟩ := vw_join hP hD hk1 hFc hP1 hD1
      refine lv_aload_n hx hb d2 rfl (lv_at hl 2 rfl) ?_
      refine lk_ld K 1 (by omega) (by decide) hl hS g1 ?_
      refine lc_M (a := [.int (xs (5 * k + 1))]) (st := [.int y.1]) K m1 m2 M2 q2 hce7 hsl7 hP hD hS hl.1 (Nat.le_of_ble_eq_true rfl) (fun H2 locs2 hP hD hS => ?_)
      refine lv_icmp_eq (tgt := 2135) hx hb d3 ht (fun _ => ?_) (fun h => absurd rfl h)
      refine W.widen (k := 74 + cw_X.length + (k + 1)) (n := 70000 + 4000 * cw_X.length + 6 * (k + 1)) (by show 74 + 0 + k + 7 ≤ 74 + 7 + (k + 1); omega) (by show 70000 + 4000 * 0 + 6 * k + 22073 ≤ 70000 + 4000 * 7 + 6 * (k + 1); omega) ?_
      exact N aD cw_X (some 42) y.2 gc z.2.1 z.2.2.1 z.2.2.2 fo H2 locs2 ls ⟨Or.inr ⟨rfl, rfl⟩, ⟨n, Pm, B, V, hR'⟩, f0, f1'.trans e1, f2'.trans e2, hP, hD, hS⟩ hl
  · obtain ⟨y, z, ey, ez, h1, hR'⟩ := op_steady hR (by omega) (z := fun h => h) (fun _ _ _ _ _ => rfl) gm rd (xs (5 * k + 1))
    exact go y z ez h1 hR' (st_oldM 0 hc gc (xs (5 * k + 1)) ey)
end LKS
