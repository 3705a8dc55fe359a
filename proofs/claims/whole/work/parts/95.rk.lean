/-! a run of R from one place to another is a walk of the machine -/
theorem rk_goes {p : Program} {l : Launch} {e : Env} {R : Room} {s : State} {m : MethodId} {args : Array Value} {below : List Frame} {meth : Method} {c : Code} {H : Heap} {locs : List Loc} {cells slots : Nat} {Q : State → Prop} {pc : Nat} {ls : Array Slot} {rest st0 : List Value} {a : Array Value} {A0 A1 : Nat → Prop} {H0 : Heap} {free : Addr → Prop} {D : va_G} {dT : Nat → ClassId} {adr : Nat → Nat} {L : rh_L} {v : Option Value} {h' : rh_H}
    (hr : va_Run p l e R s m args below meth c H locs cells slots 0 0 (F0 m pc ls st0) rest (rh_Qc D dT adr L A1 v h' a) free) (hS : va_S A0 H0 H locs) (hA : ∀ q, q < H.size → A1 q → A0 q) (hf : ∀ q, free q → A0 q)
    (kk : ∀ (H1 : Heap) (locs1 : List Loc), va_P D vwCl (rh_ws dT adr L h') H1 → (∀ q : Nat, q < H.size → ¬ A1 q → H1[q]? = H[q]?) → va_S A0 H0 H1 locs1 → W p l e R s m args below meth c H1 locs1 cells slots Q (F0 m (pc + 3) ls ((v.map (rh_v adr)).toList ++ rest))) : W p l e R s m args below meth c H locs cells slots Q (F0 m pc ls st0) := by
  intro T hT X
  obtain ⟨v', st₀, t, T', L', h0, X', hL, e1, e2, ⟨⟨hv, hb⟩, hz, hk⟩, st⟩ := hr T hT X
  cases hv
  rw [h0] at hz hk
  obtain ⟨t2, a1, b1⟩ := kk T'.heap (locs ++ L') (by rw [e1]; exact hb) (fun q h1 h2 => by rw [e1]; exact hk q h1 h2)
    ⟨Nat.le_trans hS.1 (by rw [e1]; exact hz), fun q h1 h2 => by rw [e1, hk q (Nat.lt_of_lt_of_le h1 hS.1) (fun z => h2 (hA q (Nat.lt_of_lt_of_le h1 hS.1) z))]; exact hS.2.1 q h1 h2, fun q hq => by
      rcases List.mem_append.mp hq with h | h
      · exact hS.2.2 q h
      · exact hf _ (hL q h)⟩ T' rfl X'
  exact ⟨t2, st t2 a1, b1⟩
section RK
variable {p : Program} {l : Launch} {e : Env} {R : Room} {s : State} {m : MethodId} {args : Array Value} {below : List Frame} {meth : Method} {c : Code} {D : va_G} {dT : Nat → ClassId} {A : Nat → Prop} {adr : Nat → Nat} {own : String} {cc : ByteArray} {nL d : Nat} {cells slots : Nat} {Q : State → Prop}
/-- a call of a method of R's, with other cells beside its world -/
theorem rk_call {L : rh_L} {j pc : Nat} {a : List Value} {h h' : rh_H} {v : Option Value} {rc : Option Nat} (hC : rh_C p s m args c R D dT A adr own cc nL) (hA : ∀ q, s.heap.size ≤ q → A q) (hM : rh_M rh_PT L d j a h v h') (hcall : rh_Call own cc nL pc (rh_PT j).1 (rh_PT j).2.1 (rh_PT j).2.2.1 (rh_PT j).2.2.2.1 a.length rc) (hrc : rh_rc L rc a) (hfr : d + 1 ≤ R.frames) (hlo : 40 * (d + 1) ≤ R.locals) (hce : cells ≤ R.cells) (hsl : slots ≤ R.slots)
    {wb : va_W} {H : Heap} {locs : List Loc} {ls : Array Slot} (hP : va_P D vwCl (rh_ws dT adr L h ++ wb) H) (hD : va_D A (rh_ws dT adr L h ++ wb)) (hS : va_S A s.heap H locs) (hls : ls.size = nL) {r : List Value} (hcs : (r.map fun v => v.category).sum ≤ 8)
    (kk : ∀ (H1 : Heap) (locs1 : List Loc), va_P D vwCl (rh_ws dT adr L h' ++ wb) H1 → va_D A (rh_ws dT adr L h' ++ wb) → va_S A s.heap H1 locs1 → W p l e R s m args below meth c H1 locs1 cells slots Q (F0 m (pc + 3) ls ((v.map (rh_v adr)).toList ++ r))) :
    W p l e R s m args below meth c H locs cells slots Q (F0 m pc ls ((a.map (rh_v adr)).reverse ++ r)) := by
  have hZ : rh_Z adr A s s.heap := hC.2.2.2.2.2.2.1
  have hK : va_K D vwCl (rh_tys dT) s := hC.2.2.2.2.2.1
  have hFc : ∀ z, va_A (rh_ws dT adr L h) H.size z → A z := vw_free hD hS hA
  have hP0 : va_P D vwCl (rh_ws dT adr L h) H := (vP_app.mp hP).1
  have hD0 : va_D A (rh_ws dT adr L h) := (vD_app.mp hD).1
  have hMt := rh_met L d j a h v h' hM l D dT adr H.size
  have hZ1 : rh_Z adr (va_A (rh_ws dT adr L h) H.size) s H := (hZ.kept (fun z h1 h2 => hS.2.1 z h1 h2)).narrow hFc
  have hrun := hcall.2 p l e R s m args below meth c D dT A adr hC _ _ _ (rh_rm d) hMt rfl rfl (show (rh_rm d).frames + 1 ≤ R.frames from hfr) (by have := hcall.1; show 8 + (_ + 11) + 40 * d ≤ R.locals; omega) (rh_blind D dT adr L h H.size a) H locs cells slots ls (a.map (rh_v adr)) r hce hsl hls (by rw [List.length_map])
    (fun ci hci => by
      rw [hci] at hrc
      obtain ⟨z, b', hb', hLz⟩ := rh_rc_some hrc
      obtain ⟨w, hw, -⟩ := hP0 z _ (rh_ws_at dT adr h hLz)
      exact ⟨adr z, b'.map (rh_v adr), w, by rw [hb']; rfl, hw, va_recv hK hP0 hw (rh_ws_at dT adr h hLz)⟩)
    hcs
    (fun U hU hW => ⟨rfl, by rw [hU], by rw [hU]; exact hP0, va_K.moved hW.alike hK, hD0.weaken (fun _ _ _ _ => trivial), by rw [hU]; exact hZ1.moved hW.alike⟩)
  refine rk_goes hrun hS (fun z _ hz => hFc z hz) hFc (fun H1 locs1 hP1 hk hS1 => ?_)
  have hj := vw_join hP hD hk hFc hP1 (rh_D_any h' hD0.self)
  exact kk H1 locs1 hj.1 hj.2 hS1
theorem rk_to {L : rh_L} {P : rh_P} {ret : Option FieldType} (hent : ∀ q ∈ P, rh_Ent rh_PT own cc nL ret q) (hC : rh_C p s m args c R D dT A adr own cc nL) (hA : ∀ q, s.heap.size ≤ q → A q) (hfr : d + 1 ≤ R.frames) (hlo : 40 * (d + 1) ≤ R.locals) (hce : cells ≤ R.cells) (hsl : slots ≤ R.slots) {t : rh_S}
    (kk : ∀ (H : Heap) (locs : List Loc) (ls : Array Slot), rh_G D dT adr A L t.2 s.heap H locs → lv_has ls nL (rh_lv adr 0 t.1.2.1) → W p l e R s m args below meth c H locs cells slots Q (F0 m t.1.1 ls (t.1.2.2.map (rh_v adr)))) :
    ∀ (n : Nat) (fr : rh_S), rh_to (rh_M rh_PT L d) L P n fr t → ∀ (H : Heap) (locs : List Loc) (ls : Array Slot), rh_G D dT adr A L fr.2 s.heap H locs → lv_has ls nL (rh_lv adr 0 fr.1.2.1) → W p l e R s m args below meth c H locs cells slots Q (F0 m fr.1.1 ls (fr.1.2.2.map (rh_v adr))) := by
  intro n
  induction n with
  | zero =>
    intro fr hn H locs ls hG hl
    have hn : fr = t := hn
    subst hn
    exact kk H locs ls hG hl
  | succ n ih =>
    intro fr hn H locs ls hG hl
    obtain ⟨⟨pc, lv, st⟩, h0⟩ := fr
    unfold rh_to at hn
    obtain ⟨lv0, hlf, hn⟩ := hn
    replace hl := rh_lf_has hlf hl
    split at hn
    · exact hn.elim
    · next f hf =>
      obtain ⟨⟨fr', h1⟩, hs', hn⟩ := hn
      have hsnd : rh_Snd own cc nL pc f := hent (pc, .inl f) (rh_at_mem P pc _ hf)
      exact hsnd p l e R s m args below meth c D dT A adr _ L lv0 st h0 fr' h1 hC hs' H locs ls cells slots hce hsl hG hl (fun H' locs' ls' hG' hl' => ih (fr', h1) hn H' locs' ls' hG' hl')
    · next q hq =>
      obtain ⟨b, r, u, h1, hst, hbl, hrc, hcs, hR, hn⟩ := hn
      have hcall : rh_Call own cc nL pc (rh_PT q.1).1 (rh_PT q.1).2.1 (rh_PT q.1).2.2.1 (rh_PT q.1).2.2.2.1 q.2.1 q.2.2 := hent (pc, .inr (.inl q)) (rh_at_mem P pc _ hq)
      rw [← hbl] at hcall
      obtain ⟨hP0, hD, hS⟩ := hG
      have hst' : st.map (rh_v adr) = (b.map (rh_v adr)).reverse ++ r.map (rh_v adr) := by
        have hst : st = b.reverse ++ r := hst
        rw [hst, List.map_append, List.map_reverse]
      show W _ _ _ _ _ _ _ _ _ _ _ _ _ _ _ (F0 m pc ls (st.map (rh_v adr)))
      rw [hst']
      refine rk_call (wb := []) hC hA hR hcall hrc hfr hlo hce hsl (by rw [List.append_nil]; exact hP0) (by rw [List.append_nil]; exact hD) hS hl.1 (by rw [rh_cs_map]; exact hcs) (fun H1 locs1 hP1 hD1 hS1 => ?_)
      rw [List.append_nil] at hP1 hD1
      have := ih _ hn H1 locs1 ls ⟨hP1, hD1, hS1⟩ hl
      have e3 : (u.toList ++ r).map (rh_v adr) = (u.map (rh_v adr)).toList ++ r.map (rh_v adr) := by cases u <;> simp
      rw [← e3]
      exact this
    · exact hn.elim
theorem rk_To {L : rh_L} {P : rh_P} {ret : Option FieldType} (hent : ∀ q ∈ P, rh_Ent rh_PT own cc nL ret q) (hC : rh_C p s m args c R D dT A adr own cc nL) (hA : ∀ q, s.heap.size ≤ q → A q) (hfr : d + 1 ≤ R.frames) (hlo : 40 * (d + 1) ≤ R.locals) (hce : cells ≤ R.cells) (hsl : slots ≤ R.slots) {fr t : rh_S} (ht : rh_To (rh_M rh_PT L d) L P fr t) {H : Heap} {locs : List Loc} {ls : Array Slot} (hG : rh_G D dT adr A L fr.2 s.heap H locs) (hl : lv_has ls nL (rh_lv adr 0 fr.1.2.1))
    (kk : ∀ (H : Heap) (locs : List Loc) (ls : Array Slot), rh_G D dT adr A L t.2 s.heap H locs → lv_has ls nL (rh_lv adr 0 t.1.2.1) → W p l e R s m args below meth c H locs cells slots Q (F0 m t.1.1 ls (t.1.2.2.map (rh_v adr)))) : W p l e R s m args below meth c H locs cells slots Q (F0 m fr.1.1 ls (fr.1.2.2.map (rh_v adr))) := by
  obtain ⟨n, hn⟩ := ht
  exact rk_to hent hC hA hfr hlo hce hsl kk n fr hn H locs ls hG hl
/-- .. with the end, of a method that answers an int -/
theorem rk_Ex {L : rh_L} {P : rh_P} (hent : ∀ q ∈ P, rh_Ent rh_PT own cc nL (some .int) q) (hC : rh_C p s m args c R D dT A adr own cc nL) (hA : ∀ q, s.heap.size ≤ q → A q) (hfr : d + 1 ≤ R.frames) (hlo : 40 * (d + 1) ≤ R.locals) (hce : cells ≤ R.cells) (hsl : slots ≤ R.slots) (hre : meth.sig.returnType = some .int) (hlocks : meth.locks = false) {fr : rh_S} {x : Int32} {h' : rh_H} (ht : rh_Ex (rh_M rh_PT L d) L P fr (some (.int x)) h') {H : Heap} {locs : List Loc} {ls : Array Slot} (hG : rh_G D dT adr A L fr.2 s.heap H locs) (hl : lv_has ls nL (rh_lv adr 0 fr.1.2.1)) {Qc : Array Value → State → Outcome → State → Prop}
    (hq : ∀ (H1 : Heap) (locs1 : List Loc) (t : State), rh_G D dT adr A L h' s.heap H1 locs1 → t.heap = H1 → s.WarmedH t.vm → Qc args s (.returned (some (.int x))) t) : W p l e R s m args below meth c H locs cells slots (MQ below Qc args s cells slots A) (F0 m fr.1.1 ls (fr.1.2.2.map (rh_v adr))) := by
  obtain ⟨n, hn⟩ := ht
  obtain ⟨t, k, hto, hat, hret, rfl⟩ := rh_run_to n fr _ _ hn
  refine rk_To hent hC hA hfr hlo hce hsl hto hG hl (fun H1 locs1 ls1 hG1 hl1 => ?_)
  obtain ⟨⟨pc, lv, st⟩, h1⟩ := t
  have hend := hent (pc, .inr (.inr k)) (rh_at_mem P pc _ hat)
  have hret : rh_ret k st (some (.int x)) := hret
  rcases hend with ⟨rfl, hd, hr9⟩ | ⟨rfl, hd, hr9⟩ | ⟨rfl, hd, hr9⟩ | ⟨rfl, hd, hr9⟩
  · cases hr9
  · obtain ⟨x', rfl, hx'⟩ := rh_ret1 hret
    cases hx'
    exact W.iret (v := x) hC.1 hC.2.1 hre (fun t ht hW => hq H1 locs1 t hG1 ht hW) hG1.2.2.2.2 hd hlocks
  · cases hr9
  · cases hr9
end RK
