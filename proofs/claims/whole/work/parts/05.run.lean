/-! runs of R, and that what a run says of a method is its contract -/
abbrev rh_MI : Type := MethodName × ByteArray × Nat × Option FieldType × rh_P
def rh_ea : List Value → List (Option Value)
  | [] => []
  | .long x :: vs => some (.long x) :: none :: rh_ea vs
  | .double x :: vs => some (.double x) :: none :: rh_ea vs
  | v :: vs => some v :: rh_ea vs
def rh_ent (nL : Nat) (a : List Value) : List (Option Value) := rh_ea a ++ List.replicate (nL - (rh_ea a).length) none
def rh_rc (L : rh_L) : Option Nat → List Value → Prop
  | none, _ => True
  | some ci, .ref q :: _ => L[q]? = some (.inr ci)
  | some _, _ => False
def rh_ret : Nat → List Value → Option Value → Prop
  | 0, [], none => True
  | 1, [.int x], some (.int y) => x = y
  | 2, [.int x], some (.int y) => x = y ∧ (x = 0 ∨ x = 1)
  | 3, [.long x], some (.long y) => x = y
  | _, _, _ => False
/-- of the locals that one list knows, the other knows as much -/
def rh_lf : List (Option Value) → List (Option Value) → Prop
  | [], _ => True
  | none :: a, _ :: b => rh_lf a b
  | some x :: a, some y :: b => x = y ∧ rh_lf a b
  | _, _ => False
theorem rh_lf_rf : ∀ a : List (Option Value), rh_lf a a
  | [] => trivial
  | none :: a => rh_lf_rf a
  | some _ :: a => ⟨rfl, rh_lf_rf a⟩
theorem rh_lf_tr : ∀ a b c : List (Option Value), rh_lf a b → rh_lf b c → rh_lf a c
  | [], _, _, _, _ => trivial
  | none :: a, [], c, h, _ => h.elim
  | none :: a, y :: b, [], _, h2 => by cases y <;> exact h2.elim
  | none :: a, none :: b, z :: c, h, h2 => rh_lf_tr a b c h h2
  | none :: a, some y :: b, none :: c, h, h2 => h2.elim
  | none :: a, some y :: b, some z :: c, h, h2 => rh_lf_tr a b c h h2.2
  | some x :: a, [], c, h, _ => h.elim
  | some x :: a, none :: b, c, h, _ => h.elim
  | some x :: a, some y :: b, [], h, h2 => h2.elim
  | some x :: a, some y :: b, none :: c, h, h2 => h2.elim
  | some x :: a, some y :: b, some z :: c, h, h2 => ⟨h.1.trans h2.1, rh_lf_tr a b c h.2 h2.2⟩
theorem rh_lf_in (adr : Nat → Nat) : ∀ (a b : List (Option Value)) (j : Nat) (q : Nat × Value), rh_lf a b → q ∈ rh_lv adr j a → q ∈ rh_lv adr j b
  | [], _, _, _, _, h => by simp [rh_lv] at h
  | none :: a, [], _, _, h, _ => h.elim
  | none :: a, y :: b, j, q, h, hq => (rh_mem_c adr y j b q).mpr (Or.inr (rh_lf_in adr a b (j + 1) q h hq))
  | some x :: a, [], _, _, h, _ => h.elim
  | some x :: a, none :: b, _, _, h, _ => h.elim
  | some x :: a, some y :: b, j, q, h, hq => by
    obtain ⟨rfl, h⟩ := h
    rcases (rh_mem_c adr (some x) j a q).mp hq with hq | hq
    · exact (rh_mem_c adr (some x) j b q).mpr (Or.inl hq)
    · exact (rh_mem_c adr (some x) j b q).mpr (Or.inr (rh_lf_in adr a b (j + 1) q h hq))
theorem rh_lf_has {adr : Nat → Nat} {ls : Array Slot} {nL : Nat} {a b : List (Option Value)} (h : rh_lf a b) (hl : lv_has ls nL (rh_lv adr 0 b)) : lv_has ls nL (rh_lv adr 0 a) := ⟨hl.1, hl.2.1, fun q hq => hl.2.2 q (rh_lf_in adr a b 0 q h hq)⟩
def rh_run (R : Nat → List Value → rh_H → Option Value → rh_H → Prop) (L : rh_L) (P : rh_P) : Nat → rh_S → Option Value → rh_H → Prop
  | 0, _, _, _ => False
  | n + 1, s, v, h' => ∃ lv, rh_lf lv s.1.2.1 ∧ match rh_at P s.1.1 with
    | none => False
    | some (.inl f) => ∃ s', f L ((s.1.1, lv, s.1.2.2), s.2) = some s' ∧ rh_run R L P n s' v h'
    | some (.inr (.inl c)) => ∃ a r u h1, s.1.2.2 = a.reverse ++ r ∧ a.length = c.2.1 ∧ rh_rc L c.2.2 a ∧ rh_cs r ≤ 8 ∧ R c.1 a s.2 u h1 ∧ rh_run R L P n ((s.1.1 + 3, lv, u.toList ++ r), h1) v h'
    | some (.inr (.inr t)) => rh_ret t s.1.2.2 v ∧ h' = s.2
def rh_Ex (R : Nat → List Value → rh_H → Option Value → rh_H → Prop) (L : rh_L) (P : rh_P) (s : rh_S) (v : Option Value) (h' : rh_H) : Prop := ∃ n, rh_run R L P n s v h'
def rh_M (PT : Nat → rh_MI) (L : rh_L) : Nat → Nat → List Value → rh_H → Option Value → rh_H → Prop
  | 0, _, _, _, _, _ => False
  | d + 1, j, a, h, v, h' => (rh_ea a).length ≤ (PT j).2.2.1 ∧ rh_Ex (rh_M PT L d) L (PT j).2.2.2.2 ((0, rh_ent (PT j).2.2.1 a, []), h) v h'
def rh_stn (L : rh_L) (P : rh_P) : Nat → rh_S → Option rh_S
  | 0, s => some s
  | k + 1, s => match rh_at P s.1.1 with
    | some (.inl f) => match f L s with
      | some s' => rh_stn L P k s'
      | none => none
    | _ => none
section EX
variable {R : Nat → List Value → rh_H → Option Value → rh_H → Prop} {L : rh_L} {P : rh_P} {s s' : rh_S} {v : Option Value} {h' : rh_H}
theorem rh_Ex.blk (k : Nat) (h : rh_stn L P k s = some s') (kk : rh_Ex R L P s' v h') : rh_Ex R L P s v h' := by
  induction k generalizing s with
  | zero => cases h; exact kk
  | succ k ih =>
    unfold rh_stn at h
    split at h
    · next f hf =>
      split at h
      · next s1 h1 =>
        obtain ⟨n, hn⟩ := ih h
        refine ⟨n + 1, ?_⟩
        unfold rh_run
        refine ⟨s.1.2.1, rh_lf_rf _, ?_⟩
        rw [hf]
        exact ⟨s1, h1, hn⟩
      · cases h
    · cases h
theorem rh_Ex.call {pc : Nat} {lv : List (Option Value)} {st : List Value} {h h1 : rh_H} {j : Nat} {rc : Option Nat} (a r : List Value) (u : Option Value) (hp : rh_at P pc = some (.inr (.inl (j, a.length, rc)))) (hs : st = a.reverse ++ r) (hrc : rh_rc L rc a) (hcs : rh_cs r ≤ 8) (hR : R j a h u h1) (kk : rh_Ex R L P ((pc + 3, lv, u.toList ++ r), h1) v h') : rh_Ex R L P ((pc, lv, st), h) v h' := by
  obtain ⟨n, hn⟩ := kk
  refine ⟨n + 1, ?_⟩
  unfold rh_run
  refine ⟨lv, rh_lf_rf _, ?_⟩
  dsimp only
  rw [hp]
  exact ⟨a, r, u, h1, hs, rfl, hrc, hcs, hR, hn⟩
theorem rh_Ex.ret {pc t : Nat} {lv : List (Option Value)} {st : List Value} {h : rh_H} (hp : rh_at P pc = some (.inr (.inr t))) (hr : rh_ret t st v) : rh_Ex R L P ((pc, lv, st), h) v h := by
  refine ⟨1, ?_⟩
  unfold rh_run
  refine ⟨lv, rh_lf_rf _, ?_⟩
  dsimp only
  rw [hp]
  exact ⟨hr, rfl⟩
/-- locals that aren't asked for any more are let go -/
theorem rh_Ex.fgt {pc : Nat} {lv : List (Option Value)} (lv0 : List (Option Value)) {st : List Value} {h : rh_H} (hf : rh_lf lv0 lv) (kk : rh_Ex R L P ((pc, lv0, st), h) v h') : rh_Ex R L P ((pc, lv, st), h) v h' := by
  obtain ⟨n, hn⟩ := kk
  cases n with
  | zero => exact hn.elim
  | succ n =>
    unfold rh_run at hn
    obtain ⟨lv1, h1, hn⟩ := hn
    refine ⟨n + 1, ?_⟩
    unfold rh_run
    exact ⟨lv1, rh_lf_tr _ _ _ h1 hf, hn⟩
end EX
theorem rh_ea_in (adr : Nat → Nat) : ∀ (a : List Value) (j : Nat) (q : Nat × Value), q ∈ rh_lv adr j (rh_ea a) → q ∈ lv_args j (a.map (rh_v adr))
  | [], j, q, h => by simp [rh_ea, rh_lv] at h
  | v :: vs, j, q, h => by
    cases v with
    | long x =>
      simp only [rh_ea, rh_lv] at h
      rcases List.mem_cons.mp h with h | h
      · rw [h]; exact List.mem_cons_self
      · exact List.mem_cons_of_mem _ (rh_ea_in adr vs (j + 2) q h)
    | double x =>
      simp only [rh_ea, rh_lv] at h
      rcases List.mem_cons.mp h with h | h
      · rw [h]; exact List.mem_cons_self
      · exact List.mem_cons_of_mem _ (rh_ea_in adr vs (j + 2) q h)
    | _ =>
      simp only [rh_ea, rh_lv] at h
      rcases List.mem_cons.mp h with h | h
      · rw [h]; exact List.mem_cons_self
      · exact List.mem_cons_of_mem _ (rh_ea_in adr vs (j + 1) q h)
theorem rh_lv_app (adr : Nat → Nat) : ∀ (l : List (Option Value)) (n j : Nat) (q : Nat × Value), q ∈ rh_lv adr j (l ++ List.replicate n none) → q ∈ rh_lv adr j l
  | [], n, j, q, h => by
    induction n generalizing j with
    | zero => exact h
    | succ n ih => exact ih (j + 1) h
  | none :: l, n, j, q, h => rh_lv_app adr l n (j + 1) q h
  | some v :: l, n, j, q, h => by
    rcases List.mem_cons.mp h with h | h
    · rw [h]; exact List.mem_cons_self
    · exact List.mem_cons_of_mem _ (rh_lv_app adr l n (j + 1) q h)
theorem rh_ent_has {adr : Nat → Nat} {ls : Array Slot} {nL : Nat} {a : List Value} (h : lv_has ls nL (lv_args 0 (a.map (rh_v adr)))) : lv_has ls nL (rh_lv adr 0 (rh_ent nL a)) := ⟨h.1, h.2.1, fun q hq => h.2.2 q (rh_ea_in adr a 0 q (rh_lv_app adr _ _ 0 q hq))⟩
theorem rh_D_any {A : Nat → Prop} {dT : Nat → ClassId} {adr : Nat → Nat} {L : rh_L} {h : rh_H} (h' : rh_H) (hD : va_D A (rh_ws dT adr L h)) : va_D A (rh_ws dT adr L h') := by
  have key : ∀ (k : Nat) (q : Nat × va_E), (rh_ws dT adr L h')[k]? = some q → ∃ q0, (rh_ws dT adr L h)[k]? = some q0 ∧ q0.1 = q.1 := by
    intro k q hq
    cases hL : L[k]? with
    | none => simp [rh_ws, hL] at hq
    | some z =>
      rw [rh_ws_at dT adr h' hL] at hq
      cases hq
      exact ⟨_, rh_ws_at dT adr h hL, rfl⟩
  refine ⟨fun i j x y hi hj hxy => ?_, fun k q hk => ?_⟩
  · obtain ⟨x0, h1, h2⟩ := key i x hi
    obtain ⟨y0, h3, h4⟩ := key j y hj
    exact hD.1 i j x0 y0 h1 h3 (h2.trans (hxy.trans h4.symm))
  · obtain ⟨q0, h1, h2⟩ := key k q hk
    rw [← h2]
    exact hD.2 k q0 h1
theorem rh_A_any {dT : Nat → ClassId} {adr : Nat → Nat} {L : rh_L} (h h' : rh_H) {sz q : Nat} (hq : va_A (rh_ws dT adr L h') sz q) : va_A (rh_ws dT adr L h) sz q := by
  rcases hq with ⟨k, e, hk⟩ | hq
  · cases hL : L[k]? with
    | none => simp [rh_ws, hL] at hk
    | some z =>
      rw [rh_ws_at dT adr h' hL] at hk
      cases hk
      exact Or.inl ⟨k, _, rh_ws_at dT adr h hL⟩
  · exact Or.inr hq
theorem rh_dec_moved {u U : State} (hvm : u.vm.Alike U.vm) (h : ∀ w ∈ rh_dec, va_Nw w u) : ∀ w ∈ rh_dec, va_Nw w U := by
  intro w hw
  have hu := h w hw
  simp only [rh_dec, List.mem_cons, List.not_mem_nil, or_false] at hw
  rcases hw with rfl | rfl | rfl <;> exact va_tabs rfl (rfl : (u.setVm U.vm).vm = U.vm) (by rw [Cond.declares_setVm hvm]; exact hu)
theorem rh_Z.moved {adr : Nat → Nat} {A : Nat → Prop} {u U : State} {H : Heap} (hvm : u.vm.Alike U.vm) (h : rh_Z adr A u H) : rh_Z adr A U H := ⟨⟨va_Z.moved hvm h.1.1, va_T.moved hvm h.1.2⟩, va_Z.moved hvm h.2.1, va_T.moved hvm h.2.2.1, rh_dec_moved hvm h.2.2.2⟩
theorem rh_Z.kept {adr : Nat → Nat} {A : Nat → Prop} {U : State} {H H1 : Heap} (h : rh_Z adr A U H) (hq : ∀ a : Nat, a < H.size → ¬ A a → H1[a]? = H[a]?) : rh_Z adr A U H1 := ⟨⟨va_Z.kept h.1.1 hq, va_T.kept h.1.2 hq⟩, va_Z.kept h.2.1 hq, va_T.kept h.2.2.1 hq, h.2.2.2⟩
theorem rh_Z.narrow {adr : Nat → Nat} {A B : Nat → Prop} {U : State} {H : Heap} (h : rh_Z adr A U H) (hAB : ∀ q, B q → A q) : rh_Z adr B U H := ⟨⟨va_Z.narrow h.1.1 hAB, va_T.narrow h.1.2 hAB⟩, va_Z.narrow h.2.1 hAB, va_T.narrow h.2.2.1 hAB, h.2.2.2⟩
def rh_rm (d : Nat) : Room := { frames := d, cells := 0, slots := 0, locals := 40 * d }
def rh_Pc (D : va_G) (dT : Nat → ClassId) (adr : Nat → Nat) (L : rh_L) (h : rh_H) (sz : Nat) (a : List Value) : Array Value → State → Prop := va_Pc (a.map (rh_v adr)) (fun U => U.heap.size = sz ∧ va_P D vwCl (rh_ws dT adr L h) U.heap ∧ va_K D vwCl (rh_tys dT) U ∧ va_D (fun _ => True) (rh_ws dT adr L h) ∧ rh_Z adr (va_A (rh_ws dT adr L h) sz) U U.heap)
def rh_Qc (D : va_G) (dT : Nat → ClassId) (adr : Nat → Nat) (L : rh_L) (A : Nat → Prop) (v : Option Value) (h' : rh_H) : Array Value → State → Outcome → State → Prop := fun _ st oc t => (oc = .returned (v.map (rh_v adr)) ∧ va_P D vwCl (rh_ws dT adr L h') t.heap) ∧ va_F A st t
theorem rh_blind (D : va_G) (dT : Nat → ClassId) (adr : Nat → Nat) (L : rh_L) (h : rh_H) (sz : Nat) (a : List Value) : FrameBlind (rh_Pc D dT adr L h sz a) := by
  intro b U g mk q
  obtain ⟨q0, q1, qP, qK, qD, qZ⟩ := q
  exact ⟨q0, q1, qP, va_K.moved (u := U) (U := U.calling g mk b) (Vm.Alike.refl U.vm) qK, qD, rh_Z.moved (u := U) (U := U.calling g mk b) (Vm.Alike.refl U.vm) qZ⟩
def rh_Mt (PT : Nat → rh_MI) (L : rh_L) (d j : Nat) (a : List Value) (h : rh_H) (v : Option Value) (h' : rh_H) : Prop := ∀ (l : Launch) (D : va_G) (dT : Nat → ClassId) (adr : Nat → Nat) (sz : Nat), Met l (PT j).1 (.code (PT j).1 (PT j).2.1 (PT j).2.2.1 (PT j).2.2.2.1 :: rh_all) (rh_rm d) (rh_Pc D dT adr L h sz a) (rh_Qc D dT adr L (va_A (rh_ws dT adr L h) sz) v h') 0 0 (va_A (rh_ws dT adr L h) sz)
/-- what a call's instruction asks of the tables, as one fact: a contract of the callee gives the run of the call -/
def rh_Call (own : String) (cc : ByteArray) (nL pc : Nat) (y : MethodName) (bytes : ByteArray) (maxL : Nat) (ret : Option FieldType) (n : Nat) (rc : Option Nat) : Prop := maxL ≤ 21 ∧ ∀ (p : Program) (l : Launch) (e : Env) (R : Room) (s : State) (m : MethodId) (args : Array Value) (below : List Frame) (meth : Method) (c : Code) (D : va_G) (dT : Nat → ClassId) (A : Nat → Prop) (adr : Nat → Nat), rh_C p s m args c R D dT A adr own cc nL →
  ∀ (Pc : Array Value → State → Prop) (Qc : Array Value → State → Outcome → State → Prop) (free : Addr → Prop) (rm : Room), Met l y (.code y bytes maxL ret :: rh_all) rm Pc Qc 0 0 free → rm.cells = 0 → rm.slots = 0 → rm.frames + 1 ≤ R.frames → 8 + (maxL + 11) + rm.locals ≤ R.locals → FrameBlind Pc →
  ∀ (H : Heap) (locs : List Loc) (cells slots : Nat) (ls : Array Slot) (As rest : List Value), cells ≤ R.cells → slots ≤ R.slots → ls.size = nL → As.length = n →
    (∀ ci, rc = some ci → ∃ (b : Nat) (As' : List Value) (q : vw_C), As = .ref b :: As' ∧ vwCl[ci]? = some q ∧ ∃ cell : Cell, H[b]? = some cell ∧ cell.vm.isStatics = false ∧ s.vm.findClass q.1 = some cell.cls) →
    (rest.map fun v => v.category).sum ≤ 8 → (∀ U : State, U.heap = H → s.WarmedH U.vm → Pc As.toArray U) →
    va_Run p l e R s m args below meth c H locs cells slots 0 0 (F0 m pc ls (As.reverse ++ rest)) rest (Qc As.toArray) free
def rh_Ent (PT : Nat → rh_MI) (own : String) (cc : ByteArray) (nL : Nat) (ret : Option FieldType) (q : Nat × rh_E) : Prop := match q.2 with
  | .inl f => rh_Snd own cc nL q.1 f
  | .inr (.inl c) => rh_Call own cc nL q.1 (PT c.1).1 (PT c.1).2.1 (PT c.1).2.2.1 (PT c.1).2.2.2.1 c.2.1 c.2.2
  | .inr (.inr t) => (t = 0 ∧ decode cc q.1 = .ok (.return_, 1) ∧ ret = none) ∨ (t = 1 ∧ decode cc q.1 = .ok (.ireturn, 1) ∧ ret = some .int) ∨ (t = 2 ∧ decode cc q.1 = .ok (.ireturn, 1) ∧ ret = some .boolean) ∨ (t = 3 ∧ decode cc q.1 = .ok (.lreturn, 1) ∧ ret = some .long)
theorem rh_at_mem : ∀ (P : rh_P) (pc : Nat) (e : rh_E), rh_at P pc = some e → (pc, e) ∈ P
  | [], pc, e, h => by simp [rh_at] at h
  | (k, e0) :: P, pc, e, h => by
    unfold rh_at at h
    cases hb : Nat.beq k pc with
    | true =>
      rw [hb] at h
      have e1 : k = pc := Nat.eq_of_beq_eq_true hb
      subst e1
      cases h
      exact List.mem_cons_self
    | false =>
      rw [hb] at h
      exact List.mem_cons_of_mem _ (rh_at_mem P pc e h)
/-- behind a call -/
theorem rh_goes {p : Program} {l : Launch} {e : Env} {R : Room} {s : State} {m : MethodId} {args : Array Value} {below : List Frame} {meth : Method} {c : Code} {H : Heap} {locs : List Loc} {cells slots : Nat} {Q : State → Prop} {pc : Nat} {ls : Array Slot} {rest st0 : List Value} {a : Array Value} {A0 A1 : Nat → Prop} {H0 : Heap} {free : Addr → Prop} {D : va_G} {dT : Nat → ClassId} {adr : Nat → Nat} {L : rh_L} {v : Option Value} {h' : rh_H}
    (hr : va_Run p l e R s m args below meth c H locs cells slots 0 0 (F0 m pc ls st0) rest (rh_Qc D dT adr L A1 v h' a) free) (hS : va_S A0 H0 H locs) (hA : ∀ q, q < H.size → A1 q → A0 q) (hf : ∀ q, free q → A0 q)
    (kk : ∀ (H1 : Heap) (locs1 : List Loc), va_P D vwCl (rh_ws dT adr L h') H1 → va_S A0 H0 H1 locs1 → W p l e R s m args below meth c H1 locs1 cells slots Q (F0 m (pc + 3) ls ((v.map (rh_v adr)).toList ++ rest))) : W p l e R s m args below meth c H locs cells slots Q (F0 m pc ls st0) := by
  intro T hT X
  obtain ⟨v', st₀, t, T', L', h0, X', hL, e1, e2, ⟨⟨hv, hb⟩, hz, hk⟩, st⟩ := hr T hT X
  cases hv
  rw [h0] at hz hk
  obtain ⟨t2, a1, b1⟩ := kk T'.heap (locs ++ L') (by rw [e1]; exact hb)
    ⟨Nat.le_trans hS.1 (by rw [e1]; exact hz), fun q h1 h2 => by rw [e1, hk q (Nat.lt_of_lt_of_le h1 hS.1) (fun z => h2 (hA q (Nat.lt_of_lt_of_le h1 hS.1) z))]; exact hS.2.1 q h1 h2, fun q hq => by
      rcases List.mem_append.mp hq with h | h
      · exact hS.2.2 q h
      · exact hf _ (hL q h)⟩ T' rfl X'
  exact ⟨t2, st t2 a1, b1⟩
theorem rh_ret0 {st : List Value} {v : Option Value} (h : rh_ret 0 st v) : st = [] ∧ v = none := by
  unfold rh_ret at h
  split at h <;> simp_all
theorem rh_ret1 {st : List Value} {v : Option Value} (h : rh_ret 1 st v) : ∃ x, st = [.int x] ∧ v = some (.int x) := by
  unfold rh_ret at h
  split at h <;> simp_all
theorem rh_ret2 {st : List Value} {v : Option Value} (h : rh_ret 2 st v) : ∃ x, st = [.int x] ∧ v = some (.int x) ∧ (x = 0 ∨ x = 1) := by
  unfold rh_ret at h
  split at h <;> first | (simp_all; done) | (obtain ⟨rfl, h⟩ := h; exact ⟨_, rfl, rfl, h⟩)
theorem rh_ret3 {st : List Value} {v : Option Value} (h : rh_ret 3 st v) : ∃ x, st = [.long x] ∧ v = some (.long x) := by
  unfold rh_ret at h
  split at h <;> simp_all
theorem rh_rc_some {L : rh_L} {ci : Nat} {a : List Value} (h : rh_rc L (some ci) a) : ∃ q a', a = .ref q :: a' ∧ L[q]? = some (.inr ci) := by
  unfold rh_rc at h
  split at h <;> simp_all
theorem rh_sl_len (adr : Nat → Nat) : ∀ a : List Value, (lg_sl (a.map (rh_v adr))).length = (rh_ea a).length
  | [] => rfl
  | v :: vs => by
    have ih := rh_sl_len adr vs
    have e : lg_sl ((v :: vs).map (rh_v adr)) = (if (rh_v adr v).category = 2 then [Slot.val (rh_v adr v), Slot.second] else [Slot.val (rh_v adr v)]) ++ lg_sl (vs.map (rh_v adr)) := by simp [lg_sl]
    rw [e, List.length_append, ih, rh_v_cat]
    cases v <;> simp [rh_ea, Value.category] <;> omega
theorem rh_sound (PT : Nat → rh_MI) (L : rh_L) (hall : ∀ j, plainName (PT j).1.cls = true ∧ ∀ q ∈ (PT j).2.2.2.2, rh_Ent PT (PT j).1.cls (PT j).2.1 (PT j).2.2.1 (PT j).2.2.2.1 q) : ∀ (d j : Nat) (a : List Value) (h : rh_H) (v : Option Value) (h' : rh_H), rh_M PT L d j a h v h' → rh_Mt PT L d j a h v h' := by
  intro d
  induction d with
  | zero => intro j a h v h' hM; exact hM.elim
  | succ d ihd =>
    intro j a h v h' hM l D dT adr sz
    obtain ⟨hlen, n, hrun⟩ := hM
    obtain ⟨hpl, hent⟩ := hall j
    generalize hy : (PT j).1 = y at *
    generalize hcc : (PT j).2.1 = cc at *
    generalize hnL : (PT j).2.2.1 = nL at *
    generalize hret : (PT j).2.2.2.1 = ret at *
    generalize hPP : (PT j).2.2.2.2 = P at *
    refine Met.ofW (cc := cc) (maxL := nL) (ret := ret) hpl rfl ?_
    intro p e s m args below meth c s₁ B hml hv
    obtain ⟨hav, hsz, hP, hK, hD0, hZ⟩ := hv
    have hx := B.exec
    have hb := B.bytes
    have hr := B.returns
    have hts0 := atoms_spec (ws := Cond.code y cc nL ret :: rh_all) B.pre
    have hts : ∀ w ∈ rh_all, w.before args s = true := fun w hw => hts0 w (List.mem_cons_of_mem _ hw)
    have hown : s.vm.findClass y.cls = some m.cls := findClass_of_methodNamed B.named
    have hlocks := B.notSynchronized
    subst hsz
    have hD := hD0.self (sz := s.heap.size)
    generalize hAe : va_A (rh_ws dT adr L h) s.heap.size = A at hD hZ ⊢
    have hA : ∀ q : Nat, s.heap.size ≤ q → A q := fun q h => by rw [← hAe]; exact Or.inr h
    have hC : rh_C p s m args c (rh_rm (d + 1)) D dT A adr y.cls cc nL := ⟨hx, hb, hml, hown, hts, hK, hZ, Nat.le_add_left 1 d, by show 40 ≤ 40 * (d + 1); omega⟩
    have key : ∀ (n : Nat) (fr : rh_S), rh_run (rh_M PT L d) L P n fr v h' → ∀ (H : Heap) (locs : List Loc) (ls : Array Slot), rh_G D dT adr A L fr.2 s.heap H locs → lv_has ls nL (rh_lv adr 0 fr.1.2.1) →
        W p l e (rh_rm (d + 1)) s m args below meth c H locs 0 0 (MQ below (rh_Qc D dT adr L A v h') args s 0 0 A) (F0 m fr.1.1 ls (fr.1.2.2.map (rh_v adr))) := by
      intro n
      induction n with
      | zero => intro fr hn; exact hn.elim
      | succ n ih =>
        intro fr hn H locs ls hG hl
        obtain ⟨⟨pc, lv, st⟩, h0⟩ := fr
        unfold rh_run at hn
        obtain ⟨lv0, hlf, hn⟩ := hn
        replace hl := rh_lf_has hlf hl
        split at hn
        · exact hn.elim
        · next f hf =>
          obtain ⟨⟨fr', h1⟩, hs', hn⟩ := hn
          have hsnd : rh_Snd y.cls cc nL pc f := hent (pc, .inl f) (rh_at_mem P pc _ hf)
          exact hsnd p l e (rh_rm (d + 1)) s m args below meth c D dT A adr _ L lv0 st h0 fr' h1 hC hs' H locs ls 0 0 (Nat.zero_le _) (Nat.zero_le _) hG hl (fun H' locs' ls' hG' hl' => ih (fr', h1) hn H' locs' ls' hG' hl')
        · next q hq =>
          obtain ⟨b, r, u, h1, hst, hbl, hrc, hcs, hR, hn⟩ := hn
          have hcall : rh_Call y.cls cc nL pc (PT q.1).1 (PT q.1).2.1 (PT q.1).2.2.1 (PT q.1).2.2.2.1 q.2.1 q.2.2 := hent (pc, .inr (.inl q)) (rh_at_mem P pc _ hq)
          obtain ⟨hP0, hD, hS⟩ := hG
          have hFc : ∀ z, va_A (rh_ws dT adr L h0) H.size z → A z := fun z hz => by
            rcases hz with ⟨k, x, hk⟩ | hz
            · exact hD.2 k _ hk
            · exact hA z (Nat.le_trans hS.1 hz)
          have hM := ihd q.1 b h0 u h1 hR l D dT adr H.size
          have hZ1 : rh_Z adr (va_A (rh_ws dT adr L h0) H.size) s H := (hZ.kept (fun z h1 h2 => hS.2.1 z h1 h2)).narrow hFc
          have hst' : st.map (rh_v adr) = (b.map (rh_v adr)).reverse ++ r.map (rh_v adr) := by
            have hst : st = b.reverse ++ r := hst
            rw [hst, List.map_append, List.map_reverse]
          have hrun := hcall.2 p l e (rh_rm (d + 1)) s m args below meth c D dT A adr hC _ _ _ (rh_rm d) hM rfl rfl (Nat.le_refl _) (by have := hcall.1; show 8 + (_ + 11) + 40 * d ≤ 40 * (d + 1); omega) (rh_blind D dT adr L h0 H.size b) H locs 0 0 ls (b.map (rh_v adr)) (r.map (rh_v adr)) (Nat.zero_le _) (Nat.zero_le _) hl.1 (by rw [List.length_map]; exact hbl)
            (fun ci hci => by
              rw [hci] at hrc
              obtain ⟨z, b', hb', hLz⟩ := rh_rc_some hrc
              obtain ⟨w, hw, -⟩ := hP0 z _ (rh_ws_at dT adr h0 hLz)
              exact ⟨adr z, b'.map (rh_v adr), w, by rw [hb']; rfl, hw, va_recv hK hP0 hw (rh_ws_at dT adr h0 hLz)⟩)
            (by rw [rh_cs_map]; exact hcs)
            (fun U hU hW => ⟨rfl, by rw [hU], by rw [hU]; exact hP0, va_K.moved hW.alike hK, hD.weaken (fun _ _ _ _ => trivial), by rw [hU]; exact hZ1.moved hW.alike⟩)
          show W _ _ _ _ _ _ _ _ _ _ _ _ _ _ _ (F0 m pc ls (st.map (rh_v adr)))
          rw [hst']
          refine rh_goes hrun hS (fun z _ hz => hFc z hz) hFc (fun H1 locs1 hP1 hS1 => ?_)
          have := ih _ hn H1 locs1 ls ⟨hP1, rh_D_any h1 hD, hS1⟩ hl
          have e3 : (u.toList ++ r).map (rh_v adr) = (u.map (rh_v adr)).toList ++ r.map (rh_v adr) := by cases u <;> simp
          rw [← e3]
          exact this
        · next t ht =>
          obtain ⟨hrt, hh⟩ := hn
          obtain ⟨hP0, hD, hS⟩ := hG
          have hh : h' = h0 := hh
          subst hh
          have hrt : rh_ret t st v := hrt
          have hend := hent (pc, .inr (.inr t)) (rh_at_mem P pc _ ht)
          rcases hend with ⟨rfl, hd, hre⟩ | ⟨rfl, hd, hre⟩ | ⟨rfl, hd, hre⟩ | ⟨rfl, hd, hre⟩
          · obtain ⟨rfl, rfl⟩ := rh_ret0 hrt
            exact W.vret hx hb (hr.trans hre) (fun t ht hW => ⟨⟨rfl, by rw [ht]; exact hP0⟩, hS.F ht⟩) hS.2.2 hd hlocks
          · obtain ⟨x, rfl, rfl⟩ := rh_ret1 hrt
            exact W.iret (v := x) hx hb (hr.trans hre) (fun t ht hW => ⟨⟨rfl, by rw [ht]; exact hP0⟩, hS.F ht⟩) hS.2.2 hd hlocks
          · obtain ⟨x, rfl, rfl, h01⟩ := rh_ret2 hrt
            exact W.zret (v := x) (ty := .boolean) hx hb (hr.trans hre) (by rcases h01 with rfl | rfl <;> rfl) (fun t ht hW => ⟨⟨rfl, by rw [ht]; exact hP0⟩, hS.F ht⟩) hS.2.2 hd hlocks
          · obtain ⟨x, rfl, rfl⟩ := rh_ret3 hrt
            exact W.lret (v := x) hx hb (hr.trans hre) (fun t ht hW => ⟨⟨rfl, by rw [ht]; exact hP0⟩, hS.F ht⟩) hS.2.2 hd hlocks
    rw [hav]
    have hl := lv_entry (a.map (rh_v adr)) (n := nL) (by rw [rh_sl_len]; exact hlen)
    rw [lg_entry_eq]
    generalize (lg_sl (a.map (rh_v adr)) ++ List.replicate (nL - (lg_sl (a.map (rh_v adr))).length) Slot.unset).toArray = ls at hl ⊢
    subst hav
    exact key n _ hrun s.heap [] ls ⟨hP, hD, va_S.rf⟩ (rh_ent_has hl)
