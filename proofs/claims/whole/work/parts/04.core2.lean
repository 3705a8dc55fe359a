def rh_ko {α : Type} (L : rh_L) (o ci : Nat) (x : Option α) : Option α := match L[o]? with
  | some (.inr c) => bif Nat.beq c ci then x else none
  | _ => none
theorem rh_kq {α : Type} {L : rh_L} {o ci : Nat} {x : Option α} {z : α} (h : rh_ko L o ci x = some z) : L[o]? = some (.inr ci) ∧ x = some z := by
  unfold rh_ko at h
  split at h
  · next c hc =>
    cases hb : Nat.beq c ci with
    | true => rw [hb] at h; have e : c = ci := Nat.eq_of_beq_eq_true hb; subst e; exact ⟨hc, h⟩
    | false => rw [hb] at h; cases h
  · cases h
def rh_ka {α : Type} (L : rh_L) (o t : Nat) (F : Nat → Option α) : Option α := match L[o]? with
  | some (.inl a) => bif Nat.beq a.1 t then F a.2 else none
  | _ => none
theorem rh_kaq {α : Type} {L : rh_L} {o t : Nat} {F : Nat → Option α} {z : α} (h : rh_ka L o t F = some z) : ∃ n, L[o]? = some (.inl (t, n)) ∧ F n = some z := by
  unfold rh_ka at h
  split at h
  · next a ha =>
    cases hb : Nat.beq a.1 t with
    | true => rw [hb] at h; have e : a.1 = t := Nat.eq_of_beq_eq_true hb; subst e; exact ⟨a.2, ha, h⟩
    | false => rw [hb] at h; cases h
  · cases h
def rh_Cls (ci : Nat) (C : String) (T : u_T) (N : Nat) (ty : Nat → FieldType) : Prop := vwCl[ci]? = some (C, T, N) ∧ (∀ w ∈ u_ws C T N, w ∈ rh_all) ∧ (∀ k, k < N → parseFieldDescriptor (T k).2.2.1 = some (ty k)) ∧ (∀ a, a < N → ∀ b, b < N → a ≠ b → (T a).2.1 ≠ (T b).2.1) ∧ rh_nf ci = N ∧ ∀ k, rh_ft ci k = ty k
def i_getI (ci k : Nat) : rh_X := fun L s => rh_pr (fun o r => rh_ko L o ci (some ((s.1.1 + 3, s.1.2.1, .int (s.2.1 o k) :: r), s.2))) s.1.2.2
def i_getR (ci k : Nat) : rh_X := fun L s => rh_pr (fun o r => rh_ko L o ci (some ((s.1.1 + 3, s.1.2.1, rh_ro (s.2.2.2 o k) :: r), s.2))) s.1.2.2
def i_putI (ci k : Nat) : rh_X := fun L s => rh_pir (fun x o r => rh_ko L o ci (some ((s.1.1 + 3, s.1.2.1, r), (rh_up s.2.1 o k x, s.2.2)))) s.1.2.2
def i_putZ (ci k : Nat) : rh_X := fun L s => rh_pir (fun x o r => rh_ko L o ci (rh_g (x = 0 ∨ x = 1) (some ((s.1.1 + 3, s.1.2.1, r), (rh_up s.2.1 o k x, s.2.2))))) s.1.2.2
def i_putR (ci k : Nat) : rh_X := fun L s => rh_prr (fun x o r => rh_ko L o ci (some ((s.1.1 + 3, s.1.2.1, r), (s.2.1, s.2.2.1, rh_up s.2.2.2 o k (some x))))) s.1.2.2

theorem sn_getI {own : String} {cc : ByteArray} {nL pc : Nat} {ci k idx N : Nat} {C : String} {T : u_T} {ty : Nat → FieldType} (hcl : rh_Cls ci C T N ty) (hk : k < N)  (hty : ty k = .int ∨ ty k = .boolean) (hw : Cond.fieldLink own idx (T k).1 (T k).2.1 (T k).2.2.1 ∈ rh_all) (hd : decode cc pc = .ok (.getfield idx, 3)) : rh_Snd own cc nL pc (i_getI ci k) := by
  intro p l e R s m args below meth c D dT A adr Q L lv st h fr h' hC hf H locs ls cells slots hc hs hG hl kk
  obtain ⟨hx, hb, hml, hown, hts, hK, hZ, hfr, hlo⟩ := hC
  obtain ⟨hP, hD, hS⟩ := hG
  obtain ⟨o, r, rfl, hf⟩ := rh_qr hf
  obtain ⟨hL, hf⟩ := rh_kq hf
  cases hf
  obtain ⟨h1, h2, h3, h4, h5, h6⟩ := hcl
  refine va_get hx hb hts h2 hown hK hP o (rh_ws_at dT adr h hL) h1 k hk (hts _ hw) (fun _ h9 => h9) (v := .int (h.1 o k)) ?_ hd (kk H locs ls ⟨hP, hD, hS⟩ hl)
  rw [rh_fs_at adr h o ci (by rw [h5]; exact hk), h6]
  rcases hty with e | e <;> rw [e] <;> rfl
theorem sn_getR {own : String} {cc : ByteArray} {nL pc : Nat} {ci k idx N : Nat} {C : String} {T : u_T} {ty : Nat → FieldType} (hcl : rh_Cls ci C T N ty) (hk : k < N)  (hty : (∃ n, ty k = .object n) ∨ ∃ t, ty k = .array t) (hw : Cond.fieldLink own idx (T k).1 (T k).2.1 (T k).2.2.1 ∈ rh_all) (hd : decode cc pc = .ok (.getfield idx, 3)) : rh_Snd own cc nL pc (i_getR ci k) := by
  intro p l e R s m args below meth c D dT A adr Q L lv st h fr h' hC hf H locs ls cells slots hc hs hG hl kk
  obtain ⟨hx, hb, hml, hown, hts, hK, hZ, hfr, hlo⟩ := hC
  obtain ⟨hP, hD, hS⟩ := hG
  obtain ⟨o, r, rfl, hf⟩ := rh_qr hf
  obtain ⟨hL, hf⟩ := rh_kq hf
  cases hf
  obtain ⟨h1, h2, h3, h4, h5, h6⟩ := hcl
  refine va_get hx hb hts h2 hown hK hP o (rh_ws_at dT adr h hL) h1 k hk (hts _ hw) (fun _ h9 => h9) (v := rh_v adr (rh_ro (h.2.2 o k))) ?_ hd (kk H locs ls ⟨hP, hD, hS⟩ hl)
  rw [rh_fs_at adr h o ci (by rw [h5]; exact hk), h6, rh_v_ro]
  rcases hty with ⟨n, e⟩ | ⟨n, e⟩ <;> rw [e] <;> rfl
theorem sn_putI {own : String} {cc : ByteArray} {nL pc : Nat} {ci k idx N : Nat} {C : String} {T : u_T} {ty : Nat → FieldType} (hcl : rh_Cls ci C T N ty) (hk : k < N)  (hty : ty k = .int) (hfin : (T k).2.2.2 = false) (hw : Cond.fieldLink own idx (T k).1 (T k).2.1 (T k).2.2.1 ∈ rh_all) (hd : decode cc pc = .ok (.putfield idx, 3)) : rh_Snd own cc nL pc (i_putI ci k) := by
  intro p l e R s m args below meth c D dT A adr Q L lv st h fr h' hC hf H locs ls cells slots hc hs hG hl kk
  obtain ⟨hx, hb, hml, hown, hts, hK, hZ, hfr, hlo⟩ := hC
  obtain ⟨hP, hD, hS⟩ := hG
  obtain ⟨x, o, r, rfl, hf⟩ := rh_qir hf
  obtain ⟨hL, hf⟩ := rh_kq hf
  cases hf
  obtain ⟨h1, h2, h3, h4, h5, h6⟩ := hcl
  refine va_put hx hb hts h2 ty h3 h4 hown hK hP hD hS o (rh_ws_at dT adr h hL) h1 k hk (hts _ hw) (fun _ h9 => h9) hfin (ty := .int) (v := .int x) (by rw [h3 k hk, hty]) rfl rfl (by rw [rh_fs_len, h5]; exact hk) hd (fun H1 locs1 hP hD hS => ?_)
  rw [rh_fs_setI adr h o ci k x (by rw [h5]; exact hk) (by rw [h6, hty]; exact congrArg Value.int (rh_up_s h.1 o k x))] at hP hD
  have e := rh_ws_set dT adr h (rh_up h.1 o k x, h.2) hL (fun o' k' ho _ => rh_e_otherI dT adr h o k x ho k')
  exact kk H1 locs1 ls ⟨e ▸ hP, e ▸ hD, hS⟩ hl
theorem sn_putZ {own : String} {cc : ByteArray} {nL pc : Nat} {ci k idx N : Nat} {C : String} {T : u_T} {ty : Nat → FieldType} (hcl : rh_Cls ci C T N ty) (hk : k < N)  (hty : ty k = .boolean) (hfin : (T k).2.2.2 = false) (hw : Cond.fieldLink own idx (T k).1 (T k).2.1 (T k).2.2.1 ∈ rh_all) (hd : decode cc pc = .ok (.putfield idx, 3)) : rh_Snd own cc nL pc (i_putZ ci k) := by
  intro p l e R s m args below meth c D dT A adr Q L lv st h fr h' hC hf H locs ls cells slots hc hs hG hl kk
  obtain ⟨hx, hb, hml, hown, hts, hK, hZ, hfr, hlo⟩ := hC
  obtain ⟨hP, hD, hS⟩ := hG
  obtain ⟨x, o, r, rfl, hf⟩ := rh_qir hf
  obtain ⟨hL, hf⟩ := rh_kq hf
  obtain ⟨hg, hf⟩ := rh_gq hf
  cases hf
  obtain ⟨h1, h2, h3, h4, h5, h6⟩ := hcl
  refine va_put hx hb hts h2 ty h3 h4 hown hK hP hD hS o (rh_ws_at dT adr h hL) h1 k hk (hts _ hw) (fun _ h9 => h9) hfin (ty := .boolean) (v := .int x) (by rw [h3 k hk, hty]) (by rcases hg with rfl | rfl <;> rfl) (by rcases hg with rfl | rfl <;> rfl) (by rw [rh_fs_len, h5]; exact hk) hd (fun H1 locs1 hP hD hS => ?_)
  rw [rh_fs_setI adr h o ci k x (by rw [h5]; exact hk) (by rw [h6, hty]; exact congrArg Value.int (rh_up_s h.1 o k x))] at hP hD
  have e := rh_ws_set dT adr h (rh_up h.1 o k x, h.2) hL (fun o' k' ho _ => rh_e_otherI dT adr h o k x ho k')
  exact kk H1 locs1 ls ⟨e ▸ hP, e ▸ hD, hS⟩ hl
theorem sn_putR {own : String} {cc : ByteArray} {nL pc : Nat} {ci k idx N : Nat} {C : String} {T : u_T} {ty : Nat → FieldType} (hcl : rh_Cls ci C T N ty) (hk : k < N)  (hty : (∃ n, ty k = .object n) ∨ ∃ t, ty k = .array t) (hfin : (T k).2.2.2 = false) (hw : Cond.fieldLink own idx (T k).1 (T k).2.1 (T k).2.2.1 ∈ rh_all) (hd : decode cc pc = .ok (.putfield idx, 3)) : rh_Snd own cc nL pc (i_putR ci k) := by
  intro p l e R s m args below meth c D dT A adr Q L lv st h fr h' hC hf H locs ls cells slots hc hs hG hl kk
  obtain ⟨hx, hb, hml, hown, hts, hK, hZ, hfr, hlo⟩ := hC
  obtain ⟨hP, hD, hS⟩ := hG
  obtain ⟨x, o, r, rfl, hf⟩ := rh_qrr hf
  obtain ⟨hL, hf⟩ := rh_kq hf
  cases hf
  obtain ⟨h1, h2, h3, h4, h5, h6⟩ := hcl
  refine va_put hx hb hts h2 ty h3 h4 hown hK hP hD hS o (rh_ws_at dT adr h hL) h1 k hk (hts _ hw) (fun _ h9 => h9) hfin (ty := ty k) (v := .ref (adr x)) (h3 k hk) (by rcases hty with ⟨n, e⟩ | ⟨n, e⟩ <;> rw [e] <;> rfl) (by rcases hty with ⟨n, e⟩ | ⟨n, e⟩ <;> rw [e] <;> rfl) (by rw [rh_fs_len, h5]; exact hk) hd (fun H1 locs1 hP hD hS => ?_)
  have e0 := rh_fs_setR adr h o ci k (some x) (by rw [h5]; exact hk) (by rw [h6]; rcases hty with ⟨n, e⟩ | ⟨n, e⟩ <;> rw [e] <;> exact congrArg (rh_o adr) (rh_up_s h.2.2 o k (some x)))
  have e0 : (rh_fs adr h o ci).set k (.ref (adr x)) = rh_fs adr (h.1, h.2.1, rh_up h.2.2 o k (some x)) o ci := e0
  rw [e0] at hP hD
  have e := rh_ws_set dT adr h (h.1, h.2.1, rh_up h.2.2 o k (some x)) hL (fun o' k' ho _ => rh_e_otherR dT adr h o k (some x) ho k')
  exact kk H1 locs1 ls ⟨e ▸ hP, e ▸ hD, hS⟩ hl
theorem rh_upd (f : Nat → Nat → Int32) (a i : Nat) (x : Int32) : upd (f a) i x = rh_up f a i x a := by
  funext j
  simp [upd, rh_up]
theorem rh_updL (f : Nat → Nat → Int64) (a i : Nat) (x : Int64) : vp_updL (f a) i x = rh_up f a i x a := by
  funext j
  simp [vp_updL, rh_up]
def rh_upA {α : Type} (f : Nat → Nat → α) (a : Nat) (g : Nat → α) : Nat → Nat → α := fun o j => if o = a then g j else f o j
theorem rh_upA_s {α : Type} (f : Nat → Nat → α) (a : Nat) (g : Nat → α) : rh_upA f a g a = g := by funext j; simp [rh_upA]
theorem rh_upA_o {α : Type} (f : Nat → Nat → α) {a o : Nat} (g : Nat → α) (h : o ≠ a) : rh_upA f a g o = f o := by funext j; simp [rh_upA, h]
theorem rh_e_otherA (dT : Nat → ClassId) (adr : Nat → Nat) (h : rh_H) (a : Nat) (g : Nat → Int32) {o' : Nat} (ho : o' ≠ a) (q : (Nat × Nat) ⊕ Nat) : rh_e dT adr (rh_upA h.1 a g, h.2) o' q = rh_e dT adr h o' q := by
  have e2 : rh_upA h.1 a g o' = h.1 o' := rh_upA_o h.1 g ho
  cases q with
  | inl a => simp only [rh_e, e2]
  | inr ci =>
    simp only [rh_e, rh_fs]
    congr 2
    apply List.map_congr_left
    intro j _
    cases rh_ft ci j <;> simp [rh_fv, e2]

def i_iald : rh_X := fun L s => rh_pir (fun i a r => rh_ka L a 0 (fun n => rh_g (0 ≤ i.toInt ∧ i.toInt < (n : Int)) (some ((s.1.1 + 1, s.1.2.1, .int (s.2.1 a i.toNatClampNeg) :: r), s.2)))) s.1.2.2
theorem sn_iald {own : String} {cc : ByteArray} {nL pc : Nat} (hd : decode cc pc = .ok (.iaload, 1)) : rh_Snd own cc nL pc i_iald := by
  intro p l e R s m args below meth c D dT A adr Q L lv st h fr h' hC hf H locs ls cells slots hc hs hG hl k
  obtain ⟨hx, hb, hml, hown, hts, hK, hZ, hfr, hlo⟩ := hC
  obtain ⟨hP, hD, hS⟩ := hG
  obtain ⟨i, a, r, rfl, hf⟩ := rh_qir hf
  obtain ⟨n, hL, hf⟩ := rh_kaq hf
  obtain ⟨hg, hf⟩ := rh_gq hf
  cases hf
  exact va_iald hx hb hK hP a 0 (rh_ws_at dT adr h hL) rfl (vp_in_iff.mpr hg) hd (k H locs ls ⟨hP, hD, hS⟩ hl)
def i_bald : rh_X := fun L s => rh_pir (fun i a r => rh_ka L a 2 (fun n => rh_g (0 ≤ i.toInt ∧ i.toInt < (n : Int)) (some ((s.1.1 + 1, s.1.2.1, .int (s.2.1 a i.toNatClampNeg) :: r), s.2)))) s.1.2.2
theorem sn_bald {own : String} {cc : ByteArray} {nL pc : Nat} (hd : decode cc pc = .ok (.baload, 1)) : rh_Snd own cc nL pc i_bald := by
  intro p l e R s m args below meth c D dT A adr Q L lv st h fr h' hC hf H locs ls cells slots hc hs hG hl k
  obtain ⟨hx, hb, hml, hown, hts, hK, hZ, hfr, hlo⟩ := hC
  obtain ⟨hP, hD, hS⟩ := hG
  obtain ⟨i, a, r, rfl, hf⟩ := rh_qir hf
  obtain ⟨n, hL, hf⟩ := rh_kaq hf
  obtain ⟨hg, hf⟩ := rh_gq hf
  cases hf
  exact va_bald hx hb hK hP a 2 (rh_ws_at dT adr h hL) rfl (vp_in_iff.mpr hg) hd (k H locs ls ⟨hP, hD, hS⟩ hl)
def i_zald : rh_X := fun L s => rh_pir (fun i a r => rh_ka L a 3 (fun n => rh_g (0 ≤ i.toInt ∧ i.toInt < (n : Int)) (some ((s.1.1 + 1, s.1.2.1, .int (s.2.1 a i.toNatClampNeg) :: r), s.2)))) s.1.2.2
theorem sn_zald {own : String} {cc : ByteArray} {nL pc : Nat} (hd : decode cc pc = .ok (.baload, 1)) : rh_Snd own cc nL pc i_zald := by
  intro p l e R s m args below meth c D dT A adr Q L lv st h fr h' hC hf H locs ls cells slots hc hs hG hl k
  obtain ⟨hx, hb, hml, hown, hts, hK, hZ, hfr, hlo⟩ := hC
  obtain ⟨hP, hD, hS⟩ := hG
  obtain ⟨i, a, r, rfl, hf⟩ := rh_qir hf
  obtain ⟨n, hL, hf⟩ := rh_kaq hf
  obtain ⟨hg, hf⟩ := rh_gq hf
  cases hf
  exact va_zald hx hb hK hP a 3 (rh_ws_at dT adr h hL) rfl (vp_in_iff.mpr hg) hd (k H locs ls ⟨hP, hD, hS⟩ hl)
def i_lald : rh_X := fun L s => rh_pir (fun i a r => rh_ka L a 1 (fun n => rh_g (0 ≤ i.toInt ∧ i.toInt < (n : Int)) (some ((s.1.1 + 1, s.1.2.1, .long (s.2.2.1 a i.toNatClampNeg) :: r), s.2)))) s.1.2.2
theorem sn_lald {own : String} {cc : ByteArray} {nL pc : Nat} (hd : decode cc pc = .ok (.laload, 1)) : rh_Snd own cc nL pc i_lald := by
  intro p l e R s m args below meth c D dT A adr Q L lv st h fr h' hC hf H locs ls cells slots hc hs hG hl k
  obtain ⟨hx, hb, hml, hown, hts, hK, hZ, hfr, hlo⟩ := hC
  obtain ⟨hP, hD, hS⟩ := hG
  obtain ⟨i, a, r, rfl, hf⟩ := rh_qir hf
  obtain ⟨n, hL, hf⟩ := rh_kaq hf
  obtain ⟨hg, hf⟩ := rh_gq hf
  cases hf
  exact va_lald hx hb hK hP a 1 (rh_ws_at dT adr h hL) rfl (vp_in_iff.mpr hg) hd (k H locs ls ⟨hP, hD, hS⟩ hl)
def i_iast : rh_X := fun L s => rh_piir (fun x i a r => rh_ka L a 0 (fun n => rh_g (0 ≤ i.toInt ∧ i.toInt < (n : Int)) (some ((s.1.1 + 1, s.1.2.1, r), (rh_up s.2.1 a i.toNatClampNeg x, s.2.2))))) s.1.2.2
theorem sn_iast {own : String} {cc : ByteArray} {nL pc : Nat} (hd : decode cc pc = .ok (.iastore, 1)) : rh_Snd own cc nL pc i_iast := by
  intro p l e R s m args below meth c D dT A adr Q L lv st h fr h' hC hf H locs ls cells slots hc hs hG hl k
  obtain ⟨hx, hb, hml, hown, hts, hK, hZ, hfr, hlo⟩ := hC
  obtain ⟨hP, hD, hS⟩ := hG
  obtain ⟨x, i, a, r, rfl, hf⟩ := rh_qiir hf
  obtain ⟨n, hL, hf⟩ := rh_kaq hf
  obtain ⟨hg, hf⟩ := rh_gq hf
  cases hf
  refine va_iast hx hb hK hP hD hS a 0 (rh_ws_at dT adr h hL) rfl (x := x) (vp_in_iff.mpr hg) hd (fun H1 locs1 hP hD hS => ?_)
  have e0 : upd (h.1 a) i.toNatClampNeg x = rh_up h.1 a i.toNatClampNeg x a := by
    rw [← rh_upd]
  rw [e0] at hP hD
  have e := rh_ws_set dT adr h (rh_up h.1 a i.toNatClampNeg x, h.2) hL (fun o' k' ho _ => rh_e_otherI dT adr h a i.toNatClampNeg x ho k')
  exact k H1 locs1 ls ⟨e ▸ hP, e ▸ hD, hS⟩ hl
def i_bast : rh_X := fun L s => rh_piir (fun x i a r => rh_ka L a 2 (fun n => rh_g (0 ≤ i.toInt ∧ i.toInt < (n : Int)) (some ((s.1.1 + 1, s.1.2.1, r), (rh_up s.2.1 a i.toNatClampNeg x.toInt8.toInt32, s.2.2))))) s.1.2.2
theorem sn_bast {own : String} {cc : ByteArray} {nL pc : Nat} (hd : decode cc pc = .ok (.bastore, 1)) : rh_Snd own cc nL pc i_bast := by
  intro p l e R s m args below meth c D dT A adr Q L lv st h fr h' hC hf H locs ls cells slots hc hs hG hl k
  obtain ⟨hx, hb, hml, hown, hts, hK, hZ, hfr, hlo⟩ := hC
  obtain ⟨hP, hD, hS⟩ := hG
  obtain ⟨x, i, a, r, rfl, hf⟩ := rh_qiir hf
  obtain ⟨n, hL, hf⟩ := rh_kaq hf
  obtain ⟨hg, hf⟩ := rh_gq hf
  cases hf
  refine va_bast hx hb hK hP hD hS a 2 (rh_ws_at dT adr h hL) rfl (x := x) (vp_in_iff.mpr hg) hd (fun H1 locs1 hP hD hS => ?_)
  have e0 : upd (h.1 a) i.toNatClampNeg (vp_nar .byte x) = rh_up h.1 a i.toNatClampNeg x.toInt8.toInt32 a := by
    rw [← rh_upd]; rw [vp_nar_byte]
  rw [e0] at hP hD
  have e := rh_ws_set dT adr h (rh_up h.1 a i.toNatClampNeg x.toInt8.toInt32, h.2) hL (fun o' k' ho _ => rh_e_otherI dT adr h a i.toNatClampNeg x.toInt8.toInt32 ho k')
  exact k H1 locs1 ls ⟨e ▸ hP, e ▸ hD, hS⟩ hl
def i_zast : rh_X := fun L s => rh_piir (fun x i a r => rh_ka L a 3 (fun n => rh_g (0 ≤ i.toInt ∧ i.toInt < (n : Int)) (some ((s.1.1 + 1, s.1.2.1, r), (rh_up s.2.1 a i.toNatClampNeg (x &&& 1), s.2.2))))) s.1.2.2
theorem sn_zast {own : String} {cc : ByteArray} {nL pc : Nat} (hd : decode cc pc = .ok (.bastore, 1)) : rh_Snd own cc nL pc i_zast := by
  intro p l e R s m args below meth c D dT A adr Q L lv st h fr h' hC hf H locs ls cells slots hc hs hG hl k
  obtain ⟨hx, hb, hml, hown, hts, hK, hZ, hfr, hlo⟩ := hC
  obtain ⟨hP, hD, hS⟩ := hG
  obtain ⟨x, i, a, r, rfl, hf⟩ := rh_qiir hf
  obtain ⟨n, hL, hf⟩ := rh_kaq hf
  obtain ⟨hg, hf⟩ := rh_gq hf
  cases hf
  refine va_zast hx hb hK hP hD hS a 3 (rh_ws_at dT adr h hL) rfl (x := x) (vp_in_iff.mpr hg) hd (fun H1 locs1 hP hD hS => ?_)
  have e0 : upd (h.1 a) i.toNatClampNeg (vp_nar .boolean x) = rh_up h.1 a i.toNatClampNeg (x &&& 1) a := by
    rw [← rh_upd]; rfl
  rw [e0] at hP hD
  have e := rh_ws_set dT adr h (rh_up h.1 a i.toNatClampNeg (x &&& 1), h.2) hL (fun o' k' ho _ => rh_e_otherI dT adr h a i.toNatClampNeg (x &&& 1) ho k')
  exact k H1 locs1 ls ⟨e ▸ hP, e ▸ hD, hS⟩ hl
def i_last : rh_X := fun L s => rh_plir (fun x i a r => rh_ka L a 1 (fun n => rh_g (0 ≤ i.toInt ∧ i.toInt < (n : Int)) (some ((s.1.1 + 1, s.1.2.1, r), (s.2.1, rh_up s.2.2.1 a i.toNatClampNeg x, s.2.2.2))))) s.1.2.2
theorem sn_last {own : String} {cc : ByteArray} {nL pc : Nat} (hd : decode cc pc = .ok (.lastore, 1)) : rh_Snd own cc nL pc i_last := by
  intro p l e R s m args below meth c D dT A adr Q L lv st h fr h' hC hf H locs ls cells slots hc hs hG hl k
  obtain ⟨hx, hb, hml, hown, hts, hK, hZ, hfr, hlo⟩ := hC
  obtain ⟨hP, hD, hS⟩ := hG
  obtain ⟨x, i, a, r, rfl, hf⟩ := rh_qlir hf
  obtain ⟨n, hL, hf⟩ := rh_kaq hf
  obtain ⟨hg, hf⟩ := rh_gq hf
  cases hf
  refine va_last hx hb hK hP hD hS a 1 (rh_ws_at dT adr h hL) rfl (x := x) (vp_in_iff.mpr hg) hd (fun H1 locs1 hP hD hS => ?_)
  rw [rh_updL] at hP hD
  have e := rh_ws_set dT adr h (h.1, rh_up h.2.1 a i.toNatClampNeg x, h.2.2) hL (fun o' k' ho _ => rh_e_otherL dT adr h a i.toNatClampNeg x ho k')
  exact k H1 locs1 ls ⟨e ▸ hP, e ▸ hD, hS⟩ hl
def i_alen (t : Nat) : rh_X := fun L s => rh_pr (fun a r => rh_ka L a t (fun n => some ((s.1.1 + 1, s.1.2.1, .int (Int32.ofNat n) :: r), s.2))) s.1.2.2
theorem sn_alen {own : String} {cc : ByteArray} {nL pc : Nat} {t : Nat} (ht : t < 4) (hd : decode cc pc = .ok (.arraylength, 1)) : rh_Snd own cc nL pc (i_alen t) := by
  intro p l e R s m args below meth c D dT A adr Q L lv st h fr h' hC hf H locs ls cells slots hc hs hG hl k
  obtain ⟨hx, hb, hml, hown, hts, hK, hZ, hfr, hlo⟩ := hC
  obtain ⟨hP, hD, hS⟩ := hG
  obtain ⟨a, r, rfl, hf⟩ := rh_qr hf
  obtain ⟨n, hL, hf⟩ := rh_kaq hf
  cases hf
  have hk := k H locs ls ⟨hP, hD, hS⟩ hl
  rcases (show t = 0 ∨ t = 1 ∨ t = 2 ∨ t = 3 by omega) with rfl | rfl | rfl | rfl
  · exact va_alen hx hb hK hP a 0 (rh_ws_at dT adr h hL) (ty := .int) rfl rfl hd hk
  · exact va_alen hx hb hK hP a 1 (rh_ws_at dT adr h hL) (ty := .long) rfl rfl hd hk
  · exact va_alen hx hb hK hP a 2 (rh_ws_at dT adr h hL) (ty := .byte) rfl rfl hd hk
  · exact va_alen hx hb hK hP a 3 (rh_ws_at dT adr h hL) (ty := .boolean) rfl rfl hd hk
theorem sn_gsG {own : String} {cc : ByteArray} {nL pc : Nat} {idx : Nat} (hw : Cond.fieldLink own idx RX10 "GROUPS_WITH" "[J" ∈ rh_all) (hd : decode cc pc = .ok (.getstatic idx, 3)) : rh_Snd own cc nL pc (i_cst 3 (.ref 1000)) := by
  intro p l e R s m args below meth c D dT A adr Q L lv st h fr h' hC hf H locs ls cells slots hc hs hG hl k
  obtain ⟨hx, hb, hml, hown, hts, hK, hZ, hfr, hlo⟩ := hC
  obtain ⟨hP, hD, hS⟩ := hG
  cases hf
  exact va_gets hx hb hZ.1.1 hS hown (hts _ hw) (fun _ h9 => h9) hd (k H locs ls ⟨hP, hD, hS⟩ hl)
theorem sn_gsU {own : String} {cc : ByteArray} {nL pc : Nat} {idx : Nat} (hw : Cond.fieldLink own idx RX9 "UNITS" "[I" ∈ rh_all) (hd : decode cc pc = .ok (.getstatic idx, 3)) : rh_Snd own cc nL pc (i_cst 3 (.ref 1001)) := by
  intro p l e R s m args below meth c D dT A adr Q L lv st h fr h' hC hf H locs ls cells slots hc hs hG hl k
  obtain ⟨hx, hb, hml, hown, hts, hK, hZ, hfr, hlo⟩ := hC
  obtain ⟨hP, hD, hS⟩ := hG
  cases hf
  exact va_gets hx hb hZ.2.1 hS hown (hts _ hw) (fun _ h9 => h9) hd (k H locs ls ⟨hP, hD, hS⟩ hl)
def i_lals : rh_X := fun _ s => rh_pir (fun i a r => rh_g (a = 1000 ∧ 0 ≤ i.toInt ∧ i.toInt < ((6 : Nat) : Int)) (some ((s.1.1 + 1, s.1.2.1, .long (rh_GW i.toNatClampNeg) :: r), s.2))) s.1.2.2
theorem sn_lals {own : String} {cc : ByteArray} {nL pc : Nat} (hd : decode cc pc = .ok (.laload, 1)) : rh_Snd own cc nL pc i_lals := by
  intro p l e R s m args below meth c D dT A adr Q L lv st h fr h' hC hf H locs ls cells slots hc hs hG hl k
  obtain ⟨hx, hb, hml, hown, hts, hK, hZ, hfr, hlo⟩ := hC
  obtain ⟨hP, hD, hS⟩ := hG
  obtain ⟨i, a, r, rfl, hf⟩ := rh_qir hf
  obtain ⟨⟨rfl, hg⟩, hf⟩ := rh_gq hf
  cases hf
  exact va_tl hx hb hZ.1.2 hS (vp_in_iff.mpr hg) rfl hd (k H locs ls ⟨hP, hD, hS⟩ hl)
def i_ials : rh_X := fun _ s => rh_pir (fun i a r => rh_g (a = 1001 ∧ 0 ≤ i.toInt ∧ i.toInt < ((9 : Nat) : Int)) (some ((s.1.1 + 1, s.1.2.1, .int (rh_UN i.toNatClampNeg) :: r), s.2))) s.1.2.2
theorem sn_ials {own : String} {cc : ByteArray} {nL pc : Nat} (hd : decode cc pc = .ok (.iaload, 1)) : rh_Snd own cc nL pc i_ials := by
  intro p l e R s m args below meth c D dT A adr Q L lv st h fr h' hC hf H locs ls cells slots hc hs hG hl k
  obtain ⟨hx, hb, hml, hown, hts, hK, hZ, hfr, hlo⟩ := hC
  obtain ⟨hP, hD, hS⟩ := hG
  obtain ⟨i, a, r, rfl, hf⟩ := rh_qir hf
  obtain ⟨⟨rfl, hg⟩, hf⟩ := rh_gq hf
  cases hf
  exact va_ti hx hb hZ.2.2.1 hS (vp_in_iff.mpr hg) rfl hd (k H locs ls ⟨hP, hD, hS⟩ hl)
def rh_cs (st : List Value) : Nat := (st.map (fun v => v.category)).sum
theorem rh_cs_map (adr : Nat → Nat) (st : List Value) : ((st.map (rh_v adr)).map (fun v => v.category)).sum = rh_cs st := by
  unfold rh_cs
  rw [List.map_map]
  congr 1
  apply List.map_congr_left
  intro v _
  exact rh_v_cat adr v

def i_mmin : rh_X := fun _ s => rh_pii (fun y x r => rh_g (rh_cs r ≤ 8) (some ((s.1.1 + 3, s.1.2.1, .int (if y < x then y else x) :: r), s.2))) s.1.2.2
theorem sn_mmin {own : String} {cc : ByteArray} {nL pc : Nat} {idx : Nat} (hw1 : Cond.methodLink own idx Lib.Math.min.name ∈ rh_all) (hw2 : Cond.static Lib.Math.min.name ∈ rh_all) (hw3 : Cond.initialized "java/lang/Math" ∈ rh_all) (hw4 : Cond.code Lib.Math.min.name Lib.Math.min.code 2 (some .int) ∈ rh_all) (hd : decode cc pc = .ok (.invokestatic idx, 3)) : rh_Snd own cc nL pc i_mmin := by
  intro p l e R s m args below meth c D dT A adr Q L lv st h fr h' hC hf H locs ls cells slots hc hs hG hl k
  obtain ⟨hx, hb, hml, hown, hts, hK, hZ, hfr, hlo⟩ := hC
  obtain ⟨hP, hD, hS⟩ := hG
  obtain ⟨y, x, r, rfl, hf⟩ := rh_qii hf
  obtain ⟨hg, hf⟩ := rh_gq hf
  cases hf
  exact va_mmin hx hb (hml.trans hl.1.symm) hown (hts _ hw1) (hts _ hw2) (hts _ hw3) (hts _ hw4) hfr (by rw [rh_cs_map]; omega) hc hs hd (k H locs ls ⟨hP, hD, hS⟩ hl)
def i_mmax : rh_X := fun _ s => rh_pii (fun y x r => rh_g (rh_cs r ≤ 8) (some ((s.1.1 + 3, s.1.2.1, .int (if x < y then y else x) :: r), s.2))) s.1.2.2
theorem sn_mmax {own : String} {cc : ByteArray} {nL pc : Nat} {idx : Nat} (hw1 : Cond.methodLink own idx Lib.Math.max.name ∈ rh_all) (hw2 : Cond.static Lib.Math.max.name ∈ rh_all) (hw3 : Cond.initialized "java/lang/Math" ∈ rh_all) (hw4 : Cond.code Lib.Math.max.name Lib.Math.max.code 2 (some .int) ∈ rh_all) (hd : decode cc pc = .ok (.invokestatic idx, 3)) : rh_Snd own cc nL pc i_mmax := by
  intro p l e R s m args below meth c D dT A adr Q L lv st h fr h' hC hf H locs ls cells slots hc hs hG hl k
  obtain ⟨hx, hb, hml, hown, hts, hK, hZ, hfr, hlo⟩ := hC
  obtain ⟨hP, hD, hS⟩ := hG
  obtain ⟨y, x, r, rfl, hf⟩ := rh_qii hf
  obtain ⟨hg, hf⟩ := rh_gq hf
  cases hf
  exact va_mmax hx hb (hml.trans hl.1.symm) hown (hts _ hw1) (hts _ hw2) (hts _ hw3) (hts _ hw4) hfr (by rw [rh_cs_map]; omega) hc hs hd (k H locs ls ⟨hP, hD, hS⟩ hl)
def i_mabs : rh_X := fun _ s => rh_pi (fun x r => rh_g (rh_cs r ≤ 8) (some ((s.1.1 + 3, s.1.2.1, .int (if 0 ≤ x then x else 0 - x) :: r), s.2))) s.1.2.2
theorem sn_mabs {own : String} {cc : ByteArray} {nL pc : Nat} {idx : Nat} (hw1 : Cond.methodLink own idx Lib.Math.abs.name ∈ rh_all) (hw2 : Cond.static Lib.Math.abs.name ∈ rh_all) (hw3 : Cond.initialized "java/lang/Math" ∈ rh_all) (hw4 : Cond.code Lib.Math.abs.name Lib.Math.abs.code 1 (some .int) ∈ rh_all) (hd : decode cc pc = .ok (.invokestatic idx, 3)) : rh_Snd own cc nL pc i_mabs := by
  intro p l e R s m args below meth c D dT A adr Q L lv st h fr h' hC hf H locs ls cells slots hc hs hG hl k
  obtain ⟨hx, hb, hml, hown, hts, hK, hZ, hfr, hlo⟩ := hC
  obtain ⟨hP, hD, hS⟩ := hG
  obtain ⟨x, r, rfl, hf⟩ := rh_qi hf
  obtain ⟨hg, hf⟩ := rh_gq hf
  cases hf
  exact va_mabs hx hb (hml.trans hl.1.symm) hown (hts _ hw1) (hts _ hw2) (hts _ hw3) (hts _ hw4) hfr (by rw [rh_cs_map]; omega) hc hs hd (k H locs ls ⟨hP, hD, hS⟩ hl)
def i_cpy : rh_X := fun L s => rh_piirir (fun n dp a sp a0 r => rh_ka L a0 0 (fun n0 => rh_ka L a 0 (fun n1 => rh_g (rh_cs r ≤ 8 ∧ ¬ sp < 0 ∧ ¬ dp < 0 ∧ ¬ n < 0 ∧ sp.toNatClampNeg + n.toNatClampNeg ≤ n0 ∧ dp.toNatClampNeg + n.toNatClampNeg ≤ n1) (some ((s.1.1 + 3, s.1.2.1, r), (rh_upA s.2.1 a (va_cpy (s.2.1 a0) (s.2.1 a) sp.toNatClampNeg dp.toNatClampNeg n.toNatClampNeg), s.2.2)))))) s.1.2.2
theorem sn_cpy {own : String} {cc : ByteArray} {nL pc : Nat} {idx : Nat} (hw1 : Cond.methodLink own idx arraycopyName ∈ rh_all) (hw2 : Cond.native arraycopyName ∈ rh_all) (hw3 : Cond.static arraycopyName ∈ rh_all) (hw4 : Cond.initialized "java/lang/System" ∈ rh_all) (hd : decode cc pc = .ok (.invokestatic idx, 3)) : rh_Snd own cc nL pc i_cpy := by
  intro p l e R s m args below meth c D dT A adr Q L lv st h fr h' hC hf H locs ls cells slots hc hs hG hl k
  obtain ⟨hx, hb, hml, hown, hts, hK, hZ, hfr, hlo⟩ := hC
  obtain ⟨hP, hD, hS⟩ := hG
  obtain ⟨n, dp, a, sp, a0, r, rfl, hf⟩ := rh_qiirir hf
  obtain ⟨n0, hL0, hf⟩ := rh_kaq hf
  obtain ⟨n1, hL1, hf⟩ := rh_kaq hf
  obtain ⟨⟨g0, g1, g2, g3, g4, g5⟩, hf⟩ := rh_gq hf
  cases hf
  have hnf : nativeFrameWords "java/lang/System" "arraycopy" 5 = 7 := by decide
  refine va_copyi hx hb (hml.trans hl.1.symm) hown (hts _ hw1) (hts _ hw2) (hts _ hw3) (hts _ hw4) hK hP hD hS a0 a 0 0 (ty := .int) (rh_ws_at dT adr h hL0) (rh_ws_at dT adr h hL1) rfl rfl rfl g1 g2 g3 g4 g5 (fun _ _ => rfl) hfr (by rw [rh_cs_map, hnf]; omega) hd (fun H1 locs1 hP hD hS => ?_)
  have e0 : va_cpy (h.1 a0) (h.1 a) sp.toNatClampNeg dp.toNatClampNeg n.toNatClampNeg = rh_upA h.1 a (va_cpy (h.1 a0) (h.1 a) sp.toNatClampNeg dp.toNatClampNeg n.toNatClampNeg) a := (rh_upA_s _ _ _).symm
  have e := rh_ws_set dT adr h (rh_upA h.1 a (va_cpy (h.1 a0) (h.1 a) sp.toNatClampNeg dp.toNatClampNeg n.toNatClampNeg), h.2) hL1 (fun o' k' ho _ => rh_e_otherA dT adr h a _ ho k')
  have e1 : rh_e dT adr (rh_upA h.1 a (va_cpy (h.1 a0) (h.1 a) sp.toNatClampNeg dp.toNatClampNeg n.toNatClampNeg), h.2) a (.inl (0, n1)) = .inl (dT 0, n1, .inl (va_cpy (h.1 a0) (h.1 a) sp.toNatClampNeg dp.toNatClampNeg n.toNatClampNeg)) := by
    exact congrArg (fun g => (.inl (dT 0, n1, .inl g) : va_E)) e0.symm
  rw [e1] at e
  exact k H1 locs1 ls ⟨e ▸ hP, e ▸ hD, hS⟩ hl
def rh_sw : List (Int × Nat) → Nat → Int32 → Nat
  | [], d, _ => d
  | (a, t) :: r, d, x => if a = x.toInt then t else rh_sw r d x
def i_lsw (ps : List (Int × Nat)) (d : Nat) : rh_X := fun _ s => rh_pi (fun x r => some ((rh_sw ps d x, s.1.2.1, r), s.2)) s.1.2.2
theorem rh_sw_ok (pc : Nat) (x : Int32) : ∀ (ps : List (Int × Int)) (qs : List (Int × Nat)) (z : Int) (d : Nat), (pc : Int) + z = d → ps.map (fun q => (q.1, (pc : Int) + q.2)) = qs.map (fun q => (q.1, (q.2 : Int))) → (pc : Int) + Op.lookupswitch.offset ps z x.toInt = (rh_sw qs d x : Nat)
  | [], [], z, d, hz, _ => hz
  | [], _ :: _, _, _, _, h => by simp at h
  | _ :: _, [], _, _, _, h => by simp at h
  | (a, o) :: ps, (b, t) :: qs, z, d, hz, h => by
    simp only [List.map_cons, List.cons.injEq, Prod.mk.injEq] at h
    obtain ⟨⟨rfl, ho⟩, h⟩ := h
    rw [Op.lookupswitch.offset_cons, rh_sw]
    by_cases hq : a = x.toInt
    · rw [if_pos hq, if_pos hq]; exact ho
    · rw [if_neg hq, if_neg hq]; exact rh_sw_ok pc x ps qs z d hz h
theorem sn_lsw {own : String} {cc : ByteArray} {nL pc : Nat} {z : Int} {ps : Array (Int × Int)} {len : Nat} {qs : List (Int × Nat)} {d : Nat} (hd : decode cc pc = .ok (.lookupswitch z ps, len)) (hp : (ps.toList.zip (ps.toList.drop 1)).all (fun (a, next) => a.1 < next.1) = true) (hz : (pc : Int) + z = d) (hq : ps.toList.map (fun q => (q.1, (pc : Int) + q.2)) = qs.map (fun q => (q.1, (q.2 : Int)))) : rh_Snd own cc nL pc (i_lsw qs d) := by
  intro p l e R s m args below meth c D dT A adr Q L lv st h fr h' hC hf H locs ls cells slots hc hs hG hl k
  obtain ⟨hx, hb, hml, hown, hts, hK, hZ, hfr, hlo⟩ := hC
  obtain ⟨hP, hD, hS⟩ := hG
  obtain ⟨x, r, rfl, hf⟩ := rh_qi hf
  cases hf
  exact lv_lookup hx hb hd hp rfl (rh_sw_ok pc x ps.toList qs z d hz hq) (k H locs ls ⟨hP, hD, hS⟩ hl)
def rh_tw : Int → List Nat → Nat → Int32 → Nat
  | _, [], d, _ => d
  | lo, t :: ts, d, x => if lo = x.toInt then t else rh_tw (lo + 1) ts d x
def i_tsw (lo : Int) (ts : List Nat) (d : Nat) : rh_X := fun _ s => rh_pi (fun x r => some ((rh_tw lo ts d x, s.1.2.1, r), s.2)) s.1.2.2
theorem rh_tw_out (x : Int32) (d : Nat) : ∀ (ts : List Nat) (lo : Int), (x.toInt < lo ∨ lo + ts.length ≤ x.toInt) → rh_tw lo ts d x = d
  | [], _, _ => rfl
  | t :: ts, lo, h => by
    rw [rh_tw, if_neg (by simp at h; omega)]
    exact rh_tw_out x d ts (lo + 1) (by simp at h; omega)
theorem rh_tw_in (x : Int32) (d : Nat) : ∀ (ts : List Nat) (lo : Int) (t : Nat), lo ≤ x.toInt → ts[(x.toInt - lo).toNat]? = some t → rh_tw lo ts d x = t
  | [], _, _, _, h => by simp at h
  | a :: ts, lo, t, hl, h => by
    rw [rh_tw]
    by_cases hq : lo = x.toInt
    · rw [if_pos hq]
      rw [show (x.toInt - lo).toNat = 0 by omega] at h
      simpa using h
    · rw [if_neg hq]
      refine rh_tw_in x d ts (lo + 1) t (by omega) ?_
      rw [show (x.toInt - lo).toNat = (x.toInt - (lo + 1)).toNat + 1 by omega, List.getElem?_cons_succ] at h
      exact h
theorem sn_tsw {own : String} {cc : ByteArray} {nL pc : Nat} {z lo hi : Int} {offs : Array Int} {len : Nat} {ts : List Nat} {d : Nat} (hd : decode cc pc = .ok (.tableswitch z lo hi offs, len)) (hz : (pc : Int) + z = d) (hh : hi = lo + ts.length - 1) (hq : offs.toList.map (fun q => (pc : Int) + q) = ts.map (fun q : Nat => (q : Int))) : rh_Snd own cc nL pc (i_tsw lo ts d) := by
  intro p l e R s m args below meth c D dT A adr Q L lv st h fr h' hC hf H locs ls cells slots hc hs hG hl k
  obtain ⟨hx, hb, hml, hown, hts, hK, hZ, hfr, hlo⟩ := hC
  obtain ⟨hP, hD, hS⟩ := hG
  obtain ⟨x, r, rfl, hf⟩ := rh_qi hf
  cases hf
  have hk := k H locs ls ⟨hP, hD, hS⟩ hl
  by_cases h1 : x.toInt < lo ∨ hi < x.toInt
  · refine lv_tableOut hx hb hd h1 (tgt := rh_tw lo ts d x) ?_ hk
    rw [rh_tw_out x d ts lo (by omega)]; exact hz
  · have hlen : offs.toList.length = ts.length := by have := congrArg List.length hq; simpa using this
    have hj : (x.toInt - lo).toNat < ts.length := by omega
    obtain ⟨t, ht⟩ : ∃ t, ts[(x.toInt - lo).toNat]? = some t := ⟨_, List.getElem?_eq_getElem hj⟩
    obtain ⟨off, ho⟩ : ∃ off, offs.toList[(x.toInt - lo).toNat]? = some off := ⟨_, List.getElem?_eq_getElem (by omega)⟩
    have hqq := congrArg (fun l => l[(x.toInt - lo).toNat]?) hq
    simp only [List.getElem?_map, ht, ho, Option.map_some, Option.some.injEq] at hqq
    refine lv_tableIn hx hb hd (by omega) (by omega) (off := off) (by rw [← Array.getElem?_toList]; exact ho) (tgt := rh_tw lo ts d x) ?_ hk
    rw [rh_tw_in x d ts lo t (by omega) ht]; exact hqq
