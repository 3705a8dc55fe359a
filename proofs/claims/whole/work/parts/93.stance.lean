/-! the class's world with a new Stance behind it -/
def cw_rows : List (List (Option Nat)) := [[some 1, none, some 2, some 4, some 13, some 19, some 21, some 25, some 32, some 34, some 40, some 41, none], [], [some 3, none], [], [none, none, some 5, some 6, some 12], [], [some 7, none, some 8, some 9, none, some 10, none, some 11, none, none, none], [], [], [], [], [], [], [some 4, none, none, some 14, some 15, some 16, none, some 17, some 18], [], [], [], [], [], [some 20, none, none, none, none, none], [], [some 22, some 23, some 24, none, none, none, none], [], [], [], [none, some 26, some 27, some 28, some 29, some 30, some 31], [], [], [], [], [], [], [some 4, some 33, none, none, none], [], [some 4, none, some 35, some 36, some 37, some 38, some 39, none], [], [], [], [], [], [], [], [some 4, some 13, some 43, none, some 44, some 45, some 46, some 47, some 48, none], [], [], [], [], [], []]
theorem cwr (o j : Nat) : cw_R none o j = (cw_rows.getD o []).getD j none := rfl
theorem cwr_all : ∀ o, o < 42 → (cw_rows.getD o []).all (fun x => match x with | none => true | some i => decide (i < 42)) = true := by decide +kernel
theorem cwr_lt {o j i : Nat} (ho : o < 42) (h : cw_R none o j = some i) : i < 42 := by
  rw [cwr, List.getD_eq_getElem?_getD] at h
  cases hl : (cw_rows.getD o [])[j]? with
  | none => rw [hl] at h; cases h
  | some x =>
    rw [hl] at h
    have h : x = some i := h
    have hm := List.mem_of_getElem? hl
    have := List.all_eq_true.mp (cwr_all o ho) x hm
    rw [h] at this
    exact of_decide_eq_true this
theorem re_cong (dT : Nat → ClassId) {adr adr' : Nat → Nat} {h h' : rh_H} {o : Nat} (hi : ∀ j, h'.1 o j = h.1 o j) (hg : ∀ j, h'.2.1 o j = h.2.1 o j) (hr : ∀ j, rh_o adr' (h'.2.2 o j) = rh_o adr (h.2.2 o j)) (k : (Nat × Nat) ⊕ Nat) : rh_e dT adr' h' o k = rh_e dT adr h o k := by
  cases k with
  | inl a =>
    unfold rh_e
    rw [show h'.2.1 o = h.2.1 o from funext hg, show h'.1 o = h.1 o from funext hi]
  | inr ci =>
    have hv : ∀ k ty, rh_fv adr' h' o k ty = rh_fv adr h o k ty := fun k ty => by
      cases ty <;> first | exact hr k | exact congrArg Value.int (hi k)
    show (Sum.inr (ci, (List.range (rh_nf ci)).map (fun k => rh_fv adr' h' o k (rh_ft ci k))) : va_E) = Sum.inr (ci, (List.range (rh_nf ci)).map (fun k => rh_fv adr h o k (rh_ft ci k)))
    rw [show (fun k => rh_fv adr' h' o k (rh_ft ci k)) = (fun k => rh_fv adr h o k (rh_ft ci k)) from funext (fun k => hv k _)]
theorem wsF_cong (dT : Nat → ClassId) {adr adr' : Nat → Nat} {h h' : rh_H} : ∀ (L : rh_L) (o0 : Nat), (∀ o, o0 ≤ o → o < o0 + L.length → adr' o = adr o ∧ (∀ j, h'.1 o j = h.1 o j) ∧ (∀ j, h'.2.1 o j = h.2.1 o j) ∧ ∀ j, rh_o adr' (h'.2.2 o j) = rh_o adr (h.2.2 o j)) → wsF dT adr' h' o0 L = wsF dT adr h o0 L
  | [], _, _ => rfl
  | k :: L, o0, hh => by
    obtain ⟨a1, a2, a3, a4⟩ := hh o0 (Nat.le_refl _) (by rw [List.length_cons]; omega)
    show (adr' o0, rh_e dT adr' h' o0 k) :: wsF dT adr' h' (o0 + 1) L = (adr o0, rh_e dT adr h o0 k) :: wsF dT adr h (o0 + 1) L
    rw [a1, re_cong dT a2 a3 a4, wsF_cong dT L (o0 + 1) (fun o h1 h2 => hh o (by omega) (by rw [List.length_cons]; omega))]
theorem wsF_app (dT : Nat → ClassId) (adr : Nat → Nat) (h : rh_H) (M : rh_L) : ∀ (L : rh_L) (o : Nat), wsF dT adr h o (L ++ M) = wsF dT adr h o L ++ wsF dT adr h (o + L.length) M
  | [], o => rfl
  | k :: L, o => by
    show (adr o, rh_e dT adr h o k) :: wsF dT adr h (o + 1) (L ++ M) = (adr o, rh_e dT adr h o k) :: (wsF dT adr h (o + 1) L ++ wsF dT adr h (o + (L.length + 1)) M)
    rw [wsF_app dT adr h M L (o + 1), show o + 1 + L.length = o + (L.length + 1) by omega]
def ad7 (adr : Nat → Nat) (qs : List Nat) : Nat → Nat := fun k => if k < 42 then adr k else match qs[k - 42]? with
  | some q => q
  | none => adr k
def z42 (h : HI) : HI := fun o => if 42 ≤ o ∧ o < 49 then (fun _ => 0) else h o
theorem z42_es (h : HI) : ES h (z42 h) := fun o j _ h2 => by
  show (if 42 ≤ o ∧ o < 49 then (fun _ => 0) else h o) j = h o j
  rw [if_neg (by omega)]
theorem ws_st (dT : Nat → ClassId) (adr : Nat → Nat) (h : HI) (g : Nat → Nat → Int64) (q0 q1 q2 q3 q4 q5 q6 : Nat) : rh_ws dT (ad7 adr [q0, q1, q2, q3, q4, q5, q6]) (cw_L ++ cw_X) (z42 h, g, cw_R none) = rh_ws dT adr cw_L (h, g, cw_R none) ++ [(q0, .inr (8, [.ref (adr 4), .ref (adr 13), .ref q1, .int 0, .ref q2, .ref q3, .ref q4, .ref q5, .ref q6, .int 0])), (q1, .inl (dT 0, 9, .inl (fun _ => 0))), (q2, .inl (dT 0, 9, .inl (fun _ => 0))), (q3, .inl (dT 0, 10500, .inl (fun _ => 0))), (q4, .inl (dT 0, 21, .inl (fun _ => 0))), (q5, .inl (dT 0, 10500, .inl (fun _ => 0))), (q6, .inl (dT 0, 1024, .inl (fun _ => 0)))] := by
  rw [ws_F, ws_F, wsF_app]
  refine congr (congrArg HAppend.hAppend (wsF_cong dT cw_L 0 (fun o _ h2 => ?_))) rfl
  have h2 : o < 42 := by have : cw_L.length = 42 := rfl; omega
  refine ⟨if_pos h2, fun j => ?_, fun j => rfl, fun j => ?_⟩
  · show (if 42 ≤ o ∧ o < 49 then (fun _ => 0) else h o) j = h o j
    rw [if_neg (by omega)]
  · show rh_o (ad7 adr [q0, q1, q2, q3, q4, q5, q6]) (cw_R none o j) = rh_o adr (cw_R none o j)
    cases hc : cw_R none o j with
    | none => rfl
    | some i =>
      show Value.ref (ad7 adr [q0, q1, q2, q3, q4, q5, q6] i) = Value.ref (adr i)
      rw [show ad7 adr [q0, q1, q2, q3, q4, q5, q6] i = adr i from if_pos (cwr_lt h2 hc)]
