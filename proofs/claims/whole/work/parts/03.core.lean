/-! R: a machine over numbered cells: what a method does to them, as plain functions -/
abbrev rh_H : Type := (Nat → Nat → Int32) × (Nat → Nat → Int64) × (Nat → Nat → Option Nat)
abbrev rh_L : Type := List ((Nat × Nat) ⊕ Nat)
abbrev rh_F : Type := Nat × List (Option Value) × List Value
abbrev rh_S : Type := rh_F × rh_H
abbrev rh_X : Type := rh_L → rh_S → Option rh_S
abbrev rh_E : Type := rh_X ⊕ ((Nat × Nat × Option Nat) ⊕ Nat)
abbrev rh_P : Type := List (Nat × rh_E)
def rh_at : rh_P → Nat → Option rh_E
  | [], _ => none
  | (k, e) :: P, pc => bif Nat.beq k pc then some e else rh_at P pc
def rh_up {α : Type} (f : Nat → Nat → α) (o k : Nat) (v : α) : Nat → Nat → α := fun o' k' => if o' = o ∧ k' = k then v else f o' k'
theorem rh_up_s {α : Type} (f : Nat → Nat → α) (o k : Nat) (v : α) : rh_up f o k v o k = v := by simp [rh_up]
theorem rh_up_o {α : Type} (f : Nat → Nat → α) {o o' : Nat} (k : Nat) (v : α) (h : o' ≠ o) (k' : Nat) : rh_up f o k v o' k' = f o' k' := by simp [rh_up, h]
theorem rh_up_k {α : Type} (f : Nat → Nat → α) (o : Nat) {k k' : Nat} (v : α) (h : k' ≠ k) (o' : Nat) : rh_up f o k v o' k' = f o' k' := by simp [rh_up, h]
def rh_v (adr : Nat → Nat) : Value → Value
  | .ref k => .ref (adr k)
  | v => v
theorem rh_v_cat (adr : Nat → Nat) (v : Value) : (rh_v adr v).category = v.category := by cases v <;> rfl
def rh_o (adr : Nat → Nat) : Option Nat → Value
  | none => .null
  | some k => .ref (adr k)
def rh_ro : Option Nat → Value
  | none => .null
  | some k => .ref k
theorem rh_v_ro (adr : Nat → Nat) (r : Option Nat) : rh_v adr (rh_ro r) = rh_o adr r := by cases r <;> rfl
def rh_fv (adr : Nat → Nat) (h : rh_H) (o k : Nat) : FieldType → Value
  | .object _ => rh_o adr (h.2.2 o k)
  | .array _ => rh_o adr (h.2.2 o k)
  | _ => .int (h.1 o k)
def rh_nf (ci : Nat) : Nat := match vwCl[ci]? with
  | some q => q.2.2
  | none => 0
def rh_tys0 : List (Nat → FieldType) := [tyX0, tyX1, tyX2, tyX3, tyX4, tyX6, tyX7, tyX8, tyX9, tyX10, tyX11, tyX12]
def rh_ft (ci k : Nat) : FieldType := (rh_tys0.getD ci (fun _ => .int)) k
def rh_fs (adr : Nat → Nat) (h : rh_H) (o ci : Nat) : List Value := (List.range (rh_nf ci)).map (fun k => rh_fv adr h o k (rh_ft ci k))
def rh_e (dT : Nat → ClassId) (adr : Nat → Nat) (h : rh_H) (o : Nat) : ((Nat × Nat) ⊕ Nat) → va_E
  | .inl a => if a.1 = 1 then .inl (dT a.1, a.2, .inr (.inl (h.2.1 o))) else .inl (dT a.1, a.2, .inl (h.1 o))
  | .inr ci => .inr (ci, rh_fs adr h o ci)
def rh_ws (dT : Nat → ClassId) (adr : Nat → Nat) (L : rh_L) (h : rh_H) : va_W := L.mapIdx (fun o k => (adr o, rh_e dT adr h o k))
def rh_tys (dT : Nat → ClassId) : List (ClassId × FieldType) := [(dT 0, .int), (dT 1, .long), (dT 2, .byte), (dT 3, .boolean)]
theorem rh_ws_at (dT : Nat → ClassId) (adr : Nat → Nat) {L : rh_L} (h : rh_H) {o : Nat} {k : (Nat × Nat) ⊕ Nat} (hk : L[o]? = some k) : (rh_ws dT adr L h)[o]? = some (adr o, rh_e dT adr h o k) := by
  simp [rh_ws, hk]
theorem rh_fs_at (adr : Nat → Nat) (h : rh_H) (o ci : Nat) {k : Nat} (hk : k < rh_nf ci) : (rh_fs adr h o ci)[k]? = some (rh_fv adr h o k (rh_ft ci k)) := by
  simp [rh_fs, hk]
theorem rh_fs_len (adr : Nat → Nat) (h : rh_H) (o ci : Nat) : (rh_fs adr h o ci).length = rh_nf ci := by simp [rh_fs]
/-- a changed cell: the world behind it -/
theorem rh_ws_set (dT : Nat → ClassId) (adr : Nat → Nat) {L : rh_L} (h h' : rh_H) {o : Nat} {k : (Nat × Nat) ⊕ Nat} (hk : L[o]? = some k) (ho : ∀ (o' : Nat) (k' : (Nat × Nat) ⊕ Nat), o' ≠ o → L[o']? = some k' → rh_e dT adr h' o' k' = rh_e dT adr h o' k') : (rh_ws dT adr L h).set o (adr o, rh_e dT adr h' o k) = rh_ws dT adr L h' := by
  apply List.ext_getElem?
  intro i
  by_cases hi : i = o
  · subst hi
    have hl : i < (rh_ws dT adr L h).length := (List.getElem?_eq_some_iff.mp (rh_ws_at dT adr h hk)).1
    rw [List.getElem?_set_self hl, rh_ws_at dT adr h' hk]
  · rw [List.getElem?_set_ne (Ne.symm hi)]
    cases hL : L[i]? with
    | none => simp [rh_ws, hL]
    | some q => rw [rh_ws_at dT adr h hL, rh_ws_at dT adr h' hL, ho i q hi hL]
theorem rh_e_otherI (dT : Nat → ClassId) (adr : Nat → Nat) (h : rh_H) (o k : Nat) (x : Int32) {o' : Nat} (ho : o' ≠ o) (q : (Nat × Nat) ⊕ Nat) : rh_e dT adr (rh_up h.1 o k x, h.2) o' q = rh_e dT adr h o' q := by
  have e1 : ∀ j, rh_up h.1 o k x o' j = h.1 o' j := fun j => rh_up_o h.1 k x ho j
  have e2 : rh_up h.1 o k x o' = h.1 o' := funext e1
  cases q with
  | inl a => simp only [rh_e, e2]
  | inr ci =>
    simp only [rh_e, rh_fs]
    congr 2
    apply List.map_congr_left
    intro j _
    cases rh_ft ci j <;> simp [rh_fv, e1]
theorem rh_e_otherL (dT : Nat → ClassId) (adr : Nat → Nat) (h : rh_H) (o k : Nat) (x : Int64) {o' : Nat} (ho : o' ≠ o) (q : (Nat × Nat) ⊕ Nat) : rh_e dT adr (h.1, rh_up h.2.1 o k x, h.2.2) o' q = rh_e dT adr h o' q := by
  have e2 : rh_up h.2.1 o k x o' = h.2.1 o' := funext (fun j => rh_up_o h.2.1 k x ho j)
  cases q with
  | inl a => simp only [rh_e, e2]
  | inr ci => rfl
theorem rh_e_otherR (dT : Nat → ClassId) (adr : Nat → Nat) (h : rh_H) (o k : Nat) (x : Option Nat) {o' : Nat} (ho : o' ≠ o) (q : (Nat × Nat) ⊕ Nat) : rh_e dT adr (h.1, h.2.1, rh_up h.2.2 o k x) o' q = rh_e dT adr h o' q := by
  have e1 : ∀ j, rh_up h.2.2 o k x o' j = h.2.2 o' j := fun j => rh_up_o h.2.2 k x ho j
  cases q with
  | inl a => rfl
  | inr ci =>
    simp only [rh_e, rh_fs]
    congr 2
    apply List.map_congr_left
    intro j _
    cases rh_ft ci j <;> simp [rh_fv, e1]
theorem rh_fs_setI (adr : Nat → Nat) (h : rh_H) (o ci k : Nat) (x : Int32) (hk : k < rh_nf ci) (hty : rh_fv adr (rh_up h.1 o k x, h.2) o k (rh_ft ci k) = .int x) : (rh_fs adr h o ci).set k (.int x) = rh_fs adr (rh_up h.1 o k x, h.2) o ci := by
  apply List.ext_getElem?
  intro i
  by_cases hi : i = k
  · subst hi
    rw [List.getElem?_set_self (by rw [rh_fs_len]; exact hk), rh_fs_at adr _ o ci hk, hty]
  · rw [List.getElem?_set_ne (Ne.symm hi)]
    by_cases hl : i < rh_nf ci
    · rw [rh_fs_at adr _ o ci hl, rh_fs_at adr _ o ci hl]
      have e1 : rh_up h.1 o k x o i = h.1 o i := rh_up_k h.1 o x hi o
      cases rh_ft ci i <;> simp [rh_fv, e1]
    · rw [List.getElem?_eq_none (by rw [rh_fs_len]; omega), List.getElem?_eq_none (by rw [rh_fs_len]; omega)]
theorem rh_fs_setR (adr : Nat → Nat) (h : rh_H) (o ci k : Nat) (x : Option Nat) (hk : k < rh_nf ci) (hty : rh_fv adr (h.1, h.2.1, rh_up h.2.2 o k x) o k (rh_ft ci k) = rh_o adr x) : (rh_fs adr h o ci).set k (rh_o adr x) = rh_fs adr (h.1, h.2.1, rh_up h.2.2 o k x) o ci := by
  apply List.ext_getElem?
  intro i
  by_cases hi : i = k
  · subst hi
    rw [List.getElem?_set_self (by rw [rh_fs_len]; exact hk), rh_fs_at adr _ o ci hk, hty]
  · rw [List.getElem?_set_ne (Ne.symm hi)]
    by_cases hl : i < rh_nf ci
    · rw [rh_fs_at adr _ o ci hl, rh_fs_at adr _ o ci hl]
      have e1 : rh_up h.2.2 o k x o i = h.2.2 o i := rh_up_k h.2.2 o x hi o
      cases rh_ft ci i <;> simp [rh_fv, e1]
    · rw [List.getElem?_eq_none (by rw [rh_fs_len]; omega), List.getElem?_eq_none (by rw [rh_fs_len]; omega)]
/-! locals -/
def rh_lv (adr : Nat → Nat) : Nat → List (Option Value) → List (Nat × Value)
  | _, [] => []
  | i, none :: l => rh_lv adr (i + 1) l
  | i, some v :: l => (i, rh_v adr v) :: rh_lv adr (i + 1) l
theorem rh_lv_mem (adr : Nat → Nat) : ∀ (l : List (Option Value)) (j i : Nat) (v : Value), l[i]? = some (some v) → (j + i, rh_v adr v) ∈ rh_lv adr j l
  | [], j, i, v, h => by simp at h
  | x :: l, j, 0, v, h => by
    simp only [List.getElem?_cons_zero, Option.some.injEq] at h
    subst h
    exact List.mem_cons_self
  | none :: l, j, i + 1, v, h => by
    rw [List.getElem?_cons_succ] at h
    have := rh_lv_mem adr l (j + 1) i v h
    rw [show j + (i + 1) = j + 1 + i by omega]
    exact this
  | some y :: l, j, i + 1, v, h => by
    rw [List.getElem?_cons_succ] at h
    have := rh_lv_mem adr l (j + 1) i v h
    rw [show j + (i + 1) = j + 1 + i by omega]
    exact List.mem_cons_of_mem _ this
theorem rh_lv_get {adr : Nat → Nat} {ls : Array Slot} {nL i : Nat} {l : List (Option Value)} {v : Value} (h : lv_has ls nL (rh_lv adr 0 l)) (hi : l[i]? = some (some v)) : ls[i]? = some (.val (rh_v adr v)) := by
  have := h.2.2 _ (rh_lv_mem adr l 0 i v hi)
  simpa using this
def rh_nl : Option Value → Option Value
  | some (.long _) => none
  | some (.double _) => none
  | x => x
def rh_st1 : List (Option Value) → Nat → Value → List (Option Value)
  | [], _, _ => []
  | _ :: l, 0, v => some v :: l
  | x :: l, 1, v => rh_nl x :: rh_st1 l 0 v
  | x :: l, i + 2, v => x :: rh_st1 l (i + 1) v
def rh_st2 : List (Option Value) → Nat → Value → List (Option Value)
  | [], _, _ => []
  | [_], 0, v => [some v]
  | _ :: _ :: l, 0, v => some v :: none :: l
  | x :: l, 1, v => rh_nl x :: rh_st2 l 0 v
  | x :: l, i + 2, v => x :: rh_st2 l (i + 1) v
theorem rh_lv_ge (adr : Nat → Nat) : ∀ (l : List (Option Value)) (j : Nat) (q : Nat × Value), q ∈ rh_lv adr j l → j ≤ q.1
  | [], j, q, h => by simp [rh_lv] at h
  | none :: l, j, q, h => by
    have := rh_lv_ge adr l (j + 1) q h
    omega
  | some v :: l, j, q, h => by
    rcases List.mem_cons.mp h with h | h
    · subst h; exact Nat.le_refl _
    · have := rh_lv_ge adr l (j + 1) q h
      omega
theorem rh_nl_in (adr : Nat → Nat) (x : Option Value) (j : Nat) (l : List (Option Value)) (q : Nat × Value) (h : q ∈ rh_lv adr j (rh_nl x :: l)) : q ∈ rh_lv adr (j + 1) l ∨ (∃ v, x = some v ∧ v.category ≠ 2 ∧ q = (j, rh_v adr v)) := by
  cases x with
  | none => exact Or.inl h
  | some v =>
    cases v with
    | long y => exact Or.inl h
    | double y => exact Or.inl h
    | _ =>
      rcases List.mem_cons.mp h with h | h
      · exact Or.inr ⟨_, rfl, by simp [Value.category], h⟩
      · exact Or.inl h
theorem rh_mem_c (adr : Nat → Nat) (x : Option Value) (j : Nat) (l : List (Option Value)) (q : Nat × Value) : q ∈ rh_lv adr j (x :: l) ↔ (∃ v, x = some v ∧ q = (j, rh_v adr v)) ∨ q ∈ rh_lv adr (j + 1) l := by
  cases x with
  | none => simp [rh_lv]
  | some v => simp [rh_lv]
theorem rh_st1_in (adr : Nat → Nat) : ∀ (l : List (Option Value)) (i j : Nat) (v : Value) (q : Nat × Value), q ∈ rh_lv adr j (rh_st1 l i v) → q = (j + i, rh_v adr v) ∨ (q ∈ rh_lv adr j l ∧ q.1 ≠ j + i ∧ ¬ (q.1 + 1 = j + i ∧ q.2.category = 2))
  | [], i, j, v, q, h => by cases i <;> simp [rh_st1, rh_lv] at h
  | x :: l, 0, j, v, q, h => by
    rw [rh_st1, rh_mem_c] at h
    rcases h with ⟨u, hu, hq⟩ | h
    · cases hu; exact Or.inl hq
    · have := rh_lv_ge adr l (j + 1) q h
      exact Or.inr ⟨(rh_mem_c adr x j l q).mpr (Or.inr h), by omega, by omega⟩
  | x :: l, 1, j, v, q, h => by
    rw [rh_st1] at h
    rcases rh_nl_in adr x j _ q h with h | ⟨u, hu, hc, hq⟩
    · rcases rh_st1_in adr l 0 (j + 1) v q h with h | ⟨h1, h2, h3⟩
      · exact Or.inl (by rw [h])
      · have := rh_lv_ge adr l (j + 1) q h1
        exact Or.inr ⟨(rh_mem_c adr x j l q).mpr (Or.inr h1), by omega, by omega⟩
    · subst hu
      exact Or.inr ⟨(rh_mem_c adr _ j l q).mpr (Or.inl ⟨u, rfl, hq⟩), by rw [hq]; show j ≠ j + 1; omega, fun z => hc (by rw [← rh_v_cat adr u]; rw [hq] at z; exact z.2)⟩
  | x :: l, i + 2, j, v, q, h => by
    rw [rh_st1, rh_mem_c] at h
    rcases h with ⟨u, hu, hq⟩ | h
    · exact Or.inr ⟨(rh_mem_c adr x j l q).mpr (Or.inl ⟨u, hu, hq⟩), by rw [hq]; show j ≠ _; omega, by rw [hq]; show ¬ (j + 1 = _ ∧ _); omega⟩
    · rcases rh_st1_in adr l (i + 1) (j + 1) v q h with h | ⟨h1, h2, h3⟩
      · exact Or.inl (by rw [h]; congr 1; omega)
      · exact Or.inr ⟨(rh_mem_c adr x j l q).mpr (Or.inr h1), by omega, fun z => h3 ⟨by omega, z.2⟩⟩
theorem rh_st2_in (adr : Nat → Nat) : ∀ (l : List (Option Value)) (i j : Nat) (v : Value) (q : Nat × Value), q ∈ rh_lv adr j (rh_st2 l i v) → q = (j + i, rh_v adr v) ∨ (q ∈ rh_lv adr j l ∧ q.1 ≠ j + i ∧ q.1 ≠ j + i + 1 ∧ ¬ (q.1 + 1 = j + i ∧ q.2.category = 2))
  | [], i, j, v, q, h => by cases i <;> simp [rh_st2, rh_lv] at h
  | [x], 0, j, v, q, h => by
    rw [rh_st2, rh_mem_c] at h
    rcases h with ⟨u, hu, hq⟩ | h
    · cases hu; exact Or.inl hq
    · simp [rh_lv] at h
  | x :: y :: l, 0, j, v, q, h => by
    rw [rh_st2, rh_mem_c] at h
    rcases h with ⟨u, hu, hq⟩ | h
    · cases hu; exact Or.inl hq
    · rw [rh_mem_c] at h
      rcases h with ⟨u, hu, hq⟩ | h
      · cases hu
      · have := rh_lv_ge adr l (j + 1 + 1) q h
        exact Or.inr ⟨(rh_mem_c adr x j _ q).mpr (Or.inr ((rh_mem_c adr y (j + 1) l q).mpr (Or.inr h))), by omega, by omega, by omega⟩
  | x :: l, 1, j, v, q, h => by
    rw [show rh_st2 (x :: l) 1 v = rh_nl x :: rh_st2 l 0 v by cases l <;> rfl] at h
    rcases rh_nl_in adr x j _ q h with h | ⟨u, hu, hc, hq⟩
    · rcases rh_st2_in adr l 0 (j + 1) v q h with h | ⟨h1, h2, h3, h4⟩
      · exact Or.inl (by rw [h])
      · have := rh_lv_ge adr l (j + 1) q h1
        exact Or.inr ⟨(rh_mem_c adr x j l q).mpr (Or.inr h1), by omega, by omega, by omega⟩
    · subst hu
      exact Or.inr ⟨(rh_mem_c adr _ j l q).mpr (Or.inl ⟨u, rfl, hq⟩), by rw [hq]; show j ≠ j + 1; omega, by rw [hq]; show j ≠ j + 1 + 1; omega, fun z => hc (by rw [← rh_v_cat adr u]; rw [hq] at z; exact z.2)⟩
  | x :: l, i + 2, j, v, q, h => by
    rw [show rh_st2 (x :: l) (i + 2) v = x :: rh_st2 l (i + 1) v by cases l <;> rfl, rh_mem_c] at h
    rcases h with ⟨u, hu, hq⟩ | h
    · exact Or.inr ⟨(rh_mem_c adr x j l q).mpr (Or.inl ⟨u, hu, hq⟩), by rw [hq]; show j ≠ _; omega, by rw [hq]; show j ≠ _; omega, by rw [hq]; show ¬ (j + 1 = _ ∧ _); omega⟩
    · rcases rh_st2_in adr l (i + 1) (j + 1) v q h with h | ⟨h1, h2, h3, h4⟩
      · exact Or.inl (by rw [h]; congr 1; omega)
      · exact Or.inr ⟨(rh_mem_c adr x j l q).mpr (Or.inr h1), by omega, by omega, fun z => h4 ⟨by omega, z.2⟩⟩
theorem rh_has1 {adr : Nat → Nat} {ls : Array Slot} {nL i : Nat} {l : List (Option Value)} {v : Value} (h : lv_has ls nL ((i, rh_v adr v) :: (rh_lv adr 0 l).filter (fun q => !(q.1 == i) && !(q.1 + 1 == i && q.2.category == 2)))) : lv_has ls nL (rh_lv adr 0 (rh_st1 l i v)) := by
  refine ⟨h.1, h.2.1, fun q hq => h.2.2 q ?_⟩
  rcases rh_st1_in adr l i 0 v q hq with e | ⟨h1, h2, h3⟩
  · rw [e, Nat.zero_add]; exact List.mem_cons_self
  · rw [Nat.zero_add] at h2 h3
    refine List.mem_cons_of_mem _ (List.mem_filter.mpr ⟨h1, ?_⟩)
    simp only [Bool.and_eq_true, Bool.not_eq_true', beq_eq_false_iff_ne, Bool.and_eq_false_iff]
    refine ⟨h2, ?_⟩
    by_cases a : q.1 + 1 = i
    · exact Or.inr (fun b => h3 ⟨a, b⟩)
    · exact Or.inl a
theorem rh_has2 {adr : Nat → Nat} {ls : Array Slot} {nL i : Nat} {l : List (Option Value)} {v : Value} (h : lv_has ls nL ((i, rh_v adr v) :: (rh_lv adr 0 l).filter (fun q => !(q.1 == i) && (!(q.1 == i + 1) && !(q.1 + 1 == i && q.2.category == 2))))) : lv_has ls nL (rh_lv adr 0 (rh_st2 l i v)) := by
  refine ⟨h.1, h.2.1, fun q hq => h.2.2 q ?_⟩
  rcases rh_st2_in adr l i 0 v q hq with e | ⟨h1, h2, h3, h4⟩
  · rw [e, Nat.zero_add]; exact List.mem_cons_self
  · rw [Nat.zero_add] at h2 h3 h4
    refine List.mem_cons_of_mem _ (List.mem_filter.mpr ⟨h1, ?_⟩)
    simp only [Bool.and_eq_true, Bool.not_eq_true', beq_eq_false_iff_ne, Bool.and_eq_false_iff]
    refine ⟨h2, h3, ?_⟩
    by_cases a : q.1 + 1 = i
    · exact Or.inr (fun b => h4 ⟨a, b⟩)
    · exact Or.inl a
/-! the world, and what it is that a step is sound -/
def rh_all : List Cond := lw_tbl.filter goodWord
theorem rh_in {c : Cond} (h : c ∈ lw_tbl) (g : goodWord c = true) : c ∈ rh_all := List.mem_filter.mpr ⟨h, g⟩
theorem rh_goodIn : GoodIn lw_tbl rh_all := fun w h => ⟨(List.mem_filter.mp h).1, good_of_word (List.mem_filter.mp h).2⟩
def rh_GW (i : Nat) : Int64 := match i with
  | 0 => -6148914691236517206
  | 1 => -3689348814741910324
  | 2 => -1085102592571150096
  | 3 => -71777214294589696
  | 4 => -281470681808896
  | _ => -4294967296
def rh_UN (i : Nat) : Int32 := match i with
  | 0 => 1
  | 1 => 9
  | 2 => 81
  | 3 => 729
  | 4 => 6561
  | 5 => 59049
  | 6 => 531441
  | 7 => 4782969
  | _ => 43046721
def rh_dec : List Cond := [.declares ⟨RX5, "begin", "()V"⟩, .declares ⟨RX5, "takes", "(I)Z"⟩, .declares ⟨RX5, "canEnd", "()Z"⟩]
def rh_Z (adr : Nat → Nat) (A : Nat → Prop) (U : State) (H : Heap) : Prop := (va_Z RX10 "GROUPS_WITH" "[J" (.ref (adr 1000)) A U H ∧ va_T .long (adr 1000) 6 (fun i => .long (rh_GW i)) A U H) ∧ va_Z RX9 "UNITS" "[I" (.ref (adr 1001)) A U H ∧ va_T .int (adr 1001) 9 (fun i => .int (rh_UN i)) A U H ∧ ∀ w ∈ rh_dec, va_Nw w U
def rh_C (p : Program) (s : State) (m : MethodId) (args : Array Value) (c : Code) (R : Room) (D : va_G) (dT : Nat → ClassId) (A : Nat → Prop) (adr : Nat → Nat) (own : String) (cc : ByteArray) (nL : Nat) : Prop :=
  p.tables.exec = Jvm.exec ∧ c.code = cc ∧ c.maxLocals = nL ∧ s.vm.findClass own = some m.cls ∧ (∀ w ∈ rh_all, w.before args s = true) ∧ va_K D vwCl (rh_tys dT) s ∧ rh_Z adr A s s.heap ∧ 1 ≤ R.frames ∧ 40 ≤ R.locals
def rh_G (D : va_G) (dT : Nat → ClassId) (adr : Nat → Nat) (A : Nat → Prop) (L : rh_L) (h : rh_H) (H0 H : Heap) (locs : List Loc) : Prop := va_P D vwCl (rh_ws dT adr L h) H ∧ va_D A (rh_ws dT adr L h) ∧ va_S A H0 H locs
def rh_Snd (own : String) (cc : ByteArray) (nL pc : Nat) (f : rh_X) : Prop := ∀ (p : Program) (l : Launch) (e : Env) (R : Room) (s : State) (m : MethodId) (args : Array Value) (below : List Frame) (meth : Method) (c : Code) (D : va_G) (dT : Nat → ClassId) (A : Nat → Prop) (adr : Nat → Nat) (Q : State → Prop) (L : rh_L) (lv : List (Option Value)) (st : List Value) (h : rh_H) (fr : rh_F) (h' : rh_H),
  rh_C p s m args c R D dT A adr own cc nL → f L ((pc, lv, st), h) = some (fr, h') → ∀ (H : Heap) (locs : List Loc) (ls : Array Slot) (cells slots : Nat), cells ≤ R.cells → slots ≤ R.slots → rh_G D dT adr A L h s.heap H locs → lv_has ls nL (rh_lv adr 0 lv) →
  (∀ (H' : Heap) (locs' : List Loc) (ls' : Array Slot), rh_G D dT adr A L h' s.heap H' locs' → lv_has ls' nL (rh_lv adr 0 fr.2.1) → W p l e R s m args below meth c H' locs' cells slots Q (F0 m fr.1 ls' (fr.2.2.map (rh_v adr)))) →
  W p l e R s m args below meth c H locs cells slots Q (F0 m pc ls (st.map (rh_v adr)))

def rh_pi {α : Type} (F : Int32 → List Value → Option α) : List Value → Option α
  | .int a0 :: r => F a0 r
  | _ => none
theorem rh_qi {α : Type} {F : Int32 → List Value → Option α} {st : List Value} {z : α} (h : rh_pi F st = some z) : ∃ a0 r, st = .int a0 :: r ∧ F a0 r = some z := by
  unfold rh_pi at h
  split at h
  · exact ⟨_, _, rfl, h⟩
  · cases h
def rh_pii {α : Type} (F : Int32 → Int32 → List Value → Option α) : List Value → Option α
  | .int a0 :: .int a1 :: r => F a0 a1 r
  | _ => none
theorem rh_qii {α : Type} {F : Int32 → Int32 → List Value → Option α} {st : List Value} {z : α} (h : rh_pii F st = some z) : ∃ a0 a1 r, st = .int a0 :: .int a1 :: r ∧ F a0 a1 r = some z := by
  unfold rh_pii at h
  split at h
  · exact ⟨_, _, _, rfl, h⟩
  · cases h
def rh_pl {α : Type} (F : Int64 → List Value → Option α) : List Value → Option α
  | .long a0 :: r => F a0 r
  | _ => none
theorem rh_ql {α : Type} {F : Int64 → List Value → Option α} {st : List Value} {z : α} (h : rh_pl F st = some z) : ∃ a0 r, st = .long a0 :: r ∧ F a0 r = some z := by
  unfold rh_pl at h
  split at h
  · exact ⟨_, _, rfl, h⟩
  · cases h
def rh_pll {α : Type} (F : Int64 → Int64 → List Value → Option α) : List Value → Option α
  | .long a0 :: .long a1 :: r => F a0 a1 r
  | _ => none
theorem rh_qll {α : Type} {F : Int64 → Int64 → List Value → Option α} {st : List Value} {z : α} (h : rh_pll F st = some z) : ∃ a0 a1 r, st = .long a0 :: .long a1 :: r ∧ F a0 a1 r = some z := by
  unfold rh_pll at h
  split at h
  · exact ⟨_, _, _, rfl, h⟩
  · cases h
def rh_pil {α : Type} (F : Int32 → Int64 → List Value → Option α) : List Value → Option α
  | .int a0 :: .long a1 :: r => F a0 a1 r
  | _ => none
theorem rh_qil {α : Type} {F : Int32 → Int64 → List Value → Option α} {st : List Value} {z : α} (h : rh_pil F st = some z) : ∃ a0 a1 r, st = .int a0 :: .long a1 :: r ∧ F a0 a1 r = some z := by
  unfold rh_pil at h
  split at h
  · exact ⟨_, _, _, rfl, h⟩
  · cases h
def rh_pr {α : Type} (F : Nat → List Value → Option α) : List Value → Option α
  | .ref a0 :: r => F a0 r
  | _ => none
theorem rh_qr {α : Type} {F : Nat → List Value → Option α} {st : List Value} {z : α} (h : rh_pr F st = some z) : ∃ a0 r, st = .ref a0 :: r ∧ F a0 r = some z := by
  unfold rh_pr at h
  split at h
  · exact ⟨_, _, rfl, h⟩
  · cases h
def rh_pir {α : Type} (F : Int32 → Nat → List Value → Option α) : List Value → Option α
  | .int a0 :: .ref a1 :: r => F a0 a1 r
  | _ => none
theorem rh_qir {α : Type} {F : Int32 → Nat → List Value → Option α} {st : List Value} {z : α} (h : rh_pir F st = some z) : ∃ a0 a1 r, st = .int a0 :: .ref a1 :: r ∧ F a0 a1 r = some z := by
  unfold rh_pir at h
  split at h
  · exact ⟨_, _, _, rfl, h⟩
  · cases h
def rh_prr {α : Type} (F : Nat → Nat → List Value → Option α) : List Value → Option α
  | .ref a0 :: .ref a1 :: r => F a0 a1 r
  | _ => none
theorem rh_qrr {α : Type} {F : Nat → Nat → List Value → Option α} {st : List Value} {z : α} (h : rh_prr F st = some z) : ∃ a0 a1 r, st = .ref a0 :: .ref a1 :: r ∧ F a0 a1 r = some z := by
  unfold rh_prr at h
  split at h
  · exact ⟨_, _, _, rfl, h⟩
  · cases h
def rh_piir {α : Type} (F : Int32 → Int32 → Nat → List Value → Option α) : List Value → Option α
  | .int a0 :: .int a1 :: .ref a2 :: r => F a0 a1 a2 r
  | _ => none
theorem rh_qiir {α : Type} {F : Int32 → Int32 → Nat → List Value → Option α} {st : List Value} {z : α} (h : rh_piir F st = some z) : ∃ a0 a1 a2 r, st = .int a0 :: .int a1 :: .ref a2 :: r ∧ F a0 a1 a2 r = some z := by
  unfold rh_piir at h
  split at h
  · exact ⟨_, _, _, _, rfl, h⟩
  · cases h
def rh_plir {α : Type} (F : Int64 → Int32 → Nat → List Value → Option α) : List Value → Option α
  | .long a0 :: .int a1 :: .ref a2 :: r => F a0 a1 a2 r
  | _ => none
theorem rh_qlir {α : Type} {F : Int64 → Int32 → Nat → List Value → Option α} {st : List Value} {z : α} (h : rh_plir F st = some z) : ∃ a0 a1 a2 r, st = .long a0 :: .int a1 :: .ref a2 :: r ∧ F a0 a1 a2 r = some z := by
  unfold rh_plir at h
  split at h
  · exact ⟨_, _, _, _, rfl, h⟩
  · cases h
def rh_piirir {α : Type} (F : Int32 → Int32 → Nat → Int32 → Nat → List Value → Option α) : List Value → Option α
  | .int a0 :: .int a1 :: .ref a2 :: .int a3 :: .ref a4 :: r => F a0 a1 a2 a3 a4 r
  | _ => none
theorem rh_qiirir {α : Type} {F : Int32 → Int32 → Nat → Int32 → Nat → List Value → Option α} {st : List Value} {z : α} (h : rh_piirir F st = some z) : ∃ a0 a1 a2 a3 a4 r, st = .int a0 :: .int a1 :: .ref a2 :: .int a3 :: .ref a4 :: r ∧ F a0 a1 a2 a3 a4 r = some z := by
  unfold rh_piirir at h
  split at h
  · exact ⟨_, _, _, _, _, _, rfl, h⟩
  · cases h
def rh_g {α : Type} (g : Prop) [Decidable g] (x : Option α) : Option α := if g then x else none
theorem rh_gq {α : Type} {g : Prop} [Decidable g] {x : Option α} {z : α} (h : rh_g g x = some z) : g ∧ x = some z := by
  unfold rh_g at h
  split at h
  · next hg => exact ⟨hg, h⟩
  · cases h
def i_iadd : rh_X := fun _ s => rh_pii (fun y x r => some ((s.1.1 + 1, s.1.2.1, .int (x + y) :: r), s.2)) s.1.2.2
theorem sn_iadd {own : String} {cc : ByteArray} {nL pc : Nat} (hd : decode cc pc = .ok (.iadd, 1)) : rh_Snd own cc nL pc i_iadd := by
  intro p l e R s m args below meth c D dT A adr Q L lv st h fr h' hC hf H locs ls cells slots hc hs hG hl k
  obtain ⟨hx, hb, hml, hown, hts, hK, hZ, hfr, hlo⟩ := hC
  obtain ⟨y, x, r, rfl, hf⟩ := rh_qii hf
  cases hf
  exact lv_iadd hx hb hd (k H locs ls hG hl)
def i_isub : rh_X := fun _ s => rh_pii (fun y x r => some ((s.1.1 + 1, s.1.2.1, .int (x - y) :: r), s.2)) s.1.2.2
theorem sn_isub {own : String} {cc : ByteArray} {nL pc : Nat} (hd : decode cc pc = .ok (.isub, 1)) : rh_Snd own cc nL pc i_isub := by
  intro p l e R s m args below meth c D dT A adr Q L lv st h fr h' hC hf H locs ls cells slots hc hs hG hl k
  obtain ⟨hx, hb, hml, hown, hts, hK, hZ, hfr, hlo⟩ := hC
  obtain ⟨y, x, r, rfl, hf⟩ := rh_qii hf
  cases hf
  exact lv_isub hx hb hd (k H locs ls hG hl)
def i_imul : rh_X := fun _ s => rh_pii (fun y x r => some ((s.1.1 + 1, s.1.2.1, .int (x * y) :: r), s.2)) s.1.2.2
theorem sn_imul {own : String} {cc : ByteArray} {nL pc : Nat} (hd : decode cc pc = .ok (.imul, 1)) : rh_Snd own cc nL pc i_imul := by
  intro p l e R s m args below meth c D dT A adr Q L lv st h fr h' hC hf H locs ls cells slots hc hs hG hl k
  obtain ⟨hx, hb, hml, hown, hts, hK, hZ, hfr, hlo⟩ := hC
  obtain ⟨y, x, r, rfl, hf⟩ := rh_qii hf
  cases hf
  exact lv_imul hx hb hd (k H locs ls hG hl)
def i_iand : rh_X := fun _ s => rh_pii (fun y x r => some ((s.1.1 + 1, s.1.2.1, .int (x &&& y) :: r), s.2)) s.1.2.2
theorem sn_iand {own : String} {cc : ByteArray} {nL pc : Nat} (hd : decode cc pc = .ok (.iand, 1)) : rh_Snd own cc nL pc i_iand := by
  intro p l e R s m args below meth c D dT A adr Q L lv st h fr h' hC hf H locs ls cells slots hc hs hG hl k
  obtain ⟨hx, hb, hml, hown, hts, hK, hZ, hfr, hlo⟩ := hC
  obtain ⟨y, x, r, rfl, hf⟩ := rh_qii hf
  cases hf
  exact lv_iand hx hb hd (k H locs ls hG hl)
def i_ior : rh_X := fun _ s => rh_pii (fun y x r => some ((s.1.1 + 1, s.1.2.1, .int (x ||| y) :: r), s.2)) s.1.2.2
theorem sn_ior {own : String} {cc : ByteArray} {nL pc : Nat} (hd : decode cc pc = .ok (.ior, 1)) : rh_Snd own cc nL pc i_ior := by
  intro p l e R s m args below meth c D dT A adr Q L lv st h fr h' hC hf H locs ls cells slots hc hs hG hl k
  obtain ⟨hx, hb, hml, hown, hts, hK, hZ, hfr, hlo⟩ := hC
  obtain ⟨y, x, r, rfl, hf⟩ := rh_qii hf
  cases hf
  exact lv_ior hx hb hd (k H locs ls hG hl)
def i_ixor : rh_X := fun _ s => rh_pii (fun y x r => some ((s.1.1 + 1, s.1.2.1, .int (x ^^^ y) :: r), s.2)) s.1.2.2
theorem sn_ixor {own : String} {cc : ByteArray} {nL pc : Nat} (hd : decode cc pc = .ok (.ixor, 1)) : rh_Snd own cc nL pc i_ixor := by
  intro p l e R s m args below meth c D dT A adr Q L lv st h fr h' hC hf H locs ls cells slots hc hs hG hl k
  obtain ⟨hx, hb, hml, hown, hts, hK, hZ, hfr, hlo⟩ := hC
  obtain ⟨y, x, r, rfl, hf⟩ := rh_qii hf
  cases hf
  exact lv_ixor hx hb hd (k H locs ls hG hl)
def i_ishl : rh_X := fun _ s => rh_pii (fun y x r => some ((s.1.1 + 1, s.1.2.1, .int (x <<< (y &&& 31)) :: r), s.2)) s.1.2.2
theorem sn_ishl {own : String} {cc : ByteArray} {nL pc : Nat} (hd : decode cc pc = .ok (.ishl, 1)) : rh_Snd own cc nL pc i_ishl := by
  intro p l e R s m args below meth c D dT A adr Q L lv st h fr h' hC hf H locs ls cells slots hc hs hG hl k
  obtain ⟨hx, hb, hml, hown, hts, hK, hZ, hfr, hlo⟩ := hC
  obtain ⟨y, x, r, rfl, hf⟩ := rh_qii hf
  cases hf
  exact lv_ishl hx hb hd (k H locs ls hG hl)
def i_ishr : rh_X := fun _ s => rh_pii (fun y x r => some ((s.1.1 + 1, s.1.2.1, .int (x >>> (y &&& 31)) :: r), s.2)) s.1.2.2
theorem sn_ishr {own : String} {cc : ByteArray} {nL pc : Nat} (hd : decode cc pc = .ok (.ishr, 1)) : rh_Snd own cc nL pc i_ishr := by
  intro p l e R s m args below meth c D dT A adr Q L lv st h fr h' hC hf H locs ls cells slots hc hs hG hl k
  obtain ⟨hx, hb, hml, hown, hts, hK, hZ, hfr, hlo⟩ := hC
  obtain ⟨y, x, r, rfl, hf⟩ := rh_qii hf
  cases hf
  exact lv_ishr hx hb hd (k H locs ls hG hl)
def i_iushr : rh_X := fun _ s => rh_pii (fun y x r => some ((s.1.1 + 1, s.1.2.1, .int ((x.toUInt32 >>> (y.toUInt32 &&& Int32.toUInt32 31)).toInt32) :: r), s.2)) s.1.2.2
theorem sn_iushr {own : String} {cc : ByteArray} {nL pc : Nat} (hd : decode cc pc = .ok (.iushr, 1)) : rh_Snd own cc nL pc i_iushr := by
  intro p l e R s m args below meth c D dT A adr Q L lv st h fr h' hC hf H locs ls cells slots hc hs hG hl k
  obtain ⟨hx, hb, hml, hown, hts, hK, hZ, hfr, hlo⟩ := hC
  obtain ⟨y, x, r, rfl, hf⟩ := rh_qii hf
  cases hf
  exact lv_iushr hx hb hd rfl (k H locs ls hG hl)
def i_idiv : rh_X := fun _ s => rh_pii (fun y x r => rh_g (¬ y = 0) (some ((s.1.1 + 1, s.1.2.1, .int (x / y) :: r), s.2))) s.1.2.2
theorem sn_idiv {own : String} {cc : ByteArray} {nL pc : Nat} (hd : decode cc pc = .ok (.idiv, 1)) : rh_Snd own cc nL pc i_idiv := by
  intro p l e R s m args below meth c D dT A adr Q L lv st h fr h' hC hf H locs ls cells slots hc hs hG hl k
  obtain ⟨hx, hb, hml, hown, hts, hK, hZ, hfr, hlo⟩ := hC
  obtain ⟨y, x, r, rfl, hf⟩ := rh_qii hf
  obtain ⟨hg, hf⟩ := rh_gq hf
  cases hf
  exact lv_idiv hx hb hd hg (k H locs ls hG hl)
def i_irem : rh_X := fun _ s => rh_pii (fun y x r => rh_g (¬ y = 0) (some ((s.1.1 + 1, s.1.2.1, .int (x - x / y * y) :: r), s.2))) s.1.2.2
theorem sn_irem {own : String} {cc : ByteArray} {nL pc : Nat} (hd : decode cc pc = .ok (.irem, 1)) : rh_Snd own cc nL pc i_irem := by
  intro p l e R s m args below meth c D dT A adr Q L lv st h fr h' hC hf H locs ls cells slots hc hs hG hl k
  obtain ⟨hx, hb, hml, hown, hts, hK, hZ, hfr, hlo⟩ := hC
  obtain ⟨y, x, r, rfl, hf⟩ := rh_qii hf
  obtain ⟨hg, hf⟩ := rh_gq hf
  cases hf
  exact lv_irem hx hb hd hg (k H locs ls hG hl)
def i_ineg : rh_X := fun _ s => rh_pi (fun x r => some ((s.1.1 + 1, s.1.2.1, .int (-x) :: r), s.2)) s.1.2.2
theorem sn_ineg {own : String} {cc : ByteArray} {nL pc : Nat} (hd : decode cc pc = .ok (.ineg, 1)) : rh_Snd own cc nL pc i_ineg := by
  intro p l e R s m args below meth c D dT A adr Q L lv st h fr h' hC hf H locs ls cells slots hc hs hG hl k
  obtain ⟨hx, hb, hml, hown, hts, hK, hZ, hfr, hlo⟩ := hC
  obtain ⟨x, r, rfl, hf⟩ := rh_qi hf
  cases hf
  exact lv_ineg hx hb hd (k H locs ls hG hl)
def i_ladd : rh_X := fun _ s => rh_pll (fun y x r => some ((s.1.1 + 1, s.1.2.1, .long (x + y) :: r), s.2)) s.1.2.2
theorem sn_ladd {own : String} {cc : ByteArray} {nL pc : Nat} (hd : decode cc pc = .ok (.ladd, 1)) : rh_Snd own cc nL pc i_ladd := by
  intro p l e R s m args below meth c D dT A adr Q L lv st h fr h' hC hf H locs ls cells slots hc hs hG hl k
  obtain ⟨hx, hb, hml, hown, hts, hK, hZ, hfr, hlo⟩ := hC
  obtain ⟨y, x, r, rfl, hf⟩ := rh_qll hf
  cases hf
  exact lv_ladd hx hb hd (k H locs ls hG hl)
def i_lmul : rh_X := fun _ s => rh_pll (fun y x r => some ((s.1.1 + 1, s.1.2.1, .long (x * y) :: r), s.2)) s.1.2.2
theorem sn_lmul {own : String} {cc : ByteArray} {nL pc : Nat} (hd : decode cc pc = .ok (.lmul, 1)) : rh_Snd own cc nL pc i_lmul := by
  intro p l e R s m args below meth c D dT A adr Q L lv st h fr h' hC hf H locs ls cells slots hc hs hG hl k
  obtain ⟨hx, hb, hml, hown, hts, hK, hZ, hfr, hlo⟩ := hC
  obtain ⟨y, x, r, rfl, hf⟩ := rh_qll hf
  cases hf
  exact lv_lmul hx hb hd (k H locs ls hG hl)
def i_land : rh_X := fun _ s => rh_pll (fun y x r => some ((s.1.1 + 1, s.1.2.1, .long (x &&& y) :: r), s.2)) s.1.2.2
theorem sn_land {own : String} {cc : ByteArray} {nL pc : Nat} (hd : decode cc pc = .ok (.land, 1)) : rh_Snd own cc nL pc i_land := by
  intro p l e R s m args below meth c D dT A adr Q L lv st h fr h' hC hf H locs ls cells slots hc hs hG hl k
  obtain ⟨hx, hb, hml, hown, hts, hK, hZ, hfr, hlo⟩ := hC
  obtain ⟨y, x, r, rfl, hf⟩ := rh_qll hf
  cases hf
  exact lv_land hx hb hd (k H locs ls hG hl)
def i_lor : rh_X := fun _ s => rh_pll (fun y x r => some ((s.1.1 + 1, s.1.2.1, .long (x ||| y) :: r), s.2)) s.1.2.2
theorem sn_lor {own : String} {cc : ByteArray} {nL pc : Nat} (hd : decode cc pc = .ok (.lor, 1)) : rh_Snd own cc nL pc i_lor := by
  intro p l e R s m args below meth c D dT A adr Q L lv st h fr h' hC hf H locs ls cells slots hc hs hG hl k
  obtain ⟨hx, hb, hml, hown, hts, hK, hZ, hfr, hlo⟩ := hC
  obtain ⟨y, x, r, rfl, hf⟩ := rh_qll hf
  cases hf
  exact lv_lor hx hb hd (k H locs ls hG hl)
def i_lxor : rh_X := fun _ s => rh_pll (fun y x r => some ((s.1.1 + 1, s.1.2.1, .long (x ^^^ y) :: r), s.2)) s.1.2.2
theorem sn_lxor {own : String} {cc : ByteArray} {nL pc : Nat} (hd : decode cc pc = .ok (.lxor, 1)) : rh_Snd own cc nL pc i_lxor := by
  intro p l e R s m args below meth c D dT A adr Q L lv st h fr h' hC hf H locs ls cells slots hc hs hG hl k
  obtain ⟨hx, hb, hml, hown, hts, hK, hZ, hfr, hlo⟩ := hC
  obtain ⟨y, x, r, rfl, hf⟩ := rh_qll hf
  cases hf
  exact lv_lxor hx hb hd (k H locs ls hG hl)
def i_ldiv : rh_X := fun _ s => rh_pll (fun y x r => rh_g (¬ y = 0) (some ((s.1.1 + 1, s.1.2.1, .long (x / y) :: r), s.2))) s.1.2.2
theorem sn_ldiv {own : String} {cc : ByteArray} {nL pc : Nat} (hd : decode cc pc = .ok (.ldiv, 1)) : rh_Snd own cc nL pc i_ldiv := by
  intro p l e R s m args below meth c D dT A adr Q L lv st h fr h' hC hf H locs ls cells slots hc hs hG hl k
  obtain ⟨hx, hb, hml, hown, hts, hK, hZ, hfr, hlo⟩ := hC
  obtain ⟨y, x, r, rfl, hf⟩ := rh_qll hf
  obtain ⟨hg, hf⟩ := rh_gq hf
  cases hf
  exact lv_ldiv hx hb hd hg (k H locs ls hG hl)
def i_lrem : rh_X := fun _ s => rh_pll (fun y x r => rh_g (¬ y = 0) (some ((s.1.1 + 1, s.1.2.1, .long (x - x / y * y) :: r), s.2))) s.1.2.2
theorem sn_lrem {own : String} {cc : ByteArray} {nL pc : Nat} (hd : decode cc pc = .ok (.lrem, 1)) : rh_Snd own cc nL pc i_lrem := by
  intro p l e R s m args below meth c D dT A adr Q L lv st h fr h' hC hf H locs ls cells slots hc hs hG hl k
  obtain ⟨hx, hb, hml, hown, hts, hK, hZ, hfr, hlo⟩ := hC
  obtain ⟨y, x, r, rfl, hf⟩ := rh_qll hf
  obtain ⟨hg, hf⟩ := rh_gq hf
  cases hf
  exact lv_lrem hx hb hd hg (k H locs ls hG hl)
def i_lushr : rh_X := fun _ s => rh_pil (fun y x r => some ((s.1.1 + 1, s.1.2.1, .long ((x.toUInt64 >>> (y.toInt64.toUInt64 &&& Int64.toUInt64 63)).toInt64) :: r), s.2)) s.1.2.2
theorem sn_lushr {own : String} {cc : ByteArray} {nL pc : Nat} (hd : decode cc pc = .ok (.lushr, 1)) : rh_Snd own cc nL pc i_lushr := by
  intro p l e R s m args below meth c D dT A adr Q L lv st h fr h' hC hf H locs ls cells slots hc hs hG hl k
  obtain ⟨hx, hb, hml, hown, hts, hK, hZ, hfr, hlo⟩ := hC
  obtain ⟨y, x, r, rfl, hf⟩ := rh_qil hf
  cases hf
  exact lv_lushr hx hb hd rfl (k H locs ls hG hl)
def i_lshl : rh_X := fun _ s => rh_pil (fun y x r => some ((s.1.1 + 1, s.1.2.1, .long (x <<< (y.toInt64 &&& 63)) :: r), s.2)) s.1.2.2
theorem sn_lshl {own : String} {cc : ByteArray} {nL pc : Nat} (hd : decode cc pc = .ok (.lshl, 1)) : rh_Snd own cc nL pc i_lshl := by
  intro p l e R s m args below meth c D dT A adr Q L lv st h fr h' hC hf H locs ls cells slots hc hs hG hl k
  obtain ⟨hx, hb, hml, hown, hts, hK, hZ, hfr, hlo⟩ := hC
  obtain ⟨y, x, r, rfl, hf⟩ := rh_qil hf
  cases hf
  exact lv_lshl hx hb hd rfl (k H locs ls hG hl)
def i_lcmp : rh_X := fun _ s => rh_pll (fun y x r => some ((s.1.1 + 1, s.1.2.1, .int (lg_cmp x y) :: r), s.2)) s.1.2.2
theorem sn_lcmp {own : String} {cc : ByteArray} {nL pc : Nat} (hd : decode cc pc = .ok (.lcmp, 1)) : rh_Snd own cc nL pc i_lcmp := by
  intro p l e R s m args below meth c D dT A adr Q L lv st h fr h' hC hf H locs ls cells slots hc hs hG hl k
  obtain ⟨hx, hb, hml, hown, hts, hK, hZ, hfr, hlo⟩ := hC
  obtain ⟨y, x, r, rfl, hf⟩ := rh_qll hf
  cases hf
  exact W.lcmp hx hb hd (k H locs ls hG hl)
def i_i2l : rh_X := fun _ s => rh_pi (fun x r => some ((s.1.1 + 1, s.1.2.1, .long x.toInt64 :: r), s.2)) s.1.2.2
theorem sn_i2l {own : String} {cc : ByteArray} {nL pc : Nat} (hd : decode cc pc = .ok (.i2l, 1)) : rh_Snd own cc nL pc i_i2l := by
  intro p l e R s m args below meth c D dT A adr Q L lv st h fr h' hC hf H locs ls cells slots hc hs hG hl k
  obtain ⟨hx, hb, hml, hown, hts, hK, hZ, hfr, hlo⟩ := hC
  obtain ⟨x, r, rfl, hf⟩ := rh_qi hf
  cases hf
  exact lv_i2l hx hb hd rfl (k H locs ls hG hl)
def i_l2i : rh_X := fun _ s => rh_pl (fun x r => some ((s.1.1 + 1, s.1.2.1, .int x.toInt32 :: r), s.2)) s.1.2.2
theorem sn_l2i {own : String} {cc : ByteArray} {nL pc : Nat} (hd : decode cc pc = .ok (.l2i, 1)) : rh_Snd own cc nL pc i_l2i := by
  intro p l e R s m args below meth c D dT A adr Q L lv st h fr h' hC hf H locs ls cells slots hc hs hG hl k
  obtain ⟨hx, hb, hml, hown, hts, hK, hZ, hfr, hlo⟩ := hC
  obtain ⟨x, r, rfl, hf⟩ := rh_ql hf
  cases hf
  exact lv_l2i hx hb hd rfl (k H locs ls hG hl)
def i_i2b : rh_X := fun _ s => rh_pi (fun x r => some ((s.1.1 + 1, s.1.2.1, .int x.toInt8.toInt32 :: r), s.2)) s.1.2.2
theorem sn_i2b {own : String} {cc : ByteArray} {nL pc : Nat} (hd : decode cc pc = .ok (.i2b, 1)) : rh_Snd own cc nL pc i_i2b := by
  intro p l e R s m args below meth c D dT A adr Q L lv st h fr h' hC hf H locs ls cells slots hc hs hG hl k
  obtain ⟨hx, hb, hml, hown, hts, hK, hZ, hfr, hlo⟩ := hC
  obtain ⟨x, r, rfl, hf⟩ := rh_qi hf
  cases hf
  exact lv_i2b hx hb hd rfl (k H locs ls hG hl)
def i_i2s : rh_X := fun _ s => rh_pi (fun x r => some ((s.1.1 + 1, s.1.2.1, .int x.toInt16.toInt32 :: r), s.2)) s.1.2.2
theorem sn_i2s {own : String} {cc : ByteArray} {nL pc : Nat} (hd : decode cc pc = .ok (.i2s, 1)) : rh_Snd own cc nL pc i_i2s := by
  intro p l e R s m args below meth c D dT A adr Q L lv st h fr h' hC hf H locs ls cells slots hc hs hG hl k
  obtain ⟨hx, hb, hml, hown, hts, hK, hZ, hfr, hlo⟩ := hC
  obtain ⟨x, r, rfl, hf⟩ := rh_qi hf
  cases hf
  exact lv_i2s hx hb hd rfl (k H locs ls hG hl)
def i_i2c : rh_X := fun _ s => rh_pi (fun x r => some ((s.1.1 + 1, s.1.2.1, .int (x.toUInt32 % 65536).toInt32 :: r), s.2)) s.1.2.2
theorem sn_i2c {own : String} {cc : ByteArray} {nL pc : Nat} (hd : decode cc pc = .ok (.i2c, 1)) : rh_Snd own cc nL pc i_i2c := by
  intro p l e R s m args below meth c D dT A adr Q L lv st h fr h' hC hf H locs ls cells slots hc hs hG hl k
  obtain ⟨hx, hb, hml, hown, hts, hK, hZ, hfr, hlo⟩ := hC
  obtain ⟨x, r, rfl, hf⟩ := rh_qi hf
  cases hf
  exact lv_i2c hx hb hd rfl (k H locs ls hG hl)
def i_dupi : rh_X := fun _ s => rh_pi (fun x r => some ((s.1.1 + 1, s.1.2.1, .int x :: .int x :: r), s.2)) s.1.2.2
theorem sn_dupi {own : String} {cc : ByteArray} {nL pc : Nat} (hd : decode cc pc = .ok (.dup, 1)) : rh_Snd own cc nL pc i_dupi := by
  intro p l e R s m args below meth c D dT A adr Q L lv st h fr h' hC hf H locs ls cells slots hc hs hG hl k
  obtain ⟨hx, hb, hml, hown, hts, hK, hZ, hfr, hlo⟩ := hC
  obtain ⟨x, r, rfl, hf⟩ := rh_qi hf
  cases hf
  exact lv_dup hx hb hd rfl (k H locs ls hG hl)
def i_dupr : rh_X := fun _ s => rh_pr (fun x r => some ((s.1.1 + 1, s.1.2.1, .ref x :: .ref x :: r), s.2)) s.1.2.2
theorem sn_dupr {own : String} {cc : ByteArray} {nL pc : Nat} (hd : decode cc pc = .ok (.dup, 1)) : rh_Snd own cc nL pc i_dupr := by
  intro p l e R s m args below meth c D dT A adr Q L lv st h fr h' hC hf H locs ls cells slots hc hs hG hl k
  obtain ⟨hx, hb, hml, hown, hts, hK, hZ, hfr, hlo⟩ := hC
  obtain ⟨x, r, rfl, hf⟩ := rh_qr hf
  cases hf
  exact lv_dup hx hb hd rfl (k H locs ls hG hl)
def i_popi : rh_X := fun _ s => rh_pi (fun x r => some ((s.1.1 + 1, s.1.2.1, r), s.2)) s.1.2.2
theorem sn_popi {own : String} {cc : ByteArray} {nL pc : Nat} (hd : decode cc pc = .ok (.pop, 1)) : rh_Snd own cc nL pc i_popi := by
  intro p l e R s m args below meth c D dT A adr Q L lv st h fr h' hC hf H locs ls cells slots hc hs hG hl k
  obtain ⟨hx, hb, hml, hown, hts, hK, hZ, hfr, hlo⟩ := hC
  obtain ⟨x, r, rfl, hf⟩ := rh_qi hf
  cases hf
  exact lv_pop hx hb hd rfl (k H locs ls hG hl)
def i_popr : rh_X := fun _ s => rh_pr (fun x r => some ((s.1.1 + 1, s.1.2.1, r), s.2)) s.1.2.2
theorem sn_popr {own : String} {cc : ByteArray} {nL pc : Nat} (hd : decode cc pc = .ok (.pop, 1)) : rh_Snd own cc nL pc i_popr := by
  intro p l e R s m args below meth c D dT A adr Q L lv st h fr h' hC hf H locs ls cells slots hc hs hG hl k
  obtain ⟨hx, hb, hml, hown, hts, hK, hZ, hfr, hlo⟩ := hC
  obtain ⟨x, r, rfl, hf⟩ := rh_qr hf
  cases hf
  exact lv_pop hx hb hd rfl (k H locs ls hG hl)
def i_dupx1 : rh_X := fun _ s => rh_pir (fun x y r => some ((s.1.1 + 1, s.1.2.1, .int x :: .ref y :: .int x :: r), s.2)) s.1.2.2
theorem sn_dupx1 {own : String} {cc : ByteArray} {nL pc : Nat} (hd : decode cc pc = .ok (.dup_x1, 1)) : rh_Snd own cc nL pc i_dupx1 := by
  intro p l e R s m args below meth c D dT A adr Q L lv st h fr h' hC hf H locs ls cells slots hc hs hG hl k
  obtain ⟨hx, hb, hml, hown, hts, hK, hZ, hfr, hlo⟩ := hC
  obtain ⟨x, y, r, rfl, hf⟩ := rh_qir hf
  cases hf
  exact lv_dup_x1 hx hb hd rfl rfl (k H locs ls hG hl)
def i_dup2 : rh_X := fun _ s => rh_pir (fun x y r => some ((s.1.1 + 1, s.1.2.1, .int x :: .ref y :: .int x :: .ref y :: r), s.2)) s.1.2.2
theorem sn_dup2 {own : String} {cc : ByteArray} {nL pc : Nat} (hd : decode cc pc = .ok (.dup2, 1)) : rh_Snd own cc nL pc i_dup2 := by
  intro p l e R s m args below meth c D dT A adr Q L lv st h fr h' hC hf H locs ls cells slots hc hs hG hl k
  obtain ⟨hx, hb, hml, hown, hts, hK, hZ, hfr, hlo⟩ := hC
  obtain ⟨x, y, r, rfl, hf⟩ := rh_qir hf
  cases hf
  exact lv_dup2_11 hx hb hd rfl rfl (k H locs ls hG hl)
def i_cst (n : Nat) (v : Value) : rh_X := fun _ s => some ((s.1.1 + n, s.1.2.1, v :: s.1.2.2), s.2)
theorem sn_iconst {own : String} {cc : ByteArray} {nL pc : Nat} {z : Int} {v : Int32} (hd : decode cc pc = .ok (.iconst z, 1)) (hv : Int32.ofInt z = v) : rh_Snd own cc nL pc (i_cst 1 (.int v)) := by
  intro p l e R s m args below meth c D dT A adr Q L lv st h fr h' hC hf H locs ls cells slots hc hs hG hl k
  obtain ⟨hx, hb, hml, hown, hts, hK, hZ, hfr, hlo⟩ := hC
  cases hf
  exact lv_iconst hx hb hd hv (k H locs ls hG hl)
theorem sn_bipush {own : String} {cc : ByteArray} {nL pc : Nat} {z : Int} {v : Int32} (hd : decode cc pc = .ok (.bipush z, 2)) (hv : (Int8.ofInt z).toInt32 = v) : rh_Snd own cc nL pc (i_cst 2 (.int v)) := by
  intro p l e R s m args below meth c D dT A adr Q L lv st h fr h' hC hf H locs ls cells slots hc hs hG hl k
  obtain ⟨hx, hb, hml, hown, hts, hK, hZ, hfr, hlo⟩ := hC
  cases hf
  exact lv_bipush hx hb hd hv (k H locs ls hG hl)
theorem sn_sipush {own : String} {cc : ByteArray} {nL pc : Nat} {z : Int} {v : Int32} (hd : decode cc pc = .ok (.sipush z, 3)) (hv : (Int16.ofInt z).toInt32 = v) : rh_Snd own cc nL pc (i_cst 3 (.int v)) := by
  intro p l e R s m args below meth c D dT A adr Q L lv st h fr h' hC hf H locs ls cells slots hc hs hG hl k
  obtain ⟨hx, hb, hml, hown, hts, hK, hZ, hfr, hlo⟩ := hC
  cases hf
  exact lv_sipush hx hb hd hv (k H locs ls hG hl)
theorem sn_ldc {own : String} {cc : ByteArray} {nL pc : Nat} {z : Nat} {v : Int32} (hd : decode cc pc = .ok (.ldc z, 2)) (hw : Cond.constant own z v ∈ rh_all) : rh_Snd own cc nL pc (i_cst 2 (.int v)) := by
  intro p l e R s m args below meth c D dT A adr Q L lv st h fr h' hC hf H locs ls cells slots hc hs hG hl k
  obtain ⟨hx, hb, hml, hown, hts, hK, hZ, hfr, hlo⟩ := hC
  cases hf
  exact lv_ldc hx hb hown (hts _ hw) hd (k H locs ls hG hl)
theorem sn_ldcw {own : String} {cc : ByteArray} {nL pc : Nat} {z : Nat} {v : Int32} (hd : decode cc pc = .ok (.ldc_w z, 3)) (hw : Cond.constant own z v ∈ rh_all) : rh_Snd own cc nL pc (i_cst 3 (.int v)) := by
  intro p l e R s m args below meth c D dT A adr Q L lv st h fr h' hC hf H locs ls cells slots hc hs hG hl k
  obtain ⟨hx, hb, hml, hown, hts, hK, hZ, hfr, hlo⟩ := hC
  cases hf
  exact lv_ldcw hx hb hown (hts _ hw) hd (k H locs ls hG hl)
theorem sn_lconst {own : String} {cc : ByteArray} {nL pc : Nat} {z : Fin 2} {v : Int64} (hd : decode cc pc = .ok (.lconst z, 1)) (hv : Int64.ofNat (z : Nat) = v) : rh_Snd own cc nL pc (i_cst 1 (.long v)) := by
  intro p l e R s m args below meth c D dT A adr Q L lv st h fr h' hC hf H locs ls cells slots hc hs hG hl k
  obtain ⟨hx, hb, hml, hown, hts, hK, hZ, hfr, hlo⟩ := hC
  cases hf
  exact lv_lconst hx hb hd hv (k H locs ls hG hl)
theorem sn_ldc2 {own : String} {cc : ByteArray} {nL pc : Nat} {z : Nat} {v : Int64} (hd : decode cc pc = .ok (.ldc2_w z, 3)) (hw : Cond.constantLong own z v ∈ rh_all) : rh_Snd own cc nL pc (i_cst 3 (.long v)) := by
  intro p l e R s m args below meth c D dT A adr Q L lv st h fr h' hC hf H locs ls cells slots hc hs hG hl k
  obtain ⟨hx, hb, hml, hown, hts, hK, hZ, hfr, hlo⟩ := hC
  cases hf
  exact lv_ldc2 hx hb hown (hts _ hw) hd (k H locs ls hG hl)
def rh_lint {α : Type} (F : Int32 → Option α) : Option (Option Value) → Option α
  | some (some (.int x)) => F x
  | _ => none
theorem rh_mint {α : Type} {F : Int32 → Option α} {q : Option (Option Value)} {z : α} (h : rh_lint F q = some z) : ∃ x, q = some (some (.int x)) ∧ F x = some z := by
  unfold rh_lint at h
  split at h
  · exact ⟨_, rfl, h⟩
  · cases h
def rh_llong {α : Type} (F : Int64 → Option α) : Option (Option Value) → Option α
  | some (some (.long x)) => F x
  | _ => none
theorem rh_mlong {α : Type} {F : Int64 → Option α} {q : Option (Option Value)} {z : α} (h : rh_llong F q = some z) : ∃ x, q = some (some (.long x)) ∧ F x = some z := by
  unfold rh_llong at h
  split at h
  · exact ⟨_, rfl, h⟩
  · cases h
def rh_lref {α : Type} (F : Nat → Option α) : Option (Option Value) → Option α
  | some (some (.ref x)) => F x
  | _ => none
theorem rh_mref {α : Type} {F : Nat → Option α} {q : Option (Option Value)} {z : α} (h : rh_lref F q = some z) : ∃ x, q = some (some (.ref x)) ∧ F x = some z := by
  unfold rh_lref at h
  split at h
  · exact ⟨_, rfl, h⟩
  · cases h
def i_ild (i n : Nat) : rh_X := fun _ s => rh_lint (fun x => some ((s.1.1 + n, s.1.2.1, .int x :: s.1.2.2), s.2)) s.1.2.1[i]?
theorem sn_ild_n {own : String} {cc : ByteArray} {nL pc : Nat} {i : Nat} {j : Fin 4} (hd : decode cc pc = .ok (.iload_n j, 1)) (hj : (j : Nat) = i) : rh_Snd own cc nL pc (i_ild i 1) := by
  intro p l e R s m args below meth c D dT A adr Q L lv st h fr h' hC hf H locs ls cells slots hc hs hG hl k
  obtain ⟨hx, hb, hml, hown, hts, hK, hZ, hfr, hlo⟩ := hC
  obtain ⟨x, heq, hf⟩ := rh_mint hf
  cases hf
  exact lv_iload_n hx hb hd hj (rh_lv_get hl heq) (k H locs ls hG hl)
theorem sn_ild {own : String} {cc : ByteArray} {nL pc : Nat} {i : Nat} (hd : decode cc pc = .ok (.iload i, 2)) : rh_Snd own cc nL pc (i_ild i 2) := by
  intro p l e R s m args below meth c D dT A adr Q L lv st h fr h' hC hf H locs ls cells slots hc hs hG hl k
  obtain ⟨hx, hb, hml, hown, hts, hK, hZ, hfr, hlo⟩ := hC
  obtain ⟨x, heq, hf⟩ := rh_mint hf
  cases hf
  exact lv_iload hx hb hd (rh_lv_get hl heq) (k H locs ls hG hl)
def i_lld (i n : Nat) : rh_X := fun _ s => rh_llong (fun x => some ((s.1.1 + n, s.1.2.1, .long x :: s.1.2.2), s.2)) s.1.2.1[i]?
theorem sn_lld_n {own : String} {cc : ByteArray} {nL pc : Nat} {i : Nat} {j : Fin 4} (hd : decode cc pc = .ok (.lload_n j, 1)) (hj : (j : Nat) = i) : rh_Snd own cc nL pc (i_lld i 1) := by
  intro p l e R s m args below meth c D dT A adr Q L lv st h fr h' hC hf H locs ls cells slots hc hs hG hl k
  obtain ⟨hx, hb, hml, hown, hts, hK, hZ, hfr, hlo⟩ := hC
  obtain ⟨x, heq, hf⟩ := rh_mlong hf
  cases hf
  exact lv_lload_n hx hb hd hj (rh_lv_get hl heq) (k H locs ls hG hl)
theorem sn_lld {own : String} {cc : ByteArray} {nL pc : Nat} {i : Nat} (hd : decode cc pc = .ok (.lload i, 2)) : rh_Snd own cc nL pc (i_lld i 2) := by
  intro p l e R s m args below meth c D dT A adr Q L lv st h fr h' hC hf H locs ls cells slots hc hs hG hl k
  obtain ⟨hx, hb, hml, hown, hts, hK, hZ, hfr, hlo⟩ := hC
  obtain ⟨x, heq, hf⟩ := rh_mlong hf
  cases hf
  exact lv_lload hx hb hd (rh_lv_get hl heq) (k H locs ls hG hl)
def i_ald (i n : Nat) : rh_X := fun _ s => rh_lref (fun x => some ((s.1.1 + n, s.1.2.1, .ref x :: s.1.2.2), s.2)) s.1.2.1[i]?
theorem sn_ald_n {own : String} {cc : ByteArray} {nL pc : Nat} {i : Nat} {j : Fin 4} (hd : decode cc pc = .ok (.aload_n j, 1)) (hj : (j : Nat) = i) : rh_Snd own cc nL pc (i_ald i 1) := by
  intro p l e R s m args below meth c D dT A adr Q L lv st h fr h' hC hf H locs ls cells slots hc hs hG hl k
  obtain ⟨hx, hb, hml, hown, hts, hK, hZ, hfr, hlo⟩ := hC
  obtain ⟨x, heq, hf⟩ := rh_mref hf
  cases hf
  exact lv_aload_n hx hb hd hj (rh_lv_get hl heq) (k H locs ls hG hl)
theorem sn_ald {own : String} {cc : ByteArray} {nL pc : Nat} {i : Nat} (hd : decode cc pc = .ok (.aload i, 2)) : rh_Snd own cc nL pc (i_ald i 2) := by
  intro p l e R s m args below meth c D dT A adr Q L lv st h fr h' hC hf H locs ls cells slots hc hs hG hl k
  obtain ⟨hx, hb, hml, hown, hts, hK, hZ, hfr, hlo⟩ := hC
  obtain ⟨x, heq, hf⟩ := rh_mref hf
  cases hf
  exact lv_aload hx hb hd (rh_lv_get hl heq) (k H locs ls hG hl)
def i_ist (i n : Nat) : rh_X := fun _ s => rh_pi (fun x r => some ((s.1.1 + n, rh_st1 s.1.2.1 i (.int x), r), s.2)) s.1.2.2
theorem sn_ist_n {own : String} {cc : ByteArray} {nL pc : Nat} {i : Nat} {j : Fin 4} (hd : decode cc pc = .ok (.istore_n j, 1)) (hj : (j : Nat) = i) (hn : i < nL) : rh_Snd own cc nL pc (i_ist i 1) := by
  intro p l e R s m args below meth c D dT A adr Q L lv st h fr h' hC hf H locs ls cells slots hc hs hG hl k
  obtain ⟨hx, hb, hml, hown, hts, hK, hZ, hfr, hlo⟩ := hC
  obtain ⟨x, r, rfl, hf⟩ := rh_qi hf
  cases hf
  exact lv_istore_n hx hb hd hj hl hn rfl (fun ls hl => k H locs ls hG (rh_has1 (v := .int x) hl))
theorem sn_ist {own : String} {cc : ByteArray} {nL pc : Nat} {i : Nat} (hd : decode cc pc = .ok (.istore i, 2)) (hn : i < nL) : rh_Snd own cc nL pc (i_ist i 2) := by
  intro p l e R s m args below meth c D dT A adr Q L lv st h fr h' hC hf H locs ls cells slots hc hs hG hl k
  obtain ⟨hx, hb, hml, hown, hts, hK, hZ, hfr, hlo⟩ := hC
  obtain ⟨x, r, rfl, hf⟩ := rh_qi hf
  cases hf
  exact lv_istore hx hb hd hl hn rfl (fun ls hl => k H locs ls hG (rh_has1 (v := .int x) hl))
def i_lst (i n : Nat) : rh_X := fun _ s => rh_pl (fun x r => some ((s.1.1 + n, rh_st2 s.1.2.1 i (.long x), r), s.2)) s.1.2.2
theorem sn_lst_n {own : String} {cc : ByteArray} {nL pc : Nat} {i : Nat} {j : Fin 4} (hd : decode cc pc = .ok (.lstore_n j, 1)) (hj : (j : Nat) = i) (hn : i + 1 < nL) : rh_Snd own cc nL pc (i_lst i 1) := by
  intro p l e R s m args below meth c D dT A adr Q L lv st h fr h' hC hf H locs ls cells slots hc hs hG hl k
  obtain ⟨hx, hb, hml, hown, hts, hK, hZ, hfr, hlo⟩ := hC
  obtain ⟨x, r, rfl, hf⟩ := rh_ql hf
  cases hf
  exact lv_lstore_n hx hb hd hj hl hn rfl (fun ls hl => k H locs ls hG (rh_has2 (v := .long x) hl))
theorem sn_lst {own : String} {cc : ByteArray} {nL pc : Nat} {i : Nat} (hd : decode cc pc = .ok (.lstore i, 2)) (hn : i + 1 < nL) : rh_Snd own cc nL pc (i_lst i 2) := by
  intro p l e R s m args below meth c D dT A adr Q L lv st h fr h' hC hf H locs ls cells slots hc hs hG hl k
  obtain ⟨hx, hb, hml, hown, hts, hK, hZ, hfr, hlo⟩ := hC
  obtain ⟨x, r, rfl, hf⟩ := rh_ql hf
  cases hf
  exact lv_lstore hx hb hd hl hn rfl (fun ls hl => k H locs ls hG (rh_has2 (v := .long x) hl))
def i_ast (i n : Nat) : rh_X := fun _ s => rh_pr (fun x r => some ((s.1.1 + n, rh_st1 s.1.2.1 i (.ref x), r), s.2)) s.1.2.2
theorem sn_ast_n {own : String} {cc : ByteArray} {nL pc : Nat} {i : Nat} {j : Fin 4} (hd : decode cc pc = .ok (.astore_n j, 1)) (hj : (j : Nat) = i) (hn : i < nL) : rh_Snd own cc nL pc (i_ast i 1) := by
  intro p l e R s m args below meth c D dT A adr Q L lv st h fr h' hC hf H locs ls cells slots hc hs hG hl k
  obtain ⟨hx, hb, hml, hown, hts, hK, hZ, hfr, hlo⟩ := hC
  obtain ⟨x, r, rfl, hf⟩ := rh_qr hf
  cases hf
  exact lv_astore_n hx hb hd hj hl hn rfl (fun ls hl => k H locs ls hG (rh_has1 (v := .ref x) hl))
theorem sn_ast {own : String} {cc : ByteArray} {nL pc : Nat} {i : Nat} (hd : decode cc pc = .ok (.astore i, 2)) (hn : i < nL) : rh_Snd own cc nL pc (i_ast i 2) := by
  intro p l e R s m args below meth c D dT A adr Q L lv st h fr h' hC hf H locs ls cells slots hc hs hG hl k
  obtain ⟨hx, hb, hml, hown, hts, hK, hZ, hfr, hlo⟩ := hC
  obtain ⟨x, r, rfl, hf⟩ := rh_qr hf
  cases hf
  exact lv_astore hx hb hd hl hn rfl (fun ls hl => k H locs ls hG (rh_has1 (v := .ref x) hl))
def i_inc (i : Nat) (d : Int32) : rh_X := fun _ s => rh_lint (fun x => some ((s.1.1 + 3, rh_st1 s.1.2.1 i (.int (x + d)), s.1.2.2), s.2)) s.1.2.1[i]?
theorem sn_inc {own : String} {cc : ByteArray} {nL pc : Nat} {i : Nat} {z : Int} {d : Int32} (hd : decode cc pc = .ok (.iinc i z, 3)) (hz : Int32.ofInt z = d) (hn : i < nL) : rh_Snd own cc nL pc (i_inc i d) := by
  intro p l e R s m args below meth c D dT A adr Q L lv st h fr h' hC hf H locs ls cells slots hc hs hG hl k
  obtain ⟨hx, hb, hml, hown, hts, hK, hZ, hfr, hlo⟩ := hC
  obtain ⟨x, heq, hf⟩ := rh_mint hf
  cases hf
  have hm := rh_lv_mem adr lv 0 i (.int x) heq
  rw [Nat.zero_add] at hm
  obtain ⟨j, hj⟩ := List.getElem?_of_mem hm
  exact lv_iinc hx hb hd hl hj (by rw [hz]) hn rfl (fun ls hl => k H locs ls hG (rh_has1 (v := .int (x + d)) hl))
def i_goto (t : Nat) : rh_X := fun _ s => some ((t, s.1.2.1, s.1.2.2), s.2)
theorem sn_goto {own : String} {cc : ByteArray} {nL pc : Nat} {z : Int} {t : Nat} (hd : decode cc pc = .ok (.goto z, 3)) (ht : (pc : Int) + z = (t : Int)) : rh_Snd own cc nL pc (i_goto t) := by
  intro p l e R s m args below meth c D dT A adr Q L lv st h fr h' hC hf H locs ls cells slots hc hs hG hl k
  obtain ⟨hx, hb, hml, hown, hts, hK, hZ, hfr, hlo⟩ := hC
  cases hf
  exact lv_goto hx hb hd ht (k H locs ls hG hl)
def i_ifeq (t : Nat) : rh_X := fun _ s => rh_pi (fun x r => if x = 0 then some ((t, s.1.2.1, r), s.2) else some ((s.1.1 + 3, s.1.2.1, r), s.2)) s.1.2.2
theorem sn_ifeq {own : String} {cc : ByteArray} {nL pc : Nat} {z : Int} {t : Nat} (hd : decode cc pc = .ok (.ifCond .eq z, 3)) (ht : (pc : Int) + z = (t : Int)) : rh_Snd own cc nL pc (i_ifeq t) := by
  intro p l e R s m args below meth c D dT A adr Q L lv st h fr h' hC hf H locs ls cells slots hc hs hG hl k
  obtain ⟨hx, hb, hml, hown, hts, hK, hZ, hfr, hlo⟩ := hC
  obtain ⟨x, r, rfl, hf⟩ := rh_qi hf
  refine lv_if_eq hx hb hd ht (fun hq => ?_) (fun hq => ?_)
  · rw [if_pos hq] at hf
    cases hf
    exact k H locs ls hG hl
  · rw [if_neg hq] at hf
    cases hf
    exact k H locs ls hG hl
def i_iceq (t : Nat) : rh_X := fun _ s => rh_pii (fun y x r => if x = y then some ((t, s.1.2.1, r), s.2) else some ((s.1.1 + 3, s.1.2.1, r), s.2)) s.1.2.2
theorem sn_iceq {own : String} {cc : ByteArray} {nL pc : Nat} {z : Int} {t : Nat} (hd : decode cc pc = .ok (.if_icmp .eq z, 3)) (ht : (pc : Int) + z = (t : Int)) : rh_Snd own cc nL pc (i_iceq t) := by
  intro p l e R s m args below meth c D dT A adr Q L lv st h fr h' hC hf H locs ls cells slots hc hs hG hl k
  obtain ⟨hx, hb, hml, hown, hts, hK, hZ, hfr, hlo⟩ := hC
  obtain ⟨y, x, r, rfl, hf⟩ := rh_qii hf
  refine lv_icmp_eq hx hb hd ht (fun hq => ?_) (fun hq => ?_)
  · rw [if_pos hq] at hf
    cases hf
    exact k H locs ls hG hl
  · rw [if_neg hq] at hf
    cases hf
    exact k H locs ls hG hl
def i_ifne (t : Nat) : rh_X := fun _ s => rh_pi (fun x r => if x = 0 then some ((s.1.1 + 3, s.1.2.1, r), s.2) else some ((t, s.1.2.1, r), s.2)) s.1.2.2
theorem sn_ifne {own : String} {cc : ByteArray} {nL pc : Nat} {z : Int} {t : Nat} (hd : decode cc pc = .ok (.ifCond .ne z, 3)) (ht : (pc : Int) + z = (t : Int)) : rh_Snd own cc nL pc (i_ifne t) := by
  intro p l e R s m args below meth c D dT A adr Q L lv st h fr h' hC hf H locs ls cells slots hc hs hG hl k
  obtain ⟨hx, hb, hml, hown, hts, hK, hZ, hfr, hlo⟩ := hC
  obtain ⟨x, r, rfl, hf⟩ := rh_qi hf
  refine lv_if_ne hx hb hd ht (fun hq => ?_) (fun hq => ?_)
  · rw [if_neg hq] at hf
    cases hf
    exact k H locs ls hG hl
  · rw [if_pos hq] at hf
    cases hf
    exact k H locs ls hG hl
def i_icne (t : Nat) : rh_X := fun _ s => rh_pii (fun y x r => if x = y then some ((s.1.1 + 3, s.1.2.1, r), s.2) else some ((t, s.1.2.1, r), s.2)) s.1.2.2
theorem sn_icne {own : String} {cc : ByteArray} {nL pc : Nat} {z : Int} {t : Nat} (hd : decode cc pc = .ok (.if_icmp .ne z, 3)) (ht : (pc : Int) + z = (t : Int)) : rh_Snd own cc nL pc (i_icne t) := by
  intro p l e R s m args below meth c D dT A adr Q L lv st h fr h' hC hf H locs ls cells slots hc hs hG hl k
  obtain ⟨hx, hb, hml, hown, hts, hK, hZ, hfr, hlo⟩ := hC
  obtain ⟨y, x, r, rfl, hf⟩ := rh_qii hf
  refine lv_icmp_ne hx hb hd ht (fun hq => ?_) (fun hq => ?_)
  · rw [if_neg hq] at hf
    cases hf
    exact k H locs ls hG hl
  · rw [if_pos hq] at hf
    cases hf
    exact k H locs ls hG hl
def i_iflt (t : Nat) : rh_X := fun _ s => rh_pi (fun x r => if x < 0 then some ((t, s.1.2.1, r), s.2) else some ((s.1.1 + 3, s.1.2.1, r), s.2)) s.1.2.2
theorem sn_iflt {own : String} {cc : ByteArray} {nL pc : Nat} {z : Int} {t : Nat} (hd : decode cc pc = .ok (.ifCond .lt z, 3)) (ht : (pc : Int) + z = (t : Int)) : rh_Snd own cc nL pc (i_iflt t) := by
  intro p l e R s m args below meth c D dT A adr Q L lv st h fr h' hC hf H locs ls cells slots hc hs hG hl k
  obtain ⟨hx, hb, hml, hown, hts, hK, hZ, hfr, hlo⟩ := hC
  obtain ⟨x, r, rfl, hf⟩ := rh_qi hf
  refine lv_if_lt hx hb hd ht (fun hq => ?_) (fun hq => ?_)
  · rw [if_pos hq] at hf
    cases hf
    exact k H locs ls hG hl
  · rw [if_neg hq] at hf
    cases hf
    exact k H locs ls hG hl
def i_iclt (t : Nat) : rh_X := fun _ s => rh_pii (fun y x r => if x < y then some ((t, s.1.2.1, r), s.2) else some ((s.1.1 + 3, s.1.2.1, r), s.2)) s.1.2.2
theorem sn_iclt {own : String} {cc : ByteArray} {nL pc : Nat} {z : Int} {t : Nat} (hd : decode cc pc = .ok (.if_icmp .lt z, 3)) (ht : (pc : Int) + z = (t : Int)) : rh_Snd own cc nL pc (i_iclt t) := by
  intro p l e R s m args below meth c D dT A adr Q L lv st h fr h' hC hf H locs ls cells slots hc hs hG hl k
  obtain ⟨hx, hb, hml, hown, hts, hK, hZ, hfr, hlo⟩ := hC
  obtain ⟨y, x, r, rfl, hf⟩ := rh_qii hf
  refine lv_icmp_lt hx hb hd ht (fun hq => ?_) (fun hq => ?_)
  · rw [if_pos hq] at hf
    cases hf
    exact k H locs ls hG hl
  · rw [if_neg hq] at hf
    cases hf
    exact k H locs ls hG hl
def i_ifge (t : Nat) : rh_X := fun _ s => rh_pi (fun x r => if 0 ≤ x then some ((t, s.1.2.1, r), s.2) else some ((s.1.1 + 3, s.1.2.1, r), s.2)) s.1.2.2
theorem sn_ifge {own : String} {cc : ByteArray} {nL pc : Nat} {z : Int} {t : Nat} (hd : decode cc pc = .ok (.ifCond .ge z, 3)) (ht : (pc : Int) + z = (t : Int)) : rh_Snd own cc nL pc (i_ifge t) := by
  intro p l e R s m args below meth c D dT A adr Q L lv st h fr h' hC hf H locs ls cells slots hc hs hG hl k
  obtain ⟨hx, hb, hml, hown, hts, hK, hZ, hfr, hlo⟩ := hC
  obtain ⟨x, r, rfl, hf⟩ := rh_qi hf
  refine lv_if_ge hx hb hd ht (fun hq => ?_) (fun hq => ?_)
  · rw [if_pos hq] at hf
    cases hf
    exact k H locs ls hG hl
  · rw [if_neg hq] at hf
    cases hf
    exact k H locs ls hG hl
def i_icge (t : Nat) : rh_X := fun _ s => rh_pii (fun y x r => if y ≤ x then some ((t, s.1.2.1, r), s.2) else some ((s.1.1 + 3, s.1.2.1, r), s.2)) s.1.2.2
theorem sn_icge {own : String} {cc : ByteArray} {nL pc : Nat} {z : Int} {t : Nat} (hd : decode cc pc = .ok (.if_icmp .ge z, 3)) (ht : (pc : Int) + z = (t : Int)) : rh_Snd own cc nL pc (i_icge t) := by
  intro p l e R s m args below meth c D dT A adr Q L lv st h fr h' hC hf H locs ls cells slots hc hs hG hl k
  obtain ⟨hx, hb, hml, hown, hts, hK, hZ, hfr, hlo⟩ := hC
  obtain ⟨y, x, r, rfl, hf⟩ := rh_qii hf
  refine lv_icmp_ge hx hb hd ht (fun hq => ?_) (fun hq => ?_)
  · rw [if_pos hq] at hf
    cases hf
    exact k H locs ls hG hl
  · rw [if_neg hq] at hf
    cases hf
    exact k H locs ls hG hl
def i_ifgt (t : Nat) : rh_X := fun _ s => rh_pi (fun x r => if 0 < x then some ((t, s.1.2.1, r), s.2) else some ((s.1.1 + 3, s.1.2.1, r), s.2)) s.1.2.2
theorem sn_ifgt {own : String} {cc : ByteArray} {nL pc : Nat} {z : Int} {t : Nat} (hd : decode cc pc = .ok (.ifCond .gt z, 3)) (ht : (pc : Int) + z = (t : Int)) : rh_Snd own cc nL pc (i_ifgt t) := by
  intro p l e R s m args below meth c D dT A adr Q L lv st h fr h' hC hf H locs ls cells slots hc hs hG hl k
  obtain ⟨hx, hb, hml, hown, hts, hK, hZ, hfr, hlo⟩ := hC
  obtain ⟨x, r, rfl, hf⟩ := rh_qi hf
  refine lv_if_gt hx hb hd ht (fun hq => ?_) (fun hq => ?_)
  · rw [if_pos hq] at hf
    cases hf
    exact k H locs ls hG hl
  · rw [if_neg hq] at hf
    cases hf
    exact k H locs ls hG hl
def i_icgt (t : Nat) : rh_X := fun _ s => rh_pii (fun y x r => if y < x then some ((t, s.1.2.1, r), s.2) else some ((s.1.1 + 3, s.1.2.1, r), s.2)) s.1.2.2
theorem sn_icgt {own : String} {cc : ByteArray} {nL pc : Nat} {z : Int} {t : Nat} (hd : decode cc pc = .ok (.if_icmp .gt z, 3)) (ht : (pc : Int) + z = (t : Int)) : rh_Snd own cc nL pc (i_icgt t) := by
  intro p l e R s m args below meth c D dT A adr Q L lv st h fr h' hC hf H locs ls cells slots hc hs hG hl k
  obtain ⟨hx, hb, hml, hown, hts, hK, hZ, hfr, hlo⟩ := hC
  obtain ⟨y, x, r, rfl, hf⟩ := rh_qii hf
  refine lv_icmp_gt hx hb hd ht (fun hq => ?_) (fun hq => ?_)
  · rw [if_pos hq] at hf
    cases hf
    exact k H locs ls hG hl
  · rw [if_neg hq] at hf
    cases hf
    exact k H locs ls hG hl
def i_ifle (t : Nat) : rh_X := fun _ s => rh_pi (fun x r => if x ≤ 0 then some ((t, s.1.2.1, r), s.2) else some ((s.1.1 + 3, s.1.2.1, r), s.2)) s.1.2.2
theorem sn_ifle {own : String} {cc : ByteArray} {nL pc : Nat} {z : Int} {t : Nat} (hd : decode cc pc = .ok (.ifCond .le z, 3)) (ht : (pc : Int) + z = (t : Int)) : rh_Snd own cc nL pc (i_ifle t) := by
  intro p l e R s m args below meth c D dT A adr Q L lv st h fr h' hC hf H locs ls cells slots hc hs hG hl k
  obtain ⟨hx, hb, hml, hown, hts, hK, hZ, hfr, hlo⟩ := hC
  obtain ⟨x, r, rfl, hf⟩ := rh_qi hf
  refine lv_if_le hx hb hd ht (fun hq => ?_) (fun hq => ?_)
  · rw [if_pos hq] at hf
    cases hf
    exact k H locs ls hG hl
  · rw [if_neg hq] at hf
    cases hf
    exact k H locs ls hG hl
def i_icle (t : Nat) : rh_X := fun _ s => rh_pii (fun y x r => if x ≤ y then some ((t, s.1.2.1, r), s.2) else some ((s.1.1 + 3, s.1.2.1, r), s.2)) s.1.2.2
theorem sn_icle {own : String} {cc : ByteArray} {nL pc : Nat} {z : Int} {t : Nat} (hd : decode cc pc = .ok (.if_icmp .le z, 3)) (ht : (pc : Int) + z = (t : Int)) : rh_Snd own cc nL pc (i_icle t) := by
  intro p l e R s m args below meth c D dT A adr Q L lv st h fr h' hC hf H locs ls cells slots hc hs hG hl k
  obtain ⟨hx, hb, hml, hown, hts, hK, hZ, hfr, hlo⟩ := hC
  obtain ⟨y, x, r, rfl, hf⟩ := rh_qii hf
  refine lv_icmp_le hx hb hd ht (fun hq => ?_) (fun hq => ?_)
  · rw [if_pos hq] at hf
    cases hf
    exact k H locs ls hG hl
  · rw [if_neg hq] at hf
    cases hf
    exact k H locs ls hG hl
