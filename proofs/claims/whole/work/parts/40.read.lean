/-! reading THE TEXT, the reference's side -/
def HR (t top : Nat) (tx : Nat → Nat) (p : Nat) : Int32 := if p < t ∧ p < top then nI (tx p) else -1
def DGT (t top : Nat) (tx : Nat → Nat) (p : Nat) : Prop := p < t ∧ p < top ∧ 48 ≤ tx p ∧ tx p ≤ 57
def vl (tx : Nat → Nat) (p : Nat) : Nat → Nat
  | 0 => 0
  | d + 1 => 10 * vl tx p d + (tx (p + d) - 48)
def RS (t top : Nat) (tx : Nat → Nat) (p : Nat) (h : HI) : Prop := t ≤ 80 ∧ top ≤ 80 ∧ p < 150 ∧ h 0 11 = nI t ∧ h 0 12 = nI top ∧ h 0 13 = nI p ∧ h 0 14 = -1 ∧ ∀ i, i < t → tx i < 256 ∧ h 4 i &&& 255 = nI (tx i)
def E34 (h h' : HI) : Prop := ∀ o j, (o = 0 → j ≠ 13 ∧ j ≠ 14) → h' o j = h o j
theorem E34.rf {h : HI} : E34 h h := fun _ _ _ => rfl
theorem E34.tr {a b c : HI} (h : E34 a b) (g : E34 b c) : E34 a c := fun o k q => (g o k q).trans (h o k q)
theorem E34.u13 {a b : HI} (h : E34 a b) (v : Int32) : E34 a (rh_up b 0 13 v) := fun o k q => by
  rw [up_f, if_neg (fun z => (q z.1).1 z.2)]; exact h o k q
theorem E34.u14 {a b : HI} (h : E34 a b) (v : Int32) : E34 a (rh_up b 0 14 v) := fun o k q => by
  rw [up_f, if_neg (fun z => (q z.1).2 z.2)]; exact h o k q
section READ
variable {t top p : Nat} {tx : Nat → Nat} {h : HI}
theorem RS.mv {h' : HI} {p' : Nat} (r : RS t top tx p h) (e : E34 h h') (h13 : h' 0 13 = nI p') (hp : p' < 150) (h14 : h' 0 14 = -1) : RS t top tx p' h' := by
  obtain ⟨a1, a2, a3, a4, a5, a6, a7, a8⟩ := r
  refine ⟨a1, a2, hp, (e 0 11 (by omega)).trans a4, (e 0 12 (by omega)).trans a5, h13, h14, fun i hi => ?_⟩
  rw [e 4 i (by omega)]
  exact a8 i hi
theorem RS.u6 (r : RS t top tx p h) (k : Nat) (v : Int32) {o : Nat} (ho : o ≠ 0) (ho4 : o ≠ 4) : RS t top tx p (rh_up h o k v) := by
  obtain ⟨a1, a2, a3, a4, a5, a6, a7, a8⟩ := r
  refine ⟨a1, a2, a3, ?_, ?_, ?_, ?_, fun i hi => ?_⟩
  · rw [up_f, if_neg (by omega)]; exact a4
  · rw [up_f, if_neg (by omega)]; exact a5
  · rw [up_f, if_neg (by omega)]; exact a6
  · rw [up_f, if_neg (by omega)]; exact a7
  · rw [up_f, if_neg (by omega)]; exact a8 i hi
theorem fine1 (r : h 0 14 = -1) : f_Mo_fine h = 1 := by unfold f_Mo_fine; rw [if_pos r]
theorem fine0 {w : Nat} (hw : w < 2 ^ 31) (r : h 0 14 = nI w) : f_Mo_fine h = 0 := by unfold f_Mo_fine; rw [if_neg (by rw [r]; exact nI_ne1 hw)]
theorem fault1 (r : h 0 14 = -1) (v : Int32) : f_Mo_fault h v = rh_up h 0 14 v := by unfold f_Mo_fault; rw [fine1 r, if_neg (by decide)]
theorem fault0 {w : Nat} (hw : w < 2 ^ 31) (r : h 0 14 = nI w) (v : Int32) : f_Mo_fault h v = h := by unfold f_Mo_fault; rw [fine0 hw r, if_pos rfl]
theorem he4 (r : RS t top tx p h) : f_Mo_here_r4 h = some (HR t top tx p) := by
  obtain ⟨a1, a2, a3, a4, a5, a6, a7, a8⟩ := r
  unfold f_Mo_here_r4 HR
  rw [a4, a5, a6]
  by_cases h1 : p < t
  · rw [if_neg (nI_ge h1 (by omega))]
    by_cases h2 : p < top
    · rw [if_neg (nI_ge h2 (by omega)), rg_t (gd_nI (by omega) (by omega)), if_pos ⟨h1, h2⟩, nI_clamp (by omega), (a8 p h1).2]
    · rw [if_pos (nI_le (by omega) (by omega)), if_neg (fun z => h2 z.2)]
  · rw [if_pos (nI_le (by omega) (by omega)), if_neg (fun z => h1 z.1)]
theorem HR_is (r : RS t top tx p h) {s : Nat} (hs : s < 256) : HR t top tx p = nI s ↔ p < t ∧ p < top ∧ tx p = s := by
  obtain ⟨a1, a2, a3, a4, a5, a6, a7, a8⟩ := r
  unfold HR
  by_cases h1 : p < t ∧ p < top
  · rw [if_pos h1]
    have := (a8 p h1.1).1
    rw [nI_eq (by omega) (by omega)]
    exact ⟨fun z => ⟨h1.1, h1.2, z⟩, fun z => z.2.2⟩
  · rw [if_neg h1]
    constructor
    · intro z; exact absurd z.symm (nI_ne1 (by omega))
    · intro z; exact absurd ⟨z.1, z.2.1⟩ h1
theorem HR_dg (r : RS t top tx p h) : ¬ f_Mo_in (HR t top tx p) 48 57 = 0 ↔ DGT t top tx p := by
  obtain ⟨a1, a2, a3, a4, a5, a6, a7, a8⟩ := r
  unfold HR DGT
  rw [in_wi]
  by_cases h1 : p < t ∧ p < top
  · rw [if_pos h1]
    have h256 := (a8 p h1.1).1
    unfold f_La_within
    rw [show (48 : Int32) = nI 48 from rfl, show (57 : Int32) = nI 57 from rfl]
    by_cases h2 : tx p < 48
    · rw [if_pos ((nI_ltI (by omega) (by omega)).mpr h2)]
      exact ⟨fun z => absurd rfl z, fun z => absurd z.2.2.1 (by omega)⟩
    · rw [if_neg (fun z => h2 ((nI_ltI (by omega) (by omega)).mp z))]
      by_cases h3 : 57 < tx p
      · rw [if_pos ((nI_ltI (by omega) (by omega)).mpr h3)]
        exact ⟨fun z => absurd rfl z, fun z => absurd z.2.2.2 (by omega)⟩
      · rw [if_neg (fun z => h3 ((nI_ltI (by omega) (by omega)).mp z))]
        exact ⟨fun _ => ⟨h1.1, h1.2, by omega, by omega⟩, fun _ => by decide⟩
  · rw [if_neg h1]
    refine ⟨fun z => absurd (by decide) z, fun z => absurd ⟨z.1, z.2.1⟩ h1⟩
theorem ps4 (r : RS t top tx p h) {s : Nat} (hs : s < 256) : f_Mo_passes_r4 h (nI s) = some (if p < t ∧ p < top ∧ tx p = s then (1, rh_up h 0 13 (nI (p + 1))) else (0, h)) := by
  unfold f_Mo_passes_r4
  rw [fine1 r.2.2.2.2.2.2.1, if_neg (by decide), he4 r, Option.bind_some, r.2.2.2.2.2.1, nI_1]
  by_cases hh : p < t ∧ p < top ∧ tx p = s
  · rw [if_pos ((HR_is r hs).mpr hh), if_pos hh]
  · rw [if_neg (fun z => hh ((HR_is r hs).mp z)), if_neg hh]
theorem ps4n {w : Nat} (hw : w < 2 ^ 31) (r : h 0 14 = nI w) (s : Int32) : f_Mo_passes_r4 h s = some (0, h) := by
  unfold f_Mo_passes_r4
  rw [fine0 hw r, if_pos rfl]
theorem vl_lt (hd : ∀ i, i < 3 → DGT t top tx (p + i) → tx (p + i) ≤ 57) : ∀ d, d ≤ 3 → (∀ i, i < d → DGT t top tx (p + i)) → vl tx p d < 10 ^ d
  | 0, _, _ => Nat.zero_lt_one
  | d + 1, h1, h2 => by
    have ih := vl_lt hd d (by omega) (fun i hi => h2 i (by omega))
    have := (h2 d (by omega)).2.2.2
    unfold vl
    rw [Nat.pow_succ]
    omega
theorem vl_999 {d : Nat} (h1 : d ≤ 3) (h2 : ∀ i, i < d → DGT t top tx (p + i)) : vl tx p d ≤ 999 := by
  have := vl_lt (t := t) (top := top) (tx := tx) (p := p) (fun i _ h => h.2.2.2) d h1 h2
  have h3 : 10 ^ d ≤ 10 ^ 3 := Nat.pow_le_pow_right (by omega) h1
  omega
theorem nm4 (r : RS t top tx p h) {D : Nat} (hD : D ≤ 3) (hp : p < 100) : OK (f_Mo_number_r4 h (nI D)) (fun x => ∃ d, d ≤ D ∧ (∀ i, i < d → DGT t top tx (p + i)) ∧ (d = D ∨ ¬ DGT t top tx (p + d)) ∧ x.1 = nI (vl tx p d) ∧ E34 h x.2 ∧ x.2 0 13 = nI (p + d) ∧ x.2 0 14 = if d = 0 then nI p else -1) := by
  unfold f_Mo_number_r4
  have r13 := r.2.2.2.2.2.1
  have r14 := r.2.2.2.2.2.2.1
  rw [fine1 r14, if_neg (by decide), r13]
  refine OK.bind (OK.loop _ (fun d x => d ≤ D ∧ (∀ i, i < d → DGT t top tx (p + i)) ∧ x.1 = nI (vl tx p d) ∧ E34 h x.2 ∧ x.2 0 13 = nI (p + d) ∧ x.2 0 14 = -1) (fun x => ∃ d, d ≤ D ∧ (∀ i, i < d → DGT t top tx (p + i)) ∧ (d = D ∨ ¬ DGT t top tx (p + d)) ∧ x.1 = nI (vl tx p d) ∧ E34 h x.2 ∧ x.2 0 13 = nI (p + d) ∧ x.2 0 14 = -1) D (by omega) ?_ ⟨by omega, fun i hi => by omega, rfl, E34.rf, r13, r14⟩) ?_
  · rintro d ⟨v, g⟩ - ⟨hd, hdg, rfl, e, e13, e14⟩
    dsimp only at e e13 e14
    have r' := r.mv e e13 (by omega) e14
    unfold b_Mo_number_r4_16
    dsimp only
    simp only [e13, nI_add]
    refine OK.ite (fun hc => OK.ret ?_) (fun hc => ?_)
    · have := ple hc (by omega) (by omega)
      exact ⟨d, hd, hdg, Or.inl (by omega), rfl, e, e13, e14⟩
    have hd2 : d < D := by have := nle hc (by omega) (by omega); omega
    rw [he4 r', Option.bind_some, Option.bind_some]
    refine OK.ite (fun hz => OK.ret ⟨d, hd, hdg, Or.inr (fun z => (HR_dg r').mpr z hz), rfl, e, e13, e14⟩) (fun hz => ?_)
    have dg := (HR_dg r').mp hz
    refine OK.ret ⟨hd2, hd2, fun i hi => ?_, ?_, e.u13 _, by show nI (p + d) + 1 = _; rw [nI_1]; rfl, e14⟩
    · rcases (show i < d ∨ i = d by omega) with z | z
      · exact hdg i z
      · subst z; exact dg
    · show (10 : Int32) * nI (vl tx p d) + HR t top tx (p + d) - 48 = nI (vl tx p (d + 1))
      have h3 := dg.2.2
      unfold HR
      rw [if_pos ⟨dg.1, dg.2.1⟩, show (10 : Int32) * nI (vl tx p d) = nI (10 * vl tx p d) from pk_mul 10 _, nI_add, show nI (10 * vl tx p d + tx (p + d)) - 48 = nI (10 * vl tx p d + tx (p + d) - 48) from pk_sub (b := 48) (by omega)]
      show nI _ = nI (10 * vl tx p d + (tx (p + d) - 48))
      congr 1
      omega
  · rintro ⟨v, g⟩ ⟨d, hd, hdg, hx, rfl, e, e13, e14⟩
    dsimp only at e e13 e14 ⊢
    simp only [e13]
    by_cases h0 : d = 0
    · subst h0
      rw [if_pos (show nI (p + 0) = nI p from rfl), fault1 e14]
      exact OK.ret ⟨0, by omega, hdg, hx, rfl, e.u14 _, e13, rfl⟩
    · rw [if_neg (fun z => h0 (by have := (nI_eq (by omega) (by omega)).mp z; omega))]
      exact OK.ret ⟨d, hd, hdg, hx, rfl, e, e13, by rw [if_neg h0]; exact e14⟩
theorem nm4n {w : Nat} (hw : w < 2 ^ 31) (r : h 0 14 = nI w) (s : Int32) : f_Mo_number_r4 h s = some (0, h) := by
  unfold f_Mo_number_r4
  rw [fine0 hw r, if_pos rfl]
end READ
section LPS
variable {σ ρ : Type}
theorem st_l {b : σ → Option (σ ⊕ ρ)} {s s' : σ} (h : b s = some (.inl s')) {N : Nat} (hN : 1 ≤ N) : rh_loop b N s = rh_loop b (N - 1) s' := by
  obtain ⟨n, rfl⟩ : ∃ n, N = n + 1 := ⟨N - 1, by omega⟩
  rw [lp_go h]; rfl
theorem st_e {b : σ → Option (σ ⊕ ρ)} {s : σ} {r : ρ} (h : b s = some (.inr r)) {N : Nat} (hN : 1 ≤ N) : rh_loop b N s = some r := by
  obtain ⟨n, rfl⟩ : ∃ n, N = n + 1 := ⟨N - 1, by omega⟩
  rw [lp_end h]
end LPS
/-- the text is emptied; nothing else that lasts has changed -/
theorem RLt.text {k n Pm : Nat} {B : Nat → Nat} {V : Nat → Nat → Nat → Nat} {c m c' m' : HI} (h : RLt k n Pm B V c m) (x : ∀ o j, pC o j = true → (o = 0 → j ≠ 1) → c' o j = c o j) (x0 : c' 0 1 = 0) (y : ∀ o j, pM o j = true → (o = 0 → j ≠ 6) → m' o j = m o j) (y0 : m' 0 6 = 0) (g1 : c' 2 1 = c 2 1) (g2 : ∀ i, c' 3 i = c 3 i) (g3 : m' 0 8 = m 0 8) (g4 : ∀ i, m' 5 i = m 5 i) : RLt (k + 1) n Pm B V c' m' := by
  refine ⟨?_, h.2.kept g1 g2 g3 g4⟩
  have h2 := h.1.mono (Nat.le_succ k)
  rw [← rC_eq (SC.mx (S := fun o j => o == 0 && j == 1) (c := c) (c' := c') (fun o j hp hS => by simp only [Bool.and_eq_false_iff, beq_eq_false_iff_ne] at hS; exact x o j hp (fun z => by omega))), ← rM_eq (SM.mx (S := fun o j => o == 0 && j == 6) (c := m) (c' := m') (fun o j hp hS => by simp only [Bool.and_eq_false_iff, beq_eq_false_iff_ne] at hS; exact y o j hp (fun z => by omega)))] at h2
  obtain ⟨a1, a2, a3, a4, a5, a6, a7, a8, a9⟩ := h2
  exact ⟨⟨0, by omega, x0, y0, fun i hi => by omega⟩, a2, a3, a4, a5, a6, a7, a8, a9⟩
