/-! the same of the rule that is kept (cell 7): made from 40.read and 53.rule4 by program -/
def RZ (t top : Nat) (tx : Nat → Nat) (p : Nat) (h : HI) : Prop := t ≤ 40 ∧ top ≤ 40 ∧ p < 150 ∧ h 0 11 = nI t ∧ h 0 12 = nI top ∧ h 0 13 = nI p ∧ h 0 14 = -1 ∧ ∀ i, i < t → tx i < 256 ∧ h 7 i &&& 255 = nI (tx i)
section REA7
variable {t top p : Nat} {tx : Nat → Nat} {h : HI}
theorem RZ.mv {h' : HI} {p' : Nat} (r : RZ t top tx p h) (e : E34 h h') (h13 : h' 0 13 = nI p') (hp : p' < 150) (h14 : h' 0 14 = -1) : RZ t top tx p' h' := by
  obtain ⟨a1, a2, a3, a4, a5, a6, a7, a8⟩ := r
  refine ⟨a1, a2, hp, (e 0 11 (by omega)).trans a4, (e 0 12 (by omega)).trans a5, h13, h14, fun i hi => ?_⟩
  rw [e 7 i (by omega)]
  exact a8 i hi
theorem RZ.u6 (r : RZ t top tx p h) (k : Nat) (v : Int32) {o : Nat} (ho : o ≠ 0) (ho4 : o ≠ 7) : RZ t top tx p (rh_up h o k v) := by
  obtain ⟨a1, a2, a3, a4, a5, a6, a7, a8⟩ := r
  refine ⟨a1, a2, a3, ?_, ?_, ?_, ?_, fun i hi => ?_⟩
  · rw [up_f, if_neg (by omega)]; exact a4
  · rw [up_f, if_neg (by omega)]; exact a5
  · rw [up_f, if_neg (by omega)]; exact a6
  · rw [up_f, if_neg (by omega)]; exact a7
  · rw [up_f, if_neg (by omega)]; exact a8 i hi
theorem he7 (r : RZ t top tx p h) : f_Mo_here_r7 h = some (HR t top tx p) := by
  obtain ⟨a1, a2, a3, a4, a5, a6, a7, a8⟩ := r
  unfold f_Mo_here_r7 HR
  rw [a4, a5, a6]
  by_cases h1 : p < t
  · rw [if_neg (nI_ge h1 (by omega))]
    by_cases h2 : p < top
    · rw [if_neg (nI_ge h2 (by omega)), rg_t (gd_nI (by omega) (by omega)), if_pos ⟨h1, h2⟩, nI_clamp (by omega), (a8 p h1).2]
    · rw [if_pos (nI_le (by omega) (by omega)), if_neg (fun z => h2 z.2)]
  · rw [if_pos (nI_le (by omega) (by omega)), if_neg (fun z => h1 z.1)]
theorem HZ_is (r : RZ t top tx p h) {s : Nat} (hs : s < 256) : HR t top tx p = nI s ↔ p < t ∧ p < top ∧ tx p = s := by
  obtain ⟨a1, a2, a3, a4, a5, a6, a7, a8⟩ := r
  unfold HR
  by_cases h1 : p < t ∧ p < top
  · rw [if_pos h1]
    have := (a8 p h1.1).1
    rw [nI_eq (by omega) (by omega)]
    exact ⟨fun z => ⟨h1.1, h1.2, z⟩, fun z => z.2.2⟩
  · rw [if_neg h1]
    constructor
    · intro z; exact absurd z.symm (nI_ne1 (by omega))
    · intro z; exact absurd ⟨z.1, z.2.1⟩ h1
theorem HZ_dg (r : RZ t top tx p h) : ¬ f_Mo_in (HR t top tx p) 48 57 = 0 ↔ DGT t top tx p := by
  obtain ⟨a1, a2, a3, a4, a5, a6, a7, a8⟩ := r
  unfold HR DGT
  rw [in_wi]
  by_cases h1 : p < t ∧ p < top
  · rw [if_pos h1]
    have h256 := (a8 p h1.1).1
    unfold f_La_within
    rw [show (48 : Int32) = nI 48 from rfl, show (57 : Int32) = nI 57 from rfl]
    by_cases h2 : tx p < 48
    · rw [if_pos ((nI_ltI (by omega) (by omega)).mpr h2)]
      exact ⟨fun z => absurd rfl z, fun z => absurd z.2.2.1 (by omega)⟩
    · rw [if_neg (fun z => h2 ((nI_ltI (by omega) (by omega)).mp z))]
      by_cases h3 : 57 < tx p
      · rw [if_pos ((nI_ltI (by omega) (by omega)).mpr h3)]
        exact ⟨fun z => absurd rfl z, fun z => absurd z.2.2.2 (by omega)⟩
      · rw [if_neg (fun z => h3 ((nI_ltI (by omega) (by omega)).mp z))]
        exact ⟨fun _ => ⟨h1.1, h1.2, by omega, by omega⟩, fun _ => by decide⟩
  · rw [if_neg h1]
    refine ⟨fun z => absurd (by decide) z, fun z => absurd ⟨z.1, z.2.1⟩ h1⟩
theorem ps7 (r : RZ t top tx p h) {s : Nat} (hs : s < 256) : f_Mo_passes_r7 h (nI s) = some (if p < t ∧ p < top ∧ tx p = s then (1, rh_up h 0 13 (nI (p + 1))) else (0, h)) := by
  unfold f_Mo_passes_r7
  rw [fine1 r.2.2.2.2.2.2.1, if_neg (by decide), he7 r, Option.bind_some, r.2.2.2.2.2.1, nI_1]
  by_cases hh : p < t ∧ p < top ∧ tx p = s
  · rw [if_pos ((HZ_is r hs).mpr hh), if_pos hh]
  · rw [if_neg (fun z => hh ((HZ_is r hs).mp z)), if_neg hh]
theorem ps7n {w : Nat} (hw : w < 2 ^ 31) (r : h 0 14 = nI w) (s : Int32) : f_Mo_passes_r7 h s = some (0, h) := by
  unfold f_Mo_passes_r7
  rw [fine0 hw r, if_pos rfl]
theorem nm7 (r : RZ t top tx p h) {D : Nat} (hD : D ≤ 3) (hp : p < 100) : OK (f_Mo_number_r7 h (nI D)) (fun x => ∃ d, d ≤ D ∧ (∀ i, i < d → DGT t top tx (p + i)) ∧ (d = D ∨ ¬ DGT t top tx (p + d)) ∧ x.1 = nI (vl tx p d) ∧ E34 h x.2 ∧ x.2 0 13 = nI (p + d) ∧ x.2 0 14 = if d = 0 then nI p else -1) := by
  unfold f_Mo_number_r7
  have r13 := r.2.2.2.2.2.1
  have r14 := r.2.2.2.2.2.2.1
  rw [fine1 r14, if_neg (by decide), r13]
  refine OK.bind (OK.loop _ (fun d x => d ≤ D ∧ (∀ i, i < d → DGT t top tx (p + i)) ∧ x.1 = nI (vl tx p d) ∧ E34 h x.2 ∧ x.2 0 13 = nI (p + d) ∧ x.2 0 14 = -1) (fun x => ∃ d, d ≤ D ∧ (∀ i, i < d → DGT t top tx (p + i)) ∧ (d = D ∨ ¬ DGT t top tx (p + d)) ∧ x.1 = nI (vl tx p d) ∧ E34 h x.2 ∧ x.2 0 13 = nI (p + d) ∧ x.2 0 14 = -1) D (by omega) ?_ ⟨by omega, fun i hi => by omega, rfl, E34.rf, r13, r14⟩) ?_
  · rintro d ⟨v, g⟩ - ⟨hd, hdg, rfl, e, e13, e14⟩
    dsimp only at e e13 e14
    have r' := r.mv e e13 (by omega) e14
    unfold b_Mo_number_r7_16
    dsimp only
    simp only [e13, nI_add]
    refine OK.ite (fun hc => OK.ret ?_) (fun hc => ?_)
    · have := ple hc (by omega) (by omega)
      exact ⟨d, hd, hdg, Or.inl (by omega), rfl, e, e13, e14⟩
    have hd2 : d < D := by have := nle hc (by omega) (by omega); omega
    rw [he7 r', Option.bind_some, Option.bind_some]
    refine OK.ite (fun hz => OK.ret ⟨d, hd, hdg, Or.inr (fun z => (HZ_dg r').mpr z hz), rfl, e, e13, e14⟩) (fun hz => ?_)
    have dg := (HZ_dg r').mp hz
    refine OK.ret ⟨hd2, hd2, fun i hi => ?_, ?_, e.u13 _, by show nI (p + d) + 1 = _; rw [nI_1]; rfl, e14⟩
    · rcases (show i < d ∨ i = d by omega) with z | z
      · exact hdg i z
      · subst z; exact dg
    · show (10 : Int32) * nI (vl tx p d) + HR t top tx (p + d) - 48 = nI (vl tx p (d + 1))
      have h3 := dg.2.2
      unfold HR
      rw [if_pos ⟨dg.1, dg.2.1⟩, show (10 : Int32) * nI (vl tx p d) = nI (10 * vl tx p d) from pk_mul 10 _, nI_add, show nI (10 * vl tx p d + tx (p + d)) - 48 = nI (10 * vl tx p d + tx (p + d) - 48) from pk_sub (b := 48) (by omega)]
      show nI _ = nI (10 * vl tx p d + (tx (p + d) - 48))
      congr 1
      omega
  · rintro ⟨v, g⟩ ⟨d, hd, hdg, hx, rfl, e, e13, e14⟩
    dsimp only at e e13 e14 ⊢
    simp only [e13]
    by_cases h0 : d = 0
    · subst h0
      rw [if_pos (show nI (p + 0) = nI p from rfl), fault1 e14]
      exact OK.ret ⟨0, by omega, hdg, hx, rfl, e.u14 _, e13, rfl⟩
    · rw [if_neg (fun z => h0 (by have := (nI_eq (by omega) (by omega)).mp z; omega))]
      exact OK.ret ⟨d, hd, hdg, hx, rfl, e, e13, by rw [if_neg h0]; exact e14⟩
theorem nm7n {w : Nat} (hw : w < 2 ^ 31) (r : h 0 14 = nI w) (s : Int32) : f_Mo_number_r7 h s = some (0, h) := by
  unfold f_Mo_number_r7
  rw [fine0 hw r, if_pos rfl]
end REA7
def HT7 (T : HI → Int32 → Option (Int32 × HI)) (tx : Nat → Nat) (t top e q0 : Nat) : Prop := ∀ p W D dp cm h, q0 ≤ p → p ≤ e → dp ≤ 4 → RZ t top tx p h → OK (T h (nI dp)) (fun x => (∃ n dg cm', 0 < n ∧ PG tx e p W D dp cm h 4 n dg cm' x) ∨ PF tx e p (W, D, dp, 0, false, cm) h x.2)
section PAR7
variable {T : HI → Int32 → Option (Int32 × HI)} {tx : Nat → Nat} {t top e q0 p : Nat} {W : List Nat} {D : List Int32} {dp : Nat} {cm : Nat → Bool} {h : HI}
theorem pr7 (H : HT7 T tx t top e q0) (he : e = min t top) (he2 : e ≤ 40) (htx : ∀ i, i < e → tx i < 256) (hp : q0 ≤ p) (hpe : p ≤ e) (hd : dp ≤ 4) (hW : tbd W < 3) (r : RZ t top tx p h) : OK (f_Mo_product_r7 T h (nI dp)) (fun x => (∃ n dg cm', 0 < n ∧ PG tx e p W D dp cm h 3 n dg cm' x ∧ (p + n < e → bo (tx (p + n)) < 3)) ∨ PF tx e p (W, D, dp, 0, false, cm) h x.2) := by
  unfold f_Mo_product_r7
  refine OK.bind (H p W D dp cm h hp hpe hd r) (fun x1 hx1 => ?_)
  refine OK.bind (OK.loop _ (fun i s => (∃ n dg cm', i < n ∧ PG tx e p W D dp cm h 3 n dg cm' s) ∨ PF tx e p (W, D, dp, 0, false, cm) h s.2) (fun x => (∃ n dg cm', 0 < n ∧ PG tx e p W D dp cm h 3 n dg cm' x ∧ (p + n < e → bo (tx (p + n)) < 3)) ∨ PF tx e p (W, D, dp, 0, false, cm) h x.2) 41 (by omega) ?_ ?_) (fun r14 h14 => OK.ret h14)
  · clear hx1
    rintro i ⟨v, g⟩ hi hI
    unfold b_Mo_product_r7_6
    dsimp only
    rcases hI with ⟨n, dg, cm', hin, hG⟩ | hF
    · obtain ⟨X, D', a1, a2, a3, a4, a5, a6, a7, a8, a9, a10⟩ := hG
      dsimp only at a2 a3 a9 a10
      have r' := r.mv a10 a2 (by omega) a3
      rw [fine1 a3, if_neg (by decide), he7 r', Option.bind_some, Option.bind_some]
      have step : ∀ (x : Nat) (kk : Int32), p + n < e → tx (p + n) = x → (x = 42 ∨ x = 47) → ((kk = 0 ↔ x = 47)) → OK (j_Mo_product_r7_45 T g (nI dp) v kk) (fun x => Sum.elim (fun s' => i < 41 ∧ ((∃ n dg cm', i + 1 < n ∧ PG tx e p W D dp cm h 3 n dg cm' s') ∨ PF tx e p (W, D, dp, 0, false, cm) h s'.2)) (fun x => (∃ n dg cm', 0 < n ∧ PG tx e p W D dp cm h 3 n dg cm' x ∧ (p + n < e → bo (tx (p + n)) < 3)) ∨ PF tx e p (W, D, dp, 0, false, cm) h x.2) x) := by
        intro x kk hq hx hop hkk
        have hL : bo x = 3 := by rcases hop with rfl | rfl <;> decide
        have hop4 : x = 42 ∨ x = 43 ∨ x = 45 ∨ x = 47 := by omega
        have hk1 := op_k a4 a5 hx hop4 hL hW
        unfold j_Mo_product_r7_45
        rw [a2, nI_1]
        have E1 : E34 h (rh_up g 0 13 (nI (p + n + 1))) := a10.u13 _
        refine OK.bind (H (p + (n + 1)) (x :: W) (fl X D') dp cm' _ (by omega) (by omega) hd (r.mv E1 (p' := p + (n + 1)) rfl (by omega) a3)) (fun y hy => ?_)
        have fin : (∃ n dg cm', i + 1 < n ∧ PG tx e p W D dp cm h 3 n dg cm' (jn (nI x) v y.1, y.2)) ∨ PF tx e p (W, D, dp, 0, false, cm) h y.2 := by
          rcases hy with ⟨n2, dg2, cm2, hn2, G⟩ | F
          · exact Or.inl ⟨n + 1 + n2, dg2, cm2, by omega, PG.op a4 a5 a6 (a7 (by omega)) a9 E1 hx hop4 hL hW (by omega) G⟩
          · exact Or.inr (PF.cat hk1 E1 F)
        by_cases h0 : kk = 0
        · rw [if_pos h0]
          have hx47 := hkk.mp h0
          rw [hx47, jn_47] at fin
          by_cases h1 : y.1 = 0
          · rw [if_pos h1] at fin ⊢
            exact OK.ret ⟨by omega, fin⟩
          · rw [if_neg h1] at fin ⊢
            rw [rg_t h1]
            exact OK.ret ⟨by omega, fin⟩
        · rw [if_neg h0]
          have hx42 : x = 42 := hop.resolve_right (fun z => h0 (hkk.mpr z))
          rw [hx42, jn_42] at fin
          exact OK.ret ⟨by omega, fin⟩
      by_cases c1 : p + n < t ∧ p + n < top ∧ tx (p + n) = 42
      · rw [if_pos (show HR t top tx (p + n) = (42 : Int32) from (HZ_is r' (s := 42) (by omega)).mpr c1)]
        unfold j_Mo_product_r7_31
        rw [he7 r', Option.bind_some, if_pos (show HR t top tx (p + n) = (42 : Int32) from (HZ_is r' (s := 42) (by omega)).mpr c1)]
        exact step 42 1 (by omega) c1.2.2 (Or.inl rfl) ⟨fun z => absurd z (by decide), fun z => absurd z (by omega)⟩
      · have n42 : ¬ HR t top tx (p + n) = (42 : Int32) := fun z => c1 ((HZ_is r' (s := 42) (by omega)).mp z)
        rw [if_neg n42]
        by_cases c2 : p + n < t ∧ p + n < top ∧ tx (p + n) = 47
        · rw [if_pos (show HR t top tx (p + n) = (47 : Int32) from (HZ_is r' (s := 47) (by omega)).mpr c2)]
          unfold j_Mo_product_r7_31
          rw [he7 r', Option.bind_some, if_neg n42]
          exact step 47 0 (by omega) c2.2.2 (Or.inr rfl) ⟨fun _ => rfl, fun _ => rfl⟩
        · rw [if_neg (show ¬ HR t top tx (p + n) = (47 : Int32) from fun z => c2 ((HZ_is r' (s := 47) (by omega)).mp z))]
          refine OK.ret (Or.inl ⟨n, dg, cm', by omega, ⟨X, D', a1, a2, a3, a4, a5, a6, a7, a8, a9, a10⟩, fun hq => ?_⟩)
          have hb := bo_le _ (htx _ hq)
          have h3 : bo (tx (p + n)) ≠ 3 := fun z => by
            have := bo_3 _ (htx _ hq) z
            omega
          omega
    · obtain ⟨m, s', b1, b2, b3⟩ := hF
      dsimp only at b1
      rw [fine0 (by omega) b1, if_pos rfl]
      exact OK.ret (Or.inr ⟨m, s', b1, b2, b3⟩)
  · rcases hx1 with ⟨n, dg, cm', h0, G⟩ | F
    · exact Or.inl ⟨n, dg, cm', h0, G.low (by omega)⟩
    · exact Or.inr F
theorem su7 (H : HT7 T tx t top e q0) (he : e = min t top) (he2 : e ≤ 40) (htx : ∀ i, i < e → tx i < 256) (hp : q0 ≤ p) (hpe : p ≤ e) (hd : dp ≤ 4) (hW : tbd W < 2) (r : RZ t top tx p h) : OK (f_Mo_sum_r7 T h (nI dp)) (fun x => (∃ n dg cm', 0 < n ∧ PG tx e p W D dp cm h 2 n dg cm' x ∧ (p + n < e → bo (tx (p + n)) < 2)) ∨ PF tx e p (W, D, dp, 0, false, cm) h x.2) := by
  unfold f_Mo_sum_r7
  refine OK.bind (pr7 (D := D) (cm := cm) H he he2 htx hp hpe hd (W := W) (by omega) r) (fun x1 hx1 => ?_)
  refine OK.bind (OK.loop _ (fun i s => (∃ n dg cm', i < n ∧ PG tx e p W D dp cm h 2 n dg cm' s ∧ (p + n < e → bo (tx (p + n)) < 3)) ∨ PF tx e p (W, D, dp, 0, false, cm) h s.2) (fun x => (∃ n dg cm', 0 < n ∧ PG tx e p W D dp cm h 2 n dg cm' x ∧ (p + n < e → bo (tx (p + n)) < 2)) ∨ PF tx e p (W, D, dp, 0, false, cm) h x.2) 41 (by omega) ?_ ?_) (fun r14 h14 => OK.ret h14)
  · clear hx1
    rintro i ⟨v, g⟩ hi hI
    unfold b_Mo_sum_r7_6
    dsimp only
    rcases hI with ⟨n, dg, cm', hin, hG, hb3⟩ | hF
    · obtain ⟨X, D', a1, a2, a3, a4, a5, a6, a7, a8, a9, a10⟩ := hG
      dsimp only at a2 a3 a9 a10
      have r' := r.mv a10 a2 (by omega) a3
      rw [fine1 a3, if_neg (by decide), he7 r', Option.bind_some, Option.bind_some]
      have step : ∀ (x : Nat) (K : Int32 × HI → Option ((Int32 × HI) ⊕ (Int32 × HI))), p + n < e → tx (p + n) = x → (x = 43 ∨ x = 45) → (∀ y : Int32 × HI, K y = some (.inl (jn (nI x) v y.1, y.2))) → OK ((f_Mo_product_r7 T (rh_up g 0 13 (g 0 13 + (1 : Int32))) (nI dp)).bind K) (fun x => Sum.elim (fun s' => i < 41 ∧ ((∃ n dg cm', i + 1 < n ∧ PG tx e p W D dp cm h 2 n dg cm' s' ∧ (p + n < e → bo (tx (p + n)) < 3)) ∨ PF tx e p (W, D, dp, 0, false, cm) h s'.2)) (fun x => (∃ n dg cm', 0 < n ∧ PG tx e p W D dp cm h 2 n dg cm' x ∧ (p + n < e → bo (tx (p + n)) < 2)) ∨ PF tx e p (W, D, dp, 0, false, cm) h x.2) x) := by
        intro x K hq hx hop hK
        have hL : bo x = 2 := by rcases hop with rfl | rfl <;> decide
        have hbd : bd x = 2 := by rcases hop with rfl | rfl <;> decide
        have hop4 : x = 42 ∨ x = 43 ∨ x = 45 ∨ x = 47 := by omega
        have hk1 := op_k a4 a5 hx hop4 hL hW
        rw [a2, nI_1]
        have E1 : E34 h (rh_up g 0 13 (nI (p + n + 1))) := a10.u13 _
        refine OK.bind (pr7 (p := p + (n + 1)) (W := x :: W) (D := fl X D') (cm := cm') H he he2 htx (by omega) (by omega) hd (by show bd x < 3; omega) (r.mv E1 (p' := p + (n + 1)) rfl (by omega) a3)) (fun y hy => ?_)
        rw [hK y]
        refine OK.ret ⟨by omega, ?_⟩
        rcases hy with ⟨n2, dg2, cm2, hn2, G, hb⟩ | F
        · refine Or.inl ⟨n + 1 + n2, dg2, cm2, by omega, PG.op a4 a5 a6 (a7 (by omega)) a9 E1 hx hop4 hL hW (by omega) G, fun z => ?_⟩
          rw [show p + (n + 1) + n2 = p + (n + 1 + n2) by omega] at hb
          exact hb z
        · exact Or.inr (PF.cat hk1 E1 F)
      by_cases c1 : p + n < t ∧ p + n < top ∧ tx (p + n) = 43
      · rw [if_pos (show HR t top tx (p + n) = (43 : Int32) from (HZ_is r' (s := 43) (by omega)).mpr c1)]
        unfold j_Mo_sum_r7_31
        rw [he7 r', Option.bind_some, if_pos (show HR t top tx (p + n) = (43 : Int32) from (HZ_is r' (s := 43) (by omega)).mpr c1)]
        exact step 43 _ (by omega) c1.2.2 (Or.inl rfl) (fun y => by rw [if_neg (by decide), jn_43])
      · have n42 : ¬ HR t top tx (p + n) = (43 : Int32) := fun z => c1 ((HZ_is r' (s := 43) (by omega)).mp z)
        rw [if_neg n42]
        by_cases c2 : p + n < t ∧ p + n < top ∧ tx (p + n) = 45
        · rw [if_pos (show HR t top tx (p + n) = (45 : Int32) from (HZ_is r' (s := 45) (by omega)).mpr c2)]
          unfold j_Mo_sum_r7_31
          rw [he7 r', Option.bind_some, if_neg n42]
          exact step 45 _ (by omega) c2.2.2 (Or.inr rfl) (fun y => by rw [if_pos rfl, jn_45])
        · rw [if_neg (show ¬ HR t top tx (p + n) = (45 : Int32) from fun z => c2 ((HZ_is r' (s := 45) (by omega)).mp z))]
          refine OK.ret (Or.inl ⟨n, dg, cm', by omega, ⟨X, D', a1, a2, a3, a4, a5, a6, a7, a8, a9, a10⟩, fun hq => ?_⟩)
          have hb := hb3 hq
          have h3 : bo (tx (p + n)) ≠ 2 := fun z => by
            have := bo_2 _ (htx _ hq) z
            omega
          omega
    · obtain ⟨m, s', b1, b2, b3⟩ := hF
      dsimp only at b1
      rw [fine0 (by omega) b1, if_pos rfl]
      exact OK.ret (Or.inr ⟨m, s', b1, b2, b3⟩)
  · rcases hx1 with ⟨n, dg, cm', h0, G, hb⟩ | F
    · exact Or.inl ⟨n, dg, cm', h0, G.low (by omega), hb⟩
    · exact Or.inr F
theorem hd7 (H : HT7 T tx t top e q0) (he : e = min t top) (he2 : e ≤ 40) (htx : ∀ i, i < e → tx i < 256) (hp : q0 ≤ p) (hpe : p ≤ e) (hd : dp ≤ 4) (hW : tbd W < 1) (hcm : cm dp = false) (r : RZ t top tx p h) : OK (f_Mo_held_r7 T h (nI dp)) (fun x => (∃ n dg cm', 0 < n ∧ PG tx e p W D dp cm h 1 n dg cm' x ∧ (p + n < e → bo (tx (p + n)) = 0 ∨ (bo (tx (p + n)) = 1 ∧ cm' dp = true))) ∨ PF tx e p (W, D, dp, 0, false, cm) h x.2) := by
  unfold f_Mo_held_r7
  refine OK.bind (su7 (D := D) (cm := cm) H he he2 htx hp hpe hd (W := W) (by omega) r) (fun x1 hx1 => ?_)
  rcases hx1 with ⟨n, dg, cm', h0, hG, hb2⟩ | hF
  · obtain ⟨X, D', a1, a2, a3, a4, a5, a6, a7, a8, a9, a10⟩ := hG
    have r' := r.mv a10 a2 (by omega) a3
    have step : ∀ (x : Nat) (K : Int32 × HI → Option (Int32 × HI)), p + n < e → tx (p + n) = x → (x = 60 ∨ x = 61 ∨ x = 62) → (∀ y : Int32 × HI, K y = some (jn (nI x) x1.1 y.1, y.2)) → OK ((f_Mo_sum_r7 T (rh_up x1.2 0 13 (nI (p + n + 1))) (nI dp)).bind K) (fun x => (∃ n dg cm', 0 < n ∧ PG tx e p W D dp cm h 1 n dg cm' x ∧ (p + n < e → bo (tx (p + n)) = 0 ∨ (bo (tx (p + n)) = 1 ∧ cm' dp = true))) ∨ PF tx e p (W, D, dp, 0, false, cm) h x.2) := by
      intro x K hq hx hop hK
      have hL : bo x = 1 := by rcases hop with rfl | rfl | rfl <;> decide
      have hbd : bd x = 1 := by rcases hop with rfl | rfl | rfl <;> decide
      have hk1 : ks tx (n + 1) p (W, D, dp, 0, false, cm) = some (x :: W, fl X D', dp, 0, false, fun j => if j = dp then true else cm' j) := by
        refine ks_cat a4 (ks_one ?_)
        rw [hx]
        exact tks_cmp (by omega) (by omega) hL (fun a ha => by have := a5 a ha; omega) hW ((a7 (by omega)).trans hcm)
      have E1 : E34 h (rh_up x1.2 0 13 (nI (p + n + 1))) := a10.u13 _
      refine OK.bind (su7 (p := p + (n + 1)) (W := x :: W) (D := fl X D') (cm := fun j => if j = dp then true else cm' j) H he he2 htx (by omega) (by omega) hd (by show bd x < 2; omega) (r.mv E1 (p' := p + (n + 1)) rfl (by omega) a3)) (fun y hy => ?_)
      rw [hK y]
      refine OK.ret ?_
      rcases hy with ⟨n2, dg2, cm2, hn2, G, hb⟩ | F
      · obtain ⟨X2, D2, b1, b2, b3, b4, b5, b6, b7, b8, b9, b10⟩ := G
        have hcd : cm2 dp = true := by rw [b7 (by omega)]; exact if_pos rfl
        refine Or.inl ⟨n + 1 + n2, dg2, cm2, by omega, ⟨X2 ++ [x], D2, by omega, ?_, b3, ?_, ?_, fun j hj => ?_, fun z => absurd z (by omega), fun z => ?_, fun s hs => ?_, E1.tr b10⟩, fun z => ?_⟩
        · rw [b2, Nat.add_assoc]
        · rw [List.append_assoc]
          exact ks_cat hk1 b4
        · intro a ha
          rcases List.mem_append.mp ha with ha | ha
          · have := b5 a ha; omega
          · rw [List.mem_singleton.mp ha]; omega
        · rw [b6 j hj]
          show (if j = dp then true else cm' j) = cm j
          rw [if_neg (by omega)]; exact a6 j hj
        · rw [show p + (n + 1) + n2 = p + (n + 1 + n2) by omega] at b8
          exact b8 z
        · rw [enh_e E1] at b9
          rw [fl_app]
          show (STk (enh h) (fl X2 D2)).bind (stp (enh h) (ng x)) = _
          rw [b9 _ (a9 s hs), Option.bind_some]
          exact stp_op _ (by omega) x1.1 y.1 s
        · rw [show p + (n + 1) + n2 = p + (n + 1 + n2) by omega] at hb
          have := hb z
          rcases (show bo (tx (p + (n + 1 + n2))) = 0 ∨ bo (tx (p + (n + 1 + n2))) = 1 by omega) with z | z
          · exact Or.inl z
          · exact Or.inr ⟨z, hcd⟩
      · exact Or.inr (PF.cat hk1 E1 F)
    rw [show (60 : Int32) = nI 60 from rfl, show (62 : Int32) = nI 62 from rfl, show (61 : Int32) = nI 61 from rfl, ps7 r' (by omega), Option.bind_some]
    by_cases c1 : p + n < t ∧ p + n < top ∧ tx (p + n) = 60
    · rw [if_pos c1, if_neg (show ¬ (1 : Int32) = 0 by decide)]
      refine step 60 _ (by omega) c1.2.2 (Or.inl rfl) (fun y => ?_)
      rw [jn_60]
      by_cases z : y.1 ≤ x1.1
      · rw [if_pos z, if_pos z]
      · rw [if_neg z, if_neg z]
    · rw [if_neg c1, if_pos rfl, ps7 r' (by omega), Option.bind_some]
      by_cases c2 : p + n < t ∧ p + n < top ∧ tx (p + n) = 62
      · rw [if_pos c2, if_neg (show ¬ (1 : Int32) = 0 by decide)]
        refine step 62 _ (by omega) c2.2.2 (Or.inr (Or.inr rfl)) (fun y => ?_)
        rw [jn_62]
        by_cases z : x1.1 ≤ y.1
        · rw [if_pos z, if_pos z]
        · rw [if_neg z, if_neg z]
      · rw [if_neg c2, if_pos rfl, ps7 r' (by omega), Option.bind_some]
        by_cases c3 : p + n < t ∧ p + n < top ∧ tx (p + n) = 61
        · rw [if_pos c3, if_neg (show ¬ (1 : Int32) = 0 by decide)]
          refine step 61 _ (by omega) c3.2.2 (Or.inr (Or.inl rfl)) (fun y => ?_)
          rw [jn_61]
          by_cases z : x1.1 = y.1
          · rw [if_pos z, if_pos z]
          · rw [if_neg z, if_neg z]
        · rw [if_neg c3, if_pos rfl]
          refine OK.ret (Or.inl ⟨n, dg, cm', h0, PG.low ⟨X, D', a1, a2, a3, a4, a5, a6, a7, a8, a9, a10⟩ (by omega), fun hq => Or.inl ?_⟩)
          have hb := hb2 hq
          have h1 : bo (tx (p + n)) ≠ 1 := fun z => by
            have := bo_1 _ (htx _ hq) z
            omega
          omega
  · obtain ⟨m, s', b1, b2, b3⟩ := hF
    rw [ps7n (by omega) b1, Option.bind_some, if_pos rfl, ps7n (by omega) b1, Option.bind_some, if_pos rfl, ps7n (by omega) b1, Option.bind_some, if_pos rfl]
    exact OK.ret (Or.inr ⟨m, s', b1, b2, b3⟩)
theorem lt7 (T : HI → Int32 → Option (Int32 × HI)) (h : HI) {x : Nat} (hx : isL x = true) : j_Mo_thing_r7_118 T h (nI x) = some (vE (enh h) x, rh_up h 0 13 (h 0 13 + 1)) := by
  unfold j_Mo_thing_r7_118 enh
  unfold isL at hx
  simp only [Bool.or_eq_true, beq_iff_eq] at hx
  by_cases h0 : h 0 18 = -1
  · rw [if_pos h0, if_pos h0]
    rcases hx with ((rfl | rfl) | rfl) | rfl <;> rfl
  · rw [if_neg h0, if_neg h0]
    rcases hx with ((rfl | rfl) | rfl) | rfl
    · rw [if_pos (show nI 119 = 119 from rfl)]; rfl
    · rw [if_neg (show ¬ nI 98 = 119 by decide), if_pos (show nI 98 = 98 from rfl)]; rfl
    · rw [if_neg (show ¬ nI 100 = 119 by decide), if_neg (show ¬ nI 100 = 98 by decide), if_pos (show nI 100 = 100 from rfl)]; rfl
    · rw [if_neg (show ¬ nI 105 = 119 by decide), if_neg (show ¬ nI 105 = 98 by decide), if_neg (show ¬ nI 105 = 100 by decide)]; rfl
theorem th7 (H : HT7 T tx t top e (q0 + 1)) (he : e = min t top) (he2 : e ≤ 40) (htx : ∀ i, i < e → tx i < 256) : HT7 (f_Mo_thing_r7 T) tx t top e q0 := by
  intro p W D dp cm h hp hpe hd r
  have r14 := r.2.2.2.2.2.2.1
  have r13 := r.2.2.2.2.2.1
  have hlt : p < e → p < t ∧ p < top := fun z => by omega
  unfold f_Mo_thing_r7
  rw [show (45 : Int32) = nI 45 from rfl, ps7 r (by omega), Option.bind_some]
  by_cases c1 : p < t ∧ p < top ∧ tx p = 45
  · rw [if_pos c1, if_neg (show ¬ (1 : Int32) = 0 by decide)]
    have hk1 : ks tx 1 p (W, D, dp, 0, false, cm) = some (126 :: W, D, dp, 0, false, cm) := ks_one (by rw [c1.2.2]; exact tks_neg)
    have E1 : E34 h (rh_up h 0 13 (nI (p + 1))) := E34.rf.u13 _
    refine OK.bind (H (p + 1) (126 :: W) D dp cm _ (by omega) (by omega) hd (r.mv E1 (p' := p + 1) rfl (by omega) r14)) (fun y hy => OK.ret ?_)
    rcases hy with ⟨n2, dg2, cm2, hn2, G⟩ | F
    · obtain ⟨X2, D2, b1, b2, b3, b4, b5, b6, b7, b8, b9, b10⟩ := G
      refine Or.inl ⟨1 + n2, dg2, cm2, by omega, ⟨X2 ++ [126], D2, by omega, ?_, b3, ?_, ?_, b6, b7, fun z => ?_, fun s hs => ?_, E1.tr b10⟩⟩
      · rw [b2, Nat.add_assoc]
      · rw [List.append_assoc]
        exact ks_cat hk1 b4
      · intro a ha
        rcases List.mem_append.mp ha with ha | ha
        · exact b5 a ha
        · rw [List.mem_singleton.mp ha]; decide
      · rw [Nat.add_assoc] at b8
        exact b8 z
      · rw [enh_e E1] at b9
        rw [fl_app]
        show (STk (enh h) (fl X2 D2)).bind (stp (enh h) (ng 126)) = _
        rw [b9 _ hs, Option.bind_some]
        exact stp_neg _ y.1 s
    · exact Or.inr (PF.cat hk1 E1 F)
  · rw [if_neg c1, if_pos rfl, fine1 r14, if_neg (by decide), he7 r, Option.bind_some]
    have j67 : (p < t ∧ p < top ∧ tx p = 40 → 4 ≤ dp) → OK (j_Mo_thing_r7_67 T h (HR t top tx p)) (fun x => (∃ n dg cm', 0 < n ∧ PG tx e p W D dp cm h 4 n dg cm' x) ∨ PF tx e p (W, D, dp, 0, false, cm) h x.2) := by
      intro h40
      unfold j_Mo_thing_r7_67
      by_cases hdg : DGT t top tx p
      · rw [if_neg ((HZ_dg r).mpr hdg), show (3 : Int32) = nI 3 from rfl]
        refine OK.bind (nm7 r (D := 3) (by omega) (by omega)) ?_
        rintro y ⟨d, d1, d2, d3, d4, d5, d6, d7⟩
        have hd0 : d ≠ 0 := fun z => by
          subst z
          rcases d3 with z | z
          · omega
          · exact z hdg
        rw [if_neg hd0] at d7
        have hv := vl_999 (t := t) (top := top) (tx := tx) (p := p) d1 d2
        refine OK.ret (Or.inl ⟨d, d, cm, by omega, ⟨[], nI (vl tx p d) :: D, ?_, d6, d7, ?_, fun a ha => absurd ha List.not_mem_nil, fun _ _ => rfl, fun _ => rfl, fun z1 z2 => ?_, fun s hs => ?_, d5⟩⟩)
        · have := d2 (d - 1) (by omega)
          have := this.1
          have := (d2 (d - 1) (by omega)).2.1
          omega
        · exact ks_num d (by omega) d1 (fun i hi => ⟨(d2 i hi).2.2.1, (d2 i hi).2.2.2⟩)
        · rcases d3 with z | z
          · exact Or.inr z
          · exact absurd ⟨by omega, by omega, z2.1, z2.2⟩ z
        · show (STk (enh h) D).bind (stp (enh h) (nI (vl tx p d))) = _
          rw [hs, Option.bind_some, d4]
          exact stp_num _ (by omega) s
      · have h0 : f_Mo_in (HR t top tx p) 48 57 = 0 := Decidable.byContradiction (fun z => hdg ((HZ_dg r).mp z))
        rw [if_pos h0]
        have lett : ∀ x, isL x = true → p < t ∧ p < top ∧ tx p = x → OK (j_Mo_thing_r7_118 T h (HR t top tx p)) (fun x => (∃ n dg cm', 0 < n ∧ PG tx e p W D dp cm h 4 n dg cm' x) ∨ PF tx e p (W, D, dp, 0, false, cm) h x.2) := by
          intro x hL hc
          have hx : x < 256 := by rw [← hc.2.2]; exact htx p (by omega)
          rw [(HZ_is r hx).mpr hc, lt7 T h hL, r13, nI_1]
          refine OK.ret (Or.inl ⟨1, 0, cm, by omega, ⟨[], ng x :: D, by omega, rfl, r14, ks_one (by rw [hc.2.2]; exact tks_let hL), fun a ha => absurd ha List.not_mem_nil, fun _ _ => rfl, fun _ => rfl, fun _ _ => Or.inl rfl, fun s hs => ?_, E34.rf.u13 _⟩⟩)
          show (STk (enh h) D).bind (stp (enh h) (ng x)) = _
          rw [hs, Option.bind_some]
          exact stp_let _ hL s
        by_cases g1 : p < t ∧ p < top ∧ tx p = 119
        · rw [if_pos (show HR t top tx p = (119 : Int32) from (HZ_is r (s := 119) (by omega)).mpr g1)]; exact lett 119 rfl g1
        rw [if_neg (show ¬ HR t top tx p = (119 : Int32) from fun z => g1 ((HZ_is r (s := 119) (by omega)).mp z))]
        by_cases g2 : p < t ∧ p < top ∧ tx p = 98
        · rw [if_pos (show HR t top tx p = (98 : Int32) from (HZ_is r (s := 98) (by omega)).mpr g2)]; exact lett 98 rfl g2
        rw [if_neg (show ¬ HR t top tx p = (98 : Int32) from fun z => g2 ((HZ_is r (s := 98) (by omega)).mp z))]
        by_cases g3 : p < t ∧ p < top ∧ tx p = 100
        · rw [if_pos (show HR t top tx p = (100 : Int32) from (HZ_is r (s := 100) (by omega)).mpr g3)]; exact lett 100 rfl g3
        rw [if_neg (show ¬ HR t top tx p = (100 : Int32) from fun z => g3 ((HZ_is r (s := 100) (by omega)).mp z))]
        by_cases g4 : p < t ∧ p < top ∧ tx p = 105
        · rw [if_pos (show HR t top tx p = (105 : Int32) from (HZ_is r (s := 105) (by omega)).mpr g4)]; exact lett 105 rfl g4
        rw [if_neg (show ¬ HR t top tx p = (105 : Int32) from fun z => g4 ((HZ_is r (s := 105) (by omega)).mp z)), fault1 r14, r13]
        refine OK.ret (Or.inr ⟨0, _, rfl, hpe, rfl, Or.inl rfl, fun hq => ?_, E34.rf.u14 _⟩)
        have ht1 := (hlt hq).1
        have ht2 := (hlt hq).2
        refine tks_no (fun z => hdg ⟨ht1, ht2, z.1, z.2⟩) ?_ (fun z => c1 ⟨ht1, ht2, z⟩) (fun z => h40 ⟨ht1, ht2, z⟩)
        unfold isL
        simp only [Bool.or_eq_true, beq_iff_eq]
        intro z
        rcases z with ((z | z) | z) | z
        · exact g1 ⟨ht1, ht2, z⟩
        · exact g2 ⟨ht1, ht2, z⟩
        · exact g3 ⟨ht1, ht2, z⟩
        · exact g4 ⟨ht1, ht2, z⟩
    by_cases c2 : p < t ∧ p < top ∧ tx p = 40
    · rw [if_pos (show HR t top tx p = (40 : Int32) from (HZ_is r (s := 40) (by omega)).mpr c2)]
      by_cases c3 : dp < 4
      · rw [if_neg (show ¬ (4 : Int32) ≤ nI dp from nI_ge (b := 4) c3 (by omega)), nI_1]
        dsimp only
        rw [r13, nI_1]
        have hk1 : ks tx 1 p (W, D, dp, 0, false, cm) = some (40 :: W, D, dp + 1, 0, false, fun j => if j = dp + 1 then false else cm j) := ks_one (by rw [c2.2.2]; exact tks_opn c3)
        have E1 : E34 h (rh_up h 0 13 (nI (p + 1))) := E34.rf.u13 _
        refine OK.bind (hd7 (p := p + 1) (W := 40 :: W) (D := D) (dp := dp + 1) (cm := fun j => if j = dp + 1 then false else cm j) H he he2 htx (by omega) (by omega) (by omega) (show bd 40 < 1 by decide) (if_pos rfl) (r.mv E1 (p' := p + 1) rfl (by omega) r14)) (fun y hy => ?_)
        unfold f_Mo_need_r7
        rw [show (41 : Int32) = nI 41 from rfl]
        rcases hy with ⟨n2, dg2, cm2, hn2, G, hb⟩ | F
        · obtain ⟨X2, D2, b1, b2, b3, b4, b5, b6, b7, b8, b9, b10⟩ := G
          have r2 := r.mv (E1.tr b10) b2 (by omega) b3
          rw [ps7 r2 (by omega), Option.bind_some]
          by_cases c4 : p + 1 + n2 < t ∧ p + 1 + n2 < top ∧ tx (p + 1 + n2) = 41
          · rw [if_pos c4, if_neg (show ¬ (1 : Int32) = 0 by decide), Option.bind_some]
            have hcmj : ∀ j, j ≤ dp → cm2 j = cm j := fun j hj => by
              rw [b6 j (by omega)]
              show (if j = dp + 1 then false else cm j) = cm j
              rw [if_neg (by omega)]
            refine OK.ret (Or.inl ⟨1 + n2 + 1, 0, cm2, by omega, ⟨[], fl X2 D2, by omega, ?_, b3, ?_, fun a ha => absurd ha List.not_mem_nil, fun j hj => hcmj j (by omega), fun _ => hcmj dp (by omega), fun _ _ => Or.inl rfl, fun s hs => ?_, (E1.tr b10).u13 _⟩⟩)
            · show nI (p + 1 + n2 + 1) = _
              congr 1
              omega
            · refine ks_cat (ks_cat hk1 b4) (ks_one ?_)
              rw [show p + (1 + n2) = p + 1 + n2 by omega, c4.2.2]
              exact tks_close b5
            · rw [enh_e E1] at b9
              exact b9 s hs
          · rw [if_neg c4, if_pos rfl, Option.bind_some, fault1 b3, b2]
            refine OK.ret (Or.inr ⟨1 + n2, _, ?_, by omega, ks_cat hk1 b4, Or.inr (by show dp + 1 ≠ 0; omega), fun hq => ?_, (E1.tr b10).u14 _⟩)
            · show nI (p + 1 + n2) = _
              congr 1
              omega
            · rw [show p + (1 + n2) = p + 1 + n2 by omega] at hq ⊢
              exact tks_end (Or.inl (fun z => c4 ⟨by omega, by omega, z⟩)) (b8 hq) (hb hq)
        · have F2 := PF.cat hk1 E1 F
          obtain ⟨m, s', g1, g2, g3⟩ := F2
          rw [ps7n (by omega) g1, Option.bind_some, if_pos rfl, Option.bind_some, fault0 (by omega) g1]
          exact OK.ret (Or.inr ⟨m, s', g1, g2, g3⟩)
      · rw [if_pos (show (4 : Int32) ≤ nI dp from nI_le (a := 4) (by omega) (by omega))]
        exact j67 (fun _ => by omega)
    · rw [if_neg (show ¬ HR t top tx p = (40 : Int32) from fun z => c2 ((HZ_is r (s := 40) (by omega)).mp z))]
      exact j67 (fun z => absurd z c2)
theorem gt7 (he : e = min t top) (he2 : e ≤ 40) (htx : ∀ i, i < e → tx i < 256) : ∀ n q0, e + 1 ≤ q0 + n → HT7 (g_Mo_thing_r7 n) tx t top e q0
  | 0, q0, hn => fun p W D dp cm h hp hpe _ _ => absurd hpe (by omega)
  | n + 1, q0, hn => th7 (gt7 he he2 htx n (q0 + 1) (by omega)) he he2 htx
/-- the whole text: read to its end, or the first wrong sign is the class's too -/
theorem hw7 (he : e = min t top) (he2 : e ≤ 40) (htx : ∀ i, i < e → tx i < 256) (r : RZ t top tx 0 h) : OK (f_Mo_held_r7w h 0) (fun x => (∃ n X D' dg cm', n ≤ e ∧ x.2 0 13 = nI n ∧ x.2 0 14 = -1 ∧ ks tx n 0 ([], [], 0, 0, false, fun _ => false) = some (X, D', 0, dg, true, cm') ∧ (n < e → tks (X, D', 0, dg, true, cm') (tx n) = none) ∧ (STk (enh h) (fl X D') = some [x.1]) ∧ E34 h x.2) ∨ PF tx e 0 ([], [], 0, 0, false, fun _ => false) h x.2) := by
  have := hd7 (T := g_Mo_thing_r7 64) (p := 0) (W := []) (D := []) (dp := 0) (cm := fun _ => false) (h := h) (gt7 he he2 htx 64 0 (by omega)) he he2 htx (by omega) (by omega) (by omega) (by decide) rfl r
  refine OK.mono this (fun x hx => ?_)
  rcases hx with ⟨n, dg, cm', h0, ⟨X, D', a1, a2, a3, a4, a5, a6, a7, a8, a9, a10⟩, hb⟩ | F
  · rw [Nat.zero_add] at a1 a2 a8 hb
    rw [List.append_nil] at a4
    exact Or.inl ⟨n, X, D', dg, cm', a1, a2, a3, a4, fun hq => tks_end (Or.inr rfl) (a8 hq) (hb hq), a9 [] rfl, a10⟩
  · exact Or.inr F
end PAR7
