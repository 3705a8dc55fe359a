/-! undo, keep, again -/
def mxh (S : Nat → Nat → Bool) (c c' : HI) : HI := fun o j => if S o j = true then c o j else c' o j
theorem SC.mx {S : Nat → Nat → Bool} {c c' : HI} (x : ∀ o j, pC o j = true → S o j = false → c' o j = c o j) : SC c (mxh S c c') := fun o j hq => by
  unfold mxh
  cases hS : S o j with
  | true => rw [if_pos rfl]
  | false => rw [if_neg (by decide)]; exact x o j hq hS
theorem SM.mx {S : Nat → Nat → Bool} {c c' : HI} (x : ∀ o j, pM o j = true → S o j = false → c' o j = c o j) : SM c (mxh S c c') := fun o j hq => by
  unfold mxh
  cases hS : S o j with
  | true => rw [if_pos rfl]
  | false => rw [if_neg (by decide)]; exact x o j hq hS
section UNDO
variable {k n Pm : Nat} {B : Nat → Nat} {V : Nat → Nat → Nat → Nat} {T a q : Nat} {c m : HI}
theorem RQ.kp {k' : Nat} {c' m' : HI} (h : RQ k n Pm B V (rC c) (rM m)) (hk : k ≤ k') (x : ∀ o j, pC o j = true → o ≠ 17 → o ≠ 18 → c' o j = c o j) (y : ∀ o j, pM o j = true → o ≠ 28 → o ≠ 29 → o ≠ 30 → m' o j = m o j) (kp : RKept k' n c' m') : RQ k' n Pm B V (rC c') (rM m') := by
  have h2 := h.mono hk
  rw [← rC_eq (SC.mx (S := fun o _ => o == 17 || o == 18) (c := c) (c' := c') (fun o j hp hS => by simp only [Bool.or_eq_false_iff, beq_eq_false_iff_ne] at hS; exact x o j hp hS.1 hS.2)), ← rM_eq (SM.mx (S := fun o _ => o == 28 || o == 29 || o == 30) (c := m) (c' := m') (fun o j hp hS => by simp only [Bool.or_eq_false_iff, beq_eq_false_iff_ne] at hS; exact y o j hp hS.1.1 hS.1.2 hS.2))] at h2
  obtain ⟨a1, a2, a3, a4, a5, a6, a7, a8, a9⟩ := h2
  exact ⟨a1, a2, a3, a4, a5, a6, a7, kp, a9⟩
theorem ct17 {i : Nat} (hi : i < 2) (h : HI) : OK (f_De_copyTo_17 h (nI (11 * i))) (fun x => (∀ o j, o ≠ 17 → x o j = h o j) ∧ (∀ j, (j < 11 * i ∨ 11 * i + 11 ≤ j) → x 17 j = h 17 j) ∧ x 17 (11 * i) = h 13 1 ∧ x 17 (11 * i + 1) = h 13 2 ∧ ∀ j, j < 9 → x 17 (11 * i + 2 + j) = h 14 j) := by
  unfold f_De_copyTo_17
  rw [nI_1, nI_clamp (n := 11 * i) (by omega), nI_clamp (n := 11 * i + 1) (by omega)]
  refine OK.g (gd_nI (by omega) (by omega)) (OK.g (gd_nI (by omega) (by omega)) ?_)
  refine OK.bind (OK.loop _ (fun e x => e ≤ 9 ∧ x.1 = nI e ∧ (∀ o j, o ≠ 17 → x.2 o j = h o j) ∧ (∀ j, (j < 11 * i ∨ 11 * i + 11 ≤ j) → x.2 17 j = h 17 j) ∧ x.2 17 (11 * i) = h 13 1 ∧ x.2 17 (11 * i + 1) = h 13 2 ∧ ∀ j, j < e → x.2 17 (11 * i + 2 + j) = h 14 j) (fun x => (∀ o j, o ≠ 17 → x o j = h o j) ∧ (∀ j, (j < 11 * i ∨ 11 * i + 11 ≤ j) → x 17 j = h 17 j) ∧ x 17 (11 * i) = h 13 1 ∧ x 17 (11 * i + 1) = h 13 2 ∧ ∀ j, j < 9 → x 17 (11 * i + 2 + j) = h 14 j) 9 (by omega) ?_ ⟨by omega, rfl, fun o j ho => ?_, fun j hj => ?_, ?_, ?_, fun j hj => by omega⟩) (fun x hx => OK.ret hx)
  · rintro e ⟨x1, g⟩ - ⟨he, rfl, f, e0, e1, e2, e3⟩
    dsimp only at f e0 e1 e2 e3
    unfold b_De_copyTo_17_18
    dsimp only
    refine OK.ite (fun h9 => OK.ret ?_) (fun h9 => ?_)
    · have : e = 9 := by have := ple (b := 9) h9 (by omega) (by omega); omega
      subst this
      exact ⟨f, e0, e1, e2, e3⟩
    have he2 : e < 9 := nle (b := 9) h9 (by omega) (by omega)
    rw [show nI (11 * i) + 2 + nI e = nI (11 * i + 2 + e) by rw [show nI (11 * i) + 2 = nI (11 * i + 2) from nI_add _ 2, nI_add], nI_clamp (n := e) (by omega), nI_clamp (n := 11 * i + 2 + e) (by omega), nI_1]
    refine OK.g (gd_nI (by omega) (by omega)) (OK.g (gd_nI (by omega) (by omega)) (OK.ret ⟨he2, he2, rfl, fun o j ho => ?_, fun j hj => ?_, ?_, ?_, fun j hj => ?_⟩))
    · show rh_up g 17 _ _ o j = _; rw [up_f, if_neg (by omega)]; exact f o j ho
    · show rh_up g 17 _ _ 17 j = _; rw [up_f, if_neg (by omega)]; exact e0 j hj
    · show rh_up g 17 _ _ 17 (11 * i) = _; rw [up_f, if_neg (by omega)]; exact e1
    · show rh_up g 17 _ _ 17 (11 * i + 1) = _; rw [up_f, if_neg (by omega)]; exact e2
    · show rh_up g 17 (11 * i + 2 + e) _ 17 (11 * i + 2 + j) = _
      rw [up_f]
      by_cases z : j = e
      · subst z; rw [if_pos ⟨rfl, rfl⟩]; exact f 14 j (by omega)
      · rw [if_neg (by omega)]; exact e3 j (by omega)
  · show rh_up (rh_up h 17 _ _) 17 _ _ o j = _
    rw [up_f, if_neg (by omega), up_f, if_neg (by omega)]
  · show rh_up (rh_up h 17 _ _) 17 _ _ 17 j = _
    rw [up_f, if_neg (by omega), up_f, if_neg (by omega)]
  · show rh_up (rh_up h 17 _ _) 17 _ _ 17 (11 * i) = _
    rw [up_f, if_neg (by omega), up_f, if_pos ⟨rfl, rfl⟩]
  · show rh_up (rh_up h 17 _ _) 17 _ _ 17 (11 * i + 1) = _
    rw [up_f, if_pos ⟨rfl, rfl⟩]
theorem lay28 {p : Nat} (hp : p ≤ 11) (h : HI) : OK (f_Mo_lay_1_28 h (nI p)) (fun x => (∀ o j, o ≠ 28 → x o j = h o j) ∧ (∀ j, (j < p ∨ p + 11 ≤ j) → x 28 j = h 28 j) ∧ ∀ i, i < 11 → x 28 (p + i) = h 1 i) := by
  unfold f_Mo_lay_1_28
  refine OK.bind (OK.loop _ (fun i x => i ≤ 11 ∧ x.1 = nI i ∧ (∀ o j, o ≠ 28 → x.2 o j = h o j) ∧ (∀ j, (j < p ∨ p + 11 ≤ j) → x.2 28 j = h 28 j) ∧ ∀ j, j < i → x.2 28 (p + j) = h 1 j) (fun x => (∀ o j, o ≠ 28 → x o j = h o j) ∧ (∀ j, (j < p ∨ p + 11 ≤ j) → x 28 j = h 28 j) ∧ ∀ i, i < 11 → x 28 (p + i) = h 1 i) 11 (by omega) ?_ ⟨by omega, rfl, fun _ _ _ => rfl, fun _ _ => rfl, fun j hj => by omega⟩) (fun x hx => OK.ret hx)
  rintro i ⟨x1, g⟩ - ⟨hi, rfl, f, e0, e1⟩
  dsimp only at f e0 e1
  unfold b_Mo_lay_1_28_2
  dsimp only
  refine OK.ite (fun h9 => OK.ret ?_) (fun h9 => ?_)
  · have : i = 11 := by have := ple (b := 11) h9 (by omega) (by omega); omega
    subst this
    exact ⟨f, e0, e1⟩
  have hi2 : i < 11 := nle (b := 11) h9 (by omega) (by omega)
  rw [nI_add, nI_clamp (n := i) (by omega), nI_clamp (n := p + i) (by omega), nI_1]
  refine OK.g (gd_nI (by omega) (by omega)) (OK.g (gd_nI (by omega) (by omega)) (OK.ret ⟨hi2, hi2, rfl, fun o j ho => ?_, fun j hj => ?_, fun j hj => ?_⟩))
  · show rh_up g 28 _ _ o j = _; rw [up_f, if_neg (by omega)]; exact f o j ho
  · show rh_up g 28 _ _ 28 j = _; rw [up_f, if_neg (by omega)]; exact e0 j hj
  · show rh_up g 28 (p + i) _ 28 (p + j) = _
    rw [up_f]
    by_cases e : j = i
    · subst e; rw [if_pos ⟨rfl, rfl⟩]; exact f 1 j (by omega)
    · rw [if_neg (by omega)]; exact e1 j (by omega)
theorem op_keep (h : RLt k n Pm B V c m) (hk : k ≤ 600) (p : Int32) : RO (f_La_keep c p) (f_Mo_keep m p) (fun x y => x.1 = y.1 ∧ RLt (k + 1) n Pm B V x.2 y.2) := by
  obtain ⟨T, a, q, A⟩ := h.la hk
  have hn := A.n9
  unfold f_La_keep f_Mo_keep
  rw [in_wi]
  refine RO.ii Iff.rfl (fun _ => RO.ret ⟨rfl, A.fin⟩) (fun h1 => ?_)
  obtain ⟨i, -, hi, rfl⟩ := nI_rng (lo := 0) (hi := 1) (wi_1 h1).1 (wi_1 h1).2 (by omega) (by omega)
  have g2 := gd_nI (i := i) (N := 2) (by omega) (by omega)
  refine RO.gr g2 (RO.gr g2 ?_)
  unfold f_De_store
  rw [show nI i * 11 = nI (11 * i) by rw [show nI i * 11 = nI (i * 11) from pk_mul i 11, Nat.mul_comm], show (11 : Int32) * nI i = nI (11 * i) from pk_mul 11 i, nI_clamp (n := i) (by omega)]
  rw [Option.bind_assoc]
  refine RO.bl (ct17 (by omega) c) ?_
  rintro x ⟨f1, e0, e1, e2, e3⟩
  rw [rg_t g2, Option.bind_some]
  refine RO.br (lay28 (by omega) _) ?_
  rintro y ⟨f2, d0, d1⟩
  obtain ⟨q0, g1, g3, g4⟩ := A.1.2.2.2.2.2.2.2.1
  have g3 : m 0 49 = nI q0 := g3
  have g4 : ∀ j, j < 2 → ∃ z, z ≤ q0 ∧ m 30 j = nI z ∧ (m 29 j = 0 ∨ m 29 j = 1) ∧ ((c 18 j = 1 ∧ m 29 j = 1 ∧ z = q0 ∧ SN k n (c 17 (11 * j)) (c 17 (11 * j + 1)) (fun i => c 17 (11 * j + 2 + i)) (fun i => m 28 (11 * j + i))) ∨ (c 18 j = 0 ∧ (m 29 j = 0 ∨ z ≠ q0))) := g4
  have yf : ∀ o j, o ≠ 28 → o ≠ 29 → o ≠ 30 → y o j = rh_up m 0 9 0 o j := fun o j h1 h2 h3 => by
    rw [f2 o j h1, up_f, if_neg (by omega), up_f, if_neg (by omega)]
  refine RO.ret ⟨rfl, ⟨A.1.kp (Nat.le_succ k) (fun o j _ h1 h2 => ?_) (fun o j _ h1 h2 h3 => yf o j h1 h2 h3) ⟨q0, by omega, ?_, fun j hj => ?_⟩, ?_⟩⟩
  · show rh_up x 18 _ _ o j = _
    rw [up_f, if_neg (by omega)]; exact f1 o j h1
  · exact (yf 0 49 (by omega) (by omega) (by omega)).trans g3
  · have y29 : ∀ j, y 29 j = if j = i then 1 else m 29 j := fun j => by
      rw [f2 29 j (by omega), up_f, if_neg (by omega), up_f]
      by_cases z : j = i
      · rw [if_pos ⟨rfl, z⟩, if_pos z]; rfl
      · rw [if_neg (by omega), if_neg z]; rfl
    have y30 : ∀ j, y 30 j = if j = i then m 0 49 else m 30 j := fun j => by
      rw [f2 30 j (by omega), up_f]
      by_cases z : j = i
      · rw [if_pos ⟨rfl, z⟩, if_pos z]
      · rw [if_neg (by omega), if_neg z]; rfl
    have x18 : ∀ j, rh_up x 18 i ((1 : Int32) &&& 1) 18 j = if j = i then 1 else c 18 j := fun j => by
      rw [up_f]
      by_cases z : j = i
      · rw [if_pos ⟨rfl, z⟩, if_pos z]; rfl
      · rw [if_neg (by omega), if_neg z]; exact f1 18 j (by omega)
    show ∃ z, z ≤ q0 ∧ y 30 j = nI z ∧ (y 29 j = 0 ∨ y 29 j = 1) ∧ ((rh_up x 18 i ((1 : Int32) &&& 1) 18 j = 1 ∧ y 29 j = 1 ∧ z = q0 ∧ SN (k + 1) n (x 17 (11 * j)) (x 17 (11 * j + 1)) (fun i => x 17 (11 * j + 2 + i)) (fun i => y 28 (11 * j + i))) ∨ (rh_up x 18 i ((1 : Int32) &&& 1) 18 j = 0 ∧ (y 29 j = 0 ∨ z ≠ q0)))
    rw [y29, y30, x18]
    by_cases z : j = i
    · subst z
      rw [if_pos rfl, if_pos rfl, if_pos rfl]
      refine ⟨q0, Nat.le_refl _, g3, Or.inr rfl, Or.inl ⟨rfl, rfl, rfl, ?_⟩⟩
      show SN (k + 1) n (x 17 (11 * j)) (x 17 (11 * j + 1)) (fun i => x 17 (11 * j + 2 + i)) (fun i => y 28 (11 * j + i))
      refine ⟨⟨T, by have := A.Tk; omega, e1.trans A.ct, ?_⟩, ⟨a, A.an, e2.trans A.ca, ?_⟩, fun i hi => ?_⟩
      · exact (d1 10 (by omega)).trans A.mt
      · exact (d1 9 (by omega)).trans A.ma
      · dsimp only
        rw [e3 i hi, d1 i (by omega)]
        exact A.pl i hi
    · rw [if_neg z, if_neg z, if_neg z]
      obtain ⟨z', b1, b2, b3, b4⟩ := g4 j hj
      refine ⟨z', b1, b2, b3, ?_⟩
      rcases b4 with ⟨b5, b6, b7, b8⟩ | b4
      · refine Or.inl ⟨b5, b6, b7, ?_⟩
        show SN (k + 1) n (x 17 (11 * j)) (x 17 (11 * j + 1)) (fun i => x 17 (11 * j + 2 + i)) (fun i => y 28 (11 * j + i))
        have b9 := b8.mono (Nat.le_succ k) (Nat.le_refl n)
        obtain ⟨⟨T', t1, t2, t3⟩, ⟨a', t4, t5, t6⟩, t7⟩ := b9
        have ey : ∀ u, u < 11 → y 28 (11 * j + u) = m 28 (11 * j + u) := fun u hu => by
          rw [d0 _ (by omega)]; rfl
        refine ⟨⟨T', t1, (e0 _ (by omega)).trans t2, (ey 10 (by omega)).trans t3⟩, ⟨a', t4, (e0 _ (by omega)).trans t5, (ey 9 (by omega)).trans t6⟩, fun u hu => ?_⟩
        dsimp only
        rw [e0 _ (by omega), ey u (by omega)]
        exact t7 u hu
      · exact Or.inr b4
  · exact A.t0.2.kept (f1 2 1 (by omega)) (fun j => f1 3 j (by omega)) (yf 0 8 (by omega) (by omega) (by omega)) (fun j => yf 5 j (by omega) (by omega) (by omega))
theorem cf16 {p : Nat} (hp : p + 11 ≤ 132) (h : HI) : OK (f_De_copyFrom_16 h (nI p)) (fun x => (∀ o j, o ≠ 13 → o ≠ 14 → x o j = h o j) ∧ (∀ j, j ≠ 1 → j ≠ 2 → x 13 j = h 13 j) ∧ x 13 1 = h 16 p ∧ x 13 2 = h 16 (p + 1) ∧ ∀ j, j < 9 → x 14 j = h 16 (p + 2 + j)) := by
  unfold f_De_copyFrom_16
  rw [nI_1, nI_clamp (n := p) (by omega), nI_clamp (n := p + 1) (by omega)]
  refine OK.g (gd_nI (by omega) (by omega)) (OK.g (gd_nI (by omega) (by omega)) ?_)
  refine OK.bind (OK.loop _ (fun e x => e ≤ 9 ∧ x.1 = nI e ∧ (∀ o j, o ≠ 13 → o ≠ 14 → x.2 o j = h o j) ∧ (∀ j, j ≠ 1 → j ≠ 2 → x.2 13 j = h 13 j) ∧ x.2 13 1 = h 16 p ∧ x.2 13 2 = h 16 (p + 1) ∧ ∀ j, j < e → x.2 14 j = h 16 (p + 2 + j)) (fun x => (∀ o j, o ≠ 13 → o ≠ 14 → x o j = h o j) ∧ (∀ j, j ≠ 1 → j ≠ 2 → x 13 j = h 13 j) ∧ x 13 1 = h 16 p ∧ x 13 2 = h 16 (p + 1) ∧ ∀ j, j < 9 → x 14 j = h 16 (p + 2 + j)) 9 (by omega) ?_ ⟨by omega, rfl, fun o j ho1 ho2 => ?_, fun j hj1 hj2 => ?_, rfl, rfl, fun j hj => by omega⟩) (fun x hx => OK.ret hx)
  · rintro e ⟨x1, g⟩ - ⟨he, rfl, f, e0, e1, e2, e3⟩
    dsimp only at f e0 e1 e2 e3
    unfold b_De_copyFrom_16_18
    dsimp only
    refine OK.ite (fun h9 => OK.ret ?_) (fun h9 => ?_)
    · have : e = 9 := by have := ple (b := 9) h9 (by omega) (by omega); omega
      subst this
      exact ⟨f, e0, e1, e2, e3⟩
    have he2 : e < 9 := nle (b := 9) h9 (by omega) (by omega)
    rw [show nI p + 2 + nI e = nI (p + 2 + e) by rw [show nI p + 2 = nI (p + 2) from nI_add _ 2, nI_add], nI_clamp (n := e) (by omega), nI_clamp (n := p + 2 + e) (by omega), nI_1]
    refine OK.g (gd_nI (by omega) (by omega)) (OK.g (gd_nI (by omega) (by omega)) (OK.ret ⟨he2, he2, rfl, fun o j ho1 ho2 => ?_, fun j hj1 hj2 => ?_, ?_, ?_, fun j hj => ?_⟩))
    · show rh_up g 14 _ _ o j = _; rw [up_f, if_neg (by omega)]; exact f o j ho1 ho2
    · exact e0 j hj1 hj2
    · exact e1
    · exact e2
    · show rh_up g 14 e _ 14 j = _
      rw [up_f]
      by_cases z : j = e
      · subst z; rw [if_pos ⟨rfl, rfl⟩]; exact f 16 _ (by omega) (by omega)
      · rw [if_neg (by omega)]; exact e3 j (by omega)
  · show rh_up (rh_up h 13 _ _) 13 _ _ o j = _
    rw [up_f, if_neg (by omega), up_f, if_neg (by omega)]
  · show rh_up (rh_up h 13 _ _) 13 _ _ 13 j = _
    rw [up_f, if_neg (by omega), up_f, if_neg (by omega)]
theorem cf17 {p : Nat} (hp : p + 11 ≤ 22) (h : HI) : OK (f_De_copyFrom_17 h (nI p)) (fun x => (∀ o j, o ≠ 13 → o ≠ 14 → x o j = h o j) ∧ (∀ j, j ≠ 1 → j ≠ 2 → x 13 j = h 13 j) ∧ x 13 1 = h 17 p ∧ x 13 2 = h 17 (p + 1) ∧ ∀ j, j < 9 → x 14 j = h 17 (p + 2 + j)) := by
  unfold f_De_copyFrom_17
  rw [nI_1, nI_clamp (n := p) (by omega), nI_clamp (n := p + 1) (by omega)]
  refine OK.g (gd_nI (by omega) (by omega)) (OK.g (gd_nI (by omega) (by omega)) ?_)
  refine OK.bind (OK.loop _ (fun e x => e ≤ 9 ∧ x.1 = nI e ∧ (∀ o j, o ≠ 13 → o ≠ 14 → x.2 o j = h o j) ∧ (∀ j, j ≠ 1 → j ≠ 2 → x.2 13 j = h 13 j) ∧ x.2 13 1 = h 17 p ∧ x.2 13 2 = h 17 (p + 1) ∧ ∀ j, j < e → x.2 14 j = h 17 (p + 2 + j)) (fun x => (∀ o j, o ≠ 13 → o ≠ 14 → x o j = h o j) ∧ (∀ j, j ≠ 1 → j ≠ 2 → x 13 j = h 13 j) ∧ x 13 1 = h 17 p ∧ x 13 2 = h 17 (p + 1) ∧ ∀ j, j < 9 → x 14 j = h 17 (p + 2 + j)) 9 (by omega) ?_ ⟨by omega, rfl, fun o j ho1 ho2 => ?_, fun j hj1 hj2 => ?_, rfl, rfl, fun j hj => by omega⟩) (fun x hx => OK.ret hx)
  · rintro e ⟨x1, g⟩ - ⟨he, rfl, f, e0, e1, e2, e3⟩
    dsimp only at f e0 e1 e2 e3
    unfold b_De_copyFrom_17_18
    dsimp only
    refine OK.ite (fun h9 => OK.ret ?_) (fun h9 => ?_)
    · have : e = 9 := by have := ple (b := 9) h9 (by omega) (by omega); omega
      subst this
      exact ⟨f, e0, e1, e2, e3⟩
    have he2 : e < 9 := nle (b := 9) h9 (by omega) (by omega)
    rw [show nI p + 2 + nI e = nI (p + 2 + e) by rw [show nI p + 2 = nI (p + 2) from nI_add _ 2, nI_add], nI_clamp (n := e) (by omega), nI_clamp (n := p + 2 + e) (by omega), nI_1]
    refine OK.g (gd_nI (by omega) (by omega)) (OK.g (gd_nI (by omega) (by omega)) (OK.ret ⟨he2, he2, rfl, fun o j ho1 ho2 => ?_, fun j hj1 hj2 => ?_, ?_, ?_, fun j hj => ?_⟩))
    · show rh_up g 14 _ _ o j = _; rw [up_f, if_neg (by omega)]; exact f o j ho1 ho2
    · exact e0 j hj1 hj2
    · exact e1
    · exact e2
    · show rh_up g 14 e _ 14 j = _
      rw [up_f]
      by_cases z : j = e
      · subst z; rw [if_pos ⟨rfl, rfl⟩]; exact f 17 _ (by omega) (by omega)
      · rw [if_neg (by omega)]; exact e3 j (by omega)
  · show rh_up (rh_up h 13 _ _) 13 _ _ o j = _
    rw [up_f, if_neg (by omega), up_f, if_neg (by omega)]
  · show rh_up (rh_up h 13 _ _) 13 _ _ 13 j = _
    rw [up_f, if_neg (by omega), up_f, if_neg (by omega)]
theorem un_m {p : Nat} (hp : p ≤ 11) {h : HI} (hh : h 0 24 = nI p) : OK (rh_loop (b_Mo_undo_26) rh_N ((0 : Int32), h)) (fun x => (∀ o j, o ≠ 1 → x o j = h o j) ∧ ∀ i, i < 11 → x 1 i = h 10 (11 * p + i)) := by
  refine OK.loop _ (fun i x => i ≤ 11 ∧ x.1 = nI i ∧ (∀ o j, o ≠ 1 → x.2 o j = h o j) ∧ ∀ j, j < i → x.2 1 j = h 10 (11 * p + j)) _ 11 (by omega) ?_ ⟨by omega, rfl, fun _ _ _ => rfl, fun j hj => by omega⟩
  rintro i ⟨x1, g⟩ - ⟨hi, rfl, f, e1⟩
  dsimp only at f e1
  unfold b_Mo_undo_26
  dsimp only
  refine OK.ite (fun h9 => OK.ret ?_) (fun h9 => ?_)
  · have : i = 11 := by have := ple (b := 11) h9 (by omega) (by omega); omega
    subst this
    exact ⟨f, e1⟩
  have hi2 : i < 11 := nle (b := 11) h9 (by omega) (by omega)
  have e24 := (f 0 24 (by omega)).trans hh
  simp only [e24]
  rw [show (11 : Int32) * nI p = nI (11 * p) from pk_mul 11 p, nI_add, nI_clamp (n := i) (by omega), nI_clamp (n := 11 * p + i) (by omega), nI_1]
  refine OK.g (gd_nI (by omega) (by omega)) (OK.g (gd_nI (by omega) (by omega)) (OK.ret ⟨hi2, hi2, rfl, fun o j ho => ?_, fun j hj => ?_⟩))
  · show rh_up g 1 _ _ o j = _; rw [up_f, if_neg (by omega)]; exact f o j ho
  · show rh_up g 1 i _ 1 j = _
    rw [up_f]
    by_cases e : j = i
    · subst e; rw [if_pos ⟨rfl, rfl⟩]; exact f 10 _ (by omega)
    · rw [if_neg (by omega)]; exact e1 j (by omega)
theorem ag_m {p : Nat} (hp : p ≤ 1) (h : HI) : OK (rh_loop (b_Mo_again_40 (nI p)) rh_N ((0 : Int32), h)) (fun x => (∀ o j, o ≠ 1 → x o j = h o j) ∧ ∀ i, i < 11 → x 1 i = h 28 (11 * p + i)) := by
  refine OK.loop _ (fun i x => i ≤ 11 ∧ x.1 = nI i ∧ (∀ o j, o ≠ 1 → x.2 o j = h o j) ∧ ∀ j, j < i → x.2 1 j = h 28 (11 * p + j)) _ 11 (by omega) ?_ ⟨by omega, rfl, fun _ _ _ => rfl, fun j hj => by omega⟩
  rintro i ⟨x1, g⟩ - ⟨hi, rfl, f, e1⟩
  dsimp only at f e1
  unfold b_Mo_again_40
  dsimp only
  refine OK.ite (fun h9 => OK.ret ?_) (fun h9 => ?_)
  · have : i = 11 := by have := ple (b := 11) h9 (by omega) (by omega); omega
    subst this
    exact ⟨f, e1⟩
  have hi2 : i < 11 := nle (b := 11) h9 (by omega) (by omega)
  rw [show (11 : Int32) * nI p = nI (11 * p) from pk_mul 11 p, nI_add, nI_clamp (n := i) (by omega), nI_clamp (n := 11 * p + i) (by omega), nI_1]
  refine OK.g (gd_nI (by omega) (by omega)) (OK.g (gd_nI (by omega) (by omega)) (OK.ret ⟨hi2, hi2, rfl, fun o j ho => ?_, fun j hj => ?_⟩))
  · show rh_up g 1 _ _ o j = _; rw [up_f, if_neg (by omega)]; exact f o j ho
  · show rh_up g 1 i _ 1 j = _
    rw [up_f]
    by_cases e : j = i
    · subst e; rw [if_pos ⟨rfl, rfl⟩]; exact f 28 _ (by omega)
    · rw [if_neg (by omega)]; exact e1 j (by omega)
theorem op_undo (h : RLt k n Pm B V c m) (hk : k ≤ 600) : RO (f_La_undo c) (f_Mo_undo m) (fun x y => x.1 = y.1 ∧ RLt (k + 1) n Pm B V x.2 y.2) := by
  obtain ⟨T, a, q, A⟩ := h.la hk
  obtain ⟨q0, g1, g2, g3, g4⟩ := A.1.2.2.2.2.2.2.1
  have g2 : c 13 6 = nI q0 := g2
  have g3 : m 0 24 = nI q0 := g3
  have g4 : ∀ j, j < q0 → SN k n (c 16 (11 * j)) (c 16 (11 * j + 1)) (fun i => c 16 (11 * j + 2 + i)) (fun i => m 10 (11 * j + i)) := g4
  unfold f_La_undo f_De_goBack f_Mo_undo
  rw [g2, g3]
  by_cases h0 : q0 = 0
  · subst h0
    rw [if_pos (show nI 0 = 0 from rfl), if_pos (show nI 0 = 0 from rfl)]
    exact RO.ret ⟨rfl, A.fin⟩
  · have hz : ¬ nI q0 = 0 := nz0 h0 (by omega)
    rw [if_neg hz, if_neg hz, show nI q0 - 1 = nI (q0 - 1) from pk_sub (b := 1) (by omega), show nI (q0 - 1) * 11 = nI (11 * (q0 - 1)) by rw [show nI (q0 - 1) * 11 = nI ((q0 - 1) * 11) from pk_mul (q0 - 1) 11, Nat.mul_comm]]
    rw [Option.bind_assoc]
    refine RO.bl (cf16 (by omega) (rh_up c 13 6 (nI (q0 - 1)))) ?_
    rintro x ⟨f1, e0, e1, e2, e3⟩
    rw [Option.bind_some]
    refine RO.br (un_m (p := q0 - 1) (by omega) (h := rh_up (rh_up m 0 9 0) 0 24 (nI (q0 - 1))) rfl) ?_
    rintro y ⟨f2, d1⟩
    obtain ⟨⟨T', t1, t2, t3⟩, ⟨a', t4, t5, t6⟩, t7⟩ := g4 (q0 - 1) (by omega)
    have x6 : x 13 6 = nI (q0 - 1) := e0 6 (by omega) (by omega)
    have y24 : y 0 24 = nI (q0 - 1) := f2 0 24 (by omega)
    have yi : ∀ i, i < 11 → y 1 i = m 10 (11 * (q0 - 1) + i) := fun i hi => d1 i hi
    refine RO.ret ⟨x6.trans y24.symm, (A.deck (c' := x) (m' := y) (T' := T') (a' := a') (Nat.le_refl k) A.k6 (fun o j h8 h13 h14 h15 h16 => ?_) (fun o j hs h1 h10 h11 h12 h24 => ?_) t1 t4 (e1.trans t2) ((yi 10 (by omega)).trans t3) (e2.trans t5) ((yi 9 (by omega)).trans t6) (fun i hi => ?_) ⟨q0 - 1, by omega, x6, y24, fun j hj => ?_⟩).fin⟩
    · rw [f1 o j h13 h14, up_f, if_neg (by omega)]
    · rw [f2 o j h1, up_f, if_neg (by omega)]
    · rw [e3 i hi, yi i (by omega)]
      exact t7 i hi
    · have ec : x 16 = c 16 := funext (fun u => f1 16 u (by omega) (by omega))
      have em : y 10 = m 10 := funext (fun u => f2 10 u (by omega))
      rw [ec, em]
      exact g4 j (by omega)
theorem op_again (h : RLt k n Pm B V c m) (hk : k ≤ 600) (p : Int32) : RO (f_La_again c p) (f_Mo_again m p) (fun x y => x.1 = y.1 ∧ RLt (k + 1) n Pm B V x.2 y.2) := by
  obtain ⟨T, a, q, A⟩ := h.la hk
  have hn := A.n9
  obtain ⟨q0, g1, g3, g4⟩ := A.1.2.2.2.2.2.2.2.1
  have g3 : m 0 49 = nI q0 := g3
  have g4 : ∀ j, j < 2 → ∃ z, z ≤ q0 ∧ m 30 j = nI z ∧ (m 29 j = 0 ∨ m 29 j = 1) ∧ ((c 18 j = 1 ∧ m 29 j = 1 ∧ z = q0 ∧ SN k n (c 17 (11 * j)) (c 17 (11 * j + 1)) (fun i => c 17 (11 * j + 2 + i)) (fun i => m 28 (11 * j + i))) ∨ (c 18 j = 0 ∧ (m 29 j = 0 ∨ z ≠ q0))) := g4
  unfold f_La_again f_Mo_again
  rw [in_wi]
  refine RO.ii Iff.rfl (fun _ => RO.ret ⟨rfl, A.fin⟩) (fun h1 => ?_)
  obtain ⟨i, -, hi, rfl⟩ := nI_rng (lo := 0) (hi := 1) (wi_1 h1).1 (wi_1 h1).2 (by omega) (by omega)
  have gg := gd_nI (i := i) (N := 2) (by omega) (by omega)
  rw [nI_clamp (n := i) (by omega), g3]
  refine RO.gl gg (RO.gr gg ?_)
  obtain ⟨z, z1, z2, z3, z4⟩ := g4 i (by omega)
  have z2' : rh_up m 0 9 0 30 i = nI z := z2
  rw [show rh_up m 0 9 0 29 i = m 29 i from rfl, z2']
  rcases z4 with ⟨b1, b2, rfl, b4⟩ | ⟨b1, b2⟩
  · rw [b1, b2, if_neg (by decide), if_neg (by decide), rg_t gg, if_pos rfl]
    unfold f_De_restore
    rw [show nI i * 11 = nI (11 * i) by rw [show nI i * 11 = nI (i * 11) from pk_mul i 11, Nat.mul_comm]]
    rw [Option.bind_assoc]
    refine RO.bl (cf17 (by omega) c) ?_
    rintro x ⟨f1, e0, e1, e2, e3⟩
    rw [Option.bind_some]
    refine RO.br (ag_m (p := i) (by omega) (rh_up m 0 9 0)) ?_
    rintro y ⟨f2, d1⟩
    obtain ⟨⟨T', t1, t2, t3⟩, ⟨a', t4, t5, t6⟩, t7⟩ := b4
    have yi : ∀ i', i' < 11 → y 1 i' = m 28 (11 * i + i') := fun i' hi' => d1 i' hi'
    refine RO.ret ⟨rfl, (A.deck (c' := rh_up x 13 6 0) (m' := rh_up y 0 24 0) (T' := T') (a' := a') (Nat.le_refl k) A.k6 (fun o j h8 h13 h14 h15 h16 => ?_) (fun o j hs h1 h10 h11 h12 h24 => ?_) t1 t4 (e1.trans t2) ((yi 10 (by omega)).trans t3) (e2.trans t5) ((yi 9 (by omega)).trans t6) (fun i' hi' => ?_) ⟨0, by omega, rfl, rfl, fun j hj => by omega⟩).fin⟩
    · rw [up_f, if_neg (by omega), f1 o j h13 h14]
    · rw [up_f, if_neg (by omega), f2 o j h1]
    · show x 14 i' = y 1 i' ∧ -4 ≤ (x 14 i').toInt ∧ (x 14 i').toInt ≤ 4 ∧ (n ≤ i' → x 14 i' = 0)
      rw [e3 i' hi', yi i' (by omega)]
      exact t7 i' hi'
  · rw [if_pos b1]
    rcases z3 with z3 | z3
    · rw [if_pos z3]
      exact RO.ret ⟨rfl, A.fin⟩
    · rw [if_neg (by rw [z3]; decide), rg_t gg]
      rcases b2 with b2 | b2
      · rw [b2] at z3; exact absurd z3 (by decide)
      · rw [if_neg (fun w => b2 ((nI_eq (by omega) (by omega)).mp w))]
        exact RO.ret ⟨rfl, A.fin⟩
end UNDO
