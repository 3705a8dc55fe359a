/-! sheet -/
def clp (x : Int32) : Int32 := if (1 : Int32) < (if x < (999 : Int32) then x else (999 : Int32)) then (if x < (999 : Int32) then x else (999 : Int32)) else (1 : Int32)
theorem clp_r (x : Int32) : ∃ b, 1 ≤ b ∧ b ≤ 999 ∧ clp x = nI b := by
  unfold clp
  by_cases h1 : x < (999 : Int32)
  · rw [if_pos h1]
    by_cases h2 : (1 : Int32) < x
    · rw [if_pos h2]
      rw [fa_lt, show (999 : Int32).toInt = 999 from rfl] at h1
      rw [fa_lt, show (1 : Int32).toInt = 1 from rfl] at h2
      exact ⟨x.toInt.toNat, by omega, by omega, ofI (by omega)⟩
    · rw [if_neg h2]
      exact ⟨1, by omega, by omega, rfl⟩
  · rw [if_neg h1, if_pos (by decide)]
    exact ⟨999, by omega, by omega, rfl⟩
theorem clp_1 : clp 1 = 1 := by decide
section SHEET
variable {k n Pm : Nat} {B : Nat → Nat} {V : Nat → Nat → Nat → Nat} {T a q : Nat} {c m : HI}
theorem RQ.bs {k' : Nat} {c' m' : HI} {B' : Nat → Nat} (h : RQ k n Pm B V (rC c) (rM m)) (hk : k ≤ k') (x : ∀ o j, pC o j = true → o ≠ 5 → c' o j = c o j) (y : ∀ o j, pM o j = true → o ≠ 2 → m' o j = m o j) (hb : ∀ i, i < n → c' 5 i = nI (B' i) ∧ m' 2 i = nI (B' i) ∧ 1 ≤ B' i ∧ B' i ≤ 999) : RQ k' n Pm B' V (rC c') (rM m') := by
  have h2 := h.mono hk
  rw [← rC_eq (SC.mx (S := fun o _ => o == 5) (c := c) (c' := c') (fun o j hp hS => by simp only [beq_eq_false_iff_ne] at hS; exact x o j hp hS)), ← rM_eq (SM.mx (S := fun o _ => o == 2) (c := m) (c' := m') (fun o j hp hS => by simp only [beq_eq_false_iff_ne] at hS; exact y o j hp hS))] at h2
  obtain ⟨a1, ⟨b1, b2, b3, b4, b5, b6, b7⟩, a3, a4, a5, a6, a7, a8, a9⟩ := h2
  exact ⟨a1, ⟨b1, b2, b3, b4, b5, b6, hb⟩, a3, a4, a5, a6, a7, a8, a9⟩
theorem sh_go (A : RLa k n Pm B V T a q c m) (p v f s : Int32) (e : Int32) (hp : ∃ i, i ≤ 3 ∧ p = nI i) (he : (p = 3 ∧ e = 0) ∨ (¬ p = 3 ∧ e = v)) : RO (f_Cr_rebase c p e f s) (rh_loop (b_Mo_sheet_43 p v s) rh_N ((0 : Int32), f, (0 : Int32), m)) (fun x y => x.1 = y.1 ∧ ∃ B', RLt (k + 1) n Pm B' V x.2 y.2) := by
  have hn := A.n9
  unfold f_Cr_rebase
  have key : RO (rh_loop (b_Cr_rebase_9 p e s) rh_N ((0 : Int32), f, (0 : Int32), c)) (rh_loop (b_Mo_sheet_43 p v s) rh_N ((0 : Int32), f, (0 : Int32), m)) (fun x y => x.1 = y.1 ∧ (∀ o j, o ≠ 5 → x.2 o j = c o j) ∧ (∀ o j, o ≠ 2 → y.2 o j = m o j) ∧ ∀ j, j < n → x.2 5 j = y.2 2 j ∧ ∃ b, 1 ≤ b ∧ b ≤ 999 ∧ x.2 5 j = nI b) := by
    refine RO.loop _ _ (fun i x y => i ≤ n ∧ x.1 = y.1 ∧ x.2.1 = y.2.1 ∧ x.2.2.1 = nI i ∧ y.2.2.1 = nI i ∧ (∀ o j, o ≠ 5 → x.2.2.2 o j = c o j) ∧ (∀ o j, o ≠ 2 → y.2.2.2 o j = m o j) ∧ ∀ j, j < i → x.2.2.2 5 j = y.2.2.2 2 j ∧ ∃ b, 1 ≤ b ∧ b ≤ 999 ∧ x.2.2.2 5 j = nI b) _ n (by omega) ?_ ⟨by omega, rfl, rfl, rfl, rfl, fun _ _ _ => rfl, fun _ _ _ => rfl, fun j hj => by omega⟩
    rintro i ⟨x1, x2, x3, h⟩ ⟨y1, y2, y3, g⟩ - ⟨hi, rfl, rfl, rfl, rfl, f1, f2, ev⟩
    dsimp only at f1 f2 ev
    unfold b_Cr_rebase_9 b_Mo_sheet_43
    dsimp only
    have e40 : h 4 0 = nI n := (f1 4 0 (by omega)).trans A.cn
    have e01 : g 0 1 = nI n := (f2 0 1 (by omega)).trans A.mn
    simp only [e40, e01]
    refine RO.ii Iff.rfl (fun h9 => ?_) (fun h9 => ?_)
    · have : i = n := by have := ple h9 (by omega) (by omega); omega
      subst this
      exact RO.ret ⟨rfl, f1, f2, ev⟩
    have hi2 : i < n := nle h9 (by omega) (by omega)
    have g9 := gd_nI (i := i) (N := 9) (by omega) (by omega)
    have fin : ∀ w : Int32, RO (some (.inl (x1 + ((rh_up h 5 i (clp w)) 5 i), x2 + s, nI (i + 1), rh_up h 5 i (clp w)))) (some (.inl (x1 + ((rh_up g 2 i (clp w)) 2 i), x2 + s, nI (i + 1), rh_up g 2 i (clp w)))) (LQ (fun (x : Int32 × Int32 × Int32 × HI) (y : Int32 × Int32 × Int32 × HI) => i < n ∧ (i + 1 ≤ n ∧ x.1 = y.1 ∧ x.2.1 = y.2.1 ∧ x.2.2.1 = nI (i + 1) ∧ y.2.2.1 = nI (i + 1) ∧ (∀ o j, o ≠ 5 → x.2.2.2 o j = c o j) ∧ (∀ o j, o ≠ 2 → y.2.2.2 o j = m o j) ∧ ∀ j, j < i + 1 → x.2.2.2 5 j = y.2.2.2 2 j ∧ ∃ b, 1 ≤ b ∧ b ≤ 999 ∧ x.2.2.2 5 j = nI b)) (fun (x : Int32 × HI) (y : Int32 × HI) => x.1 = y.1 ∧ (∀ o j, o ≠ 5 → x.2 o j = c o j) ∧ (∀ o j, o ≠ 2 → y.2 o j = m o j) ∧ ∀ j, j < n → x.2 5 j = y.2 2 j ∧ ∃ b, 1 ≤ b ∧ b ≤ 999 ∧ x.2 5 j = nI b)) := by
      intro w
      refine RO.ret ⟨hi2, hi2, ?_, rfl, rfl, rfl, fun o j ho => ?_, fun o j ho => ?_, fun j hj => ?_⟩
      · show x1 + _ = x1 + _
        rw [rh_up_s, rh_up_s]
      · show rh_up h 5 i _ o j = _
        rw [up_f, if_neg (by omega)]; exact f1 o j ho
      · show rh_up g 2 i _ o j = _
        rw [up_f, if_neg (by omega)]; exact f2 o j ho
      · show rh_up h 5 i _ 5 j = rh_up g 2 i _ 2 j ∧ ∃ b, 1 ≤ b ∧ b ≤ 999 ∧ rh_up h 5 i _ 5 j = nI b
        rw [up_f, up_f]
        by_cases z : j = i
        · subst z
          rw [if_pos ⟨rfl, rfl⟩, if_pos ⟨rfl, rfl⟩]
          exact ⟨rfl, clp_r w⟩
        · rw [if_neg (by omega), if_neg (by omega)]
          exact ev j (by omega)
    have jc : ∀ w : Int32, j_Cr_rebase_34 h p e s x1 x2 (nI i) w = some (.inl (x1 + ((rh_up h 5 i (clp w)) 5 i), x2 + s, nI (i + 1), rh_up h 5 i (clp w))) := fun w => by
      unfold j_Cr_rebase_34
      rw [rg_t g9, rg_t g9, nI_clamp (n := i) (by omega), nI_1]
      rfl
    have jm1 : ∀ w : Int32, (p = 3 ∨ ¬ nI i < v) → j_Mo_sheet_75 g p v s x1 x2 (nI i) w = some (.inl (x1 + ((rh_up g 2 i (clp 1)) 2 i), x2 + s, nI (i + 1), rh_up g 2 i (clp 1))) := fun w hw => by
      unfold j_Mo_sheet_75
      rw [clp_1]
      by_cases h3 : p = 3
      · rw [if_pos h3, rg_t g9, rg_t g9, nI_clamp (n := i) (by omega), nI_1]
      · rw [if_neg h3, if_neg (hw.resolve_left h3), rg_t g9, rg_t g9, nI_clamp (n := i) (by omega), nI_1]
    have jm2 : ∀ w : Int32, ¬ p = 3 → nI i < v → j_Mo_sheet_75 g p v s x1 x2 (nI i) w = some (.inl (x1 + ((rh_up g 2 i (clp w)) 2 i), x2 + s, nI (i + 1), rh_up g 2 i (clp w))) := fun w h3 hw => by
      unfold j_Mo_sheet_75
      rw [if_neg h3, if_pos hw, rg_t g9, rg_t g9, nI_clamp (n := i) (by omega), nI_1]
      rfl
    by_cases hu : e ≤ nI i
    · rw [if_pos hu, jc]
      have hw : p = 3 ∨ ¬ nI i < v := by
        rcases he with ⟨h3, _⟩ | ⟨h3, rfl⟩
        · exact Or.inl h3
        · right; rw [fa_lt]; rw [fa_le] at hu; omega
      by_cases p0 : p = 0
      · rw [if_pos p0, jm1 _ hw]; exact fin 1
      · rw [if_neg p0]
        by_cases p1 : p = 1
        · rw [if_pos p1, jm1 _ hw]; exact fin 1
        · rw [if_neg p1, jm1 _ hw]; exact fin 1
    · rw [if_neg hu, jc]
      have h3 : ¬ p = 3 ∧ nI i < v := by
        rcases he with ⟨h3, rfl⟩ | ⟨h3, rfl⟩
        · exact absurd (show (0 : Int32) ≤ nI i from nI_le (Nat.zero_le i) (by omega)) hu
        · exact ⟨h3, by rw [fa_lt]; rw [fa_le] at hu; omega⟩
      unfold f_Cr_narrowed
      obtain ⟨j, hj, rfl⟩ := hp
      rcases (show j = 0 ∨ j = 1 ∨ j = 2 ∨ j = 3 by omega) with rfl | rfl | rfl | rfl
      · rw [if_pos (by decide), if_pos (show nI 0 = 0 from rfl), jm2 _ h3.1 h3.2]; exact fin _
      · rw [if_neg (by decide), if_pos (by decide), if_neg (by decide), if_pos (show nI 1 = 1 from rfl), jm2 _ h3.1 h3.2]; exact fin _
      · rw [if_neg (by decide), if_neg (by decide), if_neg (by decide), if_neg (by decide), jm2 _ h3.1 h3.2]; exact fin _
      · exact absurd rfl h3.1
  obtain ⟨x, y, e1, e2, h1, h2, h3, h4⟩ := key
  refine ⟨x, y, by rw [e1]; rfl, e2, h1, fun j => (x.2 5 j).toInt.toNat, ⟨A.1.bs (Nat.le_succ k) (fun o j _ ho => h2 o j ho) (fun o j _ ho => h3 o j ho) (fun i hi => ?_), ?_⟩⟩
  · obtain ⟨g1, b, b1, b2, b3⟩ := h4 i hi
    rw [← g1, b3, nI_toInt (by omega)]
    exact ⟨rfl, rfl, by omega, by omega⟩
  · exact A.t0.2.kept (h2 2 1 (by omega)) (fun j => h2 3 j (by omega)) (h3 0 8 (by omega)) (fun j => h3 5 j (by omega))
theorem op_sheet (h : RLt k n Pm B V c m) (hk : k ≤ 600) (p v f s : Int32) : RO (f_La_sheet c p v f s) (f_Mo_sheet m p v f s) (fun x y => x.1 = y.1 ∧ ∃ B', RLt (k + 1) n Pm B' V x.2 y.2) := by
  obtain ⟨T, a, q, A⟩ := h.la hk
  unfold f_La_sheet f_Mo_sheet j_Mo_sheet_34
  rw [in_wi]
  refine RO.ii Iff.rfl (fun _ => RO.ret ⟨rfl, B, A.fin⟩) (fun h1 => ?_)
  obtain ⟨i, -, hi, rfl⟩ := nI_rng (lo := 0) (hi := 3) (wi_1 h1).1 (wi_1 h1).2 (by omega) (by omega)
  refine RO.ii Iff.rfl (fun h2 => ?_) (fun _ => RO.ret ⟨rfl, B, A.fin⟩)
  by_cases h3 : nI i = 3
  · rw [if_pos h3, if_pos (show (3 : Int32) ≤ nI i by rw [h3]; decide)]
    refine RO.bind (sh_go A (nI i) v f s 0 ⟨i, hi, rfl⟩ (Or.inl ⟨h3, rfl⟩)) (fun x y hxy => ?_)
    rw [if_pos h3]
    exact RO.ret ⟨rfl, hxy.2⟩
  · have h4 : ¬ (3 : Int32) ≤ nI i := fun z => by
      have := ple (b := 3) (i := i) z (by omega) (by omega)
      exact h3 (by rw [show i = 3 by omega]; rfl)
    rw [if_neg h3, if_neg h4]
    refine RO.ii Iff.rfl (fun h5 => ?_) (fun _ => RO.ret ⟨rfl, B, A.fin⟩)
    refine RO.bind (sh_go A (nI i) v f s v ⟨i, hi, rfl⟩ (Or.inr ⟨h3, rfl⟩)) (fun x y hxy => ?_)
    rw [if_neg h3]
    exact RO.ret hxy
end SHEET
