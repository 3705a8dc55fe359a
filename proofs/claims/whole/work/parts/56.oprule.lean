/-! rule -/
def V0 (b t _w : Nat) : Nat := b - b * (t % 9) / 24
theorem v0_c {b t : Nat} (h2 : b ≤ 999) : nI b - nI b * nI (t % 9) / 24 = nI (b - b * (t % 9) / 24) := by
  have h3 : b * (t % 9) ≤ 999 * 8 := Nat.mul_le_mul h2 (by omega)
  have h4 : b * (t % 9) ≤ b * 8 := Nat.mul_le_mul_left b (by omega)
  rw [pk_mul, show nI (b * (t % 9)) / 24 = nI (b * (t % 9) / 24) from pk_div (d := 24) (by omega) (by omega) (by omega), pk_sub (by omega)]
theorem rule0_c {c : HI} (h : c 6 1 = 0) : RVc c V0 := fun g g1 g2 b t w h1 h2 h3 h4 => by
  refine ⟨g, ?_, fun _ _ _ => rfl⟩
  unfold f_Ha_weigh
  rw [g1, h, if_pos rfl, v0_c h2]
  rfl
theorem rule0_m {m : HI} (h : m 0 17 = 0) : RVm m V0 := fun g rd g1 g2 b t w h1 h2 h3 h4 h5 => by
  refine ⟨g, rd, ?_, fun _ _ _ => rfl⟩
  unfold f_Mo_weightBy
  rw [if_neg h5, g1, h, if_pos rfl, show nI t - nI t / 9 * 9 = nI (t % 9) from pk_rem (d := 9) (by omega) (by omega) (by omega), v0_c h2]
  have hv : b - b * (t % 9) / 24 ≤ 999 := by omega
  unfold V0
  rw [if_pos (show nI (b - b * (t % 9) / 24) < 9999 from ltI (s := 9999) (by omega) (by omega))]
  by_cases z : b - b * (t % 9) / 24 = 0
  · rw [z]; rfl
  · rw [if_pos (show (0 : Int32) < nI (b - b * (t % 9) / 24) from ltI (x := 0) (by omega) (by omega))]
theorem rule0_le (b t w : Nat) (_h1 : 1 ≤ b) (h2 : b ≤ 999) (_h3 : t < 2 ^ 30) (_h4 : w < 9) : V0 b t w ≤ 9999 := by unfold V0; omega
/-- a rule that was read through, as both sides hold it -/
def VR (D : List Int32) (b t w : Nat) : Nat := cpN (valOf (nI b, nI (t % 9), nI (t / 9), nI w) D)
theorem ks_end {tx : Nat → Nat} {n q : Nat} {s s' : RT} {i : RT} (h1 : ks tx n 0 i = some s) (h2 : ks tx q 0 i = some s') (h3 : tks s' (tx q) = none) : n ≤ q := by
  by_cases z : n ≤ q
  · exact z
  · exfalso
    rw [show n = q + (1 + (n - q - 1)) by omega, ks_add, h2, Option.bind_some, Nat.zero_add, Nat.add_comm 1] at h1
    unfold ks at h1
    rw [h3] at h1
    cases h1
theorem ruleV_c {c : HI} {D : List Int32} {x : Int32} {e0 : EnV} (hD : D.length ≤ 40) (hD0 : D ≠ []) (h7 : LSq (c 7) D) (h61 : c 6 1 = nI D.length) (hv : STk e0 D = some [x]) : RVc c (VR D) := fun g g1 g2 b t w h1 h2 h3 h4 => by
  obtain ⟨h', a1, a2⟩ := weigh_c (e := (nI b, nI (t % 9), nI (t / 9), nI w)) (h := g) hD hD0 (h7.mv (fun i _ => g2 i)) (g1.trans h61) (valOf_ok hv _)
  refine ⟨h', ?_, a2⟩
  rw [a1, (cpN_ok _).1]
  rfl
theorem ruleV_m {m : HI} {t0 : Nat} {tx : Nat → Nat} {X : List Nat} {D : List Int32} {dg : Nat} {cm : Nat → Bool} {x : Int32} {e0 : EnV} (ht : 0 < t0) (ht2 : t0 ≤ 40) (h17 : m 0 17 = nI t0) (h7 : ∀ i, i < t0 → tx i < 256 ∧ m 7 i &&& 255 = nI (tx i)) (hk : ks tx t0 0 ([], [], 0, 0, false, fun _ => false) = some (X, D, 0, dg, true, cm)) (hv : STk e0 (fl X D) = some [x]) : RVm m (VR (fl X D)) := fun g rd g1 g2 b t w h1 h2 h3 h4 h5 => by
  unfold f_Mo_weightBy
  rw [if_neg h5, g1, h17, if_neg (nz0 (by omega) (by omega))]
  generalize hG : rh_up (rh_up (rh_up (f_Mo_begin_7 g (nI t0) (40 : Int32)) 0 18 (nI w)) 0 19 (nI b)) 0 20 (nI t) = G
  have Gf : ∀ o k, sM o k = false → G o k = g o k := fun o k hs => by
    rw [← hG]
    unfold f_Mo_begin_7
    simp only [up_f]
    unfold sM at hs
    simp only [Bool.and_eq_false_iff, Bool.or_eq_false_iff, beq_eq_false_iff_ne] at hs
    rw [if_neg (by omega), if_neg (by omega), if_neg (by omega), if_neg (by omega), if_neg (by omega), if_neg (by omega), if_neg (by omega)]
  have rz : RZ t0 40 tx 0 G := by
    refine ⟨ht2, by omega, by omega, ?_, ?_, ?_, ?_, fun i hi => ⟨(h7 i hi).1, ?_⟩⟩
    · rw [← hG]; rfl
    · rw [← hG]; rfl
    · rw [← hG]; rfl
    · rw [← hG]; rfl
    · rw [Gf 7 i rfl, g2]; exact (h7 i hi).2
  have hen : enh G = (nI b, nI (t % 9), nI (t / 9), nI w) := by
    unfold enh
    have e18 : G 0 18 = nI w := by rw [← hG]; rfl
    have e19 : G 0 19 = nI b := by rw [← hG]; rfl
    have e20 : G 0 20 = nI t := by rw [← hG]; rfl
    rw [e18, e19, e20, if_neg (nI_ne1 (by omega)), show nI t - nI t / 9 * 9 = nI (t % 9) from pk_rem (d := 9) (by omega) (by omega) (by omega), show nI t / 9 = nI (t / 9) from pk_div (d := 9) (by omega) (by omega) (by omega)]
  have hm : t0 = min t0 40 := by omega
  obtain ⟨y, ey, hy⟩ := hw7 (e := t0) hm ht2 (fun i hi => (h7 i hi).1) rz
  rw [ey, Option.bind_some]
  have fr : E34 G y.2 → ∀ o k, sM o k = false → y.2 o k = g o k := fun E o k hs => by
    rw [E o k (fun z => by
      subst z
      unfold sM at hs
      simp only [Bool.and_eq_false_iff, Bool.or_eq_false_iff, beq_eq_false_iff_ne] at hs
      omega)]
    exact Gf o k hs
  rcases hy with ⟨n, X', D', dg', cm', a1, a2, a3, a4, a5, a6, a7⟩ | ⟨n, s', a1, a2, a3, a4, a5, a6⟩
  · have hn : n = t0 := by
      by_cases z : n < t0
      · have := ks_end hk a4 (a5 z); omega
      · omega
    subst hn
    rw [hk] at a4
    have e4 := Option.some.inj a4
    have eX : X = X' := congrArg (fun z : RT => z.1) e4
    have eD : D = D' := congrArg (fun z : RT => z.2.1) e4
    rw [← eX, ← eD, hen] at a6
    have e6 : valOf (nI b, nI (t % 9), nI (t / 9), nI w) (fl X D) = y.1 := by unfold valOf; rw [a6]; rfl
    refine ⟨y.2, some 7, ?_, fr a7⟩
    show some (cpI y.1, y.2, some 7) = _
    rw [(cpN_ok _).1, ← e6]
    rfl
  · exfalso
    rw [Nat.zero_add] at a1 a2 a5
    have hn : n = t0 := by
      by_cases z : n < t0
      · have := ks_end hk a3 (a5 z); omega
      · omega
    subst hn
    rw [hk] at a3
    have e4 := Option.some.inj a3
    rw [← e4] at a4
    rcases a4 with z | z
    · exact absurd (show true = false from z) (by decide)
    · exact z rfl
section OPR
variable {k n Pm : Nat} {B : Nat → Nat} {V : Nat → Nat → Nat → Nat} {c m : HI}
theorem RLt.rule {V' : Nat → Nat → Nat → Nat} {c' m' : HI} (h : RLt k n Pm B V c m) (x : ∀ o j, pC o j = true → (o = 0 → j ≠ 1) → o ≠ 6 → o ≠ 7 → c' o j = c o j) (x0 : c' 0 1 = 0) (y : ∀ o j, pM o j = true → (o = 0 → j ≠ 6 ∧ j ≠ 17) → o ≠ 7 → m' o j = m o j) (y0 : m' 0 6 = 0) (g1 : c' 2 1 = c 2 1) (g2 : ∀ i, c' 3 i = c 3 i) (g3 : m' 0 8 = m 0 8) (g4 : ∀ i, m' 5 i = m 5 i) (r1 : RVc c' V') (r2 : RVm m' V') (r3 : ∀ b t w, 1 ≤ b → b ≤ 999 → t < 2 ^ 30 → w < 9 → V' b t w ≤ 9999) : RLt (k + 1) n Pm B V' c' m' := by
  refine ⟨?_, h.2.kept g1 g2 g3 g4⟩
  have h2 := h.1.mono (Nat.le_succ k)
  rw [← rC_eq (SC.mx (S := fun o j => (o == 0 && j == 1) || o == 6 || o == 7) (c := c) (c' := c') (fun o j hp hS => by
      simp only [Bool.or_eq_false_iff, Bool.and_eq_false_iff, beq_eq_false_iff_ne] at hS
      exact x o j hp (fun z => by have := hS.1.1; omega) hS.1.2 hS.2)), ← rM_eq (SM.mx (S := fun o j => (o == 0 && (j == 6 || j == 17)) || o == 7) (c := m) (c' := m') (fun o j hp hS => by
      simp only [Bool.or_eq_false_iff, Bool.and_eq_false_iff, beq_eq_false_iff_ne] at hS
      exact y o j hp (fun z => by have := hS.1; omega) hS.2))] at h2
  obtain ⟨a1, a2, a3, a4, a5, a6, a7, a8, a9⟩ := h2
  refine ⟨⟨0, by omega, x0, y0, fun i hi => by omega⟩, a2, a3, a4, a5, a6, a7, a8, ?_, ?_, r3⟩
  · exact fun g e1 e2 => r1 g e1 e2
  · exact fun g rd e1 e2 => r2 g rd e1 e2
theorem ru_copy {M : HI} {t : Nat} (ht : t ≤ 40) (h4 : ∀ i, i < t → (M 4 i).toInt8.toInt32 = M 4 i) : OK (rh_loop (b_Mo_rule_73 (nI t)) rh_N ((0 : Int32), M)) (fun y => (∀ o j, o ≠ 7 → y o j = M o j) ∧ ∀ i, i < t → y 7 i = M 4 i) := by
  refine OK.loop _ (fun i s => i ≤ t ∧ s.1 = nI i ∧ (∀ o j, o ≠ 7 → s.2 o j = M o j) ∧ ∀ j, j < i → s.2 7 j = M 4 j) _ t (by omega) ?_ ⟨by omega, rfl, fun _ _ _ => rfl, fun j hj => by omega⟩
  rintro i ⟨v, g⟩ hi ⟨h1, rfl, h3, h5⟩
  dsimp only at h3 h5
  unfold b_Mo_rule_73
  dsimp only
  refine OK.ite (fun hc => OK.ret ⟨h3, fun j hj => h5 j (by have := ple hc (by omega) (by omega); omega)⟩) (fun hc => ?_)
  have hi2 := nle hc (by omega) (by omega)
  rw [rg_t (gd_nI (by omega) (by omega)), rg_t (gd_nI (by omega) (by omega)), nI_clamp (by omega), nI_1, h3 4 i (by omega), h4 i hi2]
  refine OK.ret ⟨hi2, hi2, rfl, fun o j ho => ?_, fun j hj => ?_⟩
  · show rh_up g 7 i _ o j = _
    rw [up_f, if_neg (fun z => ho z.1)]; exact h3 o j ho
  · show rh_up g 7 i _ 7 j = _
    rw [up_f]
    by_cases z : j = i
    · rw [if_pos ⟨rfl, z⟩, z]
    · rw [if_neg (fun q => z q.2)]; exact h5 j (by omega)
theorem m1_ne {w : Nat} (hw : w ≤ 100) : ¬ (-1 - nI w : Int32) = 0 := by
  intro z
  have : (-1 - nI w).toInt = -1 - (w : Int) := by
    rw [fb_subI, nI_toInt (by omega)]
    · rfl
    · rw [nI_toInt (by omega), show (-1 : Int32).toInt = -1 from rfl]; omega
    · rw [nI_toInt (by omega), show (-1 : Int32).toInt = -1 from rfl]; omega
  rw [z] at this
  have h0 : (0 : Int32).toInt = 0 := rfl
  omega
theorem op_rule (h : RLt k n Pm B V c m) (hk : k ≤ 600) (rd : Option Nat) : RO (f_La_rule c) (f_Mo_rule m rd) (fun x y => x.1 = y.1 ∧ ∃ V', RLt (k + 1) n Pm B V' x.2 y.2.1) := by
  obtain ⟨T, a, q, A⟩ := h.la hk
  obtain ⟨t, tx, ht, t1, t2, t3⟩ := A.txt
  have t2 : m 0 6 = nI t := t2
  have hfin : ∀ {c' m' : HI}, (∀ o j, pC o j = true → (o = 0 → j ≠ 1) → c' o j = c o j) → c' 0 1 = 0 → (∀ o j, pM o j = true → (o = 0 → j ≠ 6) → m' o j = m o j) → m' 0 6 = 0 → (c' 2 1 = c 2 1) → (∀ i, c' 3 i = c 3 i) → m' 0 8 = m 0 8 → (∀ i, m' 5 i = m 5 i) → ∃ V', RLt (k + 1) n Pm B V' c' m' := fun x1 x2 x3 x4 x5 x6 x7 x8 => ⟨V, h.text x1 x2 x3 x4 x5 x6 x7 x8⟩
  unfold f_La_rule f_Mo_rule f_La_takeText
  dsimp only
  rw [t1, t2]
  generalize hM0 : rh_up (rh_up (f_Mo_begin_4 (rh_up m 0 9 0) (nI t) (40 : Int32)) 0 6 0) 0 18 (-1) = M0
  generalize hC0 : rh_up c 0 1 0 = C0
  have M0f : ∀ o j, (o = 0 → j ≠ 6 ∧ j ≠ 9 ∧ j ≠ 11 ∧ j ≠ 12 ∧ j ≠ 13 ∧ j ≠ 14 ∧ j ≠ 18) → M0 o j = m o j := fun o j ho => by
    rw [← hM0]
    unfold f_Mo_begin_4
    simp only [up_f]
    rw [if_neg (by omega), if_neg (by omega), if_neg (by omega), if_neg (by omega), if_neg (by omega), if_neg (by omega), if_neg (by omega)]
  have C0f : ∀ o j, (o = 0 → j ≠ 1) → C0 o j = c o j := fun o j ho => by
    rw [← hC0, up_f, if_neg (by omega)]
  have c01 : C0 0 1 = 0 := by rw [← hC0]; rfl
  have m06 : M0 0 6 = 0 := by rw [← hM0]; rfl
  have pM0 : ∀ j, pM 0 j = true → j ≠ 6 → j ≠ 9 ∧ j ≠ 11 ∧ j ≠ 12 ∧ j ≠ 13 ∧ j ≠ 14 ∧ j ≠ 18 := by
    intro j hp h6
    refine ⟨?_, ?_, ?_, ?_, ?_, ?_⟩ <;> (rintro rfl; exact absurd hp (by decide))
  by_cases h0 : t = 0
  · subst h0
    rw [if_pos (show nI 0 = 0 from rfl), if_pos (show nI 0 ≤ 0 by decide)]
    unfold j_Mo_rule_71 f_Ha_drop
    refine RO.br (ru_copy (M := M0) (t := 0) (by omega) (fun i hi => by omega)) (fun y hy => RO.ret ⟨rfl, V0, h.rule (fun o j hp h1 h6 h7 => ?_) ?_ (fun o j hp h1 h7 => ?_) ?_ ?_ (fun i => ?_) ?_ (fun i => ?_) ?_ ?_ rule0_le⟩)
    · show rh_up C0 6 1 0 o j = _
      rw [up_f, if_neg (fun z => h6 z.1)]; exact C0f o j h1
    · show rh_up C0 6 1 0 0 1 = 0
      rw [up_f, if_neg (by omega)]; exact c01
    · show rh_up y 0 17 (nI 0) o j = _
      rw [up_f, if_neg (fun z => (h1 z.1).2 z.2), hy.1 o j h7]
      exact M0f o j (fun z => by subst z; exact ⟨(h1 rfl).1, pM0 j hp (h1 rfl).1⟩)
    · show rh_up y 0 17 (nI 0) 0 6 = 0
      rw [up_f, if_neg (by omega), hy.1 0 6 (by omega)]; exact m06
    · show rh_up C0 6 1 0 2 1 = _
      rw [up_f, if_neg (by omega)]; exact C0f 2 1 (by omega)
    · show rh_up C0 6 1 0 3 i = _
      rw [up_f, if_neg (by omega)]; exact C0f 3 i (by omega)
    · show rh_up y 0 17 (nI 0) 0 8 = _
      rw [up_f, if_neg (by omega), hy.1 0 8 (by omega)]; exact M0f 0 8 (by omega)
    · show rh_up y 0 17 (nI 0) 5 i = _
      rw [up_f, if_neg (by omega), hy.1 5 i (by omega)]; exact M0f 5 i (by omega)
    · exact rule0_c (by show rh_up C0 6 1 0 6 1 = 0; rfl)
    · exact rule0_m (by show rh_up y 0 17 (nI 0) 0 17 = 0; rfl)
  · rw [if_neg (nz0 h0 (by omega)), if_neg (show ¬ nI t ≤ 0 from nI_ge (b := t) (a := 0) (by omega) (by omega))]
    have hseen : (if (80 : Int32) < (if (40 : Int32) < nI t then (40 : Int32) else nI t) then (80 : Int32) else (if (40 : Int32) < nI t then (40 : Int32) else nI t)) = nI (min t 40) := by
      by_cases z : 40 < t
      · rw [if_pos (show (40 : Int32) < nI t from ltI (x := 40) (by omega) z), if_neg (by decide), show min t 40 = 40 by omega]; rfl
      · rw [if_neg (show ¬ (40 : Int32) < nI t from nltI (x := 40) (by omega) z), if_neg (show ¬ (80 : Int32) < nI t from nltI (x := 80) (by omega) (by omega)), show min t 40 = t by omega]
    have rs0 : RS t 40 tx 0 M0 := by
      refine ⟨ht, by omega, by omega, ?_, ?_, ?_, ?_, fun i hi => ⟨(t3 i hi).1, ?_⟩⟩
      · rw [← hM0]; rfl
      · rw [← hM0]; rfl
      · rw [← hM0]; rfl
      · rw [← hM0]; rfl
      · rw [M0f 4 i (by omega)]; exact (t3 i hi).2.2.1
    have hs0 : HSt C0 (f_Ha_begin C0) ([], [], 0, 0, false, fun _ => false) := by
      unfold f_Ha_begin
      refine ⟨?_, rfl, rfl, rfl, rfl, rfl, trivial, trivial, Nat.zero_le _, ⟨Nat.zero_le _, fun z => absurd z (Nat.lt_irrefl 0)⟩, fun a ha => absurd ha List.not_mem_nil, fun j hj => ?_⟩
      · have f0 : FH C0 C0 := fun _ _ _ => rfl
        exact ((((((f0.up 6 4 _ (nh6 (by omega))).up 6 6 _ (nh6 (by omega))).up 6 8 _ (nh6 (by omega))).up 11 _ _ (nh11 _)).up 6 9 _ (nh6 (by omega))).up 6 10 _ (nh6 (by omega)))
      · have : j = 0 := Nat.le_zero.mp hj
        subst this
        rfl
    have htx : ∀ i, i < min t 40 → tx i < 256 ∧ C0 1 i = nI (tx i) := fun i hi => ⟨(t3 i (by omega)).1, (C0f 1 i (by omega)).trans (t3 i (by omega)).2.1⟩
    have hc := rd_c (C0 := C0) (tx := tx) (e := min t 40) (by omega) htx (nI t) (nI 40) (min t 40) 0 _ (f_Ha_begin C0) rh_N hs0 (Nat.le_refl _) (by omega) (by unfold rh_N; omega)
    obtain ⟨y, ey, hy⟩ := hw4 (e := min t 40) rfl (by omega) (fun i hi => (htx i hi).1) rs0
    unfold f_Re_readThrough_Ha_6_1
    rw [hseen, ey, Option.bind_some, show (40 : Int32) = nI 40 from rfl]
    -- frames
    have fC : ∀ {C' : HI}, FH C0 C' → (∀ o j, pC o j = true → (o = 0 → j ≠ 1) → C' o j = c o j) ∧ C' 0 1 = 0 ∧ C' 2 1 = c 2 1 ∧ ∀ i, C' 3 i = c 3 i := fun {C'} f => by
      refine ⟨fun o j hp h1 => ?_, (f 0 1 ⟨by omega, by omega, by omega, by omega⟩).trans c01, (f 2 1 ⟨by omega, by omega, by omega, by omega⟩).trans (C0f 2 1 (by omega)), fun i => (f 3 i ⟨by omega, by omega, by omega, by omega⟩).trans (C0f 3 i (by omega))⟩
      rw [f o j ⟨?_, ?_, ?_, ?_⟩, C0f o j h1]
      · rintro rfl; exact absurd (show false = true from hp) (by decide)
      · rintro rfl; exact absurd (show false = true from hp) (by decide)
      · rintro rfl; exact absurd (show false = true from hp) (by decide)
      · rintro rfl
        refine ⟨?_, ?_, ?_, ?_, ?_⟩ <;> (rintro rfl; exact absurd hp (by decide))
    have fM : ∀ {M' : HI}, E34 M0 M' → (∀ o j, pM o j = true → (o = 0 → j ≠ 6) → M' o j = m o j) ∧ M' 0 6 = 0 ∧ M' 0 8 = m 0 8 ∧ ∀ i, M' 5 i = m 5 i := fun {M'} f => by
      refine ⟨fun o j hp h1 => ?_, (f 0 6 (by omega)).trans m06, (f 0 8 (by omega)).trans (M0f 0 8 (by omega)), fun i => (f 5 i (by omega)).trans (M0f 5 i (by omega))⟩
      rw [f o j (fun z => by subst z; have := pM0 j hp (h1 rfl); omega), M0f o j (fun z => by subst z; exact ⟨h1 rfl, pM0 j hp (h1 rfl)⟩)]
    have bad : ∀ (w : Nat) (C' M' : HI), w ≤ 80 → FH C0 C' → E34 M0 M' → M' 0 14 = nI w → RO (if (-1 - nI w : Int32) = 0 then (f_Ha_adopt C').bind (fun x4 => some ((-1 - nI w : Int32), x4)) else some ((-1 - nI w : Int32), C')) (j_Mo_rule_57 M' (nI t)) (fun x y => x.1 = y.1 ∧ ∃ V', RLt (k + 1) n Pm B V' x.2 y.2.1) := fun w C' M' hw f1 f2 f3 => by
      rw [if_neg (m1_ne (by omega))]
      unfold j_Mo_rule_57
      rw [fine0 (by omega) f3, if_pos rfl, f3]
      obtain ⟨x1, x2, x3, x4⟩ := fC f1
      obtain ⟨y1, y2, y3, y4⟩ := fM f2
      exact RO.ret ⟨rfl, hfin x1 x2 y1 y2 x3 x4 y3 y4⟩
    have hfault : ∀ (w : Nat), w ≤ 80 → y.2 0 14 = nI w → (if nI t ≤ (y.2 0 13) then j_Mo_rule_57 y.2 (nI t) else j_Mo_rule_57 (f_Mo_fault y.2 (y.2 0 13)) (nI t)) = j_Mo_rule_57 y.2 (nI t) := fun w hw h14 => by
      rw [fault0 (by omega) h14, ite_self]
    rcases hc with ⟨s', C', g1, g2, g3, g4⟩ | ⟨q', s', C', g0, g1, g2, g3, g4⟩
    · rw [show (nI 0 : Int32) = 0 from rfl] at g2
      rw [g2, Option.bind_some]
      dsimp only
      rcases hy with ⟨n', X, D', dg, cm', a1, a2, a3, a4, a5, a6, a7⟩ | ⟨n', s2, a1, a2, a3, a4, a5, a6⟩
      · have hn : n' = min t 40 := by
          by_cases z : n' < min t 40
          · have := ks_end g1 a4 (a5 z); omega
          · omega
        subst hn
        rw [g1] at a4
        have e4 := Option.some.inj a4
        rw [a2]
        by_cases h40 : t ≤ 40
        · rw [show min t 40 = t by omega] at g1 g4 ⊢
          have g3' : HS C0 C' X D' 0 dg true cm' := by rw [e4] at g3; exact g3
          have g4' : X.length + D'.length ≤ t := by rw [e4] at g4; exact g4
          have hce : f_Ha_canEnd C' = 1 := by
            unfold f_Ha_canEnd
            rw [g3'.2.2.2.2.2.1, if_neg (by decide), g3'.2.2.2.1, if_pos (show nI 0 = 0 from rfl)]
          rw [if_pos (nI_le h40 (by omega)), hce, if_neg (by decide), Option.bind_some]
          dsimp only
          rw [if_pos rfl, if_pos (nI_le (Nat.le_refl _) (by omega))]
          unfold j_Mo_rule_57 j_Mo_rule_71
          rw [fine1 a3, if_neg (by decide)]
          obtain ⟨C1, b1, b2⟩ := ad_k X D' C' rh_N g3' (by omega) (by unfold rh_N; omega)
          unfold f_Ha_adopt
          rw [b1, Option.bind_some, Option.bind_some]
          have y4 : ∀ i, i < t → (y.2 4 i).toInt8.toInt32 = y.2 4 i := fun i hi => by
            rw [a7 4 i (by omega), M0f 4 i (by omega)]; exact (t3 i hi).2.2.2
          refine RO.br (ru_copy (M := y.2) (t := t) h40 y4) (fun M2 hM2 => ?_)
          have hlen : (fl X D').length ≤ 40 := by
            have : ∀ (X : List Nat) (D : List Int32), (fl X D).length = X.length + D.length := by
              intro X
              induction X with
              | nil => intro D; rw [List.length_nil, Nat.zero_add]; rfl
              | cons a X ih => intro D; show (fl X (ng a :: D)).length = _; rw [ih, List.length_cons, List.length_cons]; omega
            rw [this]; omega
          have hne : fl X D' ≠ [] := fun z => by rw [z] at a6; cases a6
          obtain ⟨x1, x2, x3, x4⟩ := fC b2.1
          obtain ⟨z1, z2, z3, z4⟩ := fM a7
          have b61 : C1 6 4 = nI (fl X D').length := b2.2.1
          have h7 : ∀ i, i < 48 → rh_upA (rh_up C1 6 1 (C1 6 4)) 7 (va_cpy ((rh_up C1 6 1 (C1 6 4)) 9) ((rh_up C1 6 1 (C1 6 4)) 7) (0 : Int32).toNatClampNeg (0 : Int32).toNatClampNeg (48 : Int32).toNatClampNeg) 7 i = C1 9 i := fun i hi => by
            show va_cpy ((rh_up C1 6 1 (C1 6 4)) 9) ((rh_up C1 6 1 (C1 6 4)) 7) 0 0 48 i = _
            unfold va_cpy
            rw [if_pos ⟨Nat.zero_le _, by omega⟩, up_f, if_neg (by omega)]
            congr 1
            omega
          have hA : ∀ o j, o ≠ 7 → ¬ (o = 6 ∧ j = 1) → rh_upA (rh_up C1 6 1 (C1 6 4)) 7 (va_cpy ((rh_up C1 6 1 (C1 6 4)) 9) ((rh_up C1 6 1 (C1 6 4)) 7) (0 : Int32).toNatClampNeg (0 : Int32).toNatClampNeg (48 : Int32).toNatClampNeg) o j = C1 o j := fun o j h7 h6 => by
            unfold rh_upA
            rw [if_neg h7, up_f, if_neg h6]
          refine RO.ret ⟨rfl, VR (fl X D'), h.rule (fun o j hp h1 h6 h7 => ?_) ?_ (fun o j hp h1 h7 => ?_) ?_ ?_ (fun i => ?_) ?_ (fun i => ?_) ?_ ?_ (fun b t w _ _ _ _ => (cpN_ok _).2)⟩
          · exact (hA o j h7 (fun z => h6 z.1)).trans (x1 o j hp h1)
          · exact (hA 0 1 (by omega) (by omega)).trans x2
          · show rh_up M2 0 17 (nI t) o j = _
            rw [up_f, if_neg (fun z => (h1 z.1).2 z.2), hM2.1 o j h7]
            exact z1 o j hp (fun z => (h1 z).1)
          · show rh_up M2 0 17 (nI t) 0 6 = _
            rw [up_f, if_neg (by omega), hM2.1 0 6 (by omega)]; exact z2
          · exact (hA 2 1 (by omega) (by omega)).trans x3
          · exact (hA 3 i (by omega) (by omega)).trans (x4 i)
          · show rh_up M2 0 17 (nI t) 0 8 = _
            rw [up_f, if_neg (by omega), hM2.1 0 8 (by omega)]; exact z3
          · show rh_up M2 0 17 (nI t) 5 i = _
            rw [up_f, if_neg (by omega), hM2.1 5 i (by omega)]; exact z4 i
          · refine ruleV_c hlen hne (b2.2.2.2.2.2.2.1.mv (fun i hi => h7 i (by omega))) ?_ a6
            exact b61
          · refine ruleV_m (t0 := t) (tx := tx) (by omega) h40 (by show rh_up M2 0 17 (nI t) 0 17 = _; rfl) (fun i hi => ⟨(t3 i hi).1, ?_⟩) (by rw [g1, e4]) a6
            show rh_up M2 0 17 (nI t) 7 i &&& 255 = _
            rw [up_f, if_neg (by omega), hM2.2 i hi, a7 4 i (by omega), M0f 4 i (by omega)]
            exact (t3 i hi).2.2.1
        · rw [show min t 40 = 40 by omega, if_neg (show ¬ nI t ≤ nI 40 from nI_ge (by omega) (by omega)), if_neg (show ¬ nI t ≤ nI 40 from nI_ge (by omega) (by omega)), Option.bind_some, fault1 a3]
          exact bad 40 C' _ (by omega) g3.1 (a7.u14 _) rfl
      · rw [Nat.zero_add] at a1 a2 a5
        have hn : n' = min t 40 := by
          by_cases z : n' < min t 40
          · have := ks_end g1 a3 (a5 z); omega
          · omega
        subst hn
        rw [g1] at a3
        have e4 := Option.some.inj a3
        rw [hfault _ (by omega) a1]
        by_cases h40 : t ≤ 40
        · have hce : f_Ha_canEnd C' = 0 := by
            unfold f_Ha_canEnd
            rw [g3.2.2.2.2.2.1, g3.2.2.2.1, e4]
            rcases a4 with z | z
            · rw [z, if_pos (by decide)]
            · by_cases zz : s2.2.2.2.2.1 = true
              · rw [zz, if_neg (by decide), if_neg (nz0 z (by have := g3.2.2.2.2.2.2.2.2.1; rw [e4] at this; omega))]
              · rw [if_neg zz, if_pos rfl]
          rw [if_pos (nI_le h40 (by omega)), hce, if_pos rfl, Option.bind_some]
          rw [show min t 40 = t by omega] at a1
          exact bad t C' y.2 (by omega) g3.1 a6 a1
        · rw [if_neg (show ¬ nI t ≤ nI 40 from nI_ge (by omega) (by omega)), Option.bind_some]
          rw [show min t 40 = 40 by omega] at a1
          exact bad 40 C' y.2 (by omega) g3.1 a6 a1
    · rw [show (nI 0 : Int32) = 0 from rfl] at g3
      rw [g3, Option.bind_some]
      dsimp only
      rw [Option.bind_some, Nat.zero_add]
      rw [Nat.zero_add] at g2
      rcases hy with ⟨n', X, D', dg, cm', a1, a2, a3, a4, a5, a6, a7⟩ | ⟨n', s2, a1, a2, a3, a4, a5, a6⟩
      · have h1 := ks_end a4 g1 g2
        have h2 := ks_end g1 a4 (a5 (by omega))
        have hn : n' = q' := by omega
        subst hn
        rw [a2, if_neg (show ¬ nI t ≤ nI n' from nI_ge (by omega) (by omega)), fault1 a3]
        exact bad n' C' _ (by omega) g4 (a7.u14 _) rfl
      · rw [Nat.zero_add] at a1 a2 a5
        have h1 := ks_end a3 g1 g2
        have h2 := ks_end g1 a3 (a5 (by omega))
        have hn : n' = q' := by omega
        subst hn
        rw [hfault _ (by omega) a1]
        exact bad n' C' y.2 (by omega) g4 a6 a1
end OPR
