/-! board, off, step -/
def ATok (n T : Nat) (c m c' m' : HI) (a' : Nat) (P' : Nat → Int32) : Prop := a' < 2 ^ n ∧ (∀ i, i < 9 → -4 ≤ (P' i).toInt ∧ (P' i).toInt ≤ 4 ∧ (n ≤ i → P' i = 0)) ∧ (∀ o j, o ≠ 8 → (o = 13 → j ≠ 2) → o ≠ 14 → c' o j = c o j) ∧ c' 13 2 = nI a' ∧ (∀ i, i < 9 → c' 14 i = P' i) ∧ (∀ o j, sM o j = false → o ≠ 12 → m' o j = m o j) ∧ (∀ i, i < 9 → m' 12 i = P' i) ∧ m' 12 9 = nI a' ∧ m' 12 10 = nI T
def ATno (c m c' m' : HI) : Prop := E8 c c' ∧ ∀ o j, sM o j = false → o ≠ 12 → m' o j = m o j
theorem ite01 {c : Prop} [Decidable c] : (if c then (0 : Int32) else 1) = 0 ∨ (if c then (0 : Int32) else 1) = 1 := by
  by_cases h : c
  · rw [if_pos h]; exact Or.inl rfl
  · rw [if_neg h]; exact Or.inr rfl
theorem lay12 (h : HI) : OK (f_Mo_lay_1_12 h 0) (fun x => (∀ o j, o ≠ 12 → x o j = h o j) ∧ ∀ i, i < 11 → x 12 i = h 1 i) := by
  unfold f_Mo_lay_1_12
  refine OK.bind (OK.loop _ (fun i x => i ≤ 11 ∧ x.1 = nI i ∧ (∀ o j, o ≠ 12 → x.2 o j = h o j) ∧ ∀ j, j < i → x.2 12 j = h 1 j) (fun x => (∀ o j, o ≠ 12 → x o j = h o j) ∧ ∀ i, i < 11 → x 12 i = h 1 i) 11 (by omega) ?_ ⟨by omega, rfl, fun _ _ _ => rfl, fun j hj => by omega⟩) (fun x hx => OK.ret hx)
  rintro i ⟨x1, g⟩ - ⟨hi, rfl, f, e1⟩
  dsimp only at f e1
  unfold b_Mo_lay_1_12_2
  dsimp only
  refine OK.ite (fun h9 => OK.ret ?_) (fun h9 => ?_)
  · have : i = 11 := by have := ple (b := 11) h9 (by omega) (by omega); omega
    subst this
    exact ⟨f, e1⟩
  have hi2 : i < 11 := nle (b := 11) h9 (by omega) (by omega)
  rw [show (0 : Int32) + nI i = nI i from (nI_add 0 i).trans (by rw [Nat.zero_add]), nI_clamp (n := i) (by omega), nI_1]
  refine OK.g (gd_nI (by omega) (by omega)) (OK.g (gd_nI (by omega) (by omega)) (OK.ret ⟨hi2, hi2, rfl, fun o j ho => ?_, fun j hj => ?_⟩))
  · show rh_up g 12 _ _ o j = _; rw [up_f, if_neg (by omega)]; exact f o j ho
  · show rh_up g 12 i _ 12 j = _
    rw [up_f]
    by_cases e : j = i
    · subst e; rw [if_pos ⟨rfl, rfl⟩]; exact f 1 j (by omega)
    · rw [if_neg (by omega)]; exact e1 j (by omega)
theorem dt_m (h : HI) : OK (f_Mo_doTried h) (fun x => (∀ o j, o ≠ 1 → x o j = h o j) ∧ ∀ i, i < 11 → x 1 i = h 12 i) := by
  unfold f_Mo_doTried
  refine OK.bind (OK.loop _ (fun i x => i ≤ 11 ∧ x.1 = nI i ∧ (∀ o j, o ≠ 1 → x.2 o j = h o j) ∧ ∀ j, j < i → x.2 1 j = h 12 j) (fun x => (∀ o j, o ≠ 1 → x o j = h o j) ∧ ∀ i, i < 11 → x 1 i = h 12 i) 11 (by omega) ?_ ⟨by omega, rfl, fun _ _ _ => rfl, fun j hj => by omega⟩) (fun x hx => OK.ret hx)
  rintro i ⟨x1, g⟩ - ⟨hi, rfl, f, e1⟩
  dsimp only at f e1
  unfold b_Mo_doTried_2
  dsimp only
  refine OK.ite (fun h9 => OK.ret ?_) (fun h9 => ?_)
  · have : i = 11 := by have := ple (b := 11) h9 (by omega) (by omega); omega
    subst this
    exact ⟨f, e1⟩
  have hi2 : i < 11 := nle (b := 11) h9 (by omega) (by omega)
  rw [nI_clamp (n := i) (by omega), nI_1]
  refine OK.g (gd_nI (by omega) (by omega)) (OK.g (gd_nI (by omega) (by omega)) (OK.ret ⟨hi2, hi2, rfl, fun o j ho => ?_, fun j hj => ?_⟩))
  · show rh_up g 1 _ _ o j = _; rw [up_f, if_neg (by omega)]; exact f o j ho
  · show rh_up g 1 i _ 1 j = _
    rw [up_f]
    by_cases e : j = i
    · subst e; rw [if_pos ⟨rfl, rfl⟩]; exact f 12 j (by omega)
    · rw [if_neg (by omega)]; exact e1 j (by omega)
theorem ti_m12 {n Pm : Nat} {B : Nat → Nat} {V : Nat → Nat → Nat → Nat} {h : HI} (q : QM n Pm B V h) (rd : Option Nat) {a t : Nat} (ha : a < 2 ^ n) (h2 : h 12 9 = nI a) (ht : t < 2 ^ 30) (h3 : h 12 10 = nI t) : OK (f_Mo_isTipping__12 h rd) (fun x => x.1 = f_Mo_isTipping h (LN a (h 12) (fun i => Wt Pm B V i t) n) ∧ EM h x.2.1) := by
  unfold f_Mo_isTipping__12
  rw [show h 12 (10 : Int32).toNatClampNeg = nI t from h3]
  refine OK.bind (le_m12 q rd ha h2 ht) ?_
  rintro ⟨x1, x2, x3⟩ ⟨rfl, he⟩
  dsimp only at he ⊢
  have e : f_Mo_isTipping x2 (LN a (h 12) (fun i => Wt Pm B V i t) n) = f_Mo_isTipping h (LN a (h 12) (fun i => Wt Pm B V i t) n) := by
    unfold f_Mo_isTipping
    rw [he 3 _ rfl]
  rw [e]
  refine OK.g ?_ (OK.ret ⟨rfl, he⟩)
  unfold f_Mo_isTipping
  exact ite01
theorem tip_f {c c' : HI} (h : c' 40 1 = c 40 1) (v : Int32) : f_La_tipsBy c' v = f_La_tipsBy c v := by
  unfold f_La_tipsBy
  rw [show c' 40 (1 : Int32).toNatClampNeg = c 40 (1 : Int32).toNatClampNeg from h]
section BOARD
variable {k n Pm : Nat} {B : Nat → Nat} {V : Nat → Nat → Nat → Nat} {T a q : Nat} {c m : HI}
theorem wi4 {p : Int32} (h : ¬ f_La_within p (-4) 4 = 0) : -4 ≤ p.toInt ∧ p.toInt ≤ 4 := by
  have := wi_1 h
  rw [fa_lt, fa_lt, show (-4 : Int32).toInt = -4 from rfl, show (4 : Int32).toInt = 4 from rfl] at this
  omega
theorem tb (A : RLa k n Pm B V T a q c m) (rd : Option Nat) (p v : Int32) : RO (f_La_comeAboard c p v) (f_Mo_tryBoard m rd p v) (fun x y => x.1 = y.1 ∧ ((x.1 = 0 ∧ ∃ a' P', ATok n T c m x.2 y.2.1 a' P') ∨ (¬ x.1 = 0 ∧ ¬ 0 ≤ y.1 ∧ ATno c m x.2 y.2.1))) := by
  have hT := A.T30
  have hn := A.n9
  have no : ∀ (r : Int32), ¬ r = 0 → ¬ 0 ≤ r → RO (some (r, c)) (some (r, m, rd)) (fun x y => x.1 = y.1 ∧ ((x.1 = 0 ∧ ∃ a' P', ATok n T c m x.2 y.2.1 a' P') ∨ (¬ x.1 = 0 ∧ ¬ 0 ≤ y.1 ∧ ATno c m x.2 y.2.1))) := fun r h1 h2 => RO.ret ⟨rfl, Or.inr ⟨h1, h2, E8.rf, fun _ _ _ _ => rfl⟩⟩
  unfold f_La_comeAboard f_Mo_tryBoard
  rw [A.one, Option.bind_some, in_wi, A.ma', A.ct]
  refine RO.ii Iff.rfl (fun _ => no _ (by decide) (by decide)) (fun h1 => ?_)
  obtain ⟨i, hi, rfl⟩ := has_1 A h1
  refine RO.ii ((isA_has A hi).trans (has_t (p31 hn A.an) (by omega)).symm) (fun h2 => ?_) (fun _ => no _ (by decide) (by decide))
  have hb := (isA_has A hi).mp h2
  refine RO.ii Iff.rfl (fun _ => no _ (by decide) (by decide)) (fun h3 => ?_)
  have hv := wi4 h3
  refine RO.bl (le_c A.qc A.an A.ca (by omega)) ?_
  rintro ⟨l, c1⟩ ⟨hl, g1⟩
  dsimp only at hl g1 ⊢
  have A1 := A.l g1.x
  rw [A1.ct]
  obtain ⟨c2, e2, g2⟩ := wa_c A1.qc hi (t := T) (by omega)
  rw [e2, Option.bind_some]
  refine RO.br (lay12 m) ?_
  rintro m1 ⟨f1, e1⟩
  rw [nI_clamp (n := i) (by omega)]
  refine RO.gr (gd_nI (by omega) (by omega)) ?_
  dsimp only
  have e19 : rh_up m1 12 i v 12 (9 : Int32).toNatClampNeg = nI a := by
    show rh_up m1 12 i v 12 9 = nI a
    rw [up_f, if_neg (by omega), e1 9 (by omega)]; exact A.ma
  rw [e19, two_n i (by omega), fa_or]
  have ha' : a ||| 2 ^ i < 2 ^ n := Nat.or_lt_two_pow A.an (Nat.pow_lt_pow_right (by omega) hi)
  generalize hM : rh_up (rh_up m1 12 i v) 12 (9 : Int32).toNatClampNeg (nI (a ||| 2 ^ i)) = M
  have M9 : M 12 9 = nI (a ||| 2 ^ i) := by rw [← hM]; exact rh_up_s _ 12 9 _
  have M10 : M 12 10 = nI T := by
    rw [← hM]; show rh_up (rh_up m1 12 i v) 12 9 _ 12 10 = _
    rw [up_f, if_neg (by omega), up_f, if_neg (by omega), e1 10 (by omega)]; exact A.mt
  have Mi : ∀ j, j < 9 → M 12 j = if j = i then v else m 1 j := fun j hj => by
    rw [← hM]; show rh_up (rh_up m1 12 i v) 12 9 _ 12 j = _
    rw [up_f, if_neg (by omega), up_f]
    by_cases e : j = i
    · rw [if_pos ⟨rfl, e⟩, if_pos e]
    · rw [if_neg (by omega), if_neg e, e1 j (by omega)]
  have Mf : ∀ o j, o ≠ 12 → M o j = m o j := fun o j ho => by
    rw [← hM, up_f, if_neg (by omega), up_f, if_neg (by omega)]; exact f1 o j ho
  have qM : QM n Pm B V M := A.qm.kept (Mf 0 1 (by omega)) (Mf 0 2 (by omega)) (fun k => Mf 2 k (by omega)) (Mf 0 17 (by omega)) (fun k => Mf 7 k (by omega))
  refine RO.br (ti_m12 qM rd ha' M9 (t := T) (by omega) M10) ?_
  rintro ⟨y1, m2, rd2⟩ ⟨hy, g3⟩
  dsimp only at hy g3 ⊢
  have eLN : LN (a ||| 2 ^ i) (M 12) (fun i => Wt Pm B V i T) n = l + nI (Wt Pm B V i T) * v := by
    rw [hl, LN_LSM, LN_LSM]
    refine LSM_upd _ _ _ (fun j hj => ?_) ?_ n hi
    · try dsimp only
      rw [fb_bit_set, show decide (j = i) = false from decide_eq_false hj, Bool.or_false]
      by_cases hj9 : j < 9
      · rw [Mi j hj9, if_neg hj, (A.pl j hj9).1]
      · rw [Nat.testBit_lt_two_pow (Nat.lt_of_lt_of_le A.an (Nat.pow_le_pow_right (by omega) (by omega)))]
        simp
    · try dsimp only
      rw [fb_bit_set, hb, Mi i (by omega), if_pos rfl, Int32.mul_comm]
      simp
  have etip : f_La_tipsBy c2 (l + nI (Wt Pm B V i T) * v) = y1 := by
    rw [hy, eLN, tip_f (c := c) ((g2 40 1 (by omega)).trans (g1 40 1 (by omega))), ← A.tip]
    unfold f_Mo_isTipping
    rw [Mf 3 _ (by omega)]
  have g3' : ∀ o j, sM o j = false → o ≠ 12 → m2 o j = m o j := fun o j h1 h2 => (g3 o j h1).trans (Mf o j h2)
  rw [etip]
  refine RO.ii Iff.rfl (fun _ => RO.gl (gd_nI (by omega) (by omega)) (RO.ret ⟨rfl, Or.inl ⟨rfl, a ||| 2 ^ i, (fun j => if j = i then v else c 14 j), ha', fun j hj => ?_, fun o j h8 h13 h14 => ?_, ?_, fun j hj => ?_, g3', fun j hj => ?_, ?_, ?_⟩⟩)) (fun _ => RO.ret ⟨rfl, Or.inr ⟨(by show ¬ (-2 : Int32) = 0; decide), (by show ¬ 0 ≤ (-2 : Int32); decide), g1.tr g2, g3'⟩⟩)
  · dsimp only
    by_cases e : j = i
    · rw [if_pos e]; exact ⟨hv.1, hv.2, fun z => by omega⟩
    · rw [if_neg e]; exact ⟨(A.pl j hj).2.1, (A.pl j hj).2.2.1, (A.pl j hj).2.2.2⟩
  · show rh_up (rh_up c2 13 2 _) 14 _ _ o j = _
    rw [up_f, if_neg (by omega), up_f, if_neg (by omega)]
    exact (g1.tr g2) o j h8
  · show c2 13 2 ||| nI (2 ^ i) = _
    rw [(g1.tr g2) 13 2 (by omega), A.ca, fa_or]
  · show rh_up (rh_up c2 13 2 _) 14 i v 14 j = if j = i then v else c 14 j
    rw [up_f]
    by_cases e : j = i
    · rw [if_pos ⟨rfl, e⟩, if_pos e]
    · rw [if_neg (by omega), if_neg e, up_f, if_neg (by omega)]
      exact (g1.tr g2) 14 j (by omega)
  · show m2 12 j = if j = i then v else c 14 j
    rw [g3 12 j rfl, Mi j hj]
    by_cases e : j = i
    · rw [if_pos e, if_pos e]
    · rw [if_neg e, if_neg e, (A.pl j hj).1]
  · exact (g3 12 9 rfl).trans M9
  · exact (g3 12 10 rfl).trans M10
theorem toff (A : RLa k n Pm B V T a q c m) (rd : Option Nat) (p : Int32) : RO (f_La_goOff c p) (f_Mo_tryOff m rd p) (fun x y => x.1 = y.1 ∧ ((x.1 = 0 ∧ ∃ a' P', ATok n T c m x.2 y.2.1 a' P') ∨ (¬ x.1 = 0 ∧ ¬ 0 ≤ y.1 ∧ ATno c m x.2 y.2.1))) := by
  have hT := A.T30
  have hn := A.n9
  have no : ∀ (r : Int32), ¬ r = 0 → ¬ 0 ≤ r → RO (some (r, c)) (some (r, m, rd)) (fun x y => x.1 = y.1 ∧ ((x.1 = 0 ∧ ∃ a' P', ATok n T c m x.2 y.2.1 a' P') ∨ (¬ x.1 = 0 ∧ ¬ 0 ≤ y.1 ∧ ATno c m x.2 y.2.1))) := fun r h1 h2 => RO.ret ⟨rfl, Or.inr ⟨h1, h2, E8.rf, fun _ _ _ _ => rfl⟩⟩
  unfold f_La_goOff f_Mo_tryOff
  rw [A.one, Option.bind_some, A.ma', A.ct]
  refine RO.ii Iff.rfl (fun _ => no _ (by decide) (by decide)) (fun h1 => ?_)
  obtain ⟨i, hi, rfl⟩ := has_1 A h1
  refine RO.ii ((isA_has A hi).trans (has_t (p31 hn A.an) (by omega)).symm) (fun _ => no _ (by decide) (by decide)) (fun h2 => ?_)
  have hb : a.testBit i = true := by
    cases hb : a.testBit i with
    | true => rfl
    | false => exact absurd ((isA_has A hi).mpr hb) h2
  refine RO.bl (le_c A.qc A.an A.ca (by omega)) ?_
  rintro ⟨l, c1⟩ ⟨hl, g1⟩
  dsimp only at hl g1 ⊢
  have A1 := A.l g1.x
  rw [A1.ct]
  obtain ⟨c2, e2, g2⟩ := wa_c A1.qc hi (t := T) (by omega)
  rw [e2, Option.bind_some]
  refine RO.br (lay12 m) ?_
  rintro m1 ⟨f1, e1⟩
  rw [nI_clamp (n := i) (by omega)]
  refine RO.gl (gd_nI (by omega) (by omega)) ?_
  dsimp only
  have e19 : m1 12 (9 : Int32).toNatClampNeg = nI a := (e1 9 (by omega)).trans A.ma
  rw [e19, two_n i (by omega), andn']
  have ha' : nand a (2 ^ i) < 2 ^ n := Nat.lt_of_le_of_lt (nand_le _ _) A.an
  generalize hM : rh_up m1 12 (9 : Int32).toNatClampNeg (nI (nand a (2 ^ i))) = M
  have M9 : M 12 9 = nI (nand a (2 ^ i)) := by rw [← hM]; exact rh_up_s _ 12 9 _
  have M10 : M 12 10 = nI T := by
    rw [← hM]; show rh_up m1 12 9 _ 12 10 = _
    rw [up_f, if_neg (by omega), e1 10 (by omega)]; exact A.mt
  have Mi : ∀ j, j < 9 → M 12 j = m 1 j := fun j hj => by
    rw [← hM]; show rh_up m1 12 9 _ 12 j = _
    rw [up_f, if_neg (by omega), e1 j (by omega)]
  have Mf : ∀ o j, o ≠ 12 → M o j = m o j := fun o j ho => by
    rw [← hM, up_f, if_neg (by omega)]; exact f1 o j ho
  have qM : QM n Pm B V M := A.qm.kept (Mf 0 1 (by omega)) (Mf 0 2 (by omega)) (fun k => Mf 2 k (by omega)) (Mf 0 17 (by omega)) (fun k => Mf 7 k (by omega))
  refine RO.br (ti_m12 qM rd ha' M9 (t := T) (by omega) M10) ?_
  rintro ⟨y1, m2, rd2⟩ ⟨hy, g3⟩
  dsimp only at hy g3 ⊢
  have bt2 : ∀ j, (2 ^ i).testBit j = decide (i = j) := fun j => Nat.testBit_two_pow
  have c214 : c2 14 i = c 14 i := (g1.tr g2) 14 i (by omega)
  have eLN : LN (nand a (2 ^ i)) (M 12) (fun i => Wt Pm B V i T) n = l - nI (Wt Pm B V i T) * c2 14 i := by
    rw [hl, LN_LSM, LN_LSM, Int32.sub_eq_add_neg]
    refine LSM_upd _ _ _ (fun j hj => ?_) ?_ n hi
    · try dsimp only
      rw [nand_bit _ _ (p31 hn A.an), bt2, show decide (i = j) = false from decide_eq_false (fun z => hj z.symm), Bool.not_false, Bool.and_true]
      by_cases hj9 : j < 9
      · rw [Mi j hj9, (A.pl j hj9).1]
      · rw [Nat.testBit_lt_two_pow (Nat.lt_of_lt_of_le A.an (Nat.pow_le_pow_right (by omega) (by omega)))]
        simp
    · try dsimp only
      rw [nand_bit _ _ (p31 hn A.an), hb, bt2, c214, Int32.mul_comm (nI _) (c 14 i)]
      simp
      rw [← Int32.sub_eq_add_neg, Int32.sub_self]
  have etip : f_La_tipsBy c2 (l - nI (Wt Pm B V i T) * c2 14 i) = y1 := by
    rw [hy, eLN, tip_f (c := c) ((g2 40 1 (by omega)).trans (g1 40 1 (by omega))), ← A.tip]
    unfold f_Mo_isTipping
    rw [Mf 3 _ (by omega)]
  have g3' : ∀ o j, sM o j = false → o ≠ 12 → m2 o j = m o j := fun o j h1 h2 => (g3 o j h1).trans (Mf o j h2)
  rw [etip]
  refine RO.ii Iff.rfl (fun _ => RO.ret ⟨rfl, Or.inl ⟨rfl, nand a (2 ^ i), c 14, ha', fun j hj => ⟨(A.pl j hj).2.1, (A.pl j hj).2.2.1, (A.pl j hj).2.2.2⟩, fun o j h8 h13 h14 => ?_, ?_, fun j hj => ?_, g3', fun j hj => ?_, ?_, ?_⟩⟩) (fun _ => RO.ret ⟨rfl, Or.inr ⟨(by show ¬ (-2 : Int32) = 0; decide), (by show ¬ 0 ≤ (-2 : Int32); decide), g1.tr g2, g3'⟩⟩)
  · show rh_up c2 13 2 _ o j = _
    rw [up_f, if_neg (by omega)]
    exact (g1.tr g2) o j h8
  · show c2 13 2 &&& (nI (2 ^ i) ^^^ -1) = _
    rw [(g1.tr g2) 13 2 (by omega), A.ca, andn']
  · exact (g1.tr g2) 14 j (by omega)
  · exact (g3 12 j rfl).trans ((Mi j hj).trans (A.pl j hj).1.symm)
  · exact (g3 12 9 rfl).trans M9
  · exact (g3 12 10 rfl).trans M10
theorem ts (A : RLa k n Pm B V T a q c m) (rd : Option Nat) (p v : Int32) : RO (f_La_tread c p v) (f_Mo_tryStep m rd p v) (fun x y => (y.1 = 0 ∧ ∃ i a' P', i < n ∧ p = nI i ∧ ATok n T c m x.2 y.2.1 a' P' ∧ x.1 = P' i ∧ ¬ x.1 < -4) ∨ (((y.1 = -2 ∧ x.1 = -8) ∨ (y.1 = -1 ∧ x.1 = -9)) ∧ ATno c m x.2 y.2.1)) := by
  have hT := A.T30
  have hn := A.n9
  have no : RO (some ((-9 : Int32), c)) (some ((-1 : Int32), m, rd)) (fun x y => (y.1 = 0 ∧ ∃ i a' P', i < n ∧ p = nI i ∧ ATok n T c m x.2 y.2.1 a' P' ∧ x.1 = P' i ∧ ¬ x.1 < -4) ∨ (((y.1 = -2 ∧ x.1 = -8) ∨ (y.1 = -1 ∧ x.1 = -9)) ∧ ATno c m x.2 y.2.1)) := RO.ret (Or.inr ⟨Or.inr ⟨rfl, rfl⟩, E8.rf, fun _ _ _ _ => rfl⟩)
  unfold f_La_tread f_Mo_tryStep
  rw [A.one, Option.bind_some, A.ma']
  refine RO.ii Iff.rfl (fun _ => no) (fun h1 => ?_)
  obtain ⟨i, hi, rfl⟩ := has_1 A h1
  refine RO.ii ((isA_has A hi).trans (has_t (p31 hn A.an) (by omega)).symm) (fun _ => no) (fun h2 => ?_)
  have hb : a.testBit i = true := by
    cases hb : a.testBit i with
    | true => rfl
    | false => exact absurd ((isA_has A hi).mpr hb) h2
  have go : (v = 1 ∨ v = -1) → RO (j_La_tread_35 c (nI i) v) (j_Mo_tryStep_34 m rd (nI i) v) (fun x y => (y.1 = 0 ∧ ∃ i' a' P', i' < n ∧ nI i = nI i' ∧ ATok n T c m x.2 y.2.1 a' P' ∧ x.1 = P' i' ∧ ¬ x.1 < -4) ∨ (((y.1 = -2 ∧ x.1 = -8) ∨ (y.1 = -1 ∧ x.1 = -9)) ∧ ATno c m x.2 y.2.1)) := by
    intro hv
    unfold j_La_tread_35 j_Mo_tryStep_34
    rw [nI_clamp (n := i) (by omega), A.ct]
    refine RO.br (lay12 m) ?_
    rintro m1 ⟨f1, e1⟩
    have e1i : m1 12 i = c 14 i := (e1 i (by omega)).trans (A.pl i (by omega)).1.symm
    rw [e1i]
    have g9 := gd_nI (i := i) (N := 9) (by omega) (by omega)
    have g11 := gd_nI (i := i) (N := 11) (by omega) (by omega)
    refine RO.gl g9 (RO.gr g11 (RO.gr g11 (RO.gr g11 ?_)))
    rw [rh_up_s, in_wi]
    generalize hM : rh_up m1 12 i (c 14 i + v) = M
    have M9 : M 12 9 = nI a := by
      rw [← hM, up_f, if_neg (by omega), e1 9 (by omega)]; exact A.ma
    have M10 : M 12 10 = nI T := by
      rw [← hM, up_f, if_neg (by omega), e1 10 (by omega)]; exact A.mt
    have Mi : ∀ j, j < 9 → M 12 j = if j = i then c 14 i + v else c 14 j := fun j hj => by
      rw [← hM, up_f]
      by_cases e : j = i
      · rw [if_pos ⟨rfl, e⟩, if_pos e]
      · rw [if_neg (by omega), if_neg e, e1 j (by omega), (A.pl j hj).1]
    have Mf : ∀ o j, o ≠ 12 → M o j = m o j := fun o j ho => by
      rw [← hM, up_f, if_neg (by omega)]; exact f1 o j ho
    refine RO.ii Iff.rfl (fun _ => RO.ret (Or.inr ⟨Or.inl ⟨rfl, rfl⟩, E8.rf, fun o j _ ho => Mf o j ho⟩)) (fun h3 => ?_)
    have hr := wi4 h3
    have qM : QM n Pm B V M := A.qm.kept (Mf 0 1 (by omega)) (Mf 0 2 (by omega)) (fun k => Mf 2 k (by omega)) (Mf 0 17 (by omega)) (fun k => Mf 7 k (by omega))
    refine RO.bl (le_c A.qc A.an A.ca (by omega)) ?_
    rintro ⟨l, c1⟩ ⟨hl, g1⟩
    dsimp only at hl g1 ⊢
    have A1 := A.l g1.x
    rw [A1.ct]
    obtain ⟨c2, e2, g2⟩ := wa_c A1.qc hi (t := T) (by omega)
    rw [e2, Option.bind_some]
    refine RO.br (ti_m12 qM rd A.an M9 (t := T) (by omega) M10) ?_
    rintro ⟨y1, m2, rd2⟩ ⟨hy, g3⟩
    dsimp only at hy g3 ⊢
    have eLN : LN a (M 12) (fun i => Wt Pm B V i T) n = l + nI (Wt Pm B V i T) * v := by
      rw [hl, LN_LSM, LN_LSM]
      refine LSM_upd _ _ _ (fun j hj => ?_) ?_ n hi
      · try dsimp only
        by_cases hj9 : j < 9
        · rw [Mi j hj9, if_neg hj]
        · rw [Nat.testBit_lt_two_pow (Nat.lt_of_lt_of_le A.an (Nat.pow_le_pow_right (by omega) (by omega)))]
          simp
      · try dsimp only
        rw [hb, Mi i (by omega), if_pos rfl, if_pos rfl, if_pos rfl, Int32.mul_comm (nI _) v, Int32.add_mul]
    have etip : f_La_tipsBy c2 (l + nI (Wt Pm B V i T) * v) = y1 := by
      rw [hy, eLN, tip_f (c := c) ((g2 40 1 (by omega)).trans (g1 40 1 (by omega))), ← A.tip]
      unfold f_Mo_isTipping
      rw [Mf 3 _ (by omega)]
    have g3' : ∀ o j, sM o j = false → o ≠ 12 → m2 o j = m o j := fun o j h1 h2 => (g3 o j h1).trans (Mf o j h2)
    rw [etip]
    refine RO.ii Iff.rfl (fun _ => RO.gl g9 (RO.ret (Or.inl ⟨rfl, i, a, (fun j => if j = i then c 14 i + v else c 14 j), hi, rfl, ⟨A.an, fun j hj => ?_, fun o j h8 h13 h14 => ?_, ?_, fun j hj => ?_, g3', fun j hj => ?_, ?_, ?_⟩, ?_, ?_⟩))) (fun _ => RO.ret (Or.inr ⟨Or.inl ⟨rfl, rfl⟩, g1.tr g2, g3'⟩))
    · dsimp only
      by_cases e : j = i
      · rw [if_pos e]; exact ⟨hr.1, hr.2, fun z => by omega⟩
      · rw [if_neg e]; exact ⟨(A.pl j hj).2.1, (A.pl j hj).2.2.1, (A.pl j hj).2.2.2⟩
    · show rh_up c2 14 _ _ o j = _
      rw [up_f, if_neg (by omega)]
      exact (g1.tr g2) o j h8
    · exact ((g1.tr g2) 13 2 (by omega)).trans A.ca
    · show rh_up c2 14 i _ 14 j = if j = i then c 14 i + v else c 14 j
      rw [up_f]
      by_cases e : j = i
      · rw [if_pos ⟨rfl, e⟩, if_pos e]
      · rw [if_neg (by omega), if_neg e]
        exact (g1.tr g2) 14 j (by omega)
    · exact (g3 12 j rfl).trans (Mi j hj)
    · exact (g3 12 9 rfl).trans M9
    · exact (g3 12 10 rfl).trans M10
    · exact (if_pos rfl).symm
    · show ¬ c 14 i + v < -4
      rw [fa_lt, show (-4 : Int32).toInt = -4 from rfl]; omega
  by_cases v1 : v = 1
  · rw [if_pos v1, if_pos v1]; exact go (Or.inl v1)
  · rw [if_neg v1, if_neg v1]
    by_cases v2 : v = -1
    · rw [if_pos v2, if_pos v2]; exact go (Or.inr v2)
    · rw [if_neg v2, if_neg v2]; exact no
end BOARD
