/-! print, goes, believed -/
theorem or4 {x y z w : Int32} (h : ∀ i, i < 32 → bt x i = bt y i) : x = y := b_ext h
section OPS9
variable {k n Pm : Nat} {B : Nat → Nat} {V : Nat → Nat → Nat → Nat} {T a q : Nat} {c m : HI}
theorem pr_in (A : RLa k n Pm B V T a q c m) (rd : Option Nat) {i v e t : Nat} (tc : TC n (fun i => Wt Pm B V i t) c) (hS : ∀ s, WS n (fun i => Wt Pm B V i t) s ≤ 89991) (hi : i < n) (hp : Pm.testBit i = true) (hv : v ≤ 9999) (he : e ≤ 999) (n0 a0 w0 th0 : Int32) : RO (f_La_thingsThatFit c (nI i) (nI v) (nI e)) (rh_loop (b_Mo_print_122 n0 (nI v) (nI e) a0 (nI i) (nI (Wt Pm B V i t)) m rd) rh_N (w0, th0, (0 : Int32))) (fun x y => ∃ f, f < 2 ^ n ∧ x = nI f ∧ y.1 = (if f = 0 then w0 else w0 ||| nI (2 ^ i)) ∧ y.2 = th0 ||| nI f) := by
  have hn := A.n9
  have hp9 := pow9 hn
  unfold f_La_thingsThatFit
  have key := RO.loop (b_La_thingsThatFit_6 (nI i) (nI v) (nI e) c) (b_Mo_print_122 n0 (nI v) (nI e) a0 (nI i) (nI (Wt Pm B V i t)) m rd) (fun j x y => j ≤ n ∧ x.2 = nI j ∧ y.2.2 = nI j ∧ ∃ f, f < 2 ^ j ∧ x.1 = nI f ∧ y.1 = (if f = 0 then w0 else w0 ||| nI (2 ^ i)) ∧ y.2.1 = th0 ||| nI f) (fun x y => ∃ f, f < 2 ^ n ∧ x = nI f ∧ y.1 = (if f = 0 then w0 else w0 ||| nI (2 ^ i)) ∧ y.2 = th0 ||| nI f) n (by omega) (by
    rintro j ⟨x1, x2⟩ ⟨y1, y2, y3⟩ - ⟨hj, rfl, rfl, f, hf, rfl, hy1, hy2⟩
    dsimp only at hy1 hy2
    subst hy1; subst hy2
    unfold b_La_thingsThatFit_6 b_Mo_print_122 j_La_thingsThatFit_48
    dsimp only
    rw [A.cn, A.mn, A.mp]
    refine RO.ii Iff.rfl (fun hx => RO.ret ?_) (fun hx => ?_)
    · have := ple hx (by omega) (by omega)
      have : j = n := by omega
      subst this
      exact ⟨f, hf, rfl, rfl, rfl⟩
    have hj2 : j < n := nle hx (by omega) (by omega)
    have h2j : 2 ^ (j + 1) = 2 * 2 ^ j := by rw [Nat.pow_succ]; omega
    have hpj := Nat.two_pow_pos j
    rw [two_n i (by omega), two_n j (by omega), fa_or]
    have hor : 2 ^ i ||| 2 ^ j < 2 ^ n := Nat.or_lt_two_pow (Nat.pow_lt_pow_right (by omega) hi) (Nat.pow_lt_pow_right (by omega) hj2)
    rw [nI_clamp (n := 2 ^ i ||| 2 ^ j) (by omega), tc _ hor, if_pos (show (0 : Int32) = 0 from rfl), if_neg (show ¬ (1 : Int32) = 0 by decide), nI_1]
    refine RO.gl (gd512 hn hor) ?_
    have hs1 := hS (2 ^ i ||| 2 ^ j)
    rw [absN (by omega) (by omega)]
    have stay : LQ (fun (x : Int32 × Int32) (y : Int32 × Int32 × Int32) => j < n ∧ (j + 1 ≤ n ∧ x.2 = nI (j + 1) ∧ y.2.2 = nI (j + 1) ∧ ∃ f, f < 2 ^ (j + 1) ∧ x.1 = nI f ∧ y.1 = (if f = 0 then w0 else w0 ||| nI (2 ^ i)) ∧ y.2.1 = th0 ||| nI f)) (fun (x : Int32) (y : Int32 × Int32) => ∃ f, f < 2 ^ n ∧ x = nI f ∧ y.1 = (if f = 0 then w0 else w0 ||| nI (2 ^ i)) ∧ y.2 = th0 ||| nI f) (.inl (nI f, nI (j + 1))) (.inl ((if f = 0 then w0 else w0 ||| nI (2 ^ i)), th0 ||| nI f, nI (j + 1))) := ⟨hj2, hj2, rfl, rfl, f, by omega, rfl, rfl, rfl⟩
    have hper := isP A.qc hj2
    have hhas := has_t (p := Pm) (i := j) (p31 hn A.pn) (by omega)
    cases hb : Pm.testBit j with
    | true =>
      rw [if_neg (show ¬ f_Cr_isPerson c (nI j) = 0 from fun z => by rw [hper.mp z] at hb; cases hb), if_neg (show ¬ f_Mo_has (nI Pm) (nI j) = 0 from fun z => by rw [hhas.mp z] at hb; cases hb)]
      exact RO.il (fun _ => RO.ret stay) (fun _ => RO.ret stay)
    | false =>
      rw [if_pos (hper.mpr hb), if_pos (hhas.mpr hb)]
      have hij : i ≠ j := fun z => by rw [z, hb] at hp; cases hp
      have hws : WS n (fun i => Wt Pm B V i t) (2 ^ i ||| 2 ^ j) = Wt Pm B V i t + B j := by
        rw [WS_set _ hj2 (by rw [Nat.testBit_two_pow]; simpa using hij), WS_two _ hi]
        show Wt Pm B V i t + Wt Pm B V j t = _
        congr 1
        unfold Wt
        rw [hb]; rfl
      rw [hws] at hs1 ⊢
      rw [nI_clamp (n := j) (by omega), (A.bs j hj2).2.1, nI_add]
      refine RO.gr (gd_nI (by omega) (by omega)) ?_
      rw [absN (by omega) (by omega)]
      refine RO.ix fa_nlt_le (fun _ => RO.ret stay) (fun _ => RO.ret ⟨hj2, hj2, rfl, rfl, f ||| 2 ^ j, ?_, ?_, ?_, ?_⟩)
      · exact Nat.or_lt_two_pow (Nat.lt_of_lt_of_le hf (by omega)) (by omega)
      · exact fa_or _ _
      · have : f ||| 2 ^ j ≠ 0 := fun z => by have := Nat.right_le_or (n := f) (m := 2 ^ j); omega
        rw [if_neg this]
        show (if f = 0 then w0 else w0 ||| nI (2 ^ i)) ||| nI (2 ^ i) = w0 ||| nI (2 ^ i)
        by_cases hf0 : f = 0
        · rw [if_pos hf0]
        · rw [if_neg hf0, Int32.or_assoc, Int32.or_self]
      · show th0 ||| nI f ||| nI (2 ^ j) = th0 ||| nI (f ||| 2 ^ j)
        rw [Int32.or_assoc, fa_or]) (s := (0, 0)) (t := (w0, th0, 0)) ⟨by omega, rfl, rfl, 0, by omega, rfl, (if_pos rfl).symm, (or0 _).symm⟩
  obtain ⟨x, y, e1, e2, hp⟩ := key
  rw [e1, e2, Option.bind_some]
  exact RO.ret hp
theorem op_print (h : RLt k n Pm B V c m) (hk : k ≤ 600) (rd : Option Nat) (p v e : Int32) : RO (f_La_print c p v e) (f_Mo_print m rd p v e) (FIN k n Pm B V) := by
  obtain ⟨T, a, q, A⟩ := h.la hk
  have hT := A.T30
  have hn := A.n9
  have hp9 := pow9 hn
  unfold f_La_print f_Mo_print f_La_isDepth
  rw [mo_isHeavy, Option.bind_some, in_wi, in_wi, A.ct, A.mt']
  refine RO.ii Iff.rfl (fun _ => RO.ret ⟨rfl, A.fin⟩) (fun h1 => RO.ii Iff.rfl (fun _ => RO.ret ⟨rfl, A.fin⟩) (fun h2 => ?_))
  by_cases q1 : f_La_within v 0 9999 = 0
  · rw [if_pos q1, if_pos q1, if_pos rfl]; exact RO.ret ⟨rfl, A.fin⟩
  rw [if_neg q1, if_neg q1]
  by_cases q2 : f_La_within e 0 999 = 0
  · rw [if_pos q2, if_pos q2, if_pos rfl]; exact RO.ret ⟨rfl, A.fin⟩
  rw [if_neg q2, if_neg q2, if_neg (by decide)]
  obtain ⟨n0, -, hn0, rfl⟩ := wi_n (lo := 0) (hi := 99) h1 (by omega) (by omega)
  obtain ⟨v, -, hv, rfl⟩ := wi_n (lo := 0) (hi := 9999) q1 (by omega) (by omega)
  obtain ⟨e, -, he, rfl⟩ := wi_n (lo := 0) (hi := 999) q2 (by omega) (by omega)
  have hnT : n0 ≤ T := nlt h2 (by omega) (by omega)
  rw [show nI T - nI n0 = nI (T - n0) from pk_sub hnT]
  have ht : T - n0 < 2 ^ 30 := by omega
  have hS : ∀ s, WS n (fun i => Wt Pm B V i (T - n0)) s ≤ 89991 := fun s => A.sle s ht
  refine RO.bl (su_c A.qc ht) (fun hc hx => ?_)
  obtain ⟨hx, tc⟩ := hx
  have A := A.l hx.x
  refine RO.bind (P := fun x y => x.1 = y.1 ∧ x.2.1 = y.1 ||| y.2.1 ∧ x.2.2 = y.2.2.1 ∧ RLa k n Pm B V T a q hc y.2.2.2.1) (RO.loop _ _ (fun i x y => i ≤ n ∧ x.2.2.2 = nI i ∧ y.2.2.2.1 = nI i ∧ x.1 = y.1 ∧ x.2.1 = y.1 ||| y.2.1 ∧ x.2.2.1 = y.2.2.1 ∧ RLa k n Pm B V T a q hc y.2.2.2.2.1) _ n (by omega) ?_ ⟨by omega, rfl, rfl, rfl, (or0 0).symm, rfl, A⟩) ?_
  · rintro i ⟨x1, x2, x3, x4⟩ ⟨y1, y2, y3, y4, hm, rd⟩ - ⟨hi, rfl, rfl, z1, z2, z3, A⟩
    dsimp only at z1 z2 z3 A
    subst z1; subst z2; subst z3
    unfold b_La_print_59 b_Mo_print_58
    dsimp only
    rw [A.cn]
    simp only [A.mn, A.mp]
    refine RO.ii Iff.rfl (fun hx => RO.ret ⟨rfl, rfl, rfl, A⟩) (fun hx => ?_)
    have hi2 : i < n := nle hx (by omega) (by omega)
    have hper := isP A.qc hi2
    have hhas := has_t (p := Pm) (i := i) (p31 hn A.pn) (by omega)
    refine RO.ii (hper.trans hhas.symm) (fun _ => RO.ret ⟨hi2, hi2, nI_1 i, nI_1 i, rfl, rfl, rfl, A⟩) (fun hb => ?_)
    have hb : Pm.testBit i = true := by
      cases hb2 : Pm.testBit i with
      | true => rfl
      | false => exact absurd (hper.mpr hb2) hb
    rw [A.mt', show nI T - nI n0 = nI (T - n0) from pk_sub hnT]
    obtain ⟨hm', rd', e1, g1⟩ := wa_m A.qm rd hi2 ht
    rw [e1, Option.bind_some]
    have A := A.r g1.x
    have h2i : 2 ^ i < 2 ^ n := Nat.pow_lt_pow_right (by omega) hi2
    have hw := A.wle hi2 ht
    rw [two_n i (by omega), nI_clamp (n := 2 ^ i) (by omega), tc _ h2i, WS_two _ hi2]
    simp only [absN (a := Wt Pm B V i (T - n0)) (b := v) (by omega) (by omega)]
    unfold j_Mo_print_119
    by_cases bare : nI e < nI (dN (Wt Pm B V i (T - n0)) v)
    · simp only [if_pos bare]
      refine RO.bind (pr_in A rd' tc hS hi2 hb hv he (nI n0) x1 y2 x3) ?_
      rintro x ⟨w1, w2⟩ ⟨f, hf, rfl, g2, g3⟩
      dsimp only at g2 g3 ⊢
      subst g2; subst g3
      unfold j_La_print_119
      rw [if_pos rfl, if_pos rfl, two_n i (by omega)]
      refine RO.gl (gd512 hn h2i) (RO.il (fun hf0 => ?_) (fun hf0 => ?_))
      · have hf0 : f = 0 := (nI_eq (b := 0) (by omega) (by omega)).mp hf0
        rw [if_pos hf0]
        exact RO.ret ⟨hi2, hi2, nI_1 i, nI_1 i, or0 _, or0 _, rfl, A⟩
      · have hf0 : ¬ f = 0 := fun z => hf0 (by rw [z]; rfl)
        rw [if_neg hf0]
        exact RO.ret ⟨hi2, hi2, nI_1 i, nI_1 i, or0 _, Int32.or_assoc _ _ _, rfl, A⟩
    · simp only [if_neg bare]
      refine RO.bind (pr_in A rd' tc hS hi2 hb hv he (nI n0) (x1 ||| nI (2 ^ i)) y2 x3) ?_
      rintro x ⟨w1, w2⟩ ⟨f, hf, rfl, g2, g3⟩
      dsimp only at g2 g3 ⊢
      subst g2; subst g3
      unfold j_La_print_119
      rw [if_neg (by decide), if_neg (by decide), two_n i (by omega)]
      refine RO.gl (gd512 hn h2i) (RO.ret ⟨hi2, hi2, nI_1 i, nI_1 i, rfl, ?_, rfl, A⟩)
      show x1 ||| y2 ||| nI (2 ^ i) = x1 ||| nI (2 ^ i) ||| (if f = 0 then y2 else y2 ||| nI (2 ^ i))
      by_cases hf0 : f = 0
      · rw [if_pos hf0, Int32.or_assoc, Int32.or_assoc, Int32.or_comm y2]
      · rw [if_neg hf0]
        apply b_ext
        intro z hz
        simp only [b_or]
        cases bt x1 z <;> cases bt y2 z <;> cases bt (nI (2 ^ i)) z <;> rfl
  · rintro ⟨x1, x2, x3⟩ ⟨y1, y2, y3, hm, rd⟩ ⟨z1, z2, z3, A⟩
    dsimp only at z1 z2 z3 A ⊢
    subst z1; subst z2; subst z3
    exact RO.bind (A.tell _) (fun x y A => RO.bind (A.add (by omega) _) (fun x y A => RO.ret ⟨rfl, A.fin⟩))
theorem RLa.row (A : RLa k n Pm B V T a q c m) (p : Int32) : f_Mo_canSetOut m p = some (f_La_canRow c p) := by
  unfold f_Mo_canSetOut f_La_canRow
  rw [A.hold, Option.bind_some, A.cp, A.mp]
  split
  · rfl
  · split <;> rfl
theorem row_1 (A : RLa k n Pm B V T a q c m) {p : Int32} (h : ¬ f_La_canRow c p = 0) : ∃ s, s < 2 ^ n ∧ p = nI s ∧ s &&& Pm ≠ 0 := by
  unfold f_La_canRow at h
  split at h
  · exact absurd rfl h
  · next h1 =>
    obtain ⟨s, hs, rfl⟩ := hold_1 A.n9 A.cn h1
    split at h
    · exact absurd rfl h
    · next h3 =>
      refine ⟨s, hs, rfl, fun z => h3 ?_⟩
      rw [A.cp, fa_and, z]; rfl
def mtold (m : HI) (v : Int32) : HI := rh_up (rh_up (rh_up m 0 8 0) 5 0 v) 0 8 1
theorem mo_mtold (m : HI) (v : Int32) : f_Mo_tell (rh_up m 0 8 0) v = some (mtold m v) := rfl
theorem XM.told {m m' : HI} (x : XM m m') (v : Int32) : XM (mtold m v) (mtold m' v) := fun o j hq => by
  unfold mtold
  simp only [up_f]
  by_cases h1 : o = 0 ∧ j = 8
  · simp [h1]
  · by_cases h2 : o = 5 ∧ j = 0
    · simp [h2]
    · simp only [if_neg h1, if_neg h2]; exact x o j hq
theorem w0_iff {x v : Nat} (hx : x < 2 ^ 31) (hv : v < 2 ^ 31) : f_La_within (nI x) 0 (nI v) = 0 ↔ nI v < nI x := by
  unfold f_La_within
  rw [if_neg (nI_pos hx)]
  by_cases h : nI v < nI x
  · rw [if_pos h]; exact ⟨fun _ => h, fun _ => rfl⟩
  · rw [if_neg h]; exact ⟨fun z => absurd z (by decide), fun z => absurd z h⟩
theorem pc_BS (p : Nat → Bool) : f_In_bitCount (nI (BS p 9)) = nI (fb_ct p 9) := by
  obtain ⟨p1, -, p2, -⟩ := pc_all (BS p 9) (BS_lt p 9)
  rw [p1, p2]
  congr 1
  apply fb_ct_cong
  intro j hj
  rw [BS_bit]
  simp [hj]
theorem go_count (A : RLa k n Pm B V T a q c m) (rd : Option Nat) {s v0 : Nat} (hs : s < 2 ^ n) (hv : v0 ≤ 9999) (hb : m 3 0 = nI v0) (u : Int32) : OK (rh_loop (b_Mo_goes_66 (nI s) u) rh_N ((0 : Int32), (0 : Int32), m, rd)) (fun x => x.1 = nI (fb_ct (fun b => decide (¬ f_La_within (nI (WS n (fun i => Wt Pm B V i (9 * (T / 9) + b)) s)) 0 (nI v0) = 0)) 9) ∧ XM m x.2.1) := by
  have hT := A.T30
  refine OK.loop _ (fun i z => i ≤ 9 ∧ z.1 = nI (fb_ct (fun b => decide (¬ f_La_within (nI (WS n (fun i => Wt Pm B V i (9 * (T / 9) + b)) s)) 0 (nI v0) = 0)) i) ∧ z.2.1 = nI i ∧ XM m z.2.2.1) _ 9 (by omega) ?_ ⟨by omega, rfl, rfl, XM.rf⟩
  rintro i ⟨z1, z2, z3, z4⟩ - ⟨hi, z1', rfl, he⟩
  dsimp only at z1' he
  subst z1'
  have A := A.r he
  unfold b_Mo_goes_66
  dsimp only
  refine OK.ite (fun hc => ?_) (fun hc => ?_)
  · have : i = 9 := by have := ple (b := 9) hc (by omega) (by omega); omega
    subst this
    exact OK.ret ⟨rfl, he⟩
  · have hi2 : i < 9 := nle (b := 9) hc (by omega) (by omega)
    rw [A.dm, nI_add, nI_1 i]
    obtain ⟨h', rd', e1, e2⟩ := to_m A.qm z4 (p31 A.n9 hs) (t := 9 * (T / 9) + i) (by omega)
    rw [e1, Option.bind_some]
    have e3 : h' 3 (0 : Int32).toNatClampNeg = nI v0 := (e2 3 0 rfl).trans ((he 3 0 (Or.inl rfl)).trans hb)
    simp only [e3]
    have hle := A.sle s (t := 9 * (T / 9) + i) (by omega)
    refine OK.ite (fun hw => OK.ret ⟨hi2, hi2, ?_, rfl, he.tr e2.x⟩) (fun hw => OK.ret ⟨hi2, hi2, ?_, rfl, he.tr e2.x⟩)
    · show nI _ + nI 0 = nI _
      rw [fb_ct_succ, nI_add]
      congr 2
      rw [if_neg]
      simp only [decide_eq_true_eq, Decidable.not_not]
      exact (w0_iff (by omega) (by omega)).mpr hw
    · show nI _ + nI 1 = nI _
      rw [fb_ct_succ, nI_add]
      congr 2
      rw [if_pos]
      simp only [decide_eq_true_eq]
      exact fun z => hw ((w0_iff (by omega) (by omega)).mp z)
theorem op_goes (h : RLt k n Pm B V c m) (hk : k ≤ 600) (rd : Option Nat) (p : Int32) : RO (f_La_goes c p) (f_Mo_goes m rd p) (FIN k n Pm B V) := by
  obtain ⟨T, a, q, A⟩ := h.la hk
  have hT := A.T30
  unfold f_La_goes f_Mo_goes
  rw [A.row, Option.bind_some]
  refine RO.ii Iff.rfl (fun _ => RO.ret ⟨rfl, A.fin⟩) (fun h1 => ?_)
  obtain ⟨s, hs, rfl, -⟩ := row_1 A h1
  have hs1 := p31 A.n9 hs
  obtain ⟨v0, hv0, b1, b2⟩ := A.bear 0 (by omega)
  refine RO.bind (P := fun x y => match x with | .inl e => y.1 = nI 100 ∧ RLa k n Pm B V T a q e y.2.1 | .inr t => ∃ j c0, j ≤ 99 ∧ t.1 = nI j ∧ y.1 = nI j ∧ RLa k n Pm B V T a q c0 y.2.1 ∧ y.2.1 3 0 = nI v0 ∧ RLa k n Pm B V T a 1 t.2 (mtold y.2.1 (nI (fb_ct (fun b => decide (¬ f_La_within (nI (WS n (fun i => Wt Pm B V i (9 * (T / 9) + b)) s)) 0 (nI v0) = 0)) 9)))) (RO.loop _ _ (fun i x y => x.1 = nI i ∧ y.1 = nI i ∧ RLa k n Pm B V T a q x.2 y.2.1 ∧ x.2 40 0 = nI v0 ∧ y.2.1 3 0 = nI v0) _ 100 (by omega) ?_ ⟨rfl, rfl, A, b1, b2⟩) ?_
  · rintro i ⟨x1, hc⟩ ⟨x2, hm, rd⟩ hi ⟨rfl, rfl, A, b1, b2⟩
    dsimp only at A b1 b2
    unfold b_La_goes_12 b_Mo_goes_17
    dsimp only
    refine RO.ii Iff.rfl (fun h9 => RO.ret ⟨?_, A⟩) (fun h9 => ?_)
    · have := (nI_ltI (a := 99) (b := i) (by omega) (by omega)).mp h9
      rw [show i = 100 by omega]
    have hi2 : i ≤ 99 := nlt (b := 99) h9 (by omega) (by omega)
    rw [A.ct, A.mt', nI_add]
    obtain ⟨hc', e1, g1⟩ := to_c A.qc hs1 (t := T + i) (by omega)
    obtain ⟨hm', rd', e2, g2⟩ := to_m A.qm rd hs1 (t := T + i) (by omega)
    rw [e1, e2, Option.bind_some, Option.bind_some]
    have A := A.fr g1.x g2.x
    have b1 : hc' 40 (0 : Int32).toNatClampNeg = nI v0 := (g1 40 0 (by omega)).trans b1
    have b2 : hm' 3 (0 : Int32).toNatClampNeg = nI v0 := (g2 3 0 rfl).trans b2
    simp only [b1, b2]
    refine RO.ix fa_nlt_le (fun _ => RO.ret ⟨by omega, nI_1 i, nI_1 i, A, b1, b2⟩) (fun _ => ?_)
    refine RO.bl (bw_c A hs1 0 (nI v0)) (fun x hx => ?_)
    have A1 := A.l hx.2
    refine RO.bl (P := fun z => RLa k n Pm B V T a 1 z (mtold hm' (nI (fb_ct (fun b => decide (¬ f_La_within (nI (WS n (fun i => Wt Pm B V i (9 * (T / 9) + b)) s)) 0 (nI v0) = 0)) 9)))) ?_ (fun z hz => RO.ret ⟨i, x.2, hi2, rfl, rfl, A1, b2, hz⟩)
    rw [hx.1, pc_BS]
    obtain ⟨z, w, e3, e4, A3⟩ := A1.tell (nI (fb_ct (fun b => decide (¬ f_La_within (nI (WS n (fun i => Wt Pm B V i (9 * (T / 9) + b)) s)) 0 (nI v0) = 0)) 9))
    rw [mo_mtold] at e4
    rw [Option.some.inj e4]
    exact ⟨z, e3, A3⟩
  · rintro (x | x) ⟨y1, hm, rd⟩ hp
    · dsimp only at hp ⊢
      obtain ⟨rfl, A⟩ := hp
      unfold j_Mo_goes_52
      rw [if_neg (by decide)]
      exact RO.ret ⟨rfl, A.fin⟩
    · obtain ⟨x1, hc⟩ := x
      dsimp only at hp ⊢
      obtain ⟨j, c0, hj, rfl, rfl, A0, b2, A1⟩ := hp
      unfold j_Mo_goes_52
      rw [if_pos (show nI j ≤ (99 : Int32) from nI_le (b := 99) hj (by omega))]
      refine RO.br (go_count A0 rd hs hv0 b2 (nI j)) (fun y hy => ?_)
      rw [mo_mtold, Option.bind_some, hy.1]
      exact RO.ret ⟨rfl, (A1.r (hy.2.told _)).fin⟩
/-- what was weighed -/
def SCL (n r : Nat) (st wt sm : Nat → Nat) (c m : HI) : Prop := r ≤ 10 ∧ c 34 1 = nI r ∧ m 0 39 = nI r ∧ ∀ i, i < r → st i < 2 ^ n ∧ wt i ≤ 99 ∧ sm i ≤ 9999 ∧ c 35 i = nI (st i) ∧ c 36 i = nI (wt i) ∧ c 37 i = nI (sm i) ∧ m 23 (3 * i) = nI (st i) ∧ m 23 (3 * i + 1) = nI (wt i) ∧ m 23 (3 * i + 2) = nI (sm i)
theorem RLa.scl (A : RLa k n Pm B V T a q c m) : ∃ r st wt sm, SCL n r st wt sm c m := by
  obtain ⟨r, h1, h2, h3, h4⟩ := A.1.2.2.2.2.1
  have hp9 := pow9 A.n9
  refine ⟨r, fun i => (c 35 i).toInt.toNat, fun i => (c 36 i).toInt.toNat, fun i => (c 37 i).toInt.toNat, h1, h2, h3, fun i hi => ?_⟩
  obtain ⟨x, y, z, g1, g2, g3, g4, g5, g6, g7, g8, g9⟩ := h4 i hi
  have g4 : c 35 i = nI x := g4
  have g5 : c 36 i = nI y := g5
  have g6 : c 37 i = nI z := g6
  have e1 : (c 35 i).toInt.toNat = x := by rw [g4, nI_toInt (by omega)]; omega
  have e2 : (c 36 i).toInt.toNat = y := by rw [g5, nI_toInt (by omega)]; omega
  have e3 : (c 37 i).toInt.toNat = z := by rw [g6, nI_toInt (by omega)]; omega
  dsimp only
  rw [e1, e2, e3]
  exact ⟨g1, g2, g3, g4, g5, g6, g7, g8, g9⟩
theorem SCL.fr {r : Nat} {st wt sm : Nat → Nat} {c' m' : HI} (t : SCL n r st wt sm c m) (x : XC c c') (y : XM m m') : SCL n r st wt sm c' m' := by
  obtain ⟨t1, t2, t3, t4⟩ := t
  refine ⟨t1, (x 34 1 (Or.inl rfl)).trans t2, (y 0 39 (Or.inl rfl)).trans t3, fun i hi => ?_⟩
  rw [x 35 i (Or.inl rfl), x 36 i (Or.inl rfl), x 37 i (Or.inl rfl), y 23 _ (Or.inl rfl), y 23 _ (Or.inl rfl), y 23 _ (Or.inl rfl)]
  exact t4 i hi
theorem three_0 (i : Nat) : (3 : Int32) * nI i = nI (3 * i) := pk_mul 3 i
theorem three_1 (i : Nat) : nI (3 * i) + 1 = nI (3 * i + 1) := nI_1 _
theorem three_2 (i : Nat) : nI (3 * i) + 2 = nI (3 * i + 2) := nI_add _ 2
theorem two_N : ∀ n, n < 31 → (1 : Int32) <<< (nI n &&& 31) = nI (2 ^ n) := by decide +kernel
theorem op_believed (h : RLt k n Pm B V c m) (hk : k ≤ 600) (rd : Option Nat) : RO (f_La_believed c) (f_Mo_believed m rd) (FIN k n Pm B V) := by
  obtain ⟨T, a, q, A⟩ := h.la hk
  have hT := A.T30
  obtain ⟨r, st, wt, sm, sc⟩ := A.scl
  have hr := sc.1
  unfold f_La_believed f_Mo_believed f_Sc_wrongAt f_Mo_falseOnes
  rw [A.ct]
  refine RO.bind (P := fun x y => x.1 = y.1 ∧ RLa k n Pm B V T a q x.2 y.2.1) ?_ ?_
  · refine RO.bind (P := fun x y => x.1 = y.1 ∧ RLa k n Pm B V T a q x.2 y.2.1) (RO.loop _ _ (fun i x y => i ≤ r ∧ x.1 = y.1 ∧ x.2.1 = nI i ∧ y.2.1 = nI i ∧ RLa k n Pm B V T a q x.2.2 y.2.2.1 ∧ SCL n r st wt sm x.2.2 y.2.2.1) _ r (by omega) ?_ ⟨by omega, rfl, rfl, rfl, A, sc⟩) (fun x y hp => RO.ret hp)
    rintro i ⟨x1, x2, hc⟩ ⟨y1, y2, hm, rd⟩ - ⟨hi, rfl, rfl, rfl, A, sc⟩
    dsimp only at A sc
    unfold b_Sc_wrongAt_4 b_Mo_falseOnes_4
    dsimp only
    simp only [sc.2.1, sc.2.2.1]
    refine RO.ii Iff.rfl (fun _ => RO.ret ⟨rfl, A⟩) (fun hx => ?_)
    have hi2 : i < r := nle hx (by omega) (by omega)
    obtain ⟨s1, s2, s3, s4, s5, s6, s7, s8, s9⟩ := sc.2.2.2 i hi2
    rw [three_0, three_1, three_2, nI_clamp (n := i) (by omega), nI_clamp (n := 3 * i) (by omega), nI_clamp (n := 3 * i + 1) (by omega), nI_clamp (n := 3 * i + 2) (by omega), s4, s5, s7, s8, A.mt', nI_add]
    refine RO.gl (gd_nI (by omega) (by omega)) (RO.gl (gd_nI (by omega) (by omega)) (RO.gr (gd_nI (by omega) (by omega)) (RO.gr (gd_nI (by omega) (by omega)) ?_)))
    obtain ⟨hc', e1, g1⟩ := to_c A.qc (p31 A.n9 s1) (t := T + wt i) (by omega)
    obtain ⟨hm', rd', e2, g2⟩ := to_m A.qm rd (p31 A.n9 s1) (t := T + wt i) (by omega)
    rw [e1, e2, Option.bind_some, Option.bind_some]
    have sc := sc.fr g1.x g2.x
    have A := A.fr g1.x g2.x
    obtain ⟨s1, s2, s3, s4, s5, s6, s7, s8, s9⟩ := sc.2.2.2 i hi2
    refine RO.gl (gd_nI (by omega) (by omega)) (RO.gr (gd_nI (by omega) (by omega)) ?_)
    dsimp only
    exact RO.ii (by rw [s6, s9]) (fun _ => RO.ret ⟨hi2, hi2, (or0 _).symm, nI_1 i, nI_1 i, A, sc⟩) (fun _ => RO.ret ⟨hi2, hi2, rfl, nI_1 i, nI_1 i, A, sc⟩)
  · rintro ⟨x1, hc⟩ ⟨y1, hm, rd⟩ ⟨rfl, A⟩
    dsimp only at A ⊢
    exact RO.bind (A.tell _) (fun x y A => RO.ii Iff.rfl (fun _ => RO.ret ⟨rfl, A.fin⟩) (fun _ => RO.ret ⟨rfl, A.fin⟩))
end OPS9
