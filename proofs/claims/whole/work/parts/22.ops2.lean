/-! LEAN on both sides; all, weight, of, lean, tips, lighter, between -/
def LN (a : Nat) (P : Nat → Int32) (W : Nat → Nat) : Nat → Int32
  | 0 => 0
  | i + 1 => LN a P W i + (if a.testBit i then P i * nI (W i) else 0)
theorem LN_cong {a a' : Nat} {P P' : Nat → Int32} {W W' : Nat → Nat} : ∀ {n : Nat}, (∀ i, i < n → a.testBit i = a'.testBit i ∧ (a.testBit i = true → P i = P' i ∧ W i = W' i)) → LN a P W n = LN a' P' W' n
  | 0, _ => rfl
  | i + 1, h => by
    unfold LN
    rw [LN_cong (fun j hj => h j (by omega))]
    obtain ⟨h1, h2⟩ := h i (by omega)
    rw [← h1]
    cases hb : a.testBit i with
    | false => simp
    | true => rw [(h2 hb).1, (h2 hb).2]
section LEAN
variable {n Pm : Nat} {B : Nat → Nat} {V : Nat → Nat → Nat → Nat} {h : HI}
theorem le_c (q : QC n Pm B V h) {a t : Nat} (ha : a < 2 ^ n) (h2 : h 13 2 = nI a) (ht : t < 2 ^ 30) : OK (f_De_leanAt h (nI t)) (fun x => x.1 = LN a (h 14) (fun i => Wt Pm B V i t) n ∧ E8 h x.2) := by
  have hn := q.1
  unfold f_De_leanAt
  refine OK.bind (P := fun x => x.1 = LN a (h 14) (fun i => Wt Pm B V i t) n ∧ E8 h x.2) (OK.loop _ (fun i z => i ≤ n ∧ z.1 = LN a (h 14) (fun i => Wt Pm B V i t) i ∧ z.2.1 = nI i ∧ E8 h z.2.2) _ n (by omega) ?_ ⟨Nat.zero_le _, rfl, rfl, E8.rf⟩) (fun r hr => OK.ret hr)
  rintro i ⟨z1, z2, z3⟩ - ⟨hi, rfl, rfl, he⟩
  have he : E8 h z3 := he
  have q' : QC n Pm B V z3 := q.e8 he
  have e4 : z3 4 0 = nI n := q'.2.2.1
  have e5 : z3 13 2 = nI a := (he 13 2 (by omega)).trans h2
  unfold b_De_leanAt_4 f_De_isAboard
  simp only [e4, e5]
  refine OK.ite (fun hc => ?_) (fun hc => ?_)
  · rw [nI_leI (by omega) (by omega)] at hc
    have : i = n := by omega
    subst this
    exact OK.ret ⟨rfl, he⟩
  · have hi2 : i < n := by
      rw [nI_leI (by omega) (by omega)] at hc
      omega
    have hb := bit_t (p := a) (i := i) (p31 hn ha) (by omega)
    have e14 : z3 14 i = h 14 i := he 14 i (by omega)
    rw [nI_clamp (by omega), show nI i + 1 = nI (i + 1) from nI_1 i, e14]
    cases hbt : a.testBit i with
    | false =>
      rw [if_pos (by rw [if_pos (hb.mpr hbt)])]
      refine OK.ret ⟨hi2, hi2, ?_, rfl, he⟩
      show _ = LN a _ _ i + _
      simp [hbt]
    | true =>
      rw [if_neg (by rw [if_neg (fun z => by rw [hb.mp z] at hbt; cases hbt)]; decide)]
      refine OK.g (gd_nI (by omega) (by omega)) (OK.ite (fun h0 => ?_) (fun h0 => ?_))
      · refine OK.ret ⟨hi2, hi2, ?_, rfl, he⟩
        show _ = LN a _ _ i + _
        simp [hbt, h0]
      · refine OK.bind (P := fun x => x.1 = nI (Wt Pm B V i t) ∧ E8 z3 x.2) ?_ ?_
        · obtain ⟨h', h1, h2⟩ := wa_c q' hi2 ht
          exact ⟨_, h1, rfl, h2⟩
        · rintro ⟨x1, x2⟩ ⟨rfl, hx⟩
          have hx : E8 z3 x2 := hx
          refine OK.g (gd_nI (by omega) (by omega)) (OK.ret ⟨hi2, hi2, ?_, rfl, he.tr hx⟩)
          show _ = LN a _ _ i + _
          dsimp only
          rw [hx 14 i (by omega), e14, Int32.mul_comm]
          simp [hbt]
theorem le_m (q : QM n Pm B V h) (rd : Option Nat) {a t : Nat} (ha : a < 2 ^ n) (h2 : h 1 9 = nI a) (ht : t < 2 ^ 30) : OK (f_Mo_leanOf_1 h rd (nI t)) (fun x => x.1 = LN a (h 1) (fun i => Wt Pm B V i t) n ∧ EM h x.2.1) := by
  have hn := q.1
  unfold f_Mo_leanOf_1
  refine OK.bind (P := fun x => x.1 = LN a (h 1) (fun i => Wt Pm B V i t) n ∧ EM h x.2.1) (OK.loop _ (fun i z => i ≤ n ∧ z.1 = LN a (h 1) (fun i => Wt Pm B V i t) i ∧ z.2.1 = nI i ∧ EM h z.2.2.1) _ n (by omega) ?_ ⟨Nat.zero_le _, rfl, rfl, EM.rf⟩) (fun r hr => OK.ret hr)
  rintro i ⟨z1, z2, z3, z4⟩ - ⟨hi, rfl, rfl, he⟩
  have he : EM h z3 := he
  have q' : QM n Pm B V z3 := q.em he
  have e4 : z3 0 1 = nI n := q'.2.2.1
  have e5 : z3 1 (9 : Int32).toNatClampNeg = nI a := (he 1 9 rfl).trans h2
  unfold b_Mo_leanOf_1_5
  simp only [e4, e5]
  refine OK.ite (fun hc => ?_) (fun hc => ?_)
  · rw [nI_leI (by omega) (by omega)] at hc
    have : i = n := by omega
    subst this
    exact OK.ret ⟨rfl, he⟩
  · have hi2 : i < n := by
      rw [nI_leI (by omega) (by omega)] at hc
      omega
    have hb := has_t (p := a) (i := i) (p31 hn ha) (by omega)
    have e14 : z3 1 i = h 1 i := he 1 i rfl
    rw [nI_clamp (by omega), show nI i + 1 = nI (i + 1) from nI_1 i, e14]
    cases hbt : a.testBit i with
    | false =>
      rw [if_pos (hb.mpr hbt)]
      refine OK.ret ⟨hi2, hi2, ?_, rfl, he⟩
      show _ = LN a _ _ i + _
      simp [hbt]
    | true =>
      rw [if_neg (fun z => by rw [hb.mp z] at hbt; cases hbt)]
      refine OK.g (gd_nI (by omega) (by omega)) ?_
      refine OK.bind (P := fun x => x.1 = nI (Wt Pm B V i t) ∧ EM z3 x.2.1) ?_ ?_
      · obtain ⟨h', rd', h1, h2⟩ := wa_m q' z4 hi2 ht
        exact ⟨_, h1, rfl, h2⟩
      · rintro ⟨x1, x2, x3⟩ ⟨rfl, hx⟩
        refine OK.ret ⟨hi2, hi2, ?_, rfl, he.tr hx⟩
        show _ = LN a _ _ i + _
        simp [hbt]
theorem le_m12 (q : QM n Pm B V h) (rd : Option Nat) {a t : Nat} (ha : a < 2 ^ n) (h2 : h 12 9 = nI a) (ht : t < 2 ^ 30) : OK (f_Mo_leanOf_12 h rd (nI t)) (fun x => x.1 = LN a (h 12) (fun i => Wt Pm B V i t) n ∧ EM h x.2.1) := by
  have hn := q.1
  unfold f_Mo_leanOf_12
  refine OK.bind (P := fun x => x.1 = LN a (h 12) (fun i => Wt Pm B V i t) n ∧ EM h x.2.1) (OK.loop _ (fun i z => i ≤ n ∧ z.1 = LN a (h 12) (fun i => Wt Pm B V i t) i ∧ z.2.1 = nI i ∧ EM h z.2.2.1) _ n (by omega) ?_ ⟨Nat.zero_le _, rfl, rfl, EM.rf⟩) (fun r hr => OK.ret hr)
  rintro i ⟨z1, z2, z3, z4⟩ - ⟨hi, rfl, rfl, he⟩
  have he : EM h z3 := he
  have q' : QM n Pm B V z3 := q.em he
  have e4 : z3 0 1 = nI n := q'.2.2.1
  have e5 : z3 12 (9 : Int32).toNatClampNeg = nI a := (he 12 9 rfl).trans h2
  unfold b_Mo_leanOf_12_5
  simp only [e4, e5]
  refine OK.ite (fun hc => ?_) (fun hc => ?_)
  · rw [nI_leI (by omega) (by omega)] at hc
    have : i = n := by omega
    subst this
    exact OK.ret ⟨rfl, he⟩
  · have hi2 : i < n := by
      rw [nI_leI (by omega) (by omega)] at hc
      omega
    have hb := has_t (p := a) (i := i) (p31 hn ha) (by omega)
    have e14 : z3 12 i = h 12 i := he 12 i rfl
    rw [nI_clamp (by omega), show nI i + 1 = nI (i + 1) from nI_1 i, e14]
    cases hbt : a.testBit i with
    | false =>
      rw [if_pos (hb.mpr hbt)]
      refine OK.ret ⟨hi2, hi2, ?_, rfl, he⟩
      show _ = LN a _ _ i + _
      simp [hbt]
    | true =>
      rw [if_neg (fun z => by rw [hb.mp z] at hbt; cases hbt)]
      refine OK.g (gd_nI (by omega) (by omega)) ?_
      refine OK.bind (P := fun x => x.1 = nI (Wt Pm B V i t) ∧ EM z3 x.2.1) ?_ ?_
      · obtain ⟨h', rd', h1, h2⟩ := wa_m q' z4 hi2 ht
        exact ⟨_, h1, rfl, h2⟩
      · rintro ⟨x1, x2, x3⟩ ⟨rfl, hx⟩
        refine OK.ret ⟨hi2, hi2, ?_, rfl, he.tr hx⟩
        show _ = LN a _ _ i + _
        simp [hbt]
end LEAN
def FIN (k n Pm : Nat) (B : Nat → Nat) (V : Nat → Nat → Nat → Nat) (x : Int32 × HI) (y : Int32 × HI × Option Nat) : Prop := x.1 = y.1 ∧ RLt (k + 1) n Pm B V x.2 y.2.1
/-- of those that may throw: this time it doesn't -/
def FIT (k n Pm : Nat) (B : Nat → Nat) (V : Nat → Nat → Nat → Nat) (x : Int32 × HI) (y : Int32 × HI × Option Nat) : Prop := x.1 = y.1 ∧ y.2.1 0 9 = 0 ∧ RLt (k + 1) n Pm B V x.2 y.2.1
/-- it throws: so the reference says, and nothing else has changed -/
def LOST (k n Pm : Nat) (B : Nat → Nat) (V : Nat → Nat → Nat → Nat) (c : HI) (y : Int32 × HI × Option Nat) : Prop := y.2.1 0 9 = 1 ∧ RLt (k + 1) n Pm B V c y.2.1
section OPS2
variable {k n Pm : Nat} {B : Nat → Nat} {V : Nat → Nat → Nat → Nat} {T a q : Nat} {c m : HI}
theorem RLa.ln (A : RLa k n Pm B V T a q c m) (rd : Option Nat) {t : Nat} (ht : t < 2 ^ 30) : RO (f_De_leanAt c (nI t)) (f_Mo_leanOf_1 m rd (nI t)) (fun x y => x.1 = LN a (c 14) (fun i => Wt Pm B V i t) n ∧ y.1 = x.1 ∧ RLa k n Pm B V T a q x.2 y.2.1 ∧ E8 c x.2 ∧ EM m y.2.1) := by
  refine (RO.two (le_c A.qc A.an A.ca ht) (le_m A.qm rd A.an A.ma ht)).mono ?_
  rintro x y ⟨⟨h1, h2⟩, h3, h4⟩
  refine ⟨h1, ?_, A.fr h2.x h4.x, h2, h4⟩
  rw [h1, h3]
  refine LN_cong (fun i hi => ⟨rfl, fun _ => ⟨((A.pl i (by have := A.n9; omega)).1).symm, rfl⟩⟩)
theorem RLa.dc (A : RLa k n Pm B V T a q c m) : f_La_dawn c = nI (9 * (T / 9)) := by
  have hT := A.T30
  unfold f_La_dawn
  rw [A.ct, show nI T - nI T / 9 * 9 = nI (T % 9) from pk_rem (d := 9) (by omega) (by omega) (by omega), show nI T - nI (T % 9) = nI (T - T % 9) from pk_sub (Nat.mod_le _ _)]
  congr 1
  omega
theorem RLa.dm (A : RLa k n Pm B V T a q c m) : f_Mo_dawn m = nI (9 * (T / 9)) := by
  have hT := A.T30
  unfold f_Mo_dawn
  rw [show m 1 (10 : Int32).toNatClampNeg = nI T from A.mt, show nI T / 9 = nI (T / 9) from pk_div (d := 9) (by omega) (by omega) (by omega), show nI (T / 9) * 9 = nI (T / 9 * 9) from pk_mul _ 9, Nat.mul_comm]
theorem RLa.tip (A : RLa k n Pm B V T a q c m) (v : Int32) : f_Mo_isTipping m v = f_La_tipsBy c v := by
  obtain ⟨b, -, h1, h2⟩ := A.bear 1 (by omega)
  unfold f_Mo_isTipping f_La_tipsBy
  rw [show m 3 (1 : Int32).toNatClampNeg = nI b from h2, show c 40 (1 : Int32).toNatClampNeg = nI b from h1]
theorem RLa.hold (A : RLa k n Pm B V T a q c m) (p : Int32) : f_Mo_areFolk m p = some (f_Cr_holds c p) := by
  rw [mo_areFolk, hold_w A.n9 A.cn A.mn]
theorem RLa.one (A : RLa k n Pm B V T a q c m) (p : Int32) : f_Mo_isOne m p = some (f_Cr_has c p) := by
  unfold f_Mo_isOne
  rw [in_wi, rg_t (wi_01 _ _ _)]
  congr 1
  unfold f_La_within f_Cr_has
  rw [A.cn, A.mn]
  have hn := A.n9
  by_cases q1 : p < 0
  · rw [if_pos q1, if_pos q1]
  · rw [if_neg q1, if_neg q1]
    have h3 : nI n ≤ p ↔ nI n - 1 < p := by
      rw [fa_lt] at q1
      rw [fa_le, fa_lt, fb_subI (by rw [nI_toInt (by omega)]; simp; omega) (by rw [nI_toInt (by omega)]; simp; omega), nI_toInt (by omega)]
      have : (1 : Int32).toInt = 1 := rfl
      have : (0 : Int32).toInt = 0 := rfl
      omega
    by_cases q2 : nI n ≤ p
    · rw [if_pos q2, if_pos (h3.mp q2)]
    · rw [if_neg q2, if_neg (fun z => q2 (h3.mpr z))]
theorem has_1 (A : RLa k n Pm B V T a q c m) {p : Int32} (h : ¬ f_Cr_has c p = 0) : ∃ i, i < n ∧ p = nI i := by
  have hn := A.n9
  unfold f_Cr_has at h
  rw [A.cn] at h
  split at h
  · exact absurd rfl h
  · next q1 =>
    split at h
    · exact absurd rfl h
    · next q2 =>
      obtain ⟨j, -, hj, e⟩ := nI_rng (lo := 0) (hi := n) (x := p) q1 (by rw [fa_lt]; rw [fa_le] at q2; omega) (by omega) (by omega)
      subst e
      rw [nI_leI (by omega) (by omega)] at q2
      exact ⟨j, by omega, rfl⟩
theorem wi_n {p : Int32} {lo hi : Nat} (h : ¬ f_La_within p (nI lo) (nI hi) = 0) (hh : hi < 2 ^ 31) (hl : lo ≤ hi) : ∃ j, lo ≤ j ∧ j ≤ hi ∧ p = nI j := nI_rng (wi_1 h).1 (wi_1 h).2 hh hl
theorem wi_N (p : Int32) (lo hi : Nat) : f_La_within p (OfNat.ofNat lo) (OfNat.ofNat hi) = f_La_within p (nI lo) (nI hi) := rfl
theorem RLa.lost (A : RLa k n Pm B V T a q c m) : RLt (k + 1) n Pm B V c (rh_up m 0 9 1) := by
  have h := A.fin
  refine ⟨?_, h.2.kept rfl (fun _ => rfl) rfl (fun _ => rfl)⟩
  rw [rM_eq (sm_thr m 1)]
  exact h.1
theorem op_all (h : RLt k n Pm B V c m) (hk : k ≤ 600) (rd : Option Nat) (p v : Int32) : RO (f_La_all c p v) (f_Mo_all m rd p v) (FIN k n Pm B V) := by
  obtain ⟨T, a, q, A⟩ := h.la hk
  have hT := A.T30
  unfold f_La_all f_Mo_all
  rw [A.hold, in_wi, Option.bind_some, A.ct]
  refine RO.ii Iff.rfl (fun _ => RO.ret ⟨rfl, A.fin⟩) (fun h1 => RO.ii Iff.rfl (fun _ => RO.ret ⟨rfl, A.fin⟩) (fun h2 => ?_))
  obtain ⟨s, hs, rfl⟩ := hold_1 A.n9 A.cn h1
  obtain ⟨j, -, hj, rfl⟩ := wi_n (lo := 0) (hi := 999) h2 (by omega) (by omega)
  rw [show rh_up m 0 9 0 1 (10 : Int32).toNatClampNeg = nI T from A.mt, nI_add]
  refine RO.bind (A.tog rd (p31 A.n9 hs) (by omega)) ?_
  rintro x y ⟨h1, h2, A'⟩
  exact RO.ret ⟨h1.trans h2.symm, A'.fin⟩
theorem op_weight (h : RLt k n Pm B V c m) (hk : k ≤ 600) (rd : Option Nat) (p v : Int32) : ((f_Cr_has c p = 0 ∨ f_La_within v 0 999 = 0) ∧ OK (f_Mo_weight m rd p v) (LOST k n Pm B V c)) ∨ (¬ f_Cr_has c p = 0 ∧ ¬ f_La_within v 0 999 = 0 ∧ RO (f_La_weight c p v) (f_Mo_weight m rd p v) (FIT k n Pm B V)) := by
  obtain ⟨T, a, q, A⟩ := h.la hk
  have hT := A.T30
  unfold f_La_weight f_Mo_weight
  rw [A.one, in_wi, Option.bind_some, A.ct]
  by_cases h1 : f_Cr_has c p = 0
  · rw [if_pos h1]
    exact Or.inl ⟨Or.inl h1, OK.ret ⟨rfl, A.lost⟩⟩
  · rw [if_neg h1, if_neg h1]
    by_cases h2 : f_La_within v 0 999 = 0
    · rw [if_pos h2]
      exact Or.inl ⟨Or.inr h2, OK.ret ⟨rfl, A.lost⟩⟩
    · rw [if_neg h2, if_neg h2]
      refine Or.inr ⟨h1, h2, ?_⟩
      obtain ⟨i, hi, rfl⟩ := has_1 A h1
      obtain ⟨j, -, hj, rfl⟩ := wi_n (lo := 0) (hi := 999) h2 (by omega) (by omega)
      rw [show rh_up m 0 9 0 1 (10 : Int32).toNatClampNeg = nI T from A.mt, nI_add]
      refine RO.bind (A.wt rd hi (by omega)) ?_
      rintro x y ⟨h1, h2, A'⟩
      exact RO.ret ⟨h1.trans h2.symm, A'.th, A'.fin⟩
theorem op_lean (h : RLt k n Pm B V c m) (hk : k ≤ 600) (rd : Option Nat) (v : Int32) : (f_La_within v 0 99 = 0 ∧ OK (f_Mo_lean m rd v) (LOST k n Pm B V c)) ∨ (¬ f_La_within v 0 99 = 0 ∧ RO (f_La_lean c v) (f_Mo_lean m rd v) (FIT k n Pm B V)) := by
  obtain ⟨T, a, q, A⟩ := h.la hk
  have hT := A.T30
  unfold f_La_lean f_Mo_lean
  rw [in_wi, A.ct]
  by_cases h2 : f_La_within v 0 99 = 0
  · rw [if_pos h2]
    exact Or.inl ⟨h2, OK.ret ⟨rfl, A.lost⟩⟩
  · rw [if_neg h2, if_neg h2]
    refine Or.inr ⟨h2, ?_⟩
    obtain ⟨j, -, hj, rfl⟩ := wi_n (lo := 0) (hi := 99) h2 (by omega) (by omega)
    rw [show rh_up m 0 9 0 1 (10 : Int32).toNatClampNeg = nI T from A.mt, nI_add]
    refine RO.bind (A.ln rd (by omega)) ?_
    rintro x y ⟨h1, h2, A', -⟩
    exact RO.ret ⟨h2.symm, A'.th, A'.fin⟩
theorem op_tips (h : RLt k n Pm B V c m) (hk : k ≤ 600) (rd : Option Nat) : RO (f_La_tips c) (f_Mo_tips m rd) (FIN k n Pm B V) := by
  obtain ⟨T, a, q, A⟩ := h.la hk
  have hT := A.T30
  unfold f_La_tips f_Mo_tips
  refine RO.bind (P := fun x y => match x, y with | .inl e, .inl e' => RLa k n Pm B V T a q e e'.1 | .inr t, .inr t' => FIN k n Pm B V t t' | _, _ => False) (RO.loop _ _ (fun i s t => s.1 = nI i ∧ t.1 = nI i ∧ RLa k n Pm B V T a q s.2 t.2.1) _ 100 (by omega) ?_ ⟨rfl, rfl, A⟩) ?_
  · rintro i ⟨x1, hc⟩ ⟨x2, hm, rd⟩ hi ⟨rfl, rfl, A⟩
    have A : RLa k n Pm B V T a q hc hm := A
    unfold b_La_tips_2 b_Mo_tips_7
    dsimp only
    refine RO.ii Iff.rfl (fun _ => RO.ret A) (fun h1 => ?_)
    have hi2 : i < 100 := by
      rcases Nat.lt_or_ge i 100 with z | z
      · exact z
      · exact absurd (nI_lt (a := 99) (b := i) (by omega) (by omega)) h1
    rw [A.ct, show hm 1 (10 : Int32).toNatClampNeg = nI T from A.mt, nI_add]
    refine RO.bind (A.ln rd (by omega)) ?_
    rintro ⟨x1, hc'⟩ ⟨x2, hm', rd'⟩ ⟨-, h2, A', -⟩
    dsimp only at h2 A' ⊢
    subst h2
    rw [A'.tip]
    refine RO.ii Iff.rfl (fun _ => RO.ret ⟨hi2, nI_1 i, nI_1 i, A'⟩) (fun _ => RO.bind (A'.tell x2) (fun x y A'' => RO.ret ⟨rfl, A''.fin⟩))
  · rintro (x | x) (y | y) hp
    · exact RO.ret ⟨rfl, hp.fin⟩
    · exact hp.elim
    · exact hp.elim
    · exact RO.ret hp
theorem op_lighter (h : RLt k n Pm B V c m) (hk : k ≤ 600) (rd : Option Nat) (p v : Int32) : RO (f_La_lighter c p v) (f_Mo_lighter m rd p v) (FIN k n Pm B V) := by
  obtain ⟨T, a, q, A⟩ := h.la hk
  have hT := A.T30
  unfold f_La_lighter f_Mo_lighter
  rw [A.hold, mo_isHeavy, Option.bind_some, Option.bind_some]
  refine RO.ii Iff.rfl (fun _ => RO.ret ⟨rfl, A.fin⟩) (fun h1 => RO.ii Iff.rfl (fun _ => RO.ret ⟨rfl, A.fin⟩) (fun h2 => ?_))
  obtain ⟨s, hs, rfl⟩ := hold_1 A.n9 A.cn h1
  refine RO.bind (P := fun x y => match x, y with | .inl e, .inl e' => RLa k n Pm B V T a q e e'.1 | .inr t, .inr t' => FIN k n Pm B V t t' | _, _ => False) (RO.loop _ _ (fun i s t => s.1 = nI i ∧ t.1 = nI i ∧ RLa k n Pm B V T a q s.2 t.2.1) _ 100 (by omega) ?_ ⟨rfl, rfl, A⟩) ?_
  · rintro i ⟨x1, hc⟩ ⟨x2, hm, rd⟩ hi ⟨rfl, rfl, A⟩
    have A : RLa k n Pm B V T a q hc hm := A
    unfold b_La_lighter_26 b_Mo_lighter_24
    dsimp only
    refine RO.ii Iff.rfl (fun _ => RO.ret A) (fun h1 => ?_)
    have hi2 : i < 100 := by
      rcases Nat.lt_or_ge i 100 with z | z
      · exact z
      · exact absurd (nI_lt (a := 99) (b := i) (by omega) (by omega)) h1
    rw [A.ct, show hm 1 (10 : Int32).toNatClampNeg = nI T from A.mt, nI_add]
    refine RO.bind (A.tog rd (p31 A.n9 hs) (by omega)) ?_
    rintro ⟨x1, hc'⟩ ⟨x2, hm', rd'⟩ ⟨h1, h2, A'⟩
    dsimp only at h1 h2 A' ⊢
    subst h1; subst h2
    refine RO.ix (by rw [fa_lt, fa_le]; omega) (fun _ => RO.ret ⟨hi2, nI_1 i, nI_1 i, A'⟩) (fun _ => RO.bind (A'.tell _) (fun x y A'' => RO.ret ⟨rfl, A''.fin⟩))
  · rintro (x | x) (y | y) hp
    · exact RO.ret ⟨rfl, hp.fin⟩
    · exact hp.elim
    · exact hp.elim
    · exact RO.ret hp
end OPS2
