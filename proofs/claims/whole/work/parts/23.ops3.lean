/-! of, between, hour, climbs, spread, timber, trim, balance, even, swap -/
theorem nlt {i b : Nat} (h : ¬ nI b < nI i) (hi : i < 2 ^ 31) (hb : b < 2 ^ 31) : i ≤ b := by
  rw [nI_ltI hb hi] at h; omega
theorem nle {i b : Nat} (h : ¬ nI b ≤ nI i) (hi : i < 2 ^ 31) (hb : b < 2 ^ 31) : i < b := by
  rw [nI_leI hb hi] at h; omega
theorem ple {i b : Nat} (h : nI b ≤ nI i) (hi : i < 2 ^ 31) (hb : b < 2 ^ 31) : b ≤ i := (nI_leI hb hi).mp h
theorem or0 (x : Int32) : x ||| 0 = x := Int32.or_zero
def BS (p : Nat → Bool) : Nat → Nat
  | 0 => 0
  | i + 1 => BS p i ||| (if p i then 2 ^ i else 0)
theorem BS_cong {p r : Nat → Bool} : ∀ {n : Nat}, (∀ i, i < n → p i = r i) → BS p n = BS r n
  | 0, _ => rfl
  | i + 1, h => by unfold BS; rw [BS_cong (fun j hj => h j (by omega)), h i (by omega)]
theorem BS_lt (p : Nat → Bool) : ∀ n, BS p n < 2 ^ n
  | 0 => by unfold BS; omega
  | i + 1 => by
    unfold BS
    have h := BS_lt p i
    refine Nat.or_lt_two_pow (Nat.lt_of_lt_of_le h (Nat.pow_le_pow_right (by omega) (by omega))) ?_
    split
    · exact Nat.pow_lt_pow_right (by omega) (by omega)
    · exact Nat.two_pow_pos _
theorem BS_bit (p : Nat → Bool) : ∀ n j, (BS p n).testBit j = (decide (j < n) && p j)
  | 0, j => by simp [BS]
  | i + 1, j => by
    unfold BS
    rw [Nat.testBit_or, BS_bit p i j]
    by_cases hj : j = i
    · subst hj
      cases hp : p j <;> simp [Nat.testBit_two_pow]
    · cases hp : p i with
      | false => simp [show (j < i) ↔ (j < i + 1) by omega]
      | true =>
        have : i ≠ j := fun e => hj e.symm
        simp [Nat.testBit_two_pow, this, show (j < i) ↔ (j < i + 1) by omega]
theorem BS_no {p : Nat → Bool} {i : Nat} (h : p i = false) : BS p (i + 1) = BS p i := by
  show BS p i ||| _ = _
  rw [h]; simp
theorem BS_yes {p : Nat → Bool} {i : Nat} (h : p i = true) : BS p (i + 1) = BS p i ||| 2 ^ i := by
  show BS p i ||| _ = _
  rw [h]; rfl
section BSS
variable {k n Pm : Nat} {B : Nat → Nat} {V : Nat → Nat → Nat → Nat} {T a q : Nat} {c m : HI}
theorem bw_c (A : RLa k n Pm B V T a q c m) {s : Nat} (hs : s < 2 ^ 31) (lo hi : Int32) : OK (f_La_bellsWithin c (nI s) lo hi) (fun x => x.1 = nI (BS (fun b => decide (¬ f_La_within (nI (WS n (fun i => Wt Pm B V i (9 * (T / 9) + b)) s)) lo hi = 0)) 9) ∧ XC c x.2) := by
  unfold f_La_bellsWithin
  have hT := A.T30
  refine OK.bind (OK.loop _ (fun i z => i ≤ 9 ∧ z.1 = nI (BS (fun b => decide (¬ f_La_within (nI (WS n (fun i => Wt Pm B V i (9 * (T / 9) + b)) s)) lo hi = 0)) i) ∧ z.2.1 = nI i ∧ XC c z.2.2) (fun x => x.1 = nI (BS (fun b => decide (¬ f_La_within (nI (WS n (fun i => Wt Pm B V i (9 * (T / 9) + b)) s)) lo hi = 0)) 9) ∧ XC c x.2) 9 (by omega) ?_ ⟨by omega, rfl, rfl, XC.rf⟩) (fun r hr => OK.ret hr)
  rintro i ⟨z1, z2, z3⟩ - ⟨hi, rfl, rfl, he⟩
  have he : XC c z3 := he
  have A := A.l he
  unfold b_La_bellsWithin_6
  dsimp only
  refine OK.ite (fun hc => ?_) (fun hc => ?_)
  · have : i = 9 := by have := ple (b := 9) hc (by omega) (by omega); omega
    subst this
    exact OK.ret ⟨rfl, he⟩
  · have hi2 : i < 9 := nle (b := 9) hc (by omega) (by omega)
    rw [A.dc, nI_add, nI_1 i]
    obtain ⟨h', e1, e2⟩ := to_c A.qc hs (t := 9 * (T / 9) + i) (by omega)
    refine OK.bind (P := fun x => x = (_, h')) ⟨_, e1, rfl⟩ ?_
    rintro _ rfl
    dsimp only
    refine OK.ite (fun hw => ?_) (fun hw => ?_)
    · refine OK.ret ⟨hi2, hi2, ?_, rfl, he.tr e2.x⟩
      exact congrArg nI (BS_no (by exact decide_eq_false (fun z => z hw))).symm
    · refine OK.ret ⟨hi2, hi2, ?_, rfl, he.tr e2.x⟩
      show nI (BS _ i) ||| _ = nI (BS _ (i + 1))
      rw [two_n i (by omega), fa_or]
      exact congrArg nI (BS_yes (by exact decide_eq_true hw)).symm
theorem bw_between (A : RLa k n Pm B V T a q c m) (rd : Option Nat) {s : Nat} (hs : s < 2 ^ 31) (lo hi : Int32) : OK (rh_loop (b_Mo_between_35 (nI s) lo hi) rh_N ((0 : Int32), (0 : Int32), m, rd)) (fun x => x.1 = nI (BS (fun b => decide (¬ f_La_within (nI (WS n (fun i => Wt Pm B V i (9 * (T / 9) + b)) s)) lo hi = 0)) 9) ∧ XM m x.2.1) := by
  have hT := A.T30
  refine OK.loop _ (fun i z => i ≤ 9 ∧ z.1 = nI (BS (fun b => decide (¬ f_La_within (nI (WS n (fun i => Wt Pm B V i (9 * (T / 9) + b)) s)) lo hi = 0)) i) ∧ z.2.1 = nI i ∧ XM m z.2.2.1) _ 9 (by omega) ?_ ⟨by omega, rfl, rfl, XM.rf⟩
  rintro i ⟨z1, z2, z3, z4⟩ - ⟨hi, rfl, rfl, he⟩
  have he : XM m z3 := he
  have A := A.r he
  unfold b_Mo_between_35
  dsimp only
  refine OK.ite (fun hc => ?_) (fun hc => ?_)
  · have : i = 9 := by have := ple (b := 9) hc (by omega) (by omega); omega
    subst this
    exact OK.ret ⟨rfl, he⟩
  · have hi2 : i < 9 := nle (b := 9) hc (by omega) (by omega)
    rw [A.dm, nI_add, nI_1 i]
    obtain ⟨h', rd', e1, e2⟩ := to_m A.qm z4 hs (t := 9 * (T / 9) + i) (by omega)
    refine OK.bind (P := fun x => x = (_, h', rd')) ⟨_, e1, rfl⟩ ?_
    rintro _ rfl
    dsimp only
    rw [in_wi]
    refine OK.ite (fun hw => ?_) (fun hw => ?_)
    · refine OK.ret ⟨hi2, hi2, ?_, rfl, he.tr e2.x⟩
      exact (or0 _).trans (congrArg nI (BS_no (by exact decide_eq_false (fun z => z hw))).symm)
    · refine OK.ret ⟨hi2, hi2, ?_, rfl, he.tr e2.x⟩
      show nI (BS _ i) ||| _ = nI (BS _ (i + 1))
      rw [two_n i (by omega), fa_or]
      exact congrArg nI (BS_yes (by exact decide_eq_true hw)).symm
theorem op_between (h : RLt k n Pm B V c m) (hk : k ≤ 600) (rd : Option Nat) (p v w : Int32) : RO (f_La_between c p v w) (f_Mo_between m rd p v w) (FIN k n Pm B V) := by
  obtain ⟨T, a, q, A⟩ := h.la hk
  unfold f_La_between f_Mo_between
  rw [A.hold, mo_isHeavy, mo_isHeavy, Option.bind_some, Option.bind_some, Option.bind_some]
  refine RO.ii Iff.rfl (fun _ => RO.ret ⟨rfl, A.fin⟩) (fun h1 => RO.ii Iff.rfl (fun _ => RO.ret ⟨rfl, A.fin⟩) (fun h2 => RO.ii Iff.rfl (fun _ => RO.ret ⟨rfl, A.fin⟩) (fun h3 => ?_)))
  obtain ⟨s, hs, rfl⟩ := hold_1 A.n9 A.cn h1
  refine RO.bind (RO.two (bw_c A (p31 A.n9 hs) v w) (bw_between A rd (p31 A.n9 hs) v w)) ?_
  rintro x y ⟨⟨e1, x1⟩, e2, x2⟩
  exact RO.ret ⟨e1.trans e2.symm, (A.fr x1 x2).fin⟩
theorem ab_w {x v e : Nat} (hx : x ≤ 100000) (hv : v ≤ 9999) (he : e ≤ 999) : (nI e < (if 0 ≤ nI x - nI v then nI x - nI v else 0 - (nI x - nI v))) ↔ f_La_within (nI x) (nI v - nI e) (nI v + nI e) = 0 := by
  have h1 : (nI x - nI v).toInt = (x : Int) - v := by rw [fb_subI (by rw [nI_toInt (by omega), nI_toInt (by omega)]; omega) (by rw [nI_toInt (by omega), nI_toInt (by omega)]; omega), nI_toInt (by omega), nI_toInt (by omega)]
  have h2 : (0 - (nI x - nI v)).toInt = (v : Int) - x := by
    rw [fb_subI (by rw [h1, show (0 : Int32).toInt = 0 from rfl]; omega) (by rw [h1, show (0 : Int32).toInt = 0 from rfl]; omega), h1, show (0 : Int32).toInt = 0 from rfl]; omega
  have h3 : (nI v - nI e).toInt = (v : Int) - e := by rw [fb_subI (by rw [nI_toInt (by omega), nI_toInt (by omega)]; omega) (by rw [nI_toInt (by omega), nI_toInt (by omega)]; omega), nI_toInt (by omega), nI_toInt (by omega)]
  have h4 : (nI v + nI e).toInt = (v : Int) + e := by rw [nI_add, nI_toInt (by omega)]; omega
  have h5 : (nI x).toInt = x := nI_toInt (by omega)
  have h6 : (nI e).toInt = e := nI_toInt (by omega)
  have h7 : (0 : Int32).toInt = 0 := rfl
  unfold f_La_within
  by_cases q0 : 0 ≤ nI x - nI v
  · rw [if_pos q0]
    rw [fa_le, h7, h1] at q0
    rw [if_neg (by rw [fa_lt, h5, h3]; omega)]
    by_cases q1 : nI v + nI e < nI x
    · rw [if_pos q1]
      rw [fa_lt, h4, h5] at q1
      refine ⟨fun _ => rfl, fun _ => ?_⟩
      rw [fa_lt, h6, h1]; omega
    · rw [if_neg q1]
      rw [fa_lt, h4, h5] at q1
      refine ⟨fun z => ?_, fun z => absurd z (by decide)⟩
      rw [fa_lt, h6, h1] at z; omega
  · rw [if_neg q0]
    rw [fa_le, h7, h1] at q0
    rw [if_neg (c := nI v + nI e < nI x) (by rw [fa_lt, h5, h4]; omega)]
    by_cases q1 : nI x < nI v - nI e
    · rw [if_pos q1]
      rw [fa_lt, h3, h5] at q1
      refine ⟨fun _ => rfl, fun _ => ?_⟩
      rw [fa_lt, h6, h2]; omega
    · rw [if_neg q1]
      rw [fa_lt, h3, h5] at q1
      refine ⟨fun z => ?_, fun z => absurd z (by decide)⟩
      rw [fa_lt, h6, h2] at z; omega
theorem bw_hour (A : RLa k n Pm B V T a q c m) (rd : Option Nat) {s i0 v e : Nat} (hs : s < 2 ^ n) (hi0 : i0 < n) (hv : v ≤ 9999) (hee : e ≤ 999) : OK (rh_loop (b_Mo_hour_68 (nI i0) (nI s) (nI v) (nI e)) rh_N ((0 : Int32), (0 : Int32), m, rd)) (fun x => x.1 = nI (BS (fun b => decide (¬ f_La_within (nI (WS n (fun i => Wt Pm B V i (9 * (T / 9) + b)) (s ||| 2 ^ i0))) (nI v - nI e) (nI v + nI e) = 0)) 9) ∧ XM m x.2.1) := by
  have hT := A.T30
  have hn := A.n9
  refine OK.loop _ (fun i z => i ≤ 9 ∧ z.1 = nI (BS (fun b => decide (¬ f_La_within (nI (WS n (fun i => Wt Pm B V i (9 * (T / 9) + b)) (s ||| 2 ^ i0))) (nI v - nI e) (nI v + nI e) = 0)) i) ∧ z.2.1 = nI i ∧ XM m z.2.2.1) _ 9 (by omega) ?_ ⟨by omega, rfl, rfl, XM.rf⟩
  rintro i ⟨z1, z2, z3, z4⟩ - ⟨hi, rfl, rfl, he⟩
  have he : XM m z3 := he
  have A := A.r he
  have hs2 : s ||| 2 ^ i0 < 2 ^ n := Nat.or_lt_two_pow hs (Nat.pow_lt_pow_right (by omega) hi0)
  unfold b_Mo_hour_68
  dsimp only
  refine OK.ite (fun hc => ?_) (fun hc => ?_)
  · have : i = 9 := by have := ple (b := 9) hc (by omega) (by omega); omega
    subst this
    exact OK.ret ⟨rfl, he⟩
  · have hi2 : i < 9 := nle (b := 9) hc (by omega) (by omega)
    rw [A.dm, nI_add, nI_1 i, two_n i0 (by omega), fa_or]
    obtain ⟨h', rd', e1, e2⟩ := to_m A.qm z4 (p31 hn hs2) (t := 9 * (T / 9) + i) (by omega)
    refine OK.bind (P := fun x => x = (_, h', rd')) ⟨_, e1, rfl⟩ ?_
    rintro _ rfl
    dsimp only
    have hle := A.sle (s ||| 2 ^ i0) (t := 9 * (T / 9) + i) (by omega)
    have hab := ab_w (x := WS n (fun i_1 => Wt Pm B V i_1 (9 * (T / 9) + i)) (s ||| 2 ^ i0)) (by omega) hv hee
    refine OK.ite (fun hw => ?_) (fun hw => ?_)
    · have hw := hab.mp hw
      refine OK.ret ⟨hi2, hi2, ?_, rfl, he.tr e2.x⟩
      exact (or0 _).trans (congrArg nI (BS_no (by exact decide_eq_false (fun z => z hw))).symm)
    · have hw : ¬ f_La_within _ _ _ = 0 := fun z => hw (hab.mpr z)
      refine OK.ret ⟨hi2, hi2, ?_, rfl, he.tr e2.x⟩
      show nI (BS _ i) ||| _ = nI (BS _ (i + 1))
      rw [two_n i (by omega), fa_or]
      exact congrArg nI (BS_yes (by exact decide_eq_true hw)).symm
theorem isP_has (A : RLa k n Pm B V T a q c m) {i : Nat} (hi : i < n) : (f_Cr_isPerson c (nI i) = 0) ↔ (f_Mo_has (m 0 2) (nI i) = 0) := by
  rw [isP A.qc hi, A.mp, has_t (p31 A.n9 A.pn) (by have := A.n9; omega)]
theorem op_hour (h : RLt k n Pm B V c m) (hk : k ≤ 600) (rd : Option Nat) (p s v e : Int32) : RO (f_La_hour c p s v e) (f_Mo_hour m rd p s v e) (FIN k n Pm B V) := by
  obtain ⟨T, a, q, A⟩ := h.la hk
  unfold f_La_hour f_Mo_hour
  rw [A.one, A.hold, mo_isHeavy, Option.bind_some, Option.bind_some, Option.bind_some, in_wi]
  refine RO.ii Iff.rfl (fun _ => RO.ret ⟨rfl, A.fin⟩) (fun h1 => ?_)
  obtain ⟨i, hi, rfl⟩ := has_1 A h1
  refine RO.ii (isP_has A hi) (fun _ => RO.ret ⟨rfl, A.fin⟩) (fun h2 => ?_)
  have e4 : c 4 1 = nI Pm := A.cp
  have e5 : m 0 2 = nI Pm := A.mp
  rw [e4, e5]
  unfold f_La_isDepth
  by_cases q1 : f_La_within v 0 9999 = 0
  · rw [if_pos q1, if_pos rfl]
    refine RO.ir (fun _ => RO.ret ⟨rfl, A.fin⟩) (fun _ => RO.ir (fun _ => ?_) (fun _ => RO.ret ⟨rfl, A.fin⟩))
    rw [if_pos q1]; exact RO.ret ⟨rfl, A.fin⟩
  · rw [if_neg q1]
    by_cases q2 : f_La_within e 0 999 = 0
    · rw [if_pos q2, if_pos rfl]
      refine RO.ir (fun _ => RO.ret ⟨rfl, A.fin⟩) (fun _ => RO.ir (fun _ => ?_) (fun _ => RO.ret ⟨rfl, A.fin⟩))
      rw [if_neg q1, if_pos q2]; exact RO.ret ⟨rfl, A.fin⟩
    · rw [if_neg q2, if_neg (by decide), if_neg q1, if_neg q2]
      refine RO.ii Iff.rfl (fun _ => RO.ret ⟨rfl, A.fin⟩) (fun h3 => RO.ii Iff.rfl (fun _ => ?_) (fun _ => RO.ret ⟨rfl, A.fin⟩))
      obtain ⟨s, hs, rfl⟩ := hold_1 A.n9 A.cn h3
      obtain ⟨v, -, hv, rfl⟩ := wi_n (lo := 0) (hi := 9999) q1 (by omega) (by omega)
      obtain ⟨e, -, he, rfl⟩ := wi_n (lo := 0) (hi := 999) q2 (by omega) (by omega)
      have hs2 : s ||| 2 ^ i < 2 ^ n := Nat.or_lt_two_pow hs (Nat.pow_lt_pow_right (by omega) hi)
      rw [two_n i (by have := A.n9; omega), fa_or]
      refine RO.bind (RO.two (bw_c A (p31 A.n9 hs2) (nI v - nI e) (nI v + nI e)) (bw_hour A rd hs hi hv he)) ?_
      rintro x y ⟨⟨e1, x1⟩, e2, x2⟩
      exact RO.ret ⟨e1.trans e2.symm, (A.fr x1 x2).fin⟩
end BSS
