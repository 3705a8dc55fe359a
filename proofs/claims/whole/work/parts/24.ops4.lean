/-! of, climbs, spread, timber, trim, balance, even, swap -/
section OPS4
variable {k n Pm : Nat} {B : Nat → Nat} {V : Nat → Nat → Nat → Nat} {T a q : Nat} {c m : HI}
theorem RLa.mt' (A : RLa k n Pm B V T a q c m) : m 1 (10 : Int32).toNatClampNeg = nI T := A.mt
theorem RLa.ma' (A : RLa k n Pm B V T a q c m) : m 1 (9 : Int32).toNatClampNeg = nI a := A.ma
theorem op_of (h : RLt k n Pm B V c m) (hk : k ≤ 600) (rd : Option Nat) (p v : Int32) : ((f_Cr_has c p = 0 ∨ f_La_within v 0 5 = 0) ∧ OK (f_Mo_of m rd p v) (LOST k n Pm B V c)) ∨ (¬ f_Cr_has c p = 0 ∧ ¬ f_La_within v 0 5 = 0 ∧ RO (f_La_of c p v) (f_Mo_of m rd p v) (FIT k n Pm B V)) := by
  obtain ⟨T, a, q, A⟩ := h.la hk
  have hT := A.T30
  have hn := A.n9
  unfold f_La_of f_Mo_of
  rw [A.one, in_wi, Option.bind_some, A.ct, A.dc, A.dm, A.mt', A.ma', A.ca]
  by_cases h1 : f_Cr_has c p = 0
  · rw [if_pos h1]
    exact Or.inl ⟨Or.inl h1, OK.ret ⟨rfl, A.lost⟩⟩
  · rw [if_neg h1, if_neg h1]
    by_cases h2 : f_La_within v 0 5 = 0
    · rw [if_pos h2]
      exact Or.inl ⟨Or.inr h2, OK.ret ⟨rfl, A.lost⟩⟩
    · rw [if_neg h2]
      refine Or.inr ⟨h1, h2, ?_⟩
      obtain ⟨i, hi, rfl⟩ := has_1 A h1
      obtain ⟨j, -, hj, rfl⟩ := wi_n (lo := 0) (hi := 5) h2 (by omega) (by omega)
      rw [nI_toInt (by omega), nI_clamp (by omega)]
      refine RO.ii Iff.rfl (fun _ => ?_) (fun _ => RO.ii Iff.rfl (fun _ => ?_) (fun _ => RO.ii Iff.rfl (fun _ => ?_) (fun _ => RO.ii Iff.rfl (fun _ => ?_) (fun _ => RO.ii Iff.rfl (fun _ => ?_) (fun _ => ?_)))))
      · have hb := isP A.qc hi
        have e : m 0 2 = nI Pm := A.mp
        rw [e, bitI (p31 hn A.pn) (by omega)]
        rw [Nat.testBit_eq_decide_div_mod_eq] at hb
        refine RO.il (fun hp => ?_) (fun hp => ?_)
        · have := hb.mp hp
          simp only [decide_eq_false_iff_not] at this
          refine RO.ret ⟨?_, A.th, A.fin⟩
          show nI 0 = nI _
          congr 1
          omega
        · have : Pm / 2 ^ i % 2 = 1 := by
            by_cases z : Pm / 2 ^ i % 2 = 1
            · exact z
            · exact absurd (hb.mpr (decide_eq_false z)) hp
          refine RO.ret ⟨?_, A.th, A.fin⟩
          show nI 1 = nI _
          rw [this]
      · exact RO.gl (gd_nI (by omega) (by omega)) (RO.gr (gd_nI (by omega) (by omega)) (RO.ret ⟨(A.bs i hi).1.trans (A.bs i hi).2.1.symm, A.th, A.fin⟩))
      · refine RO.bind (A.wt rd hi (by omega)) ?_
        rintro x y ⟨h1, h2, A'⟩
        exact RO.ret ⟨h1.trans h2.symm, A'.th, A'.fin⟩
      · exact RO.gl (gd_nI (by omega) (by omega)) (RO.gr (gd_nI (by omega) (by omega)) (RO.ret ⟨(A.pl i (by omega)).1, A.th, A.fin⟩))
      · exact RO.ret ⟨rfl, A.th, A.fin⟩
      · rw [if_pos (show (5 : Int) = (j : Int) by omega), show nI (9 * (T / 9)) + 8 = nI (9 * (T / 9) + 8) from nI_add _ 8, show nI (9 * (T / 9)) + 9 = nI (9 * (T / 9) + 9) from nI_add _ 9, show nI (9 * (T / 9) + 9) - 1 = nI (9 * (T / 9) + 8) from pk_sub (a := 9 * (T / 9) + 9) (b := 1) (by omega)]
        refine RO.bind (A.wt rd hi (by omega)) ?_
        rintro x y ⟨h1, h2, A'⟩
        exact RO.ret ⟨h1.trans h2.symm, A'.th, A'.fin⟩
theorem fcl (A : RLa k n Pm B V T a q c m) (rd : Option Nat) {i : Nat} (hi : i < n) (v n0 bits : Int32) : RO (f_La_firstClimb c (nI i) v) (rh_loop (b_Mo_climbs_76 v n0 bits (nI i)) rh_N ((0 : Int32), m, rd)) (fun x y => ((x.1 = y.1 ∧ y.1 ≤ 99) ∨ (x.1 = -1 ∧ ¬ y.1 ≤ 99)) ∧ RLa k n Pm B V T a q x.2 y.2.1) := by
  have hT := A.T30
  unfold f_La_firstClimb
  have key := RO.loop (b_La_firstClimb_2 (nI i) v) (b_Mo_climbs_76 v n0 bits (nI i)) (fun j s t => s.1 = nI j ∧ t.1 = nI j ∧ RLa k n Pm B V T a q s.2 t.2.1) (fun x y => match x with | .inl e => y.1 = nI 100 ∧ RLa k n Pm B V T a q e y.2.1 | .inr t => t.1 = y.1 ∧ y.1 ≤ 99 ∧ RLa k n Pm B V T a q t.2 y.2.1) 100 (by omega) (by
    rintro j ⟨x1, hc⟩ ⟨x2, hm, rd⟩ hj ⟨rfl, rfl, A⟩
    have A : RLa k n Pm B V T a q hc hm := A
    unfold b_La_firstClimb_2 b_Mo_climbs_76
    dsimp only
    refine RO.ii Iff.rfl (fun h1 => RO.ret ⟨?_, A⟩) (fun h1 => ?_)
    · have : j = 100 := by
        have := (nI_ltI (a := 99) (b := j) (by omega) (by omega)).mp h1
        omega
      subst this; rfl
    have hi2 : j ≤ 99 := nlt (b := 99) h1 (by omega) (by omega)
    rw [A.ct, A.mt', nI_add]
    refine RO.bind (A.wt rd hi (by omega)) ?_
    rintro ⟨x1, hc'⟩ ⟨x2, hm', rd'⟩ ⟨h1, h2, A'⟩
    dsimp only at h1 h2 A' ⊢
    subst h1; subst h2
    exact RO.ix (by rw [fa_lt, fa_le]; omega) (fun _ => RO.ret ⟨by omega, nI_1 j, nI_1 j, A'⟩) (fun _ => RO.ret ⟨rfl, nI_le (b := 99) hi2 (by omega), A'⟩)) (s := (0, c)) (t := (0, m, rd)) ⟨rfl, rfl, A⟩
  obtain ⟨x, y, e1, e2, hp⟩ := key
  rw [e1, e2, Option.bind_some]
  cases x with
  | inl e => exact RO.ret ⟨Or.inr ⟨rfl, by rw [hp.1]; decide⟩, hp.2⟩
  | inr t => exact RO.ret ⟨Or.inl ⟨hp.1, hp.2.1⟩, hp.2.2⟩
theorem op_climbs (h : RLt k n Pm B V c m) (hk : k ≤ 600) (rd : Option Nat) (v p : Int32) : RO (f_La_climbs c v p) (f_Mo_climbs m rd v p) (FIN k n Pm B V) := by
  obtain ⟨T, a, q, A⟩ := h.la hk
  have hT := A.T30
  have hn := A.n9
  unfold f_La_climbs f_Mo_climbs
  rw [mo_isHeavy, Option.bind_some, in_wi]
  refine RO.ii Iff.rfl (fun _ => RO.ret ⟨rfl, A.fin⟩) (fun h1 => RO.ii Iff.rfl (fun _ => RO.ret ⟨rfl, A.fin⟩) (fun h2 => ?_))
  obtain ⟨j, -, hj, rfl⟩ := wi_n (lo := 0) (hi := 99) h2 (by omega) (by omega)
  refine RO.bind (P := FIN k n Pm B V) (RO.loop _ _ (fun i s t => i ≤ n ∧ s.1 = t.1 ∧ s.2.1 = nI i ∧ t.2.1 = nI i ∧ RLa k n Pm B V T a i s.2.2 t.2.2.1) _ n (by omega) ?_ ⟨Nat.zero_le _, rfl, rfl, rfl, A.beg⟩) (fun x y hp => RO.ret hp)
  rintro i ⟨b1, x1, hc⟩ ⟨b2, x2, hm, rd⟩ - ⟨hi, rfl, rfl, rfl, A⟩
  have A : RLa k n Pm B V T a i hc hm := A
  unfold b_La_climbs_35 b_Mo_climbs_34
  dsimp only
  simp only [A.cn, A.mn]
  refine RO.ii Iff.rfl (fun h1 => RO.ret ⟨rfl, A.fin⟩) (fun h1 => ?_)
  have hi2 : i < n := nle h1 (by omega) (by omega)
  rw [A.ct, A.mt', nI_add]
  refine RO.bind (A.wt rd hi2 (by omega)) ?_
  rintro ⟨x1, hc'⟩ ⟨x2, hm', rd'⟩ ⟨h1, h2, A'⟩
  dsimp only at h1 h2 A' ⊢
  subst h1; subst h2
  have go : ∀ b : Int32, RO ((f_La_firstClimb hc' (nI i) v).bind (fun x9 => (f_Ro_add x9.2 x9.1).bind (fun x10 => some (Sum.inl (α := Int32 × Int32 × HI) (β := Int32 × HI) (b1 ||| b, nI i + 1, x10))))) (j_Mo_climbs_71 hm' rd' v (nI j) (nI i) b1 b) (LQ (fun s t => i < n ∧ (i + 1 ≤ n ∧ s.1 = t.1 ∧ s.2.1 = nI (i + 1) ∧ t.2.1 = nI (i + 1) ∧ RLa k n Pm B V T a (i + 1) s.2.2 t.2.2.1)) (FIN k n Pm B V)) := by
    intro b
    unfold j_Mo_climbs_71
    refine RO.bind (fcl A' rd' hi2 v (nI j) (b1 ||| b)) ?_
    rintro ⟨x1, hc⟩ ⟨x2, hm, rd⟩ ⟨hp, A⟩
    have A : RLa k n Pm B V T a i hc hm := A
    dsimp only at hp ⊢
    rcases hp with ⟨rfl, hp⟩ | ⟨rfl, hp⟩
    · rw [if_pos hp]
      exact RO.bind (A.add (by omega) x1) (fun x y A => RO.ret ⟨hi2, hi2, rfl, nI_1 i, nI_1 i, A⟩)
    · rw [if_neg hp]
      exact RO.bind (A.add (by omega) _) (fun x y A => RO.ret ⟨hi2, hi2, rfl, nI_1 i, nI_1 i, A⟩)
  refine RO.ii Iff.rfl (fun _ => ?_) (fun _ => go _)
  have g := go 0
  rw [or0] at g
  exact g
theorem op_spread (h : RLt k n Pm B V c m) (hk : k ≤ 600) (rd : Option Nat) (p : Int32) : RO (f_La_spread c p) (f_Mo_spread m rd p) (FIN k n Pm B V) := by
  obtain ⟨T, a, q, A⟩ := h.la hk
  have hT := A.T30
  have hn := A.n9
  unfold f_La_spread f_Mo_spread
  rw [A.hold, Option.bind_some]
  refine RO.ii Iff.rfl (fun _ => RO.ret ⟨rfl, A.fin⟩) (fun h1 => ?_)
  obtain ⟨s, hs, rfl⟩ := hold_1 A.n9 A.cn h1
  have hs1 := p31 hn hs
  rw [A.dc]
  obtain ⟨h', e1, g1⟩ := to_c A.qc hs1 (t := 9 * (T / 9)) (by omega)
  refine RO.bl (P := fun x => x = (_, h')) ⟨_, e1, rfl⟩ ?_
  rintro _ rfl
  have A := A.l g1.x
  dsimp only
  refine RO.bind (P := fun x y => ∃ l hv : Nat, l ≤ 8 ∧ hv ≤ 8 ∧ x.1 = nI l ∧ x.2.1 = nI hv ∧ x.2.2.1 = nI (WS n (fun i => Wt Pm B V i (9 * (T / 9) + l)) s) ∧ x.2.2.2.1 = nI (WS n (fun i => Wt Pm B V i (9 * (T / 9) + hv)) s) ∧ y.1 = nI l ∧ y.2.1 = nI hv ∧ RLa k n Pm B V T a q x.2.2.2.2 y.2.2.1)
    (RO.loop _ _ (fun i x y => i ≤ 8 ∧ ∃ l hv : Nat, l ≤ 8 ∧ hv ≤ 8 ∧ x.1 = nI l ∧ x.2.1 = nI hv ∧ x.2.2.1 = nI (WS n (fun i => Wt Pm B V i (9 * (T / 9) + l)) s) ∧ x.2.2.2.1 = nI (WS n (fun i => Wt Pm B V i (9 * (T / 9) + hv)) s) ∧ x.2.2.2.2.1 = nI (i + 1) ∧ y.1 = nI l ∧ y.2.1 = nI hv ∧ y.2.2.1 = nI (i + 1) ∧ RLa k n Pm B V T a q x.2.2.2.2.2 y.2.2.2.1) _ 8 (by omega) ?_ ⟨by omega, 0, 0, by omega, by omega, rfl, rfl, rfl, rfl, rfl, rfl, rfl, rfl, A⟩) ?_
  · rintro i ⟨x1, x2, x3, x4, x5, hc⟩ ⟨y1, y2, y3, hm, rd⟩ - ⟨hi, l, hv, hl, hh, rfl, rfl, rfl, rfl, rfl, rfl, rfl, rfl, A⟩
    have A : RLa k n Pm B V T a q hc hm := A
    unfold b_La_spread_38 b_Mo_spread_22
    dsimp only
    refine RO.ii Iff.rfl (fun h1 => RO.ret ⟨l, hv, hl, hh, rfl, rfl, rfl, rfl, rfl, rfl, A⟩) (fun h1 => ?_)
    have hi2 : i + 1 < 9 := nle (b := 9) h1 (by omega) (by omega)
    rw [A.dc, A.dm, nI_add]
    refine RO.bind (A.tog rd hs1 (by omega)) ?_
    rintro ⟨x1, hc'⟩ ⟨x2, hm', rd'⟩ ⟨h1, h2, A'⟩
    dsimp only at h1 h2 A' ⊢
    subst h1; subst h2
    rw [A'.dm, nI_add]
    obtain ⟨hm2, rd2, e2, g2⟩ := to_m A'.qm rd' hs1 (t := 9 * (T / 9) + l) (by omega)
    refine RO.br (P := fun x => x = (_, hm2, rd2)) ⟨_, e2, rfl⟩ ?_
    rintro _ rfl
    have A2 := A'.r g2.x
    dsimp only
    unfold j_Mo_spread_62
    rw [A2.dm, nI_add]
    obtain ⟨hm3, rd3, e3, g3⟩ := to_m A2.qm rd2 hs1 (t := 9 * (T / 9) + hv) (by omega)
    have A3 := A2.r g3.x
    rw [e3]
    simp only [Option.bind_some]
    refine RO.ii Iff.rfl (fun _ => ?_) (fun _ => ?_)
    · exact RO.ii Iff.rfl (fun _ => RO.ret ⟨by omega, by omega, l, hv, hl, hh, rfl, rfl, rfl, rfl, nI_1 _, rfl, rfl, nI_1 _, A3⟩) (fun _ => RO.ret ⟨by omega, by omega, l, i + 1, hl, by omega, rfl, rfl, rfl, rfl, nI_1 _, rfl, rfl, nI_1 _, A3⟩)
    · exact RO.ii Iff.rfl (fun _ => RO.ret ⟨by omega, by omega, i + 1, hv, by omega, hh, rfl, rfl, rfl, rfl, nI_1 _, rfl, rfl, nI_1 _, A3⟩) (fun _ => RO.ret ⟨by omega, by omega, i + 1, i + 1, by omega, by omega, rfl, rfl, rfl, rfl, nI_1 _, rfl, rfl, nI_1 _, A3⟩)
  · rintro ⟨x1, x2, x3, x4, hc⟩ ⟨y1, y2, hm, rd⟩ ⟨l, hv, hl, hh, rfl, rfl, rfl, rfl, rfl, rfl, A⟩
    have A : RLa k n Pm B V T a q hc hm := A
    dsimp only
    refine RO.bind (A.tell _) (fun x y A => RO.bind (A.add (by omega) _) (fun x y A => ?_))
    rw [A.dm, nI_add]
    obtain ⟨hm2, rd2, e2, g2⟩ := to_m A.qm rd hs1 (t := 9 * (T / 9) + hv) (by omega)
    refine RO.br (P := fun x => x = (_, hm2, rd2)) ⟨_, e2, rfl⟩ ?_
    rintro _ rfl
    have A := A.r g2.x
    dsimp only
    rw [A.dm, nI_add]
    obtain ⟨hm3, rd3, e3, g3⟩ := to_m A.qm rd2 hs1 (t := 9 * (T / 9) + l) (by omega)
    refine RO.br (P := fun x => x = (_, hm3, rd3)) ⟨_, e3, rfl⟩ ?_
    rintro _ rfl
    exact RO.ret ⟨rfl, (A.r g3.x).fin⟩
theorem op_timber (h : RLt k n Pm B V c m) (hk : k ≤ 600) (rd : Option Nat) (p v : Int32) : RO (f_La_timber c p v) (f_Mo_timber m rd p v) (FIN k n Pm B V) := by
  obtain ⟨T, a, q, A⟩ := h.la hk
  have hT := A.T30
  have hn := A.n9
  unfold f_La_timber f_Mo_timber
  rw [A.hold, Option.bind_some, in_wi]
  refine RO.ii Iff.rfl (fun _ => RO.ret ⟨rfl, A.fin⟩) (fun h1 => RO.ii Iff.rfl (fun _ => RO.ret ⟨rfl, A.fin⟩) (fun h2 => ?_))
  obtain ⟨s, hs, rfl⟩ := hold_1 A.n9 A.cn h1
  have hs1 := p31 hn hs
  have hv0 : ¬ v = 0 := by
    rintro rfl
    exact h2 rfl
  refine RO.bind (P := fun x y => x.1 = y.1 ∧ x.2.1 = y.2.1 ∧ RLa k n Pm B V T a q x.2.2 y.2.2.1)
    (RO.loop _ _ (fun i x y => i ≤ 9 ∧ x.1 = y.1 ∧ x.2.1 = y.2.1 ∧ x.2.2.1 = nI i ∧ y.2.2.1 = nI i ∧ RLa k n Pm B V T a q x.2.2.2 y.2.2.2.1) _ 9 (by omega) ?_ ⟨by omega, rfl, rfl, rfl, rfl, A⟩) ?_
  · rintro i ⟨x1, x2, x3, hc⟩ ⟨y1, y2, y3, hm, rd⟩ - ⟨hi, rfl, rfl, rfl, rfl, A⟩
    have A : RLa k n Pm B V T a q hc hm := A
    unfold b_La_timber_32 b_Mo_timber_34
    dsimp only
    refine RO.ii Iff.rfl (fun h1 => RO.ret ⟨rfl, rfl, A⟩) (fun h1 => ?_)
    have hi2 : i < 9 := nle (b := 9) h1 (by omega) (by omega)
    rw [A.dc, A.dm, nI_add]
    refine RO.bind (A.tog rd hs1 (by omega)) ?_
    rintro ⟨y1, hc'⟩ ⟨y2, hm', rd'⟩ ⟨h1, h2, A'⟩
    dsimp only at h1 h2 A' ⊢
    subst h1; subst h2
    exact RO.ix (by rw [fa_lt, fa_le]; omega) (fun _ => RO.ret ⟨by omega, by omega, rfl, rfl, nI_1 _, nI_1 _, A'⟩) (fun _ => RO.ret ⟨by omega, by omega, rfl, rfl, nI_1 _, nI_1 _, A'⟩)
  · rintro ⟨x1, x2, hc⟩ ⟨y1, y2, hm, rd⟩ ⟨rfl, rfl, A⟩
    have A : RLa k n Pm B V T a q hc hm := A
    dsimp only
    exact RO.bind (A.tell _) (fun x y A => RO.gl hv0 (RO.gr hv0 (RO.bind (A.add (by omega) _) (fun x y A => RO.ret ⟨rfl, A.fin⟩))))
end OPS4
