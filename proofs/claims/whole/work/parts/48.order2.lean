/-! order: the class's side -/
theorem mnL_top (p : Nat → Bool) (g : Nat → Nat) : ∀ n, mnL p g n ≤ 1000000000
  | 0 => Nat.le_refl _
  | n + 1 => by
    have ih := mnL_top p g n
    unfold mnL
    split
    · split <;> omega
    · exact ih
theorem nI_m1 (e : Nat) : nI (e + 1) + (-1 : Int32) = nI e := by
  rw [← Int32.sub_eq_add_neg]
  exact pk_sub (a := e + 1) (b := 1) (by omega)
def SUB (S s : Nat) : Prop := ∀ j, S.testBit j = true → s.testBit j = true
theorem sub_nand {S s : Nat} (hS : S < 2 ^ 31) : nand S s = 0 ↔ SUB S s := by
  constructor
  · intro h j hj
    have h2 := nand_bit S s hS j
    rw [h, Nat.zero_testBit, hj] at h2
    cases hs : s.testBit j with
    | true => rfl
    | false => rw [hs] at h2; cases h2
  · intro h
    apply Nat.eq_of_testBit_eq
    intro j
    rw [nand_bit S s hS j, Nat.zero_testBit]
    cases hj : S.testBit j with
    | false => rfl
    | true => rw [h j hj]; rfl
theorem SUB.nd {S s i : Nat} (h : SUB S s) (hS : S < 2 ^ 31) : SUB (nand S (2 ^ i)) s := fun j hj => by
  rw [nd_bit hS] at hj
  by_cases z : j = i
  · rw [if_pos z] at hj; cases hj
  · rw [if_neg z] at hj; exact h j hj
theorem SUB.pc {n S s : Nat} (hn : n ≤ 9) (h : SUB S s) (hS : S < 2 ^ n) (hs : s < 2 ^ n) : pc S ≤ pc s := by
  have hp9 := pow9 hn
  rw [(pc_all S (by omega)).2.2.1, (pc_all s (by omega)).2.2.1]
  exact fb_ct_sub (fun j _ hj => h j hj)
section ORDC
variable {k n Pm : Nat} {B : Nat → Nat} {V : Nat → Nat → Nat → Nat} {T a q : Nat} {c m : HI}
theorem lf_c (A : RLa k n Pm B V T a q c m) {s S i : Nat} (hs : s < 2 ^ n) (hS : S < 2 ^ n) (hp : pc S ≤ pc s) (hi : i < n) : OK (f_La_loadIfNext c (nI s) (nI S) (nI i)) (fun x => x.1 = nI (Wt Pm B V i (9 * (T / 9) + (pc s - pc S))) + c 41 (nand S (2 ^ i)) ∧ E8 c x.2) := by
  have hn := A.n9
  have hT := A.T30
  have hp9 := pow9 hn
  have h9 := (pc_all s (by omega)).2.1
  have hle := nand_le S (2 ^ i)
  unfold f_La_loadIfNext
  rw [A.dc, (pc_all s (by omega)).1, (pc_all S (by omega)).1, pk_sub hp, nI_add, two_n i (by omega), andn', nI_clamp (by omega)]
  obtain ⟨c1, e1, g1⟩ := wa_c A.qc hi (t := 9 * (T / 9) + (pc s - pc S)) (by omega)
  rw [e1, Option.bind_some]
  refine OK.g (gd_nI (by omega) (by omega)) (OK.ret ⟨?_, g1⟩)
  show _ + c1 41 _ = _
  rw [g1 41 _ (by omega)]
theorem ll_c (A : RLa k n Pm B V T a q c m) {s S e : Nat} (hs : s < 2 ^ n) (hS : S < 2 ^ n) (hp : pc S ≤ pc s) (he : pc S = e + 1) (htab : ∀ i, i < n → S.testBit i = true → c 41 (nand S (2 ^ i)) = nI (LO n (pc s) (fun i b => Wt Pm B V i (9 * (T / 9) + b)) e (nand S (2 ^ i)))) : OK (f_La_leastLoad c (nI s) (nI S)) (fun x => x.1 = nI (LO n (pc s) (fun i b => Wt Pm B V i (9 * (T / 9) + b)) (e + 1) S) ∧ E8 c x.2) := by
  have hn := A.n9
  have hT := A.T30
  have hp9 := pow9 hn
  have h9 := (pc_all s (by omega)).2.1
  generalize hW : (fun i b => Wt Pm B V i (9 * (T / 9) + b)) = W at htab
  have hWb : ∀ i b, Wt Pm B V i (9 * (T / 9) + b) = W i b := fun i b => by rw [← hW]
  have hW9 : ∀ i b, i < n → W i (pc s - (b + 1)) ≤ 9999 := fun i b hi => by
    rw [← hWb]
    exact A.wle hi (by omega)
  have hvb : ∀ i, S.testBit i = true → W i (pc s - (e + 1)) + LO n (pc s) W e (nand S (2 ^ i)) < 2 ^ 30 := fun i hb => by
    have h2 := nd_pc hn hS hb
    have h4 := hW9 i e h2.1
    have h5 : LO n (pc s) W e (nand S (2 ^ i)) ≤ 1000000000 := by
      cases e with
      | zero => show 0 ≤ _; omega
      | succ e => exact mnL_top _ _ _
    omega
  unfold f_La_leastLoad
  refine OK.bind (OK.loop _ (fun i z => i ≤ n ∧ z.1 = nI (mnL (fun i => S.testBit i) (fun i => W i (pc s - (e + 1)) + LO n (pc s) W e (nand S (2 ^ i))) i) ∧ z.2.1 = nI i ∧ E8 c z.2.2) (fun x => x.1 = nI (LO n (pc s) W (e + 1) S) ∧ E8 c x.2) n (by omega) ?_ ⟨by omega, rfl, rfl, E8.rf⟩) (fun x hx => OK.ret hx)
  rintro i ⟨z1, z2, g⟩ - ⟨hi, rfl, rfl, he8⟩
  dsimp only at he8
  have A' := A.l he8.x
  have e40 : g 4 0 = nI n := A'.cn
  unfold b_La_leastLoad_6
  dsimp only
  simp only [e40]
  refine OK.ite (fun h => ?_) (fun h => ?_)
  · have : i = n := by have := ple h (by omega) (by omega); omega
    subst this
    exact OK.ret ⟨rfl, he8⟩
  have hi2 : i < n := nle h (by omega) (by omega)
  have hb := bit_t (p := S) (i := i) (by omega) (by omega)
  rw [nI_1]
  refine OK.ite (fun h0 => ?_) (fun h0 => ?_)
  · refine OK.ret ⟨hi2, hi2, ?_, rfl, he8⟩
    show nI (mnL _ _ i) = nI (mnL _ _ (i + 1))
    rw [mnL, if_neg (by rw [hb.mp h0]; decide)]
  · have hbt : S.testBit i = true := by
      cases hbt : S.testBit i with
      | true => rfl
      | false => exact absurd (hb.mpr hbt) h0
    refine OK.bind (lf_c A' hs hS hp hi2) ?_
    rintro ⟨x1, x2⟩ ⟨hx, hx8⟩
    dsimp only at hx hx8 ⊢
    refine OK.ret ⟨hi2, hi2, ?_, rfl, he8.tr hx8⟩
    rw [hx, he8 41 _ (by omega), htab i hi2 hbt, he, hWb, nI_add]
    show (if nI _ < nI _ then nI _ else nI _) = nI (mnL _ _ (i + 1))
    have h6 := hvb i hbt
    have h7 := mnL_top (fun i => S.testBit i) (fun i => W i (pc s - (e + 1)) + LO n (pc s) W e (nand S (2 ^ i))) i
    rw [mnL, if_pos hbt]
    by_cases hlt : W i (pc s - (e + 1)) + LO n (pc s) W e (nand S (2 ^ i)) < mnL (fun i => S.testBit i) (fun i => W i (pc s - (e + 1)) + LO n (pc s) W e (nand S (2 ^ i))) i
    · rw [if_pos (ltI (by omega) hlt), if_pos hlt]
    · rw [if_neg (nltI (by omega) hlt), if_neg hlt]
def E41 (c c' : HI) : Prop := ∀ o j, o ≠ 8 → o ≠ 41 → c' o j = c o j
theorem E41.x {h h' : HI} (e : E41 h h') : XC h h' := fun o k q => e o k (fun z => by subst z; rcases q with q | q | q; exact absurd (show false = true from q) (by decide); omega; omega) (fun z => by subst z; rcases q with q | q | q; exact absurd (show false = true from q) (by decide); omega; omega)
/-- the table of least loads -/
theorem tb_c (A : RLa k n Pm B V T a q c m) {s : Nat} (hs : s < 2 ^ n) : OK (rh_loop (b_La_order_35 (nI s)) rh_N ((1 : Int32), rh_up c 41 (0 : Int32).toNatClampNeg (0 : Int32))) (fun x => E41 c x ∧ ∀ S, S ≤ s → SUB S s → x 41 S = nI (LO n (pc s) (fun i b => Wt Pm B V i (9 * (T / 9) + b)) (pc S) S)) := by
  have hn := A.n9
  have hp9 := pow9 hn
  generalize hW : (fun i b => Wt Pm B V i (9 * (T / 9) + b)) = W
  refine OK.loop _ (fun i z => i ≤ s ∧ z.1 = nI (i + 1) ∧ E41 c z.2 ∧ ∀ S, S ≤ i → SUB S s → z.2 41 S = nI (LO n (pc s) W (pc S) S)) _ s (by omega) ?_ ⟨by omega, rfl, fun o j h8 h41 => by show rh_up c 41 _ _ o j = _; rw [up_f, if_neg (by omega)], fun S hS _ => ?_⟩
  · rintro i ⟨z1, g⟩ - ⟨hi, rfl, hE, htab⟩
    dsimp only at hE htab
    have A' := A.l hE.x
    unfold b_La_order_35
    dsimp only
    refine OK.ite (fun h => ?_) (fun h => ?_)
    · have : i = s := by have := (nI_ltI (a := s) (b := i + 1) (by omega) (by omega)).mp h; omega
      subst this
      exact OK.ret ⟨hE, htab⟩
    have hi2 : i + 1 ≤ s := nlt h (by omega) (by omega)
    rw [andn', nI_1]
    have hns := nand_le (i + 1) s
    refine OK.ite (fun h0 => ?_) (fun h0 => ?_)
    · have hsub : SUB (i + 1) s := (sub_nand (by omega)).mp ((nI_eq (b := 0) (by omega) (by omega)).mp h0)
      have hpc := hsub.pc hn (by omega) hs
      have hpos : 0 < pc (i + 1) := by
        rcases Nat.eq_zero_or_pos (pc (i + 1)) with z | z
        · have := (pc_all (i + 1) (by omega)).2.2.2 z; omega
        · exact z
      obtain ⟨e, he⟩ : ∃ e, pc (i + 1) = e + 1 := ⟨pc (i + 1) - 1, by omega⟩
      have hl := ll_c A' hs (S := i + 1) (by omega) hpc he (fun j hj hb => by
        have h2 := nd_pc hn (show i + 1 < 2 ^ n by omega) hb
        rw [hW, htab _ (by omega) (hsub.nd (by omega)), show pc (nand (i + 1) (2 ^ j)) = e by omega])
      rw [hW] at hl
      refine OK.bind hl ?_
      rintro ⟨x1, x2⟩ ⟨hx, hx8⟩
      dsimp only at hx hx8 ⊢
      rw [hx, nI_clamp (by omega)]
      refine OK.g (gd_nI (by omega) (by omega)) (OK.ret ⟨by omega, by omega, rfl, fun o j h8 h41 => ?_, fun S hS hsb => ?_⟩)
      · show rh_up x2 41 _ _ o j = _
        rw [up_f, if_neg (by omega), hx8 o j h8]; exact hE o j h8 h41
      · show rh_up x2 41 (i + 1) _ 41 S = _
        rw [up_f]
        by_cases z : S = i + 1
        · rw [if_pos ⟨rfl, z⟩, z, he]
        · rw [if_neg (by omega), hx8 41 S (by omega)]; exact htab S (by omega) hsb
    · refine OK.ret ⟨by omega, by omega, rfl, hE, fun S hS hsb => ?_⟩
      rcases (show S ≤ i ∨ S = i + 1 by omega) with z | z
      · exact htab S z hsb
      · subst z
        exact absurd (by rw [(sub_nand (by omega)).mpr hsb]; rfl) h0
  · have : S = 0 := by omega
    subst this
    show rh_up c 41 0 0 41 0 = _
    rw [rh_up_s, show pc 0 = 0 by decide]; rfl
/-- who is next -/
theorem nx_c (A : RLa k n Pm B V T a q c m) {s S e : Nat} (hs : s < 2 ^ n) (hS : S < 2 ^ n) (hsub : SUB S s) (he : pc S = e + 1) (htab : ∀ S, S ≤ s → SUB S s → c 41 S = nI (LO n (pc s) (fun i b => Wt Pm B V i (9 * (T / 9) + b)) (pc S) S)) (hSs : S ≤ s) : OK (f_La_nextCarried c (nI s) (nI S)) (fun x => x.1 = nI (FA n (pc s) (fun i b => Wt Pm B V i (9 * (T / 9) + b)) e S) ∧ E8 c x.2) := by
  have hn := A.n9
  have hT := A.T30
  have hp9 := pow9 hn
  have h9 := (pc_all s (by omega)).2.1
  have hpc := hsub.pc hn hS hs
  generalize hW : (fun i b => Wt Pm B V i (9 * (T / 9) + b)) = W at htab
  have hWb : ∀ i b, Wt Pm B V i (9 * (T / 9) + b) = W i b := fun i b => by rw [← hW]
  -- at BELLS that are asked for, a weight is at most 9999
  have hW9 : ∀ i b, i < n → W i (pc s - (b + 1)) ≤ 9999 := fun i b hi => by
    rw [← hWb]
    exact A.wle hi (by omega)
  have hLO : ∀ e S, LO n (pc s) W e S ≤ 1000000000 := fun e S => by
    cases e with
    | zero => show 0 ≤ _; omega
    | succ e => exact mnL_top _ _ _
  unfold f_La_nextCarried
  refine OK.bind (OK.loop _ (fun i z => i ≤ FA n (pc s) W e S ∧ z.1 = nI i ∧ E8 c z.2) (fun r => (∃ h, r = .inr (nI (FA n (pc s) W e S), h) ∧ E8 c h) ∨ (∃ h, r = .inl h ∧ E8 c h ∧ n ≤ FA n (pc s) W e S)) n (by omega) ?_ ⟨by omega, rfl, E8.rf⟩) ?_
  · rintro i ⟨z1, g⟩ hin ⟨hi, rfl, he8⟩
    dsimp only at he8
    have A' := A.l he8.x
    have e40 : g 4 0 = nI n := A'.cn
    unfold b_La_nextCarried_2
    dsimp only
    simp only [e40]
    refine OK.ite (fun h => ?_) (fun h => ?_)
    · have : i = n := by have := ple h (by omega) (by omega); omega
      subst this
      exact OK.ret (Or.inr ⟨g, rfl, he8, hi⟩)
    have hi2 : i < n := nle h (by omega) (by omega)
    have hb := bit_t (p := S) (i := i) (by omega) (by omega)
    rw [nI_1]
    have hlt : ¬ (S.testBit i = true ∧ W i (pc s - (e + 1)) + LO n (pc s) W e (nand S (2 ^ i)) = LO n (pc s) W (e + 1) S) → i + 1 ≤ FA n (pc s) W e S := fun hno => by
      rcases (show i < FA n (pc s) W e S ∨ i = FA n (pc s) W e S by omega) with z | z
      · omega
      · exfalso
        have hy := fa_first_yes (fun i => S.testBit i && decide (W i (pc s - (e + 1)) + LO n (pc s) W e (nand S (2 ^ i)) = LO n (pc s) W (e + 1) S)) n (by show FA n (pc s) W e S < n; omega)
        rw [Bool.and_eq_true] at hy
        have hy2 : S.testBit (FA n (pc s) W e S) = true ∧ W (FA n (pc s) W e S) (pc s - (e + 1)) + LO n (pc s) W e (nand S (2 ^ FA n (pc s) W e S)) = LO n (pc s) W (e + 1) S := ⟨hy.1, of_decide_eq_true hy.2⟩
        rw [← z] at hy2
        exact hno hy2
    refine OK.ite (fun h0 => OK.ret ⟨hi2, hlt (fun z => by rw [hb.mp h0] at z; exact absurd z.1 (by decide)), rfl, he8⟩) (fun h0 => ?_)
    have hbt : S.testBit i = true := by
      cases hbt : S.testBit i with
      | true => rfl
      | false => exact absurd (hb.mpr hbt) h0
    have h2 := nd_pc hn hS hbt
    refine OK.bind (lf_c A' hs hS hpc hi2) ?_
    rintro ⟨x1, x2⟩ ⟨hx, hx8⟩
    dsimp only at hx hx8 ⊢
    have ex : x2 41 S = nI (LO n (pc s) W (e + 1) S) := (hx8 41 S (by omega)).trans ((he8 41 S (by omega)).trans ((htab S hSs hsub).trans (by rw [he])))
    rw [hx, he8 41 _ (by omega), htab _ (by omega) (hsub.nd (by omega)), he, hWb, nI_add, nI_clamp (by omega), show pc (nand S (2 ^ i)) = e by omega]
    simp only [ex]
    have h6 := hW9 i e hi2
    have h7 := hLO e (nand S (2 ^ i))
    have h8 := hLO (e + 1) S
    refine OK.g (gd_nI (by omega) (by omega)) (OK.ite (fun hq => ?_) (fun hq => ?_))
    · have hq := (nI_eq (by omega) (by omega)).mp hq
      refine OK.ret (Or.inl ⟨x2, ?_, he8.tr hx8⟩)
      have : i = FA n (pc s) W e S := by
        rcases (show i < FA n (pc s) W e S ∨ i = FA n (pc s) W e S by omega) with z | z
        · exfalso
          have hno := fa_first_no (fun i => S.testBit i && decide (W i (pc s - (e + 1)) + LO n (pc s) W e (nand S (2 ^ i)) = LO n (pc s) W (e + 1) S)) n i z
          rw [Bool.and_eq_false_iff] at hno
          rcases hno with w | w
          · rw [hbt] at w; cases w
          · exact of_decide_eq_false w hq
        · exact z
      rw [← this]
    · exact OK.ret ⟨hi2, hlt (fun z => hq (by rw [z.2])), rfl, he8.tr hx8⟩
  · rintro r (⟨h, rfl, h8⟩ | ⟨h, rfl, h8, hge⟩)
    · exact OK.ret ⟨rfl, h8⟩
    · exfalso
      -- the least is reached by somebody
      obtain ⟨j, hj, hb, hm⟩ := mnL_in (p := fun i => S.testBit i) (g := fun i => W i (pc s - (e + 1)) + LO n (pc s) W e (nand S (2 ^ i))) (fun i hb => by
        have h2 := nd_pc hn hS hb
        have h6 := hW9 i e h2.1
        have h7 : LO n (pc s) W e (nand S (2 ^ i)) ≤ e * 9999 := LO_le hn (N := pc s) (fun i b hi => hW9 i b hi) e _ (by omega) (by omega)
        have he9 : e ≤ 9 := by have := (pc_all S (by omega)).2.1; omega
        have : e * 9999 ≤ 9 * 9999 := Nat.mul_le_mul_right _ he9
        show W i (pc s - (e + 1)) + _ < _
        omega) (n := n) (pc_ex hn hS (by omega))
      have hno := fa_first_no (fun i => S.testBit i && decide (W i (pc s - (e + 1)) + LO n (pc s) W e (nand S (2 ^ i)) = LO n (pc s) W (e + 1) S)) n j (Nat.lt_of_lt_of_le hj hge)
      rw [Bool.and_eq_false_iff] at hno
      rcases hno with w | w
      · rw [show S.testBit j = true from hb] at w; cases w
      · exact absurd (show W j (pc s - (e + 1)) + LO n (pc s) W e (nand S (2 ^ j)) = LO n (pc s) W (e + 1) S from hm.symm) (of_decide_eq_false w)
end ORDC
