/-! over the river: the class's search -/
def LYR (n Pm bt : Nat) (W : Nat → Nat → Nat) (S j : Nat) (g : Nat → Nat → Int64) : Prop := ∀ O, O < 512 → (RB g j O = true ↔ (SUB O S ∧ NR n Pm bt W S j (S ^^^ O)))
def LCk (n Pm bt : Nat) (W : Nat → Nat → Nat) (S k : Nat) (g : Nat → Nat → Int64) : Prop := (∀ j, j ≤ k → LYR n Pm bt W S j g) ∧ ∀ j, k < j → j < 20 → ∀ O, O < 512 → RB g j O = false
section RV2
variable {n Pm bt S t0 : Nat} {W : Nat → Nat → Nat} {h : HI}
theorem wd_ok (hn : n ≤ 9) (rv : RVC n Pm S bt t0 h) {k : Nat} (hP : Pm < 2 ^ 31) (hbt : bt ≤ 9999) (hk : k < 19) (hS : S < 2 ^ n) (tc : TC n (W k) h) (hW : ∀ s, WS n (W k) s ≤ 89991) {g : Nat → Nat → Int64} (hg : LCk n Pm bt W S k g) : OK (f_Ri_widen h g (nI k)) (fun x => LCk n Pm bt W S (k + 1) x) := by
  have hp9 := pow9 hn
  unfold f_Ri_widen
  refine OK.bind (P := fun x => ∀ k' O', O' < 512 → (RB x k' O' = true ↔ (RB g k' O' = true ∨ (k' = k + 1 ∧ ∃ O s, O ≤ S ∧ RB g k O = true ∧ SUB s (TH S k (S ^^^ O)) ∧ CC n Pm bt W k s ∧ O' = O ^^^ s)))) (OK.loop _ (fun i x => i ≤ S + 1 ∧ x.1 = nI i ∧ ∀ k' O', O' < 512 → (RB x.2 k' O' = true ↔ (RB g k' O' = true ∨ (k' = k + 1 ∧ ∃ O s, O < i ∧ RB g k O = true ∧ SUB s (TH S k (S ^^^ O)) ∧ CC n Pm bt W k s ∧ O' = O ^^^ s)))) _ (S + 1) (by omega) ?_ ⟨by omega, rfl, fun k' O' hO' => ?_⟩) (fun x hx => OK.ret ?_)
  · rintro i ⟨v, g'⟩ - ⟨hi', rfl, hB⟩
    dsimp only at hB
    unfold b_Ri_widen_2
    dsimp only
    rw [rv.2.1]
    refine OK.ite (fun hc => OK.ret ?_) (fun hc => ?_)
    · have := (nI_ltI (a := S) (b := i) (by omega) (by omega)).mp hc
      have : i = S + 1 := by omega
      subst this
      intro k' O' hO'
      rw [hB k' O' hO']
      constructor
      · rintro (z | ⟨z1, O, s, z2, z3⟩)
        · exact Or.inl z
        · exact Or.inr ⟨z1, O, s, by omega, z3⟩
      · rintro (z | ⟨z1, O, s, z2, z3⟩)
        · exact Or.inl z
        · exact Or.inr ⟨z1, O, s, by omega, z3⟩
    have hi2 : i ≤ S := nlt hc (by omega) (by omega)
    rw [ir_ok (by omega) (by omega), Option.bind_some]
    have hsame : RB g' k i = true ↔ RB g k i = true := by
      rw [hB k i (by omega)]
      exact ⟨fun z => z.elim id (fun z => by have := z.1; omega), Or.inl⟩
    by_cases hr : RB g' k i = true
    · rw [if_pos hr, if_neg (by decide)]
      have hgr := hsame.mp hr
      have hsub := ((hg.1 k (Nat.le_refl _) i (by omega)).mp hgr).1
      rw [bk_ok rv (by omega) (by omega) hsub]
      refine OK.bind (wd29 hn rv hP hbt hk hS hsub (TH_sub (SUB.rf.xor hsub)) tc hW g') (fun g2 hg2 => OK.ret ⟨by omega, by omega, nI_1 i, fun k' O' hO' => ?_⟩)
      show RB g2 k' O' = true ↔ _
      rw [hg2 k' O' hO', hB k' O' hO']
      constructor
      · rintro ((z | ⟨z1, O, s, z2, z3⟩) | ⟨z1, s, z2, z3, z4⟩)
        · exact Or.inl z
        · exact Or.inr ⟨z1, O, s, by omega, z3⟩
        · exact Or.inr ⟨z1, i, s, by omega, hgr, z2, z3, z4⟩
      · rintro (z | ⟨z1, O, s, z2, z3⟩)
        · exact Or.inl (Or.inl z)
        · rcases (show O < i ∨ O = i by omega) with y | y
          · exact Or.inl (Or.inr ⟨z1, O, s, y, z3⟩)
          · subst y; exact Or.inr ⟨z1, s, z3.2⟩
    · rw [if_neg hr, if_pos rfl]
      refine OK.ret ⟨by omega, by omega, nI_1 i, fun k' O' hO' => ?_⟩
      show RB g' k' O' = true ↔ _
      rw [hB k' O' hO']
      constructor
      · rintro (z | ⟨z1, O, s, z2, z3⟩)
        · exact Or.inl z
        · exact Or.inr ⟨z1, O, s, by omega, z3⟩
      · rintro (z | ⟨z1, O, s, z2, z3⟩)
        · exact Or.inl z
        · rcases (show O < i ∨ O = i by omega) with y | y
          · exact Or.inr ⟨z1, O, s, y, z3⟩
          · subst y; exact absurd (hsame.mpr z3.1) hr
  · exact ⟨Or.inl, fun z => z.elim id (fun ⟨_, O, s, z, _⟩ => by omega)⟩
  · refine ⟨fun j hj O' hO' => ?_, fun j hj hj2 O' hO' => ?_⟩
    · rw [hx j O' hO']
      rcases (show j ≤ k ∨ j = k + 1 by omega) with y | y
      · rw [hg.1 j y O' hO']
        exact ⟨fun z => z.elim id (fun z => by have := z.1; omega), Or.inl⟩
      · subst y
        rw [hg.2 (k + 1) (by omega) (by omega) O' hO']
        constructor
        · rintro (z | ⟨_, O, s, z1, z2, z3, z4, rfl⟩)
          · cases z
          · obtain ⟨w1, w2⟩ := (hg.1 k (Nat.le_refl _) O (by omega)).mp z2
            refine ⟨w1.xor (z3.tr (TH_sub (NR_sub w2))), S ^^^ O, s, w2, z3, z4, ?_⟩
            rw [Nat.xor_assoc]
        · rintro ⟨w1, L, s, w2, w3, w4, w5⟩
          have hL := NR_sub w2
          have hle := (SUB.rf.xor hL : SUB (S ^^^ L) S).le
          refine Or.inr ⟨rfl, S ^^^ L, s, hle, (hg.1 k (Nat.le_refl _) _ (by omega)).mpr ⟨SUB.rf.xor hL, by rw [xx]; exact w2⟩, by rw [xx]; exact w3, w4, ?_⟩
          rw [Nat.xor_assoc, ← w5, xx]
    · have := hx j O' hO'
      rw [hg.2 j (by omega) hj2 O' hO'] at this
      cases z : RB x j O' with
      | false => rfl
      | true =>
        rcases this.mp z with y | y
        · cases y
        · have := y.1; omega
theorem ce_ok (hn : n ≤ 9) (rv : RVC n Pm S bt t0 h) {k : Nat} (hP : Pm < 2 ^ 31) (hbt : bt ≤ 9999) (hk : k < 20) (hS : S < 2 ^ n) (tc : TC n (W k) h) (hW : ∀ s, WS n (W k) s ≤ 89991) {g : Nat → Nat → Int64} (hg : LYR n Pm bt W S k g) : OK (f_Ri_canEnd h g (nI k)) (fun x => (x = 1 ∧ ∃ L, NR n Pm bt W S k L ∧ CC n Pm bt W k L) ∨ (x = 0 ∧ ¬ ∃ L, NR n Pm bt W S k L ∧ CC n Pm bt W k L)) := by
  have hp9 := pow9 hn
  unfold f_Ri_canEnd
  refine OK.bind (P := fun x => Sum.elim (fun _ : Unit => ¬ ∃ L, NR n Pm bt W S k L ∧ CC n Pm bt W k L) (fun v : Int32 => v = 1 ∧ ∃ L, NR n Pm bt W S k L ∧ CC n Pm bt W k L) x) (OK.loop _ (fun i x => i ≤ S ∧ x = nI i ∧ ∀ O, O < i → ¬ (RB g k O = true ∧ CC n Pm bt W k (S ^^^ O))) _ S (by omega) ?_ ⟨by omega, rfl, fun O hO => by omega⟩) (fun x hx => ?_)
  · rintro i _ - ⟨hi', rfl, hB⟩
    unfold b_Ri_canEnd_2
    rw [rv.2.1]
    refine OK.ite (fun hc => OK.ret ?_) (fun hc => ?_)
    · have : i = S := by have := ple hc (by omega) (by omega); omega
      subst this
      rintro ⟨L, h1, h2⟩
      have hL := NR_sub h1
      have hle := (SUB.rf.xor hL : SUB (i ^^^ L) i).le
      have hne : i ^^^ L ≠ i := fun z => by
        have : i ^^^ (i ^^^ L) = 0 := by rw [z, Nat.xor_self]
        rw [xx] at this
        exact CC_0 h2 this
      exact hB (i ^^^ L) (by omega) ⟨(hg _ (by omega)).mpr ⟨SUB.rf.xor hL, by rw [xx]; exact h1⟩, by rw [xx]; exact h2⟩
    have hi2 : i < S := nle hc (by omega) (by omega)
    rw [ir_ok hk (by omega), Option.bind_some, nI_1]
    have next : ¬ (RB g k i = true ∧ CC n Pm bt W k (S ^^^ i)) → (i < S ∧ i + 1 ≤ S ∧ nI (i + 1) = nI (i + 1) ∧ ∀ O, O < i + 1 → ¬ (RB g k O = true ∧ CC n Pm bt W k (S ^^^ O))) := fun hno => by
      refine ⟨hi2, hi2, rfl, fun O hO => ?_⟩
      rcases (show O < i ∨ O = i by omega) with y | y
      · exact hB O y
      · subst y; exact hno
    by_cases hr : RB g k i = true
    · rw [if_pos hr, if_neg (by decide)]
      obtain ⟨w1, w2⟩ := (hg i (by omega)).mp hr
      have hle := (SUB.rf.xor w1 : SUB (S ^^^ i) S).le
      rw [andn', nandx (by omega) w1]
      obtain ⟨x, hx1, hx2⟩ := ca_ok hn rv hP hbt (k := k) (s := S ^^^ i) (by omega) tc hW
      rw [hx1, Option.bind_some]
      rcases hx2 with ⟨rfl, hc⟩ | ⟨rfl, hc⟩
      · rw [if_neg (by decide)]
        exact OK.ret ⟨rfl, S ^^^ i, w2, hc⟩
      · rw [if_pos rfl]
        exact OK.ret (next (fun z => hc z.2))
    · rw [if_neg hr, if_pos rfl]
      exact OK.ret (next (fun z => hr z.1))
  · cases x with
    | inl u => exact OK.ret (Or.inr ⟨rfl, hx⟩)
    | inr v => exact OK.ret (Or.inl hx)
theorem fj_ok (g : Nat → Nat → Int64) : OK (f_Ar_fillJ_33 g 0) (fun x => ∀ j, j < 160 → x 33 j = 0) := by
  unfold f_Ar_fillJ_33
  refine OK.bind (OK.loop _ (fun i x => i ≤ 160 ∧ x.1 = nI i ∧ ∀ j, j < i → x.2 33 j = 0) (fun x => ∀ j, j < 160 → x 33 j = 0) 160 (by omega) ?_ ⟨by omega, rfl, fun j hj => by omega⟩) (fun x hx => OK.ret hx)
  rintro i ⟨v, g'⟩ - ⟨hi', rfl, hB⟩
  dsimp only at hB
  unfold b_Ar_fillJ_33_6
  dsimp only
  refine OK.ite (fun hc => OK.ret ?_) (fun hc => ?_)
  · have : i = 160 := by have := ple (b := 160) hc (by omega) (by omega); omega
    subst this; exact hB
  have hi2 : i < 160 := nle (b := 160) hc (by omega) (by omega)
  rw [nI_clamp (by omega)]
  refine OK.g (gd_nI (by omega) (by omega)) (OK.ret ⟨hi2, hi2, nI_1 i, fun j hj => ?_⟩)
  show rh_up g' 33 i 0 33 j = 0
  by_cases z : j = i
  · subst z; rw [rh_up_s]
  · rw [gup _ _ _ _ z]; exact hB j (by omega)
theorem RVC.e12 {h' : HI} (rv : RVC n Pm S bt t0 h) (e : E12 h h') : RVC n Pm S bt t0 h' := ⟨(e 4 1 (by omega) (by omega)).trans rv.1, (e 32 2 (by omega) (by omega)).trans rv.2.1, (e 32 3 (by omega) (by omega)).trans rv.2.2.1, (e 32 4 (by omega) (by omega)).trans rv.2.2.2⟩
/-- what is known when the fewest crossings are found -/
def FWD (n Pm bt : Nat) (W : Nat → Nat → Nat) (S k : Nat) (g : Nat → Nat → Int64) : Prop := (∀ j, j ≤ k → LYR n Pm bt W S j g) ∧ ∀ O, O < 512 → (RB g (k + 1) O = true ↔ O = S)
theorem fw_ok {B : Nat → Nat} {V : Nat → Nat → Nat → Nat} (q : QC n Pm B V h) (rv : RVC n Pm S bt t0 h) (hWt : ∀ k i, W k i = Wt Pm B V i (t0 + k)) (ht0 : t0 < 2 ^ 29) (hbt : bt ≤ 9999) (hS : S < 2 ^ n) {M : Nat} (hM : M ≤ 19) (g : Nat → Nat → Int64) : OK (f_Ri_fewest h g (nI M)) (fun x => E12 h x.2.1 ∧ ((∃ k, k % 2 = 0 ∧ k < M ∧ x.1 = nI (k + 1) ∧ NR n Pm bt W S (k + 1) 0 ∧ (∀ j, j < k → ¬ NR n Pm bt W S (j + 1) 0) ∧ FWD n Pm bt W S k x.2.2) ∨ (x.1 = -2 ∧ ∀ j, j < M → ¬ NR n Pm bt W S (j + 1) 0))) := by
  have hn := q.1
  have hp9 := pow9 hn
  have hP : Pm < 2 ^ 31 := p31 hn q.2.1
  have hWf : ∀ k, W k = fun i => Wt Pm B V i (t0 + k) := fun k => funext (hWt k)
  have hW : ∀ k, k < 20 → ∀ s, WS n (W k) s ≤ 89991 := fun k hk s => by
    rw [hWf k]
    refine Nat.le_trans (fb_sm_bound (c := 9999) (fun j hj => ?_)) (by have := Nat.mul_le_mul_right 9999 hn; omega)
    dsimp only
    split
    · exact Wt_le q hj (by omega)
    · omega
  unfold f_Ri_fewest
  refine OK.bind (fj_ok g) (fun g0 hg0 => ?_)
  obtain ⟨g1, e1, e2⟩ := rc_ok (g := g0) (k := 0) (O := 0) (by omega) (by omega)
  rw [show f_Ri_reach g0 (0 : Int32) (0 : Int32) = some g1 from e1, Option.bind_some]
  have hz : ∀ j O, j < 20 → O < 512 → RB g0 j O = false := fun j O hj hO => by
    unfold RB
    rw [hg0 _ (by omega), bl_0]
  have h0 : LCk n Pm bt W S 0 g1 := by
    refine ⟨fun j hj O hO => ?_, fun j hj hj2 O hO => ?_⟩
    · have : j = 0 := by omega
      subst this
      rw [e2 0 O hO, hz 0 O (by omega) hO, Bool.false_or, decide_eq_true_eq]
      constructor
      · rintro ⟨_, rfl⟩
        refine ⟨fun j hj => absurd hj (by rw [Nat.zero_testBit]; decide), ?_⟩
        show S ^^^ 0 = S
        rw [Nat.xor_zero]
      · rintro ⟨_, hx⟩
        have hx : S ^^^ O = S := hx
        refine ⟨rfl, ?_⟩
        have : S ^^^ (S ^^^ O) = 0 := by rw [hx, Nat.xor_self]
        rw [xx] at this; exact this
    · rw [e2 j O hO, hz j O hj2 hO, Bool.false_or, decide_eq_false (by omega)]
  refine OK.bind (P := fun x => Sum.elim (fun y : HI × (Nat → Nat → Int64) => E12 h y.1 ∧ ∀ j, j < M → ¬ NR n Pm bt W S (j + 1) 0) (fun y : Int32 × HI × (Nat → Nat → Int64) => E12 h y.2.1 ∧ ∃ k, k % 2 = 0 ∧ k < M ∧ y.1 = nI (k + 1) ∧ NR n Pm bt W S (k + 1) 0 ∧ (∀ j, j < k → ¬ NR n Pm bt W S (j + 1) 0) ∧ FWD n Pm bt W S k y.2.2) x) (OK.loop _ (fun k x => k ≤ M ∧ x.1 = nI k ∧ E12 h x.2.1 ∧ (k < M → LCk n Pm bt W S k x.2.2) ∧ ∀ j, j < k → ¬ NR n Pm bt W S (j + 1) 0) _ M (by omega) ?_ ⟨by omega, rfl, E12.rf, fun _ => h0, fun j hj => by omega⟩) (fun x hx => ?_)
  · rintro k ⟨v, h', g'⟩ - ⟨hk', rfl, hE, hL, hno⟩
    dsimp only at hE hL
    have rv' := rv.e12 hE
    unfold b_Ri_fewest_16
    dsimp only
    rw [rv'.2.2.2, nI_add]
    refine OK.ite (fun hc => OK.ret ?_) (fun hc => ?_)
    · have := ple hc (by omega) (by omega)
      exact ⟨hE, fun j hj => hno j (by omega)⟩
    have hk : k < M := nle hc (by omega) (by omega)
    have hL := hL hk
    refine OK.bind (su_c (q.e12 hE) (t := t0 + k) (by omega)) ?_
    rintro h2 ⟨hE2, tc⟩
    rw [← hWf k] at tc
    have hE := hE.tr hE2
    have rv2 := rv'.e12 hE2
    have goon : ¬ NR n Pm bt W S (k + 1) 0 → OK (if nI M ≤ nI k + (1 : Int32) then some (.inl (nI k + (1 : Int32), h2, g')) else (f_Ri_widen h2 g' (nI k)).bind (fun x10 => some (.inl (nI k + (1 : Int32), h2, x10))) : Option ((Int32 × HI × (Nat → Nat → Int64)) ⊕ ((HI × (Nat → Nat → Int64)) ⊕ (Int32 × HI × (Nat → Nat → Int64))))) (fun x => Sum.elim (fun x => k < M ∧ k + 1 ≤ M ∧ x.1 = nI (k + 1) ∧ E12 h x.2.1 ∧ (k + 1 < M → LCk n Pm bt W S (k + 1) x.2.2) ∧ ∀ j, j < k + 1 → ¬ NR n Pm bt W S (j + 1) 0) (fun x => Sum.elim (fun y : HI × (Nat → Nat → Int64) => E12 h y.1 ∧ ∀ j, j < M → ¬ NR n Pm bt W S (j + 1) 0) (fun y : Int32 × HI × (Nat → Nat → Int64) => E12 h y.2.1 ∧ ∃ k, k % 2 = 0 ∧ k < M ∧ y.1 = nI (k + 1) ∧ NR n Pm bt W S (k + 1) 0 ∧ (∀ j, j < k → ¬ NR n Pm bt W S (j + 1) 0) ∧ FWD n Pm bt W S k y.2.2) x) x) := fun hn1 => by
      have hno2 : ∀ j, j < k + 1 → ¬ NR n Pm bt W S (j + 1) 0 := fun j hj => by
        rcases (show j < k ∨ j = k by omega) with y | y
        · exact hno j y
        · subst y; exact hn1
      rw [nI_1]
      refine OK.ite (fun hc => OK.ret ⟨hk, hk, rfl, hE, fun z => ?_, hno2⟩) (fun hc => ?_)
      · have := ple hc (by omega) (by omega); omega
      · have := nle hc (by omega) (by omega)
        exact OK.bind (wd_ok hn rv2 hP hbt (by omega) hS tc (hW k (by omega)) hL) (fun g2 hg2 => OK.ret ⟨hk, hk, rfl, hE, fun _ => hg2, hno2⟩)
    by_cases hpar : k % 2 = 0
    · rw [if_pos ((par (by omega)).mpr hpar)]
      refine OK.bind (ce_ok hn rv2 hP hbt (by omega) hS tc (hW k (by omega)) (hL.1 k (Nat.le_refl _))) ?_
      rintro x (⟨rfl, he⟩ | ⟨rfl, he⟩)
      · rw [if_neg (by decide), rv2.2.1, nI_1]
        obtain ⟨g2, f1, f2⟩ := rc_ok (g := g') (k := k + 1) (O := S) (by omega) (by omega)
        rw [f1, Option.bind_some]
        refine OK.ret ⟨hE, k, hpar, hk, rfl, NR_end.mpr ⟨hpar, he⟩, hno, fun j hj O hO => ?_, fun O hO => ?_⟩
        · show RB g2 j O = true ↔ _
          rw [f2 j O hO, decide_eq_false (by omega), Bool.or_false]
          exact hL.1 j hj O hO
        · show RB g2 (k + 1) O = true ↔ _
          rw [f2 (k + 1) O hO, hL.2 (k + 1) (by omega) (by omega) O hO, Bool.false_or, decide_eq_true_eq]
          exact ⟨fun z => z.2, fun z => ⟨rfl, z⟩⟩
      · rw [if_pos rfl]
        exact goon (fun z => he (NR_end.mp z).2)
    · rw [if_neg (fun z => hpar ((par (by omega)).mp z))]
      exact goon (fun z => hpar (NR_end.mp z).1)
  · cases x with
    | inl y => exact OK.ret ⟨hx.1, Or.inr ⟨rfl, hx.2⟩⟩
    | inr y => exact OK.ret ⟨hx.1, Or.inl hx.2⟩
end RV2
