/-! over the river: who goes in each crossing, the class -/
def GR (n Pm bt : Nat) (W : Nat → Nat → Nat) (S : Nat) : Nat → Nat → Nat → Prop
  | 0, _, L => L = 0
  | d + 1, k, L => NR n Pm bt W S k L ∧ ∃ s, SUB s (TH S k L) ∧ CC n Pm bt W k s ∧ GR n Pm bt W S d (k + 1) (L ^^^ s)
section RV3
variable {n Pm bt S t0 : Nat} {W : Nat → Nat → Nat} {h : HI}
theorem GR_sub : ∀ {d k L : Nat}, GR n Pm bt W S d k L → SUB L S
  | 0, _, L, h => by have h : L = 0 := h; rw [h]; exact fun j hj => absurd hj (by rw [Nat.zero_testBit]; decide)
  | _ + 1, _, _, h => NR_sub h.1
theorem GR_path {m : Nat} : ∀ {k L : Nat}, k ≤ m → NR n Pm bt W S k L → GR n Pm bt W S (m - k) k L → GR n Pm bt W S m 0 S
  | 0, L, _, h1, h2 => by have h1 : L = S := h1; rw [h1] at h2; exact h2
  | k + 1, L', hk, h1, h2 => by
    obtain ⟨L, s, a1, a2, a3, rfl⟩ := h1
    refine GR_path (k := k) (L := L) (by omega) a1 ?_
    rw [show m - k = (m - (k + 1)) + 1 by omega]
    exact ⟨a1, s, a2, a3, h2⟩
/-- the least load that leads on -/
def LLD (n Pm bt : Nat) (W : Nat → Nat → Nat) (M k : Nat) (p : Nat → Prop) (s : Nat) : Prop := SUB s M ∧ CC n Pm bt W k s ∧ p s ∧ ∀ s', s' < s → SUB s' M → CC n Pm bt W k s' → ¬ p s'
theorem LLD.one {M k : Nat} {p : Nat → Prop} {s u : Nat} (h1 : LLD n Pm bt W M k p s) (h2 : LLD n Pm bt W M k p u) : s = u := by
  rcases Nat.lt_trichotomy s u with z | z | z
  · exact absurd h1.2.2.1 (h2.2.2.2 s z h1.1 h1.2.1)
  · exact z
  · exact absurd h2.2.2.1 (h1.2.2.2 u z h2.1 h2.2.1)
theorem ll_ok (hn : n ≤ 9) (rv : RVC n Pm S bt t0 h) {k O : Nat} (hP : Pm < 2 ^ 31) (hbt : bt ≤ 9999) (hk : k < 19) (hS : S < 2 ^ n) (hO : SUB O S) (tc : TC n (W k) h) (hW : ∀ s, WS n (W k) s ≤ 89991) (g : Nat → Nat → Int64) : OK (f_Ri_leastLoad h g (nI k) (nI O)) (fun x => (x = 0 ∧ ∀ s, SUB s (TH S k (S ^^^ O)) → CC n Pm bt W k s → ¬ RB g (k + 1) (O ^^^ s) = true) ∨ (∃ s, s < 512 ∧ x = nI s ∧ LLD n Pm bt W (TH S k (S ^^^ O)) k (fun s => RB g (k + 1) (O ^^^ s) = true) s)) := by
  have hp9 := pow9 hn
  unfold f_Ri_leastLoad
  rw [bk_ok rv (by omega) (by omega) hO]
  have hMS : SUB (TH S k (S ^^^ O)) S := TH_sub (SUB.rf.xor hO)
  generalize TH S k (S ^^^ O) = M at hMS
  have hMl := hMS.le
  refine OK.bind (P := fun x => Sum.elim (fun _ : Unit => False) (fun x : Int32 => (x = 0 ∧ ∀ s, SUB s M → CC n Pm bt W k s → ¬ RB g (k + 1) (O ^^^ s) = true) ∨ (∃ s, s < 512 ∧ x = nI s ∧ LLD n Pm bt W M k (fun s => RB g (k + 1) (O ^^^ s) = true) s)) x) (OK.loop _ (fun i x => x.2 = nI i ∧ ∃ y, i ≤ y ∧ SUB y M ∧ x.1 = nI y ∧ ∀ s, s ≤ y → SUB s M → CC n Pm bt W k s → ¬ RB g (k + 1) (O ^^^ s) = true) _ 512 (by omega) ?_ ⟨rfl, 0, by omega, fun j hj => absurd hj (by rw [Nat.zero_testBit]; decide), rfl, fun s hs _ hc => absurd (Nat.le_zero.mp hs) (CC_0 hc)⟩) (fun x hx => ?_)
  · rintro i ⟨v, t⟩ - ⟨rfl, y, hiy, hy, rfl, hB⟩
    have hyl := hy.le
    unfold b_Ri_leastLoad_13
    dsimp only
    rw [if_neg (show ¬ (512 : Int32) ≤ nI i from nI_ge (b := 512) (by omega) (by omega))]
    by_cases hyM : y = M
    · subst hyM
      rw [nxtI0, if_pos rfl]
      exact OK.ret (Or.inl ⟨rfl, fun s hs => hB s hs.le hs⟩)
    · obtain ⟨a1, a2, a3, a4⟩ := nxt_ok (SUB.iff.mp hy) (show y < M by omega)
      rw [nxtI (SUB.iff.mp hy) (by omega) (by omega)]
      generalize nxt y M = z at a1 a2 a3 a4
      have hz : SUB z M := SUB.iff.mpr a2
      rw [if_neg (nz0 (by omega) (by omega)), fb_xorI, nI_1, nI_1]
      obtain ⟨x, hx1, hx2⟩ := ca_ok hn rv hP hbt (k := k) (s := z) (by omega) tc hW
      rw [hx1, Option.bind_some]
      have hB2 : ∀ s, s < z → SUB s M → CC n Pm bt W k s → ¬ RB g (k + 1) (O ^^^ s) = true := fun s hs1 hs2 hs3 => by
        refine hB s ?_ hs2 hs3
        rcases Nat.lt_or_ge y s with w | w
        · have := a4 s (SUB.iff.mp hs2) w; omega
        · exact w
      have next : ¬ (CC n Pm bt W k z ∧ RB g (k + 1) (O ^^^ z) = true) → (i < 512 ∧ nI (i + 1) = nI (i + 1) ∧ ∃ y, i + 1 ≤ y ∧ SUB y M ∧ nI z = nI y ∧ ∀ s, s ≤ y → SUB s M → CC n Pm bt W k s → ¬ RB g (k + 1) (O ^^^ s) = true) := fun hno => by
        refine ⟨by omega, rfl, z, by omega, hz, rfl, fun s hs1 hs2 hs3 => ?_⟩
        rcases (show s < z ∨ s = z by omega) with w | w
        · exact hB2 s w hs2 hs3
        · subst w; exact fun q => hno ⟨hs3, q⟩
      have hxl : O ^^^ z < 512 := by have := (hO.xor (hz.tr hMS)).le; omega
      rcases hx2 with ⟨rfl, hc⟩ | ⟨rfl, hc⟩
      · rw [if_neg (by decide), ir_ok (by omega) hxl, Option.bind_some]
        by_cases hr : RB g (k + 1) (O ^^^ z) = true
        · rw [if_pos hr, if_neg (by decide)]
          exact OK.ret (Or.inr ⟨z, by omega, rfl, hz, hc, hr, hB2⟩)
        · rw [if_neg hr, if_pos rfl]
          exact OK.ret (next (fun w => hr w.2))
      · rw [if_pos rfl]
        exact OK.ret (next (fun w => hc w.1))
  · cases x with
    | inl u => exact hx.elim
    | inr v => exact OK.ret hx
theorem pr_ok {B : Nat → Nat} {V : Nat → Nat → Nat → Nat} (q : QC n Pm B V h) (rv : RVC n Pm S bt t0 h) (hWf : ∀ k, W k = fun i => Wt Pm B V i (t0 + k)) (hW : ∀ k, k < 20 → ∀ s, WS n (W k) s ≤ 89991) (ht0 : t0 < 2 ^ 29) (hbt : bt ≤ 9999) (hS : S < 2 ^ n) {k : Nat} (hk : k < 19) {g : Nat → Nat → Int64} (hg : ∀ O, O < 512 → RB g k O = true → SUB O S) : OK (f_Ri_prune h g (nI k)) (fun x => E12 h x.1 ∧ ∀ k' O, O < 512 → (RB x.2 k' O = true ↔ (RB g k' O = true ∧ (k' = k → ∃ s, SUB s (TH S k (S ^^^ O)) ∧ CC n Pm bt W k s ∧ RB g (k + 1) (O ^^^ s) = true)))) := by
  have hn := q.1
  have hp9 := pow9 hn
  have hP : Pm < 2 ^ 31 := p31 hn q.2.1
  unfold f_Ri_prune
  rw [rv.2.2.2, nI_add]
  refine OK.bind (su_c q (t := t0 + k) (by omega)) ?_
  rintro h2 ⟨hE, tc⟩
  rw [← hWf k] at tc
  have rv2 := rv.e12 hE
  refine OK.bind (P := fun x => ∀ k' O, O < 512 → (RB x k' O = true ↔ (RB g k' O = true ∧ (k' = k → ∃ s, SUB s (TH S k (S ^^^ O)) ∧ CC n Pm bt W k s ∧ RB g (k + 1) (O ^^^ s) = true)))) (OK.loop _ (fun i x => i ≤ S + 1 ∧ x.1 = nI i ∧ ∀ k' O, O < 512 → (RB x.2 k' O = true ↔ (RB g k' O = true ∧ (k' = k → O < i → ∃ s, SUB s (TH S k (S ^^^ O)) ∧ CC n Pm bt W k s ∧ RB g (k + 1) (O ^^^ s) = true)))) _ (S + 1) (by omega) ?_ ⟨by omega, rfl, fun k' O hO => ⟨fun z => ⟨z, fun _ w => by omega⟩, fun z => z.1⟩⟩) (fun x hx => OK.ret ⟨hE, hx⟩)
  rintro i ⟨v, g'⟩ - ⟨hi', rfl, hB⟩
  dsimp only at hB
  unfold b_Ri_prune_15
  dsimp only
  rw [rv2.2.1]
  refine OK.ite (fun hc => OK.ret ?_) (fun hc => ?_)
  · have := (nI_ltI (a := S) (b := i) (by omega) (by omega)).mp hc
    have : i = S + 1 := by omega
    subst this
    intro k' O hO
    rw [hB k' O hO]
    constructor
    · rintro ⟨z1, z2⟩
      refine ⟨z1, fun e => ?_⟩
      subst e
      exact z2 rfl (by have := (hg O hO z1).le; omega)
    · rintro ⟨z1, z2⟩; exact ⟨z1, fun e _ => z2 e⟩
  have hi2 : i ≤ S := nlt hc (by omega) (by omega)
  rw [ir_ok (by omega) (by omega), Option.bind_some, nI_1]
  have hsame : ∀ O, O < 512 → i ≤ O → (RB g' k O = true ↔ RB g k O = true) := fun O hO hiO => by
    rw [hB k O hO]; exact ⟨fun z => z.1, fun z => ⟨z, fun _ w => by omega⟩⟩
  have hsame2 : ∀ O, O < 512 → (RB g' (k + 1) O = true ↔ RB g (k + 1) O = true) := fun O hO => by
    rw [hB (k + 1) O hO]; exact ⟨fun z => z.1, fun z => ⟨z, fun w => by omega⟩⟩
  have keep : ∀ g2 : Nat → Nat → Int64, (∀ k' O, O < 512 → (RB g2 k' O = true ↔ (RB g' k' O = true ∧ (k' = k → O = i → ∃ s, SUB s (TH S k (S ^^^ O)) ∧ CC n Pm bt W k s ∧ RB g (k + 1) (O ^^^ s) = true)))) → (i < S + 1 ∧ i + 1 ≤ S + 1 ∧ nI (i + 1) = nI (i + 1) ∧ ∀ k' O, O < 512 → (RB g2 k' O = true ↔ (RB g k' O = true ∧ (k' = k → O < i + 1 → ∃ s, SUB s (TH S k (S ^^^ O)) ∧ CC n Pm bt W k s ∧ RB g (k + 1) (O ^^^ s) = true)))) := fun g2 hg2 => by
    refine ⟨by omega, by omega, rfl, fun k' O hO => ?_⟩
    rw [hg2 k' O hO, hB k' O hO]
    constructor
    · rintro ⟨⟨z1, z2⟩, z3⟩
      refine ⟨z1, fun e w => ?_⟩
      rcases (show O < i ∨ O = i by omega) with y | y
      · exact z2 e y
      · exact z3 e y
    · rintro ⟨z1, z2⟩
      exact ⟨⟨z1, fun e w => z2 e (by omega)⟩, fun e w => z2 e (by omega)⟩
  by_cases hr : RB g' k i = true
  · rw [if_pos hr, if_neg (by decide)]
    have hsub := hg i (by omega) ((hsame i (by omega) (Nat.le_refl _)).mp hr)
    refine OK.bind (ll_ok hn rv2 hP hbt hk hS hsub tc (hW k (by omega)) g') ?_
    rintro x (⟨rfl, hx⟩ | ⟨s, hs, rfl, hx⟩)
    · rw [if_pos rfl]
      obtain ⟨g2, f1, f2⟩ := lv_ok (g := g') (k := k) (O := i) (by omega) (by omega)
      rw [f1, Option.bind_some]
      refine OK.ret (keep g2 (fun k' O hO => ?_))
      rw [f2 k' O hO, Bool.and_eq_true, Bool.not_eq_true', decide_eq_false_iff_not]
      constructor
      · rintro ⟨z1, z2⟩; exact ⟨z1, fun e w => absurd ⟨e, w⟩ z2⟩
      · rintro ⟨z1, z2⟩
        refine ⟨z1, fun w => ?_⟩
        obtain ⟨s, s1, s2, s3⟩ := z2 w.1 w.2
        rw [w.2] at s1 s3
        have hxl : i ^^^ s < 512 := by have := (hsub.xor (s1.tr (TH_sub (SUB.rf.xor hsub)))).le; omega
        exact hx s s1 s2 ((hsame2 _ hxl).mpr s3)
    · rw [if_neg (nz0 (CC_0 hx.2.1) (by omega))]
      refine OK.ret (keep g' (fun k' O hO => ⟨fun z => ⟨z, fun e w => ?_⟩, fun z => z.1⟩))
      subst w
      have hxl : O ^^^ s < 512 := by have := (hsub.xor (hx.1.tr (TH_sub (SUB.rf.xor hsub)))).le; omega
      exact ⟨s, hx.1, hx.2.1, (hsame2 _ hxl).mp hx.2.2.1⟩
  · rw [if_neg hr, if_pos rfl]
    refine OK.ret (keep g' (fun k' O hO => ⟨fun z => ⟨z, fun e w => ?_⟩, fun z => z.1⟩))
    subst e; subst w; exact absurd z hr
/-- the rows behind the pruning: the states from which the end can be -/
def GLY (n Pm bt : Nat) (W : Nat → Nat → Nat) (S m j : Nat) (g : Nat → Nat → Int64) : Prop := ∀ O, O < 512 → (RB g j O = true ↔ (SUB O S ∧ GR n Pm bt W S (m - j) j (S ^^^ O)))
theorem tl_ok {B : Nat → Nat} {V : Nat → Nat → Nat → Nat} (q : QC n Pm B V h) (rv : RVC n Pm S bt t0 h) (hWf : ∀ k, W k = fun i => Wt Pm B V i (t0 + k)) (hW : ∀ k, k < 20 → ∀ s, WS n (W k) s ≤ 89991) (ht0 : t0 < 2 ^ 29) (hbt : bt ≤ 9999) (hS : S < 2 ^ n) {k0 : Nat} (hk0 : k0 < 19) {g : Nat → Nat → Int64} (hg : FWD n Pm bt W S k0 g) : OK (rh_loop (b_Ri_tellLoads_4 (nI (k0 + 1))) rh_N (nI k0, h, g)) (fun x => E12 h x.1 ∧ ∀ j, 0 < j → j ≤ k0 + 1 → GLY n Pm bt W S (k0 + 1) j x.2) := by
  have hn := q.1
  have hp9 := pow9 hn
  refine OK.loop _ (fun i x => i ≤ k0 ∧ x.1 = nI (k0 - i) ∧ E12 h x.2.1 ∧ (∀ j, j ≤ k0 - i → LYR n Pm bt W S j x.2.2) ∧ ∀ j, k0 - i < j → j ≤ k0 + 1 → GLY n Pm bt W S (k0 + 1) j x.2.2) _ k0 (by omega) ?_ ⟨by omega, rfl, E12.rf, hg.1, fun j h1 h2 O hO => ?_⟩
  · rintro i ⟨v, h', g'⟩ - ⟨hi', rfl, hE, hL, hG⟩
    dsimp only at hE hL hG
    unfold b_Ri_tellLoads_4
    dsimp only
    by_cases hz : k0 - i = 0
    · rw [hz] at hG
      rw [hz, if_pos (show nI 0 ≤ 0 by decide)]
      exact OK.ret ⟨hE, fun j h1 h2 => hG j h1 h2⟩
    · obtain ⟨k, hk⟩ : ∃ k, k0 - i = k + 1 := ⟨k0 - i - 1, by omega⟩
      rw [hk] at hL hG ⊢
      rw [if_neg (show ¬ nI (k + 1) ≤ 0 from nI_ge (a := 0) (b := k + 1) (by omega) (by omega)), nI_m1]
      refine OK.bind (pr_ok (q.e12 hE) (rv.e12 hE) hWf hW ht0 hbt hS (k := k + 1) (by omega) (fun O hO hr => ((hL (k + 1) (Nat.le_refl _) O hO).mp hr).1)) ?_
      rintro ⟨h2, g2⟩ ⟨hE2, hx⟩
      dsimp only at hE2 hx ⊢
      refine OK.ret ⟨by omega, by omega, ?_, hE.tr hE2, fun j hj O hO => ?_, fun j h1 h2 O hO => ?_⟩
      · show nI k = nI (k0 - (i + 1))
        congr 1; omega
      · show RB g2 j O = true ↔ _
        rw [hx j O hO, hL j (by omega) O hO]
        exact ⟨fun z => z.1, fun z => ⟨z, fun e => by omega⟩⟩
      · show RB g2 j O = true ↔ _
        rw [hx j O hO]
        rcases (show j = k + 1 ∨ k + 1 < j by omega) with y | y
        · subst y
          rw [hL (k + 1) (Nat.le_refl _) O hO, show k0 + 1 - (k + 1) = (k0 + 1 - (k + 1 + 1)) + 1 by omega]
          constructor
          · rintro ⟨⟨z1, z2⟩, z3⟩
            obtain ⟨s, s1, s2, s3⟩ := z3 rfl
            have hxl : O ^^^ s < 512 := by have := (z1.xor (s1.tr (TH_sub (SUB.rf.xor z1)))).le; omega
            refine ⟨z1, z2, s, s1, s2, ?_⟩
            have := ((hG (k + 1 + 1) (by omega) (by omega) _ hxl).mp s3).2
            rw [← Nat.xor_assoc] at this
            exact this
          · rintro ⟨z1, z2, s, s1, s2, s3⟩
            have hsb := z1.xor (s1.tr (TH_sub (SUB.rf.xor z1)))
            have hxl : O ^^^ s < 512 := by have := hsb.le; omega
            refine ⟨⟨z1, z2⟩, fun _ => ⟨s, s1, s2, (hG (k + 1 + 1) (by omega) (by omega) _ hxl).mpr ⟨hsb, ?_⟩⟩⟩
            rw [← Nat.xor_assoc]; exact s3
        · rw [hG j y h2 O hO]
          exact ⟨fun z => z.1, fun z => ⟨z, fun e => by omega⟩⟩
  · have : j = k0 + 1 := by omega
    subst this
    show RB g (k0 + 1) O = true ↔ _
    rw [hg.2 O hO, Nat.sub_self]
    constructor
    · rintro rfl
      exact ⟨SUB.rf, Nat.xor_self O⟩
    · rintro ⟨_, z⟩
      have z : S ^^^ O = 0 := z
      exact (xor_0 z.symm).symm
end RV3
