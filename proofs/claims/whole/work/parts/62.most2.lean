/-! most: the side that goes by sets of FOLK -/
theorem low1 : ∀ S, S < 512 → S ≠ 0 → nI S &&& (-(nI S)) = nI (2 ^ tz S) ∧ nI S ^^^ nI (2 ^ tz S) = nI (S ^^^ 2 ^ tz S) ∧ S.testBit (tz S) = true ∧ S ^^^ 2 ^ tz S < S := by decide +kernel
theorem shrI {x t : Nat} (hx : x < 2 ^ 31) (ht : t < 31) : nI x >>> (nI t &&& 31) = nI (x / 2 ^ t) := pk_shrN hx (nI t &&& 31) t (s_l t (by omega))
theorem hi0 {x t : Nat} (h : x / 2 ^ t = 0) {u : Nat} (hu : t ≤ u) : x.testBit u = false := by
  have h1 : x < 2 ^ t := by
    have := Nat.two_pow_pos t
    rcases Nat.lt_or_ge x (2 ^ t) with z | z
    · exact z
    · have := (Nat.div_pos z this); omega
  exact Nat.testBit_lt_two_pow (Nat.lt_of_lt_of_le h1 (Nat.pow_le_pow_right (by omega) hu))
section MO2
variable {r : Nat} {ft : Nat → Nat → Bool} {c : HI}
theorem go45 (hr : r ≤ 6) (h25 : c 25 0 = nI r) {g : Nat → Nat → Int64} {R P S1 : Nat} (u2 u7 : Int32) (hR : R ^^^ P < 512) (w0 : Int64) (hg : ∀ G, G < 64 → (bl (g 30 (R ^^^ P)) G = true ↔ DJ r ft G (R ^^^ P))) : OK (rh_loop (b_Ta_groupsOf_45 u2 (nI R) (nI P) u7 (nI (BS (fun t => ft t S1) r)) c g) rh_N (w0, (0 : Int32))) (fun w => ∀ G, G < 64 → (bl w G = true ↔ (bl w0 G = true ∨ ∃ t, t < r ∧ ft t S1 = true ∧ G.testBit t = true ∧ DJ r ft (G ^^^ 2 ^ t) (R ^^^ P)))) := by
  have hlt : BS (fun t => ft t S1) r < 2 ^ 31 := Nat.lt_of_lt_of_le (BS_lt _ r) (Nat.pow_le_pow_right (by omega) (by omega))
  refine OK.loop _ (fun i s => i ≤ r ∧ s.2 = nI i ∧ ∀ G, G < 64 → (bl s.1 G = true ↔ (bl w0 G = true ∨ ∃ t, t < i ∧ ft t S1 = true ∧ G.testBit t = true ∧ DJ r ft (G ^^^ 2 ^ t) (R ^^^ P)))) _ r (by omega) ?_ ⟨by omega, rfl, fun G hG => ⟨Or.inl, fun z => z.elim id (fun ⟨t, z1, _⟩ => absurd z1 (by omega))⟩⟩
  rintro i ⟨w, v⟩ - ⟨hi, rfl, hB⟩
  dsimp only at hB
  unfold b_Ta_groupsOf_45
  dsimp only
  rw [h25]
  refine OK.ite (fun hc => OK.ret ?_) (fun hc => ?_)
  · have : i = r := by have := ple hc (by omega) (by omega); omega
    subst this; exact hB
  have hi2 : i < r := nle hc (by omega) (by omega)
  have hbit : ∀ t, t < r → (BS (fun t => ft t S1) r).testBit t = ft t S1 := fun t ht => by rw [BS_bit, decide_eq_true ht, Bool.true_and]
  rw [shrI hlt (by omega)]
  by_cases h0 : BS (fun t => ft t S1) r / 2 ^ i = 0
  · rw [if_pos (by rw [h0]; rfl)]
    refine OK.ret (fun G hG => ?_)
    rw [hB G hG]
    constructor
    · rintro (z | ⟨t, z1, z2⟩)
      · exact Or.inl z
      · exact Or.inr ⟨t, by omega, z2⟩
    · rintro (z | ⟨t, z1, z2⟩)
      · exact Or.inl z
      · refine Or.inr ⟨t, ?_, z2⟩
        rcases Nat.lt_or_ge t i with q | q
        · exact q
        · have := hi0 h0 q
          rw [hbit t z1, z2.1] at this; cases this
  · rw [if_neg (nz0 h0 (by have := Nat.div_le_self (BS (fun t => ft t S1) r) (2 ^ i); omega)), ← shrI hlt (by omega)]
    refine OK.ite (fun hb => OK.ret ⟨hi2, hi2, nI_1 i, fun G hG => ?_⟩) (fun hb => ?_)
    · have hf : ft i S1 = false := (hbit i hi2) ▸ (bit_t hlt (by omega)).mp hb
      rw [hB G hG]
      constructor
      · rintro (z | ⟨t, z1, z2⟩)
        · exact Or.inl z
        · exact Or.inr ⟨t, by omega, z2⟩
      · rintro (z | ⟨t, z1, z2⟩)
        · exact Or.inl z
        · refine Or.inr ⟨t, ?_, z2⟩
          rcases (show t < i ∨ t = i by omega) with q | q
          · exact q
          · subst q; rw [hf] at z2; exact absurd z2.1 (by decide)
    · have hf : ft i S1 = true := by
        cases hz : ft i S1 with
        | true => rfl
        | false => exact absurd ((bit_t hlt (by omega)).mpr ((hbit i hi2).trans hz)) hb
      rw [fb_xorI, nI_clamp (by omega)]
      obtain ⟨x, hx1, hx2⟩ := wt_ok (g 30 (R ^^^ P)) (t := i) (by omega)
      refine OK.g (gd_nI hR (by omega)) ?_
      rw [hx1, Option.bind_some]
      refine OK.ret ⟨hi2, hi2, nI_1 i, fun G hG => ?_⟩
      show bl (w ||| x) G = true ↔ _
      rw [bl_or, hx2 G hG, Bool.or_eq_true, hB G hG, Bool.and_eq_true, hg _ (g64 G hG i (by omega)).1]
      constructor
      · rintro ((z | ⟨t, z1, z2⟩) | ⟨z1, z2⟩)
        · exact Or.inl z
        · exact Or.inr ⟨t, by omega, z2⟩
        · exact Or.inr ⟨i, by omega, hf, z1, z2⟩
      · rintro (z | ⟨t, z1, z2⟩)
        · exact Or.inl (Or.inl z)
        · rcases (show t < i ∨ t = i by omega) with q | q
          · exact Or.inl (Or.inr ⟨t, q, z2⟩)
          · subst q; exact Or.inr z2.2
theorem go_ok {n : Nat} (hn : n ≤ 9) (hr : r ≤ 6) (h25 : c 25 0 = nI r) (h31 : ∀ s, s < 2 ^ n → s ≠ 0 → c 31 s = nI (BS (fun t => ft t s) r)) {g : Nat → Nat → Int64} {S : Nat} (hS : S < 2 ^ n) (hS0 : S ≠ 0) (hg : ∀ s, s < S → ∀ G, G < 64 → (bl (g 30 s) G = true ↔ DJ r ft G s)) : OK (f_Ta_groupsOf c g (nI S)) (fun w => ∀ G, G < 64 → (bl w G = true ↔ DJ r ft G S)) := by
  have hp9 := pow9 hn
  obtain ⟨e1, e2, e3, e4⟩ := low1 S (by omega) hS0
  unfold f_Ta_groupsOf
  rw [e1, e2]
  generalize hi : tz S = i at e1 e2 e3 e4 ⊢
  have hstep := fun G => DJ_step (r := r) (ft := ft) (G := G) e3
  generalize hR : S ^^^ 2 ^ i = R at e4 hstep ⊢
  have hRb : R.testBit i = false := by rw [← hR, flipb, if_pos rfl, e3]; rfl
  have hPi : ∀ P, SUB P R → P ||| 2 ^ i < 2 ^ n ∧ P ||| 2 ^ i ≠ 0 ∧ R ^^^ P < S := fun P hP => by
    have h1 : SUB (P ||| 2 ^ i) S := fun j hj => by
      rw [setb] at hj
      by_cases z : j = i
      · subst z; exact e3
      · rw [if_neg z] at hj
        have := hP j hj
        rw [← hR, flipb, if_neg z] at this; exact this
    refine ⟨Nat.lt_of_le_of_lt h1.le hS, fun z => ?_, ?_⟩
    · have : (P ||| 2 ^ i).testBit i = true := by rw [setb, if_pos rfl]
      rw [z, Nat.zero_testBit] at this; cases this
    · have h2 : SUB (R ^^^ P) R := fun j hj => by
        rw [Nat.testBit_xor] at hj
        cases w : R.testBit j with
        | true => rfl
        | false =>
          cases v : P.testBit j with
          | false => rw [w, v] at hj; cases hj
          | true => have := hP j v; rw [w] at this; cases this
      exact Nat.lt_of_le_of_lt h2.le e4
  rw [nI_clamp (by omega)]
  refine OK.g (gd_nI (by omega) (by omega)) (OK.bind (P := fun w => ∀ G, G < 64 → (bl w G = true ↔ DJ r ft G S)) (OK.loop _ (fun k s => s.2.2 = nI k ∧ ∃ P, SUB P R ∧ P + k ≤ R ∧ s.2.1 = nI P ∧ ∀ G, G < 64 → (bl s.1 G = true ↔ (DJ r ft G R ∨ ∃ Q t, SUB Q R ∧ P < Q ∧ t < r ∧ ft t (Q ||| 2 ^ i) = true ∧ G.testBit t = true ∧ DJ r ft (G ^^^ 2 ^ t) (R ^^^ Q)))) _ 512 (by omega) ?_ ⟨rfl, R, fun _ z => z, by omega, rfl, fun G hG => ?_⟩) (fun x hx => OK.ret hx))
  · rintro k ⟨w, p, v⟩ - ⟨rfl, P, hP, hPk, rfl, hB⟩
    dsimp only at hB
    obtain ⟨q1, q2, q3⟩ := hPi P hP
    unfold b_Ta_groupsOf_23
    dsimp only
    rw [if_neg (show ¬ (512 : Int32) ≤ nI k from nI_ge (b := 512) (by omega) (by omega)), fa_or, nI_clamp (by omega), h31 _ q1 q2]
    refine OK.g (gd_nI (by omega) (by omega)) (OK.bind (go45 (S1 := P ||| 2 ^ i) hr h25 (R := R) (P := P) _ _ (by omega) w (hg _ q3)) (fun w' hw' => ?_))
    have hnew : ∀ G, G < 64 → (bl w' G = true ↔ (DJ r ft G R ∨ ∃ Q t, SUB Q R ∧ P ≤ Q ∧ t < r ∧ ft t (Q ||| 2 ^ i) = true ∧ G.testBit t = true ∧ DJ r ft (G ^^^ 2 ^ t) (R ^^^ Q))) := fun G hG => by
      rw [hw' G hG, hB G hG]
      constructor
      · rintro ((z | ⟨Q, t, z1, z2, z3⟩) | ⟨t, z1, z2, z3, z4⟩)
        · exact Or.inl z
        · exact Or.inr ⟨Q, t, z1, by omega, z3⟩
        · exact Or.inr ⟨P, t, hP, by omega, z1, z2, z3, z4⟩
      · rintro (z | ⟨Q, t, z1, z2, z3⟩)
        · exact Or.inl (Or.inl z)
        · rcases (show P < Q ∨ Q = P by omega) with q | q
          · exact Or.inl (Or.inr ⟨Q, t, z1, q, z3⟩)
          · subst q; exact Or.inr ⟨t, z3⟩
    by_cases h0 : P = 0
    · subst h0
      rw [if_pos (show nI 0 = 0 from rfl)]
      refine OK.ret (fun G hG => ?_)
      rw [hnew G hG, hstep G]
      constructor
      · rintro (z | ⟨Q, t, z1, _, z3⟩)
        · exact Or.inl z
        · exact Or.inr ⟨Q, t, z1, z3⟩
      · rintro (z | ⟨Q, t, z1, z3⟩)
        · exact Or.inl z
        · exact Or.inr ⟨Q, t, z1, by omega, z3⟩
    · rw [if_neg (nz0 h0 (by omega)), pvI (by omega)]
      have hle : (P - 1) &&& R ≤ P - 1 := Nat.and_le_left
      refine OK.ret ⟨by omega, nI_1 k, (P - 1) &&& R, fun j hj => ?_, by omega, rfl, fun G hG => ?_⟩
      · rw [Nat.testBit_and, Bool.and_eq_true] at hj; exact hj.2
      · show bl w' G = true ↔ _
        rw [hnew G hG]
        constructor
        · rintro (z | ⟨Q, t, z1, z2, z3⟩)
          · exact Or.inl z
          · exact Or.inr ⟨Q, t, z1, by omega, z3⟩
        · rintro (z | ⟨Q, t, z1, z2, z3⟩)
          · exact Or.inl z
          · refine Or.inr ⟨Q, t, z1, ?_, z3⟩
            rcases Nat.lt_or_ge Q P with q | q
            · have := pv P R Q (SUB.iff.mp hP) (SUB.iff.mp z1) q; omega
            · exact q
  · show bl (g 30 R) G = true ↔ _
    rw [hg R e4 G hG]
    constructor
    · exact Or.inl
    · rintro (z | ⟨Q, t, z1, z2, _⟩)
      · exact z
      · have := z1.le; omega
/-- the first of the fullest -/
def bst (p : Nat → Bool) : Nat → Nat
  | 0 => 0
  | k + 1 => if p k = true ∧ pc (bst p k) < pc k then k else bst p k
theorem bst_le (p : Nat → Bool) : ∀ k, bst p k ≤ k
  | 0 => Nat.le_refl _
  | k + 1 => by
    have := bst_le p k
    unfold bst
    split <;> omega
theorem bst_cong {p q : Nat → Bool} : ∀ k, (∀ i, i < k → p i = q i) → bst p k = bst q k
  | 0, _ => rfl
  | k + 1, h => by
    unfold bst
    rw [bst_cong k (fun i hi => h i (by omega)), h k (by omega)]
theorem bst_more {p : Nat → Bool} {k : Nat} : ∀ d, (∀ i, k ≤ i → i < k + d → p i = false) → bst p (k + d) = bst p k
  | 0, _ => rfl
  | d + 1, h => by
    show (if p (k + d) = true ∧ pc (bst p (k + d)) < pc (k + d) then k + d else bst p (k + d)) = bst p k
    rw [if_neg (fun z => by rw [h (k + d) (by omega) (by omega)] at z; exact absurd z.1 (by decide))]
    exact bst_more d (fun i h1 h2 => h i h1 (by omega))
theorem mo_c {n : Nat} {W lo hi : Nat → Nat} {Pm : Nat} {B : Nat → Nat} {V : Nat → Nat → Nat → Nat} {k T a q : Nat} {m : HI} (A : RLa k n Pm B V T a q c m) (tk : TK r lo hi c m) (tc : TC n W c) (hS : ∀ s, WS n W s ≤ 89991) (g : Nat → Nat → Int64) : OK (f_Ta_mostAtOnce c g) (fun x => XC c x.2.1 ∧ ∃ p : Nat → Bool, (∀ G, G < 64 → (p G = true ↔ DJ r (fitT n W lo hi) G (2 ^ n - 1))) ∧ x.1 = nI (bst p 64)) := by
  have hn := A.n9
  have hr := tk.1
  have hp9 := pow9 hn
  unfold f_Ta_mostAtOnce
  refine OK.bind (P := fun x => XC c x ∧ (∀ o j, o ≠ 31 → x o j = c o j) ∧ ∀ s, s < 2 ^ n → s ≠ 0 → x 31 s = nI (BS (fun t => fitT n W lo hi t s) r)) (OK.loop _ (fun i s => i + 1 ≤ 2 ^ n ∧ s.1 = nI (i + 1) ∧ XC c s.2 ∧ (∀ o j, o ≠ 31 → s.2 o j = c o j) ∧ ∀ j, j < i + 1 → j ≠ 0 → s.2 31 j = nI (BS (fun t => fitT n W lo hi t j) r)) _ (2 ^ n) (by omega) ?_ ⟨by omega, rfl, XC.rf, fun _ _ _ => rfl, fun j h1 h2 => by omega⟩) ?_
  · rintro i ⟨v, h⟩ - ⟨hi', rfl, hx, hf, h31⟩
    dsimp only at hx hf h31
    have A := A.l hx
    have tk := tk.fr hx (XM.rf (h := m))
    unfold b_Ta_mostAtOnce_2
    dsimp only
    rw [A.cs]
    refine OK.ite (fun hc => OK.ret ?_) (fun hc => ?_)
    · have : i + 1 = 2 ^ n := by have := ple hc (by omega) (by omega); omega
      exact ⟨hx, hf, fun s hs h0 => h31 s (by omega) h0⟩
    have hi2 : i + 1 < 2 ^ n := nle hc (by omega) (by omega)
    have hs := hS (i + 1)
    rw [nI_clamp (by omega), hf 12 _ (by omega), tc _ hi2, sb_c tk (by omega), Option.bind_some]
    refine OK.g (gd512 hn hi2) (OK.g (gd512 hn hi2) (OK.ret ⟨by omega, by omega, nI_1 _, hx.up 31 _ _ ⟨rfl, by omega, by omega⟩, fun o j ho => ?_, fun j h1 h2 => ?_⟩))
    · show rh_up h 31 _ _ o j = _
      rw [up_f, if_neg (fun z => ho z.1)]; exact hf o j ho
    · show rh_up h 31 (i + 1) _ 31 j = _
      by_cases z : j = i + 1
      · subst z; rw [rh_up_s]; rfl
      · rw [gup _ _ _ _ z]; exact h31 j (by omega) h2
  · rintro c1 ⟨hx, hf, h31⟩
    have A := A.l hx
    have tk := tk.fr hx (XM.rf (h := m))
    have h25 := tk.2.1
    refine OK.bind (P := fun g' => ∀ s, s < 2 ^ n → ∀ G, G < 64 → (bl (g' 30 s) G = true ↔ DJ r (fitT n W lo hi) G s)) (OK.loop _ (fun i s => i + 1 ≤ 2 ^ n ∧ s.1 = nI (i + 1) ∧ ∀ j, j < i + 1 → ∀ G, G < 64 → (bl (s.2 30 j) G = true ↔ DJ r (fitT n W lo hi) G j)) _ (2 ^ n) (by omega) ?_ ⟨by omega, rfl, fun j hj G hG => ?_⟩) ?_
    · rintro i ⟨v, g'⟩ - ⟨hi', rfl, hg⟩
      dsimp only at hg
      unfold b_Ta_mostAtOnce_41
      dsimp only
      rw [A.cs]
      refine OK.ite (fun hc => OK.ret ?_) (fun hc => ?_)
      · have : i + 1 = 2 ^ n := by have := ple hc (by omega) (by omega); omega
        exact fun s hs => hg s (by omega)
      have hi2 : i + 1 < 2 ^ n := nle hc (by omega) (by omega)
      refine OK.bind (go_ok (ft := fitT n W lo hi) hn hr h25 h31 hi2 (by omega) (fun s hs => hg s hs)) (fun w hw => ?_)
      rw [nI_clamp (by omega)]
      refine OK.g (gd512 hn hi2) (OK.ret ⟨by omega, by omega, nI_1 _, fun j hj G hG => ?_⟩)
      show bl (rh_up g' 30 (i + 1) w 30 j) G = true ↔ _
      by_cases z : j = i + 1
      · subst z; rw [rh_up_s]; exact hw G hG
      · rw [gup _ _ _ _ z]; exact hg j (by omega) G hG
    · have : j = 0 := by omega
      subst this
      show bl (rh_up g 30 0 1 30 0) G = true ↔ _
      rw [rh_up_s, bl_1 G hG, decide_eq_true_eq, DJ_e]
    · intro g' hg
      refine OK.bind (P := fun b => b = nI (bst (fun G => bl (g' 30 (2 ^ n - 1)) G) 64)) (OK.loop _ (fun i s => i ≤ 64 ∧ s.2 = nI i ∧ s.1 = nI (bst (fun G => bl (g' 30 (2 ^ n - 1)) G) i)) _ 64 (by omega) ?_ ⟨by omega, rfl, rfl⟩) (fun b hb => OK.ret ⟨hx, fun G => bl (g' 30 (2 ^ n - 1)) G, fun G hG => hg _ (by omega) G hG, hb⟩)
      rintro i ⟨b, v⟩ - ⟨hi', rfl, rfl⟩
      unfold b_Ta_mostAtOnce_70 j_Ta_mostAtOnce_101
      dsimp only
      rw [A.cs, show nI (2 ^ n) - 1 = nI (2 ^ n - 1) from pk_sub (b := 1) hp9.1, nI_clamp (by omega)]
      refine OK.ite (fun hc => OK.ret ?_) (fun hc => ?_)
      · have : i = 64 := by have := ple (b := 64) hc (by omega) (by omega); omega
        subst this; rfl
      have hi2 : i < 64 := nle (b := 64) hc (by omega) (by omega)
      have hb := bst_le (fun G => bl (g' 30 (2 ^ n - 1)) G) i
      refine OK.g (gd_nI (by omega) (by omega)) ?_
      have hbs : bst (fun G => bl (g' 30 (2 ^ n - 1)) G) (i + 1) = if bl (g' 30 (2 ^ n - 1)) i = true ∧ pc (bst (fun G => bl (g' 30 (2 ^ n - 1)) G) i) < pc i then i else bst (fun G => bl (g' 30 (2 ^ n - 1)) G) i := rfl
      by_cases hz : bl (g' 30 (2 ^ n - 1)) i = true
      · rw [if_neg (fun z => by rw [(bl_tst _ hi2).mp z] at hz; cases hz), if_neg (by decide), (pc64 i hi2).1, (pc64 _ (by omega)).1]
        by_cases hl : pc (bst (fun G => bl (g' 30 (2 ^ n - 1)) G) i) < pc i
        · rw [if_neg (nI_ge hl (by have := (pc64 i hi2).2.1; omega))]
          exact OK.ret ⟨hi2, hi2, nI_1 i, by rw [hbs, if_pos ⟨hz, hl⟩]⟩
        · rw [if_pos (nI_le (by omega) (by have := (pc64 (bst (fun G => bl (g' 30 (2 ^ n - 1)) G) i) (by omega)).2.1; omega))]
          exact OK.ret ⟨hi2, hi2, nI_1 i, by rw [hbs, if_neg (fun z => hl z.2)]⟩
      · rw [if_pos ((bl_tst _ hi2).mpr (Bool.eq_false_iff.mpr hz)), if_pos rfl]
        exact OK.ret ⟨hi2, hi2, nI_1 i, by rw [hbs, if_neg (fun z => hz z.1)]⟩
end MO2
