/-! earliest -/
def CB (r : Nat) (a : Nat → Nat → Bool) : Nat → Nat → Nat → Prop
  | 0, _, G => G = 0
  | d + 1, b, G => CB r a d (b + 1) G ∨ ∃ t, t < r ∧ a b t = true ∧ G.testBit t = true ∧ CB r a d (b + 1) (G ^^^ 2 ^ t)
def NXT (r : Nat) (a : Nat → Nat → Bool) (d b G : Nat) (v : Int32) (G' : Nat) : Prop := (CB r a d (b + 1) G ∧ v = -1 ∧ G' = G) ∨ (¬ CB r a d (b + 1) G ∧ ∃ t, t < r ∧ (a b t = true ∧ G.testBit t = true ∧ CB r a d (b + 1) (G ^^^ 2 ^ t)) ∧ (∀ u, u < t → ¬ (a b u = true ∧ G.testBit u = true ∧ CB r a d (b + 1) (G ^^^ 2 ^ u))) ∧ v = nI t ∧ G' = G ^^^ 2 ^ t)
theorem NXT.one {r : Nat} {a : Nat → Nat → Bool} {d b G G1 G2 : Nat} {v w : Int32} (h1 : NXT r a d b G v G1) (h2 : NXT r a d b G w G2) : v = w ∧ G1 = G2 := by
  rcases h1 with ⟨x1, x2, x3⟩ | ⟨x1, t, x2, x3, x4, x5, x6⟩
  · rcases h2 with ⟨y1, y2, y3⟩ | ⟨y1, _⟩
    · exact ⟨x2.trans y2.symm, x3.trans y3.symm⟩
    · exact absurd x1 y1
  · rcases h2 with ⟨y1, _⟩ | ⟨y1, u, y2, y3, y4, y5, y6⟩
    · exact absurd y1 x1
    · have : t = u := by
        rcases Nat.lt_trichotomy t u with z | z | z
        · exact absurd x3 (y4 t z)
        · exact z
        · exact absurd y3 (x4 u z)
      subst this
      exact ⟨x5.trans y5.symm, x6.trans y6.symm⟩
def PNL (r : Nat) (a : Nat → Nat → Bool) : Nat → Nat → Nat → (Nat → Int32) → Prop
  | 0, _, _, _ => True
  | d + 1, b, G, f => ∃ G', NXT r a d b G (f b) G' ∧ PNL r a d (b + 1) G' f
theorem PNL.cong {r : Nat} {a : Nat → Nat → Bool} {f g : Nat → Int32} : ∀ {d b G : Nat}, PNL r a d b G f → (∀ i, b ≤ i → i < b + d → g i = f i) → PNL r a d b G g
  | 0, _, _, _, _ => trivial
  | d + 1, b, G, ⟨G', h1, h2⟩, e => ⟨G', by rw [e b (by omega) (by omega)]; exact h1, h2.cong (fun i h3 h4 => e i (by omega) (by omega))⟩
theorem g64 : ∀ G, G < 64 → ∀ t, t < 6 → G ^^^ 2 ^ t < 64 ∧ (G.testBit t = true → pc (G ^^^ 2 ^ t) + 1 = pc G) ∧ (G.testBit t = true → nI G &&& (nI (2 ^ t) ^^^ -1) = nI (G ^^^ 2 ^ t)) := by decide +kernel
theorem pc64 : ∀ G, G < 64 → f_In_bitCount (nI G) = nI (pc G) ∧ pc G ≤ 6 ∧ (pc G = 0 → G = 0) ∧ pc 0 = 0 := by decide +kernel
theorem CB_pc {r : Nat} {a : Nat → Nat → Bool} (hr : r ≤ 6) : ∀ {d b G : Nat}, G < 64 → CB r a d b G → pc G ≤ d
  | 0, _, G, h, hc => by
    have hc : G = 0 := hc
    rw [hc, (pc64 0 (by omega)).2.2.2]; omega
  | d + 1, b, G, h, hc => by
    rcases hc with hc | ⟨t, h1, h2, h3, h4⟩
    · have := CB_pc hr h hc; omega
    · have := CB_pc hr (g64 G h t (by omega)).1 h4
      have := (g64 G h t (by omega)).2.1 h3
      omega
theorem subI1 {L b : Nat} (h : b ≤ L + 1) (hL : L < 2 ^ 20) : nI L - nI b + 1 = nI (L + 1 - b) := by
  apply ofI
  have h1 : (nI L - nI b).toInt = (L : Int) - b := by
    rw [fb_subI, nI_toInt (by omega), nI_toInt (by omega)]
    · rw [nI_toInt (by omega), nI_toInt (by omega)]; omega
    · rw [nI_toInt (by omega), nI_toInt (by omega)]; omega
  rw [fb_addI, h1, show (1 : Int32).toInt = 1 from rfl]
  · omega
  · rw [h1, show (1 : Int32).toInt = 1 from rfl]; omega
  · rw [h1, show (1 : Int32).toInt = 1 from rfl]; omega
theorem dn1 {z : Nat} : nI (z + 1) - 1 = nI z := pk_sub (a := z + 1) (b := 1) (by omega)
theorem dn0 : nI 0 - 1 = (-1 : Int32) := by decide
theorem dnm {z : Nat} : nI z + (-1 : Int32) = nI z - 1 := (Int32.sub_eq_add_neg _ _).symm
section ERL
variable {r : Nat} {a : Nat → Nat → Bool}
theorem cb_ok {g : Nat → Nat → Int64} {b G : Nat} (hb : b < 10) (hG : G < 64) : f_Ta_canBeLeft g (nI b) (nI G) = some (if bl (g 29 b) G = true then 1 else 0) := by
  unfold f_Ta_canBeLeft
  rw [rg_t (gd_nI hb (by omega)), nI_clamp (by omega)]
  by_cases h : bl (g 29 b) G = true
  · rw [if_neg (fun z => by rw [(bl_tst _ hG).mp z] at h; cases h), if_pos h]
  · rw [if_pos ((bl_tst _ hG).mpr (Bool.eq_false_iff.mpr h)), if_neg h]
theorem gup {α : Type} (f : Nat → Nat → α) (o k : Nat) (v : α) {k' : Nat} (h : k' ≠ k) : rh_up f o k v o k' = f o k' := by
  rw [up_f, if_neg (fun z => h z.2)]
/-- the class: which groups can still be done behind each bell -/
def LFT (r : Nat) (a : Nat → Nat → Bool) (L b : Nat) (g : Nat → Nat → Int64) : Prop := ∀ i, b ≤ i → i ≤ L + 1 → ∀ G, G < 64 → (bl (g 29 i) G = true ↔ CB r a (L + 1 - i) i G)
theorem pl31 {h : HI} (hr : r ≤ 6) (h25 : h 25 0 = nI r) (h28 : ∀ b, b < 9 → h 28 b = nI (BS (a b) r)) {L b : Nat} (hb : b ≤ L) (hL : L < 9) {g : Nat → Nat → Int64} (hg : LFT r a L (b + 1) g) : OK (rh_loop (b_Ta_plan_31 (nI b) h) rh_N ((0 : Int32), rh_up g 29 b (g 29 (b + 1)))) (fun x => LFT r a L b x) := by
  have hlt : BS (a b) r < 2 ^ 31 := Nat.lt_of_lt_of_le (BS_lt _ r) (Nat.pow_le_pow_right (by omega) (by omega))
  refine OK.loop _ (fun i s => i ≤ r ∧ s.1 = nI i ∧ (∀ k, k ≠ b → s.2 29 k = g 29 k) ∧ ∀ G, G < 64 → (bl (s.2 29 b) G = true ↔ (CB r a (L - b) (b + 1) G ∨ ∃ t, t < i ∧ a b t = true ∧ G.testBit t = true ∧ CB r a (L - b) (b + 1) (G ^^^ 2 ^ t)))) _ r (by omega) ?_ ⟨by omega, rfl, fun k hk => gup _ _ _ _ hk, fun G hG => ?_⟩
  · rintro i ⟨v, g'⟩ - ⟨hi, rfl, hf, hB⟩
    dsimp only at hf hB
    unfold b_Ta_plan_31
    dsimp only
    rw [h25, nI_clamp (n := b) (by omega), h28 b (by omega)]
    refine OK.ite (fun hc => OK.ret ?_) (fun hc => ?_)
    · have : i = r := by have := ple hc (by omega) (by omega); omega
      subst this
      intro j h1 h2 G hG
      by_cases z : j = b
      · subst z
        rw [hB G hG, show L + 1 - j = (L - j) + 1 by omega]
        exact Iff.rfl
      · rw [hf j z]; exact hg j (by omega) h2 G hG
    have hi2 : i < r := nle hc (by omega) (by omega)
    refine OK.g (gd_nI (by omega) (by omega)) ?_
    have hbit : (BS (a b) r).testBit i = a b i := by rw [BS_bit, decide_eq_true hi2, Bool.true_and]
    refine OK.ite (fun h0 => OK.ret ⟨hi2, hi2, nI_1 i, hf, fun G hG => ?_⟩) (fun h0 => ?_)
    · have ha : a b i = false := hbit ▸ (bit_t hlt (by omega)).mp h0
      rw [hB G hG]
      constructor
      · rintro (z | ⟨t, z1, z2⟩)
        · exact Or.inl z
        · exact Or.inr ⟨t, by omega, z2⟩
      · rintro (z | ⟨t, z1, z2⟩)
        · exact Or.inl z
        · refine Or.inr ⟨t, ?_, z2⟩
          rcases (show t < i ∨ t = i by omega) with q | q
          · exact q
          · subst q; rw [ha] at z2; exact absurd z2.1 (by decide)
    · have ha : a b i = true := by
        cases hz : a b i with
        | true => rfl
        | false => exact absurd ((bit_t hlt (by omega)).mpr (hbit.trans hz)) h0
      rw [nI_1 b, nI_clamp (by omega)]
      refine OK.g (gd_nI (by omega) (by omega)) (OK.g (gd_nI (by omega) (by omega)) ?_)
      obtain ⟨w, hw1, hw2⟩ := wt_ok (g' 29 (b + 1)) (t := i) (by omega)
      rw [hw1, Option.bind_some]
      refine OK.g (gd_nI (by omega) (by omega)) (OK.ret ⟨hi2, hi2, nI_1 i, fun k hk => (gup _ _ _ _ hk).trans (hf k hk), fun G hG => ?_⟩)
      show bl (rh_up g' 29 b _ 29 b) G = true ↔ _
      rw [rh_up_s, bl_or, hw2 G hG, Bool.or_eq_true, hB G hG, hf (b + 1) (by omega), Bool.and_eq_true, hg (b + 1) (by omega) (by omega) _ (g64 G hG i (by omega)).1, show L + 1 - (b + 1) = L - b by omega]
      constructor
      · rintro ((z | ⟨t, z1, z2⟩) | ⟨z1, z2⟩)
        · exact Or.inl z
        · exact Or.inr ⟨t, by omega, z2⟩
        · exact Or.inr ⟨i, by omega, ha, z1, z2⟩
      · rintro (z | ⟨t, z1, z2⟩)
        · exact Or.inl (Or.inl z)
        · rcases (show t < i ∨ t = i by omega) with q | q
          · exact Or.inl (Or.inr ⟨t, q, z2⟩)
          · subst q; exact Or.inr z2.2
  · show bl (rh_up g 29 b _ 29 b) G = true ↔ _
    rw [rh_up_s, hg (b + 1) (by omega) (by omega) G hG, show L + 1 - (b + 1) = L - b by omega]
    constructor
    · exact Or.inl
    · rintro (z | ⟨t, z1, _⟩)
      · exact z
      · omega
theorem pl_ok {h : HI} (hr : r ≤ 6) (h25 : h 25 0 = nI r) (h28 : ∀ b, b < 9 → h 28 b = nI (BS (a b) r)) {L : Nat} (hL : L < 9) (g : Nat → Nat → Int64) : OK (f_Ta_plan h g (nI L)) (fun x => LFT r a L 0 x.2 ∧ ((x.1 = 1 ∧ CB r a (L + 1) 0 (2 ^ r - 1)) ∨ (x.1 = 0 ∧ ¬ CB r a (L + 1) 0 (2 ^ r - 1)))) := by
  have h2r : 1 ≤ 2 ^ r ∧ 2 ^ r ≤ 64 := ⟨Nat.one_le_two_pow, Nat.pow_le_pow_right (n := 2) (by omega) hr⟩
  unfold f_Ta_plan
  rw [nI_1, nI_clamp (by omega)]
  refine OK.g (gd_nI (by omega) (by omega)) ?_
  refine OK.bind (P := fun x => LFT r a L 0 x) (OK.loop _ (fun i s => i ≤ L + 1 ∧ s.1 = nI (L + 1 - i) - 1 ∧ LFT r a L (L + 1 - i) s.2) _ (L + 1) (by omega) ?_ ⟨by omega, (pk_sub (a := L + 1) (b := 1) (by omega)).symm, fun j h1 h2 G hG => ?_⟩) (fun x hx => ?_)
  · rintro i ⟨v, g'⟩ - ⟨hi, rfl, hg⟩
    dsimp only at hg
    unfold b_Ta_plan_11
    dsimp only
    by_cases z : i = L + 1
    · subst z
      rw [show L + 1 - (L + 1) = 0 by omega] at hg ⊢
      rw [dn0, if_pos (by decide)]
      exact OK.ret hg
    · obtain ⟨b, hb⟩ : ∃ b, L + 1 - i = b + 1 := ⟨L - i, by omega⟩
      rw [hb, dn1, if_neg (show ¬ nI b < 0 from nltI (s := 0) (by omega) (by omega)), nI_1, nI_clamp (by omega), nI_clamp (by omega)]
      rw [hb] at hg
      refine OK.g (gd_nI (by omega) (by omega)) (OK.g (gd_nI (by omega) (by omega)) ?_)
      refine OK.bind (pl31 hr h25 h28 (L := L) (b := b) (by omega) hL hg) (fun x hx => OK.ret ⟨by omega, by omega, ?_, ?_⟩)
      · show nI b + (-1 : Int32) = nI (L + 1 - (i + 1)) - 1
        rw [dnm, show L + 1 - (i + 1) = b by omega]
      · show LFT r a L (L + 1 - (i + 1)) x
        rw [show L + 1 - (i + 1) = b by omega]; exact hx
  · have : j = L + 1 := by omega
    subst this
    show bl (rh_up g 29 (L + 1) 1 29 (L + 1)) G = true ↔ _
    rw [rh_up_s, bl_1 G hG, show L + 1 - (L + 1) = 0 by omega, decide_eq_true_eq]
    exact Iff.rfl
  · rw [h25, two_n r (by omega), show nI (2 ^ r) - 1 = nI (2 ^ r - 1) from pk_sub (b := 1) h2r.1, show f_Ta_canBeLeft x (0 : Int32) (nI (2 ^ r - 1)) = some (if bl (x 29 0) (2 ^ r - 1) = true then 1 else 0) from cb_ok (b := 0) (by omega) (by omega), Option.bind_some]
    have hh := hx 0 (by omega) (by omega) (2 ^ r - 1) (by omega)
    rw [Nat.sub_zero] at hh
    by_cases z : bl (x 29 0) (2 ^ r - 1) = true
    · rw [if_pos z, rg_t (Or.inr rfl)]
      exact OK.ret ⟨hx, Or.inl ⟨rfl, hh.mp z⟩⟩
    · rw [if_neg z, rg_t (Or.inl rfl)]
      exact OK.ret ⟨hx, Or.inr ⟨rfl, fun q => z (hh.mpr q)⟩⟩
theorem nt_ok {h : HI} (hr : r ≤ 6) (h25 : h 25 0 = nI r) (h28 : ∀ b, b < 9 → h 28 b = nI (BS (a b) r)) {L b G : Nat} (hb : b ≤ L) (hL : L < 9) (hG : G < 64) {g : Nat → Nat → Int64} (hg : LFT r a L 0 g) (hc : CB r a (L + 1 - b) b G) : OK (f_Ta_nextTask h g (nI b) (nI G)) (fun v => ∃ G', NXT r a (L - b) b G v G') := by
  have hlt : BS (a b) r < 2 ^ 31 := Nat.lt_of_lt_of_le (BS_lt _ r) (Nat.pow_le_pow_right (by omega) (by omega))
  unfold f_Ta_nextTask
  rw [nI_1, cb_ok (by omega) hG, Option.bind_some]
  have hh := hg (b + 1) (by omega) (by omega) G hG
  rw [show L + 1 - (b + 1) = L - b by omega] at hh
  rw [show L + 1 - b = (L - b) + 1 by omega] at hc
  by_cases z : bl (g 29 (b + 1)) G = true
  · rw [if_pos z, if_neg (by decide)]
    exact OK.ret ⟨G, Or.inl ⟨hh.mp z, rfl, rfl⟩⟩
  · have hn : ¬ CB r a (L - b) (b + 1) G := fun q => z (hh.mpr q)
    rw [if_neg z, if_pos rfl]
    obtain ⟨t0, q1, q2⟩ := hc.resolve_left hn
    refine OK.bind (P := fun x => Sum.elim (fun _ => False) (fun v => ∃ G', NXT r a (L - b) b G v G') x) (OK.loop _ (fun i s => i ≤ t0 ∧ s = nI i ∧ ∀ u, u < i → ¬ (a b u = true ∧ G.testBit u = true ∧ CB r a (L - b) (b + 1) (G ^^^ 2 ^ u))) _ t0 (by omega) ?_ ⟨by omega, rfl, fun u hu => by omega⟩) (fun x hx => ?_)
    · rintro i _ - ⟨hi, rfl, hu⟩
      unfold b_Ta_nextTask_15
      rw [h25, if_neg (nI_ge (by omega) (by omega)), nI_clamp (by omega), h28 b (by omega), two_n i (by omega), fa_and, fa_and, nI_1, nI_1]
      refine OK.g (gd_nI (by omega) (by omega)) ?_
      have hbit : (BS (a b) r).testBit i = a b i := by rw [BS_bit, decide_eq_true (show i < r by omega), Bool.true_and]
      have next : ¬ (a b i = true ∧ G.testBit i = true ∧ CB r a (L - b) (b + 1) (G ^^^ 2 ^ i)) → i < t0 ∧ i + 1 ≤ t0 ∧ nI (i + 1) = nI (i + 1) ∧ ∀ u, u < i + 1 → ¬ (a b u = true ∧ G.testBit u = true ∧ CB r a (L - b) (b + 1) (G ^^^ 2 ^ u)) := fun hno => by
        have hne : i ≠ t0 := fun q => by subst q; exact hno q2
        refine ⟨by omega, by omega, rfl, fun u hu2 => ?_⟩
        rcases (show u < i ∨ u = i by omega) with q | q
        · exact hu u q
        · subst q; exact hno
      have hand : G &&& BS (a b) r &&& 2 ^ i < 2 ^ 31 := Nat.lt_of_le_of_lt (Nat.and_le_left) (Nat.lt_of_le_of_lt Nat.and_le_left (by omega))
      by_cases hb2 : a b i = true ∧ G.testBit i = true
      · have e1 : G &&& BS (a b) r &&& 2 ^ i = 2 ^ i := by
          apply Nat.eq_of_testBit_eq
          intro j
          rw [Nat.testBit_and, Nat.testBit_and, Nat.testBit_two_pow]
          by_cases q : i = j
          · subst q; rw [hbit, hb2.1, hb2.2]; simp
          · rw [decide_eq_false q, Bool.and_false]
        rw [e1, if_neg (nz0 (by have := Nat.two_pow_pos i; omega) (by rw [← e1]; exact hand)), (g64 G hG i (by omega)).2.2 hb2.2, cb_ok (by omega) (g64 G hG i (by omega)).1, Option.bind_some]
        have hh2 := hg (b + 1) (by omega) (by omega) (G ^^^ 2 ^ i) (g64 G hG i (by omega)).1
        rw [show L + 1 - (b + 1) = L - b by omega] at hh2
        by_cases q : bl (g 29 (b + 1)) (G ^^^ 2 ^ i) = true
        · rw [if_pos q, if_neg (by decide)]
          exact OK.ret ⟨G ^^^ 2 ^ i, Or.inr ⟨hn, i, by omega, ⟨hb2.1, hb2.2, hh2.mp q⟩, hu, rfl, rfl⟩⟩
        · rw [if_neg q, if_pos rfl]
          exact OK.ret (next (fun w => q (hh2.mpr w.2.2)))
      · have e1 : G &&& BS (a b) r &&& 2 ^ i = 0 := by
          apply Nat.eq_of_testBit_eq
          intro j
          rw [Nat.testBit_and, Nat.testBit_and, Nat.testBit_two_pow, Nat.zero_testBit]
          by_cases q : i = j
          · subst q; rw [hbit]
            cases h1 : a b i with
            | false => simp
            | true =>
              cases h2 : G.testBit i with
              | false => simp
              | true => exact absurd ⟨h1, h2⟩ hb2
          · rw [decide_eq_false q, Bool.and_false]
        rw [e1, if_pos (show nI 0 = 0 from rfl)]
        exact OK.ret (next (fun w => hb2 ⟨w.1, w.2.1⟩))
    · cases x with
      | inl u => exact hx.elim
      | inr v => exact OK.ret hx
end ERL
