section MO4
variable {k n Pm : Nat} {B : Nat → Nat} {V : Nat → Nat → Nat → Nat} {T a q : Nat} {c m : HI} {r : Nat} {lo hi W : Nat → Nat}
theorem low2 : ∀ D, D < 64 → D ≠ 0 → nI D &&& (nI D - 1) = nI (D ^^^ 2 ^ tz D) := by decide +kernel
theorem TK.f17 {m' : HI} (tk : TK r lo hi c m) (hf : ∀ o j, o ≠ 17 → m' o j = m o j) : TK r lo hi c m' := tk.fr (XC.rf (h := c)) (X17 hf)
theorem TM.f17 {m' : HI} (tm : TM n W m) (hf : ∀ o j, o ≠ 17 → m' o j = m o j) : TM n W m' := ⟨fun s hs => (hf 9 s (by omega)).trans (tm.1 s hs), fun i hi => (hf 8 i (by omega)).trans (tm.2 i hi)⟩
/-- what row D has by the sets below i -/
def RWD (r n : Nat) (ft : Nat → Nat → Bool) (G t i w : Nat) : Prop := ∃ s, s < i ∧ s ≠ 0 ∧ ft t s = true ∧ ∃ w', w' < 2 ^ n ∧ w' &&& s = 0 ∧ DX r ft G w' ∧ w = w' ||| s
def QWD (r n : Nat) (ft : Nat → Nat → Bool) (G t i : Nat) : Prop := ∃ s, s < i ∧ s ≠ 0 ∧ ft t s = true ∧ ∃ w', w' < 2 ^ n ∧ w' &&& s = 0 ∧ DX r ft G w'
theorem m98_b (u2 u3 u4 u5 u6 v z : Int32) (rd : Option Nat) (g : HI) : b_Mo_most_98 u2 u3 u4 u5 u6 rd (v, z, g) = if (f_Mo_everybody g) < z then some (.inr (v, g)) else (f_Mo_does g u5 z).bind (fun x14 => if x14 = 0 then some (.inl (v, z + (1 : Int32), g)) else (rh_loop (b_Mo_most_124 u2 u3 u4 u5 u6 z rd) rh_N (v, (0 : Int32), g)).bind (fun r22 => some (.inl (r22.1, z + (1 : Int32), r22.2)))) := rfl
theorem m98 (A : RLa k n Pm B V T a q c m) (tk : TK r lo hi c m) (tm : TM n W m) (hS : ∀ s, WS n W s ≤ 89991) {D G t : Nat} (hD : D < 64) (hG : G < D) (ht : t < r) (hu : USD r n (fitT n W lo hi) D m) (h0 : ∀ w, w < 2 ^ n → m 17 (512 * D + w) = 0) (u3 : Int32) (rd : Option Nat) : OK (rh_loop (b_Mo_most_98 (512 : Int32) u3 (nI D) (nI t) (nI G) rd) rh_N ((0 : Int32), (1 : Int32), m)) (fun x => (∀ o j, o ≠ 17 → x.2 o j = m o j) ∧ USD r n (fitT n W lo hi) D x.2 ∧ (∀ j, 512 * (D + 1) ≤ j → x.2 17 j = m 17 j) ∧ (∀ w, w < 2 ^ n → ((x.2 17 (512 * D + w) = 1 ∧ RWD r n (fitT n W lo hi) G t (2 ^ n) w) ∨ (x.2 17 (512 * D + w) = 0 ∧ ¬ RWD r n (fitT n W lo hi) G t (2 ^ n) w))) ∧ ((x.1 = 1 ∧ QWD r n (fitT n W lo hi) G t (2 ^ n)) ∨ (x.1 = 0 ∧ ¬ QWD r n (fitT n W lo hi) G t (2 ^ n)))) := by
  have hn := A.n9
  have hp9 := pow9 hn
  have hev : ∀ g : HI, (∀ o j, o ≠ 17 → g o j = m o j) → f_Mo_everybody g = nI (2 ^ n - 1) := fun g hg => (A.r (X17 hg)).me
  refine OK.loop _ (fun i x => i + 1 ≤ 2 ^ n ∧ x.2.1 = nI (i + 1) ∧ (∀ o j, o ≠ 17 → x.2.2 o j = m o j) ∧ USD r n (fitT n W lo hi) D x.2.2 ∧ (∀ j, 512 * (D + 1) ≤ j → x.2.2 17 j = m 17 j) ∧ (∀ w, w < 2 ^ n → ((x.2.2 17 (512 * D + w) = 1 ∧ RWD r n (fitT n W lo hi) G t (i + 1) w) ∨ (x.2.2 17 (512 * D + w) = 0 ∧ ¬ RWD r n (fitT n W lo hi) G t (i + 1) w))) ∧ ((x.1 = 1 ∧ QWD r n (fitT n W lo hi) G t (i + 1)) ∨ (x.1 = 0 ∧ ¬ QWD r n (fitT n W lo hi) G t (i + 1)))) _ (2 ^ n) (by omega) ?_ ⟨by omega, rfl, fun _ _ _ => rfl, hu, fun _ _ => rfl, fun w hw => Or.inr ⟨h0 w hw, fun ⟨s, s1, s2, _⟩ => by omega⟩, Or.inr ⟨rfl, fun ⟨s, s1, s2, _⟩ => by omega⟩⟩
  rintro i ⟨v, z, g⟩ - ⟨hi', rfl, hf, hU, hT, hw, hv⟩
  dsimp only at hf hU hT hw hv
  rw [m98_b, hev g hf]
  refine OK.ite (fun hc => OK.ret ?_) (fun hc => ?_)
  · have := (nI_ltI (a := 2 ^ n - 1) (b := i + 1) (by omega) (by omega)).mp hc
    have e : i + 1 = 2 ^ n := by omega
    rw [e] at hw hv
    exact ⟨hf, hU, hT, hw, hv⟩
  have hi2 : i + 1 ≤ 2 ^ n - 1 := nlt hc (by omega) (by omega)
  rw [mo_does (tk.f17 hf) hn (tm.f17 hf) hS ht (by omega) (by omega), Option.bind_some]
  by_cases hd : lo t ≤ WS n W (i + 1) ∧ WS n W (i + 1) ≤ hi t
  · have hft : fitT n W lo hi t (i + 1) = true := decide_eq_true hd
    rw [if_pos hd, if_neg (by decide)]
    refine OK.bind (m124 hn hD hG (s := i + 1) (by omega) (hev g hf) (fun g' hg' => hev g' (fun o j ho => (hg' o j ho).trans (hf o j ho))) hU (R := RWD r n (fitT n W lo hi) G t (i + 1)) hw u3 (nI t) rd (Q := QWD r n (fitT n W lo hi) G t (i + 1)) hv) ?_
    rintro ⟨v', g'⟩ ⟨b1, b2, b3, b4, b5⟩
    dsimp only at b1 b2 b3 b4 b5
    refine OK.ret ⟨by omega, by omega, nI_1 _, fun o j ho => (b1 o j ho).trans (hf o j ho), b2, fun j hj => (b3 j hj).trans (hT j hj), fun w hw2 => ?_, ?_⟩
    · have e : RWD r n (fitT n W lo hi) G t (i + 1 + 1) w ↔ (RWD r n (fitT n W lo hi) G t (i + 1) w ∨ ∃ w', w' < 2 ^ n ∧ w' &&& (i + 1) = 0 ∧ DX r (fitT n W lo hi) G w' ∧ w = w' ||| (i + 1)) := by
        constructor
        · rintro ⟨s, s1, s2, s3, s4⟩
          rcases (show s < i + 1 ∨ s = i + 1 by omega) with y | y
          · exact Or.inl ⟨s, y, s2, s3, s4⟩
          · subst y; exact Or.inr s4
        · rintro (⟨s, s1, s2⟩ | y)
          · exact ⟨s, by omega, s2⟩
          · exact ⟨i + 1, by omega, by omega, hft, y⟩
      show (g' 17 (512 * D + w) = 1 ∧ _) ∨ (g' 17 (512 * D + w) = 0 ∧ _)
      rw [e]; exact b4 w hw2
    · have e : QWD r n (fitT n W lo hi) G t (i + 1 + 1) ↔ (QWD r n (fitT n W lo hi) G t (i + 1) ∨ ∃ w', w' < 2 ^ n ∧ w' &&& (i + 1) = 0 ∧ DX r (fitT n W lo hi) G w') := by
        constructor
        · rintro ⟨s, s1, s2, s3, s4⟩
          rcases (show s < i + 1 ∨ s = i + 1 by omega) with y | y
          · exact Or.inl ⟨s, y, s2, s3, s4⟩
          · subst y; exact Or.inr s4
        · rintro (⟨s, s1, s2⟩ | y)
          · exact ⟨s, by omega, s2⟩
          · exact ⟨i + 1, by omega, by omega, hft, y⟩
      show (v' = 1 ∧ _) ∨ (v' = 0 ∧ _)
      rw [e]; exact b5
  · have hft : ¬ fitT n W lo hi t (i + 1) = true := fun z => hd (of_decide_eq_true z)
    rw [if_neg hd, if_pos rfl]
    refine OK.ret ⟨by omega, by omega, nI_1 _, hf, hU, hT, fun w hw2 => ?_, ?_⟩
    · have e : RWD r n (fitT n W lo hi) G t (i + 1 + 1) w ↔ RWD r n (fitT n W lo hi) G t (i + 1) w := by
        constructor
        · rintro ⟨s, s1, s2, s3, s4⟩
          rcases (show s < i + 1 ∨ s = i + 1 by omega) with y | y
          · exact ⟨s, y, s2, s3, s4⟩
          · subst y; exact absurd s3 hft
        · rintro ⟨s, s1, s2⟩; exact ⟨s, by omega, s2⟩
      show (g 17 (512 * D + w) = 1 ∧ _) ∨ (g 17 (512 * D + w) = 0 ∧ _)
      rw [e]; exact hw w hw2
    · have e : QWD r n (fitT n W lo hi) G t (i + 1 + 1) ↔ QWD r n (fitT n W lo hi) G t (i + 1) := by
        constructor
        · rintro ⟨s, s1, s2, s3, s4⟩
          rcases (show s < i + 1 ∨ s = i + 1 by omega) with y | y
          · exact ⟨s, y, s2, s3, s4⟩
          · subst y; exact absurd s3 hft
        · rintro ⟨s, s1, s2⟩; exact ⟨s, by omega, s2⟩
      show (v = 1 ∧ _) ∨ (v = 0 ∧ _)
      rw [e]; exact hv
theorem RWD_X {ft : Nat → Nat → Bool} {D t w : Nat} (hb : D.testBit t = true) (ht : t < r) (hw : w < 2 ^ n) : RWD r n ft (D ^^^ 2 ^ t) t (2 ^ n) w ↔ DX r ft D w := by
  rw [DX_step hb ht]
  constructor
  · rintro ⟨s, s1, s2, s3, w', w1, w2, w3, w4⟩
    exact ⟨s, w', s2, s3, w2, w3, w4⟩
  · rintro ⟨s, w', s2, s3, w2, w3, w4⟩
    have h1 : SUB s w := fun j hj => by rw [w4, Nat.testBit_or, hj, Bool.or_true]
    have h2 : SUB w' w := fun j hj => by rw [w4, Nat.testBit_or, hj, Bool.true_or]
    exact ⟨s, Nat.lt_of_le_of_lt h1.le hw, s2, s3, w', Nat.lt_of_le_of_lt h2.le hw, w2, w3, w4⟩
theorem QWD_X {ft : Nat → Nat → Bool} {D t : Nat} (hr : r ≤ 6) (hb : D.testBit t = true) (ht : t < r) : QWD r n ft (D ^^^ 2 ^ t) t (2 ^ n) ↔ DJ r ft D (2 ^ n - 1) := by
  rw [DJ_X hr]
  constructor
  · rintro ⟨s, s1, s2, s3, w', w1, w2, w3⟩
    exact ⟨w' ||| s, or_lt w1 s1, (DX_step hb ht).mpr ⟨s, w', s2, s3, w2, w3, rfl⟩⟩
  · rintro ⟨S, hS, h⟩
    obtain ⟨s, s1, s2, s3, w', w1, w2, w3, w4⟩ := (RWD_X hb ht hS).mpr h
    exact ⟨s, s1, s2, s3, w', w1, w2, w3⟩
theorem m65_b (u2 v z : Int32) (rd : Option Nat) (g : HI) : b_Mo_most_65 u2 rd (v, z, g) = if ((1 : Int32) <<< ((g 0 29) &&& 31)) ≤ z then some (.inr (v, g)) else (rh_loop (b_Mo_most_98 u2 v z (f_In_numberOfTrailingZeros z) (z &&& (z - (1 : Int32))) rd) rh_N ((0 : Int32), (1 : Int32), g)).bind (fun r23 => if r23.1 = 0 then some (.inl (v, z + (1 : Int32), r23.2)) else if (f_In_bitCount z) ≤ (f_In_bitCount v) then some (.inl (v, z + (1 : Int32), r23.2)) else some (.inl (z, z + (1 : Int32), r23.2))) := rfl
theorem mo_m (A : RLa k n Pm B V T a q c m) (tk : TK r lo hi c m) (tm : TM n W m) (hS : ∀ s, WS n W s ≤ 89991) {p : Nat → Bool} (hp : ∀ G, G < 64 → (p G = true ↔ DJ r (fitT n W lo hi) G (2 ^ n - 1))) (rd : Option Nat) : OK ((rh_loop (b_Mo_most_30 (512 : Int32) rd) rh_N ((0 : Int32), m)).bind (fun r9 => rh_loop (b_Mo_most_65 (512 : Int32) rd) rh_N ((0 : Int32), (1 : Int32), r9))) (fun x => XM m x.2 ∧ x.1 = nI (bst p 64)) := by
  have hn := A.n9
  have hr := tk.1
  have hp9 := pow9 hn
  have h2r : 1 ≤ 2 ^ r ∧ 2 ^ r ≤ 64 := ⟨Nat.one_le_two_pow, Nat.pow_le_pow_right (n := 2) (by omega) hr⟩
  refine OK.bind (P := fun x => (∀ o j, o ≠ 17 → x o j = m o j) ∧ ∀ j, j < 32768 → x 17 j = if j = 0 then 1 else 0) (OK.loop _ (fun i x => i ≤ 32768 ∧ x.1 = nI i ∧ (∀ o j, o ≠ 17 → x.2 o j = m o j) ∧ ∀ j, j < i → x.2 17 j = if j = 0 then 1 else 0) _ 32768 (by omega) ?_ ⟨by omega, rfl, fun _ _ _ => rfl, fun j hj => by omega⟩) ?_
  · rintro i ⟨v, g⟩ - ⟨hi', rfl, hf, h17⟩
    dsimp only at hf h17
    unfold b_Mo_most_30
    dsimp only
    refine OK.ite (fun hc => OK.ret ?_) (fun hc => ?_)
    · have : i = 32768 := by have := ple (b := 32768) hc (by omega) (by omega); omega
      subst this; exact ⟨hf, h17⟩
    have hi2 : i < 32768 := nle (b := 32768) hc (by omega) (by omega)
    rw [nI_clamp (n := i) (by omega)]
    have put : ∀ v : Int32, v = (if i = 0 then 1 else 0) → (i < 32768 ∧ i + 1 ≤ 32768 ∧ nI i + 1 = nI (i + 1) ∧ (∀ o j, o ≠ 17 → rh_up g 17 i v o j = m o j) ∧ ∀ j, j < i + 1 → rh_up g 17 i v 17 j = if j = 0 then 1 else 0) := fun v hv => by
      refine ⟨hi2, hi2, nI_1 i, fun o j ho => ?_, fun j hj => ?_⟩
      · rw [up_f, if_neg (fun z => ho z.1)]; exact hf o j ho
      · by_cases z : j = i
        · subst z; rw [rh_up_s]; exact hv
        · rw [gup _ _ _ _ z]; exact h17 j (by omega)
    by_cases h0 : i = 0
    · rw [if_pos (show nI i = 0 by rw [h0]; rfl)]
      exact OK.g (gd_nI (by omega) (by omega)) (OK.ret (put _ (by rw [if_pos h0]; rfl)))
    · rw [if_neg (nz0 h0 (by omega))]
      exact OK.g (gd_nI (by omega) (by omega)) (OK.ret (put _ (by rw [if_neg h0]; rfl)))
  · rintro m1 ⟨hf, h17⟩
    have A := A.r (X17 hf)
    have tk := tk.f17 hf
    have tm := tm.f17 hf
    have hx := X17 hf
    refine OK.mono (P := fun x => (∀ o j, o ≠ 17 → x.2 o j = m1 o j) ∧ x.1 = nI (bst p (2 ^ r))) (OK.loop _ (fun i x => i + 1 ≤ 2 ^ r ∧ x.2.1 = nI (i + 1) ∧ x.1 = nI (bst p (i + 1)) ∧ (∀ o j, o ≠ 17 → x.2.2 o j = m1 o j) ∧ USD r n (fitT n W lo hi) (i + 1) x.2.2 ∧ ∀ j, 512 * (i + 1) ≤ j → j < 32768 → x.2.2 17 j = 0) _ (2 ^ r) (by omega) ?_ ⟨by omega, rfl, ?_, fun _ _ _ => rfl, fun G w hG hw => ?_, fun j h1 h2 => ?_⟩) (fun x hx' => ⟨hx.tr (X17 hx'.1), ?_⟩)
    · rintro i ⟨v, z, g⟩ - ⟨hi', rfl, rfl, gf, hU, h0⟩
      dsimp only at gf hU h0
      have A := A.r (X17 gf)
      have tk := tk.f17 gf
      have tm := tm.f17 gf
      rw [m65_b, tk.2.2.1, two_n r (by omega)]
      refine OK.ite (fun hc => OK.ret ?_) (fun hc => ?_)
      · have : i + 1 = 2 ^ r := by have := ple hc (by omega) (by omega); omega
        rw [← this]
        exact ⟨gf, rfl⟩
      have hi2 : i + 1 < 2 ^ r := nle hc (by omega) (by omega)
      obtain ⟨l1, l2, l3, l4⟩ := low1 (i + 1) (by omega) (by omega)
      have htz : tz (i + 1) < r := by
        rcases Nat.lt_or_ge (tz (i + 1)) r with y | y
        · exact y
        · rw [Nat.testBit_lt_two_pow (Nat.lt_of_lt_of_le hi2 (Nat.pow_le_pow_right (by omega) y))] at l3; cases l3
      rw [low2 (i + 1) (by omega) (by omega), (tz_all (i + 1) (by omega) (by omega)).1]
      refine OK.bind (m98 A tk tm hS (D := i + 1) (G := (i + 1) ^^^ 2 ^ tz (i + 1)) (t := tz (i + 1)) (by omega) l4 htz hU (fun w hw => h0 _ (by omega) (by omega)) _ rd) ?_
      rintro ⟨v', g'⟩ ⟨b1, b2, b3, b4, b5⟩
      dsimp only at b1 b2 b3 b4 b5
      have hbst := bst_le p (i + 1)
      have hbs : bst p (i + 1 + 1) = if p (i + 1) = true ∧ pc (bst p (i + 1)) < pc (i + 1) then i + 1 else bst p (i + 1) := rfl
      have hq := (QWD_X (n := n) (ft := fitT n W lo hi) hr l3 htz).trans (hp (i + 1) (by omega)).symm
      have hcom : (∀ o j, o ≠ 17 → g' o j = m1 o j) ∧ USD r n (fitT n W lo hi) (i + 1 + 1) g' ∧ ∀ j, 512 * (i + 1 + 1) ≤ j → j < 32768 → g' 17 j = 0 := by
        refine ⟨fun o j ho => (b1 o j ho).trans (gf o j ho), fun G w hG hw => ?_, fun j h1 h2 => (b3 j h1).trans (h0 j (by omega) h2)⟩
        rcases (show G < i + 1 ∨ G = i + 1 by omega) with y | y
        · exact b2 G w y hw
        · subst y
          have := b4 w hw
          rw [RWD_X l3 htz hw] at this
          exact this
      rcases b5 with ⟨rfl, b5⟩ | ⟨rfl, b5⟩
      · have hpp := hq.mp b5
        rw [if_neg (show ¬ (1 : Int32) = 0 by decide), (pc64 (i + 1) (by omega)).1, (pc64 _ (by omega)).1]
        by_cases hl : pc (bst p (i + 1)) < pc (i + 1)
        · rw [if_neg (nI_ge hl (by have := (pc64 (i + 1) (by omega)).2.1; omega))]
          exact OK.ret ⟨by omega, by omega, nI_1 _, by rw [hbs, if_pos ⟨hpp, hl⟩], hcom⟩
        · rw [if_pos (nI_le (by omega) (by have := (pc64 (bst p (i + 1)) (by omega)).2.1; omega))]
          exact OK.ret ⟨by omega, by omega, nI_1 _, by rw [hbs, if_neg (fun z => hl z.2)], hcom⟩
      · rw [if_pos rfl]
        exact OK.ret ⟨by omega, by omega, nI_1 _, by rw [hbs, if_neg (fun z => b5 (hq.mpr z.1))], hcom⟩
    · show (0 : Int32) = nI (if p 0 = true ∧ pc 0 < pc 0 then 0 else 0)
      rw [ite_self]; rfl
    · have : G = 0 := by omega
      subst this
      show (m1 17 (512 * 0 + w) = 1 ∧ _) ∨ (m1 17 (512 * 0 + w) = 0 ∧ _)
      rw [h17 (512 * 0 + w) (by omega), DX_0]
      by_cases y : w = 0
      · subst y; exact Or.inl ⟨rfl, rfl⟩
      · rw [if_neg (by omega)]; exact Or.inr ⟨rfl, y⟩
    · show m1 17 j = 0
      rw [h17 j h2, if_neg (by omega)]
    · rw [hx'.2]
      congr 1
      have := bst_more (p := p) (k := 2 ^ r) (64 - 2 ^ r) (fun i h1 h2 => by
        cases y : p i with
        | false => rfl
        | true => have := DJ_r ((hp i (by omega)).mp y); omega)
      rw [show 2 ^ r + (64 - 2 ^ r) = 64 by omega] at this
      exact this.symm
theorem op_most (h : RLt k n Pm B V c m) (hk : k ≤ 600) (g : Nat → Nat → Int64) (rd : Option Nat) (b : Int32) : RO (f_La_most c g b) (f_Mo_most m rd b) (FIG k n Pm B V) := by
  obtain ⟨T, a, q, A⟩ := h.la hk
  have hT := A.T30
  obtain ⟨r, lo, hi, tk⟩ := A.tk
  unfold f_La_most f_Mo_most
  rw [la_isBell, mo_isBell, Option.bind_some, Option.bind_some]
  refine RO.ii Iff.rfl (fun _ => RO.ret ⟨rfl, A.fin⟩) (fun h1 => ?_)
  obtain ⟨b', hb, rfl⟩ := bell_1 h1
  rw [A.dc, A.dm, nI_add]
  have hS : ∀ s, WS n (fun j => Wt Pm B V j (9 * (T / 9) + b')) s ≤ 89991 := fun s => A.sle s (by omega)
  refine RO.bind (A.sums rd (by omega)) ?_
  rintro c1 ⟨m1, rd1⟩ ⟨A, tc, tm, x1, x2⟩
  dsimp only at A tc tm x1 x2 ⊢
  have tk := tk.fr x1.x x2.x
  refine RO.bl (mo_c A tk tc hS g) ?_
  rintro ⟨v, c2, g2⟩ ⟨hx, p, hp, rfl⟩
  dsimp only at hx hp ⊢
  have A := A.l hx
  have tk := tk.fr hx (XM.rf (h := m1))
  obtain ⟨y, ey, hy1, hy2⟩ := mo_m A tk tm hS hp rd1
  obtain ⟨r9, e9, ey⟩ := rh_bq ey
  rw [e9, Option.bind_some, ey, Option.bind_some, hy2]
  have A := A.r hy1
  exact RO.bind (A.tell (nI (bst p 64))) (fun x z hz => RO.ret ⟨rfl, hz.fin⟩)
end MO4
