/-! steady: moves, and what can be behind each bell -/
def LEz (a n : Nat) (w : Nat → Nat) (X : CFG) : Int := fb_si (fun i => if a.testBit i = true then ((X i : Int) - 4) * (w i : Int) else 0) n
def BR (bt : Nat) (z : Int) : Bool := decide (z ≤ (bt : Int)) && decide (-z ≤ (bt : Int))
theorem BR_iff {bt : Nat} {z : Int} : BR bt z = true ↔ z ≤ (bt : Int) ∧ -z ≤ (bt : Int) := by
  unfold BR; rw [Bool.and_eq_true, decide_eq_true_eq, decide_eq_true_eq]
def MT (a n bt : Nat) (w : Nat → Nat) (X : CFG) (mv : Nat) : Option CFG :=
  if mv = 18 then some X
  else if mv / 2 < n ∧ a.testBit (mv / 2) = true then
    (if mv % 2 = 1 then (if X (mv / 2) < 8 ∧ BR bt (LEz a n w X + (w (mv / 2) : Int)) = true then some (chg X (mv / 2) (X (mv / 2) + 1)) else none)
    else (if 0 < X (mv / 2) ∧ BR bt (LEz a n w X - (w (mv / 2) : Int)) = true then some (chg X (mv / 2) (X (mv / 2) - 1)) else none))
  else none
def LYS (a n bt : Nat) (w : Nat → Nat → Nat) (X0 : CFG) : Nat → CFG → Prop
  | 0, X => X = X0
  | k + 1, Y => ∃ X mv, LYS a n bt w X0 k X ∧ BR bt (LEz a n (w (k + 1)) X) = true ∧ mv ≤ 18 ∧ MT a n bt (w (k + 1)) X mv = some Y
theorem tm_bd {x w : Nat} (hx : x ≤ 8) (hw : w ≤ 9999) : -39996 ≤ ((x : Int) - 4) * (w : Int) ∧ ((x : Int) - 4) * (w : Int) ≤ 39996 := by
  rcases (show x = 0 ∨ x = 1 ∨ x = 2 ∨ x = 3 ∨ x = 4 ∨ x = 5 ∨ x = 6 ∨ x = 7 ∨ x = 8 by omega) with h | h | h | h | h | h | h | h | h <;> subst h <;> omega
section MVS
variable {a n bt : Nat} {w : Nat → Nat} {X0 X Y : CFG}
theorem MT_18 : MT a n bt w X 18 = some X := by unfold MT; rw [if_pos rfl]
theorem MT_no {mv : Nat} (h : mv ≠ 18) (h2 : ¬ (mv / 2 < n ∧ a.testBit (mv / 2) = true)) : MT a n bt w X mv = none := by unfold MT; rw [if_neg h, if_neg h2]
theorem MT_up {i : Nat} (hn : n ≤ 9) (hi : i < n) (hb : a.testBit i = true) : MT a n bt w X (2 * i + 1) = if X i < 8 ∧ BR bt (LEz a n w X + (w i : Int)) = true then some (chg X i (X i + 1)) else none := by
  unfold MT
  rw [if_neg (by omega), show (2 * i + 1) / 2 = i by omega, if_pos ⟨hi, hb⟩, if_pos (by omega)]
theorem MT_dn {i : Nat} (hn : n ≤ 9) (hi : i < n) (hb : a.testBit i = true) : MT a n bt w X (2 * i) = if 0 < X i ∧ BR bt (LEz a n w X - (w i : Int)) = true then some (chg X i (X i - 1)) else none := by
  unfold MT
  rw [if_neg (by omega), show 2 * i / 2 = i by omega, if_pos ⟨hi, hb⟩, if_neg (by omega)]
theorem MT_VX (hX : VX a n X0 X) {mv : Nat} (h : MT a n bt w X mv = some Y) : VX a n X0 Y := by
  unfold MT at h
  by_cases h1 : mv = 18
  · rw [if_pos h1] at h; rw [← Option.some.inj h]; exact hX
  rw [if_neg h1] at h
  by_cases h2 : mv / 2 < n ∧ a.testBit (mv / 2) = true
  · rw [if_pos h2] at h
    by_cases h3 : mv % 2 = 1
    · rw [if_pos h3] at h
      by_cases h4 : X (mv / 2) < 8 ∧ BR bt (LEz a n w X + (w (mv / 2) : Int)) = true
      · rw [if_pos h4] at h; rw [← Option.some.inj h]; exact hX.chg h2.1 h2.2 (by omega)
      · rw [if_neg h4] at h; cases h
    · rw [if_neg h3] at h
      by_cases h4 : 0 < X (mv / 2) ∧ BR bt (LEz a n w X - (w (mv / 2) : Int)) = true
      · rw [if_pos h4] at h; rw [← Option.some.inj h]; exact hX.chg h2.1 h2.2 (by have := hX.1 _ h2.1; omega)
      · rw [if_neg h4] at h; cases h
  · rw [if_neg h2] at h; cases h
theorem LYS_VX {w : Nat → Nat → Nat} (h0 : VX a n X0 X0) : ∀ {k : Nat} {X : CFG}, LYS a n bt w X0 k X → VX a n X0 X
  | 0, X, h => by have h : X = X0 := h; rw [h]; exact h0
  | k + 1, Y, ⟨X, mv, h1, _, _, h2⟩ => MT_VX (LYS_VX h0 h1) h2
theorem LE_bd (hn : n ≤ 9) (hX : ∀ i, i < n → X i < 9) (hw : ∀ i, i < n → w i ≤ 9999) : -359964 ≤ LEz a n w X ∧ LEz a n w X ≤ 359964 := by
  have := fb_si_bound (f := fun i => if a.testBit i = true then ((X i : Int) - 4) * (w i : Int) else 0) (c := 39996) (by omega) (n := n) (fun k hk => by
    split
    · exact tm_bd (by have := hX k hk; omega) (hw k hk)
    · omega)
  unfold LEz
  omega
end MVS
/-! the class's numbers -/
def SNC (a n bt : Nat) (c : HI) : Prop := c 42 9 = nI bt ∧ c 42 3 = nI (rk a n) ∧ ∀ k, k < rk a n → c 43 k = nI (stn a n k)
def WC (a n : Nat) (w : Nat → Nat) (c : HI) : Prop := ∀ k, k < rk a n → c 44 k = nI (w (stn a n k))
theorem UN_ok : ∀ k, k < 9 → rh_UN k = nI (9 ^ k) := by decide +kernel
theorem nine_pow {k : Nat} (h : k < 9) : 1 ≤ 9 ^ k ∧ 9 ^ k ≤ 43046721 := by
  have h1 : 9 ^ k ≤ 9 ^ 8 := Nat.pow_le_pow_right (by omega) (by omega)
  have h2 : (9 : Nat) ^ 8 = 43046721 := by decide
  have h3 := Nat.pow_pos (a := 9) (n := k) (by omega)
  omega
theorem sub4 {d : Nat} (h : d < 9) : (nI d - 4 : Int32).toInt = (d : Int) - 4 := by
  rw [fb_subI, nI_toInt (by omega)]
  · rfl
  · rw [nI_toInt (by omega), show (4 : Int32).toInt = 4 from rfl]; omega
  · rw [nI_toInt (by omega), show (4 : Int32).toInt = 4 from rfl]; omega
section RFC
variable {a n bt : Nat} {w : Nat → Nat} {X0 X : CFG} {c : HI}
theorem lo_c (hn : n ≤ 9) (hX : ∀ i, i < n → X i < 9) (hw : ∀ i, i < n → w i ≤ 9999) (sn : SNC a n bt c) (wc : WC a n w c) : OK (f_St_leanOf c (nI (gam a n X))) (fun x => x.toInt = LEz a n w X) := by
  have hq := rk_le a n
  have hg := gam_lt (a := a) hn hX
  unfold f_St_leanOf
  refine OK.bind (P := fun x => x.toInt = LEz a n w X) (OK.loop _ (fun k s => k ≤ rk a n ∧ s.2.2 = nI k ∧ s.2.1 = nI (gam a n X / 9 ^ k) ∧ s.1.toInt = fb_si (fun k => ((X (stn a n k) : Int) - 4) * (w (stn a n k) : Int)) k) _ (rk a n) (by omega) ?_ ⟨by omega, rfl, by rw [Nat.pow_zero, Nat.div_one], rfl⟩) (fun x hx => OK.ret hx)
  rintro k ⟨l, r, v⟩ - ⟨hk, rfl, rfl, hl⟩
  dsimp only at hl
  unfold b_St_leanOf_7
  dsimp only
  rw [sn.2.1]
  refine OK.ite (fun hc => OK.ret ?_) (fun hc => ?_)
  · have : k = rk a n := by have := ple hc (by omega) (by omega); omega
    show l.toInt = _
    rw [hl, this]
    unfold LEz
    exact (si_st (a := a) (n := n) (fun i => ((X i : Int) - 4) * (w i : Int)) n (Nat.le_refl _)).symm
  have hk2 : k < rk a n := nle hc (by omega) (by omega)
  obtain ⟨s1, s2, s3⟩ := stn_ok hk2
  have hdiv := Nat.div_le_self (gam a n X) (9 ^ k)
  rw [nI_clamp (by omega), wc k hk2, show nI (gam a n X / 9 ^ k) - nI (gam a n X / 9 ^ k) / 9 * 9 = nI (gam a n X / 9 ^ k % 9) from pk_rem (d := 9) (by omega) (by omega) (by omega), gam_dg hX hk2, show nI (gam a n X / 9 ^ k) / 9 = nI (gam a n X / 9 ^ k / 9) from pk_div (d := 9) (by omega) (by omega) (by omega)]
  refine OK.g (gd_nI (by omega) (by omega)) (OK.ret ⟨hk2, hk2, nI_1 k, ?_, ?_⟩)
  · show nI _ = nI _
    rw [Nat.div_div_eq_div_mul, ← Nat.pow_succ]
  · show (l + nI (w (stn a n k)) * (nI (X (stn a n k)) - 4)).toInt = _
    have hx := hX _ s1
    have hww := hw _ s1
    have h4 := sub4 hx
    have hb := tm_bd (x := X (stn a n k)) (w := w (stn a n k)) (by omega) hww
    have hm : (nI (w (stn a n k)) * (nI (X (stn a n k)) - 4)).toInt = ((X (stn a n k) : Int) - 4) * (w (stn a n k) : Int) := by
      rw [fb_mulI, h4, nI_toInt (by omega), Int.mul_comm]
      · rw [h4, nI_toInt (by omega), Int.mul_comm]; omega
      · rw [h4, nI_toInt (by omega), Int.mul_comm]; omega
    have hbd := fb_si_bound (f := fun k => ((X (stn a n k) : Int) - 4) * (w (stn a n k) : Int)) (c := 39996) (by omega) (n := k) (fun j hj => tm_bd (by have := hX _ (stn_ok (a := a) (n := n) (show j < rk a n by omega)).1; omega) (hw _ (stn_ok (a := a) (n := n) (show j < rk a n by omega)).1))
    rw [fb_addI, hl, hm, fb_si_succ]
    · rw [hl, hm]; omega
    · rw [hl, hm]; omega
theorem brl_c (sn : SNC a n bt c) (hbt : bt ≤ 9999) {x : Int32} {z : Int} (hx : x.toInt = z) (h1 : -1000000 ≤ z) (h2 : z ≤ 1000000) : f_St_bearsLean c x = if BR bt z = true then 1 else 0 := by
  unfold f_St_bearsLean
  rw [sn.1]
  have hneg : (-x).toInt = -z := by rw [fb_negI (by omega), hx]
  by_cases h : BR bt z = true
  · rw [if_pos h]
    have := BR_iff.mp h
    rw [if_neg (by rw [fa_lt, nI_toInt (by omega), hx]; omega), if_neg (by rw [fa_lt, nI_toInt (by omega), hneg]; omega)]
  · rw [if_neg h]
    by_cases h3 : z ≤ (bt : Int)
    · rw [if_neg (by rw [fa_lt, nI_toInt (by omega), hx]; omega), if_pos (by
        rw [fa_lt, nI_toInt (by omega), hneg]
        by_cases y : (bt : Int) < -z
        · exact y
        · exact absurd (BR_iff.mpr ⟨h3, by omega⟩) h)]
    · rw [if_pos (by rw [fa_lt, nI_toInt (by omega), hx]; omega)]
/-- a step of the k-th of those aboard, as the class reckons it -/
def mvI (a n : Nat) : Option CFG → Int32
  | none => -1
  | some Y => nI (gam a n Y)
theorem sp_c (hn : n ≤ 9) (hX : ∀ i, i < n → X i < 9) (hw : ∀ i, i < n → w i ≤ 9999) (hbt : bt ≤ 9999) (sn : SNC a n bt c) (wc : WC a n w c) {k : Nat} (hk : k < rk a n) {l : Int32} (hl : l.toInt = LEz a n w X) : f_St_stepped c (nI (gam a n X)) l (nI k) (-1) = some (mvI a n (MT a n bt w X (2 * stn a n k))) ∧ f_St_stepped c (nI (gam a n X)) l (nI k) 1 = some (mvI a n (MT a n bt w X (2 * stn a n k + 1))) := by
  have hq := rk_le a n
  have hg := gam_lt (a := a) hn hX
  obtain ⟨s1, s2, s3⟩ := stn_ok hk
  have hp := nine_pow (k := k) (by omega)
  have hx := hX _ s1
  have hww := hw _ s1
  have hbd := LE_bd (a := a) hn hX hw
  have hdl := Nat.div_le_self (gam a n X) (9 ^ k)
  have e1 : nI (gam a n X) / nI (9 ^ k) = nI (gam a n X / 9 ^ k) := pk_div (by omega) (by omega) (by omega)
  have e2 : nI (gam a n X / 9 ^ k) - nI (gam a n X / 9 ^ k) / 9 * 9 = nI (X (stn a n k)) := by
    rw [show nI (gam a n X / 9 ^ k) - nI (gam a n X / 9 ^ k) / 9 * 9 = nI (gam a n X / 9 ^ k % 9) from pk_rem (d := 9) (by omega) (by omega) (by omega), gam_dg hX hk]
  have hz : ¬ nI (9 ^ k) = 0 := nz0 (by omega) (by omega)
  have gk := gd_nI (i := k) (N := 9) (by omega) (by omega)
  have hx31 : (nI (X (stn a n k))).toInt = (X (stn a n k) : Int) := nI_toInt (by omega)
  have hw31 : (nI (w (stn a n k))).toInt = (w (stn a n k) : Int) := nI_toInt (by omega)
  have m1 : (-1 : Int32).toInt = -1 := rfl
  have p1 : (1 : Int32).toInt = 1 := rfl
  constructor
  · unfold f_St_stepped
    rw [rg_t gk, nI_clamp (by omega), UN_ok k (by omega), rg_t hz, e1, e2, wc k hk, MT_dn hn s1 s2]
    have hs : (nI (X (stn a n k)) + (-1 : Int32)).toInt = (X (stn a n k) : Int) - 1 := by
      rw [fb_addI, hx31, m1]
      · omega
      · rw [hx31, m1]; omega
      · rw [hx31, m1]; omega
    have hm : ((-1 : Int32) * nI (w (stn a n k))).toInt = -(w (stn a n k) : Int) := by
      rw [fb_mulI, hw31, m1]
      · omega
      · rw [hw31, m1]; omega
      · rw [hw31, m1]; omega
    have hll : (l + (-1 : Int32) * nI (w (stn a n k))).toInt = LEz a n w X - (w (stn a n k) : Int) := by
      rw [fb_addI, hl, hm]
      · omega
      · rw [hl, hm]; omega
      · rw [hl, hm]; omega
    generalize nI (X (stn a n k)) + (-1 : Int32) = y at hs
    generalize l + (-1 : Int32) * nI (w (stn a n k)) = l2 at hll
    by_cases h0 : 0 < X (stn a n k)
    · rw [if_neg (by rw [fa_lt, hs, show (0 : Int32).toInt = 0 from rfl]; omega), if_neg (by rw [fa_le, hs, show (9 : Int32).toInt = 9 from rfl]; omega), rg_t gk, brl_c sn hbt hll (by omega) (by omega)]
      by_cases hb : BR bt (LEz a n w X - (w (stn a n k) : Int)) = true
      · rw [if_pos hb, if_neg (by decide), rg_t gk, if_pos ⟨h0, hb⟩]
        show some (nI (gam a n X) + (-1 : Int32) * nI (9 ^ k)) = some (nI (gam a n (chg X (stn a n k) (X (stn a n k) - 1))))
        have := gam_chg (X := X) (X (stn a n k) - 1) s1 s2
        rw [s3] at this
        have h5 : (X (stn a n k) - 1) * 9 ^ k + 9 ^ k = X (stn a n k) * 9 ^ k := by
          rw [← Nat.succ_mul]; congr 1; omega
        have h6 : gam a n (chg X (stn a n k) (X (stn a n k) - 1)) + 9 ^ k = gam a n X := by omega
        congr 1
        rw [← h6, ← nI_add, show (-1 : Int32) * nI (9 ^ k) = -(nI (9 ^ k)) from (Int32.neg_mul 1 _).trans (by rw [Int32.one_mul]), Int32.add_assoc, Int32.add_right_neg, Int32.add_zero]
      · rw [if_neg hb, if_pos rfl, if_neg (fun z => hb z.2)]; rfl
    · rw [if_pos (by rw [fa_lt, hs, show (0 : Int32).toInt = 0 from rfl]; omega), if_neg (fun z => h0 z.1)]; rfl
  · unfold f_St_stepped
    rw [rg_t gk, nI_clamp (by omega), UN_ok k (by omega), rg_t hz, e1, e2, wc k hk, MT_up hn s1 s2, show nI (X (stn a n k)) + 1 = nI (X (stn a n k) + 1) from nI_1 _, Int32.one_mul, Int32.one_mul]
    have hll : (l + nI (w (stn a n k))).toInt = LEz a n w X + (w (stn a n k) : Int) := by
      rw [fb_addI, hl, hw31]
      · rw [hl, hw31]; omega
      · rw [hl, hw31]; omega
    rw [if_neg (show ¬ nI (X (stn a n k) + 1) < 0 from nltI (s := 0) (by omega) (by omega))]
    by_cases h0 : X (stn a n k) < 8
    · rw [if_neg (show ¬ (9 : Int32) ≤ nI (X (stn a n k) + 1) from nI_ge (b := 9) (by omega) (by omega)), rg_t gk, brl_c sn hbt hll (by omega) (by omega)]
      by_cases hb : BR bt (LEz a n w X + (w (stn a n k) : Int)) = true
      · rw [if_pos hb, if_neg (by decide), rg_t gk, if_pos ⟨h0, hb⟩]
        show some (nI (gam a n X) + nI (9 ^ k)) = some (nI (gam a n (chg X (stn a n k) (X (stn a n k) + 1))))
        have := gam_chg (X := X) (X (stn a n k) + 1) s1 s2
        rw [s3, Nat.succ_mul] at this
        rw [nI_add]
        congr 2
        omega
      · rw [if_neg hb, if_pos rfl, if_neg (fun z => hb z.2)]; rfl
    · rw [if_pos (show (9 : Int32) ≤ nI (X (stn a n k) + 1) from nI_le (a := 9) (by omega) (by omega)), if_neg (fun z => h0 z.1)]; rfl
end RFC
