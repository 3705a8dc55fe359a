/-! steady: who stands where, as numbers of both kinds -/
def rk (a i : Nat) : Nat := fb_ct (fun j => a.testBit j) i
def stn (a n k : Nat) : Nat := fa_first (fun i => a.testBit i && decide (rk a i = k)) n
abbrev CFG : Type := Nat → Nat
section STN
variable {a n : Nat}
theorem rk_succ (a i : Nat) : rk a (i + 1) = rk a i + (if a.testBit i = true then 1 else 0) := by
  unfold rk; rw [fb_ct_succ]
theorem rk_le (a i : Nat) : rk a i ≤ i := fb_ct_le _ i
theorem rk_mono {i j : Nat} (h : i ≤ j) : rk a i ≤ rk a j := fb_ct_mono _ h
theorem stn_ok {k : Nat} (h : k < rk a n) : stn a n k < n ∧ a.testBit (stn a n k) = true ∧ rk a (stn a n k) = k := by
  obtain ⟨i, h1, h2, h3⟩ := fb_ct_kth h
  have hlt : stn a n k < n := by
    rcases Nat.lt_or_ge (stn a n k) n with z | z
    · exact z
    · exfalso
      have := fa_first_no (fun i => a.testBit i && decide (rk a i = k)) n i (by unfold stn at z; omega)
      rw [show (a.testBit i && decide (rk a i = k)) = true by rw [h2, decide_eq_true (show rk a i = k from h3)]; rfl] at this
      cases this
  have := fa_first_yes (fun i => a.testBit i && decide (rk a i = k)) n hlt
  rw [Bool.and_eq_true, decide_eq_true_eq] at this
  exact ⟨hlt, this.1, this.2⟩
theorem rk_lt {i : Nat} (hi : i < n) (hb : a.testBit i = true) : rk a i < rk a n := by
  have h1 := rk_succ a i
  rw [if_pos hb] at h1
  have := rk_mono (a := a) (show i + 1 ≤ n by omega)
  omega
theorem stn_rk {i : Nat} (hi : i < n) (hb : a.testBit i = true) : stn a n (rk a i) = i := by
  obtain ⟨h1, h2, h3⟩ := stn_ok (rk_lt hi hb)
  exact fb_ct_kth_one (p := fun j => a.testBit j) h2 hb h3
theorem stn_inj {k k' : Nat} (h : k < rk a n) (h' : k' < rk a n) (e : stn a n k = stn a n k') : k = k' := by
  rw [← (stn_ok h).2.2, e, (stn_ok h').2.2]
/-- a sum over those aboard, in either order of reckoning -/
theorem si_st (f : Nat → Int) : ∀ j, j ≤ n → fb_si (fun i => if a.testBit i = true then f i else 0) j = fb_si (fun k => f (stn a n k)) (rk a j)
  | 0, _ => by
    have : rk a 0 = 0 := Nat.le_zero.mp (rk_le a 0)
    rw [this]; rfl
  | j + 1, h => by
    rw [fb_si_succ, si_st f j (by omega), rk_succ]
    by_cases hb : a.testBit j = true
    · rw [if_pos hb, if_pos hb, fb_si_succ, stn_rk (by omega) hb]
    · rw [if_neg hb, if_neg hb, Int.add_zero]; rfl
end STN
theorem dgt (e : Nat → Nat) {q k : Nat} (he : ∀ k, k < q → e k < 9) (hk : k < q) : fb_sm (fun j => e j * 9 ^ j) q / 9 ^ k % 9 = e k := by
  have hlow : ∀ k, k ≤ q → fb_sm (fun j => e j * 9 ^ j) k < 9 ^ k := by
    intro k
    induction k with
    | zero => intro _; exact Nat.zero_lt_one
    | succ k ih =>
      intro h
      rw [fb_sm_succ, Nat.pow_succ]
      have h1 := ih (by omega)
      have h2 := he k (by omega)
      have h3 : e k * 9 ^ k ≤ 8 * 9 ^ k := Nat.mul_le_mul_right _ (by omega)
      omega
  have hsp := fb_sm_split (fun j => e j * 9 ^ j) k (q - k)
  rw [show k + (q - k) = q by omega] at hsp
  have hhi : ∀ m, fb_sm (fun j => e (k + j) * 9 ^ (k + j)) m = 9 ^ k * fb_sm (fun j => e (k + j) * 9 ^ j) m := by
    intro m
    induction m with
    | zero => rw [show fb_sm (fun j => e (k + j) * 9 ^ j) 0 = 0 from rfl, Nat.mul_zero]; rfl
    | succ m ih =>
      rw [fb_sm_succ, fb_sm_succ, ih, Nat.mul_add, Nat.pow_add]
      congr 1
      rw [Nat.mul_comm (e (k + m)) (9 ^ k * 9 ^ m), Nat.mul_assoc, Nat.mul_comm (9 ^ m)]
  have hr : ∀ m, ∃ z, fb_sm (fun j => e (k + j) * 9 ^ j) (m + 1) = e k + 9 * z := by
    intro m
    induction m with
    | zero => exact ⟨0, by rw [fb_sm_succ]; show 0 + e (k + 0) * 9 ^ 0 = _; rw [Nat.add_zero, Nat.pow_zero]; omega⟩
    | succ m ih =>
      obtain ⟨z, hz⟩ := ih
      refine ⟨z + e (k + (m + 1)) * 9 ^ m, ?_⟩
      rw [fb_sm_succ, hz, Nat.pow_succ, ← Nat.mul_assoc]
      omega
  obtain ⟨z, hz⟩ := hr (q - k - 1)
  rw [show q - k - 1 + 1 = q - k by omega] at hz
  rw [hsp, hhi, Nat.add_mul_div_left _ _ (Nat.pow_pos (by omega)), Nat.div_eq_of_lt (hlow k (by omega)), Nat.zero_add, hz]
  have := he k hk
  omega
theorem dgt_lt (e : Nat → Nat) {q : Nat} (he : ∀ k, k < q → e k < 9) (hq : q ≤ 9) : fb_sm (fun j => e j * 9 ^ j) q < 387420489 := by
  have hlow : ∀ k, k ≤ q → fb_sm (fun j => e j * 9 ^ j) k < 9 ^ k := by
    intro k
    induction k with
    | zero => intro _; exact Nat.zero_lt_one
    | succ k ih =>
      intro h
      rw [fb_sm_succ, Nat.pow_succ]
      have h1 := ih (by omega)
      have h2 := he k (by omega)
      have h3 : e k * 9 ^ k ≤ 8 * 9 ^ k := Nat.mul_le_mul_right _ (by omega)
      omega
  have h1 := hlow q (Nat.le_refl _)
  have h2 : 9 ^ q ≤ 9 ^ 9 := Nat.pow_le_pow_right (by omega) hq
  have h3 : (9 : Nat) ^ 9 = 387420489 := by decide
  omega
/-- the class's number of a stand, and the reference's -/
def gam (a n : Nat) (X : CFG) : Nat := fb_sm (fun k => X (stn a n k) * 9 ^ k) (rk a n)
def hrn (X : CFG) : Nat → Nat
  | 0 => 0
  | j + 1 => 9 * hrn X j + X j
def chg (X : CFG) (i v : Nat) : CFG := fun j => if j = i then v else X j
/-- a stand that may be: those not aboard stay where they are -/
def VX (a n : Nat) (X0 X : CFG) : Prop := (∀ i, i < n → X i < 9) ∧ ∀ i, ¬ (i < n ∧ a.testBit i = true) → X i = X0 i
section CFGS
variable {a n : Nat} {X0 X Y : CFG}
theorem hrn_lt (h : ∀ i, i < n → X i < 9) : ∀ j, j ≤ n → hrn X j < 9 ^ j
  | 0, _ => Nat.zero_lt_one
  | j + 1, hj => by
    have := hrn_lt h j (by omega)
    have := h j (by omega)
    unfold hrn
    rw [Nat.pow_succ]; omega
theorem hrn_inj (hX : ∀ i, i < n → X i < 9) (hY : ∀ i, i < n → Y i < 9) : ∀ j, j ≤ n → hrn X j = hrn Y j → ∀ i, i < j → X i = Y i
  | 0, _, _ => fun i hi => by omega
  | j + 1, hj, e => by
    have e : 9 * hrn X j + X j = 9 * hrn Y j + Y j := e
    have h1 := hX j (by omega)
    have h2 := hY j (by omega)
    intro i hi
    rcases (show i < j ∨ i = j by omega) with z | z
    · exact hrn_inj hX hY j (by omega) (by omega) i z
    · subst z; omega
theorem hrn_chg (v : Nat) {i : Nat} : ∀ j, hrn (chg X i v) j + (if i < j then X i * 9 ^ (j - 1 - i) else 0) = hrn X j + (if i < j then v * 9 ^ (j - 1 - i) else 0)
  | 0 => by rw [if_neg (by omega), if_neg (by omega)]; rfl
  | j + 1 => by
    have ih := hrn_chg v (i := i) j
    unfold hrn
    by_cases h : i < j
    · rw [if_pos h, if_pos h] at ih
      rw [if_pos (by omega), if_pos (by omega), show j + 1 - 1 - i = (j - 1 - i) + 1 by omega, Nat.pow_succ, ← Nat.mul_assoc, ← Nat.mul_assoc]
      have : chg X i v j = X j := if_neg (by omega)
      rw [this]; omega
    · rw [if_neg h, if_neg h] at ih
      by_cases h2 : i = j
      · subst h2
        have : chg X i v i = v := if_pos rfl
        rw [if_pos (by omega), if_pos (by omega), show i + 1 - 1 - i = 0 by omega, Nat.pow_zero, this]; omega
      · have : chg X i v j = X j := if_neg (by omega)
        rw [if_neg (by omega), if_neg (by omega), this]; omega
theorem gam_dg (hX : ∀ i, i < n → X i < 9) {k : Nat} (hk : k < rk a n) : gam a n X / 9 ^ k % 9 = X (stn a n k) := dgt (fun k => X (stn a n k)) (fun k hk => hX _ (stn_ok hk).1) hk
theorem gam_lt (hn : n ≤ 9) (hX : ∀ i, i < n → X i < 9) : gam a n X < 387420489 := dgt_lt (fun k => X (stn a n k)) (fun k hk => hX _ (stn_ok hk).1) (by have := rk_le a n; omega)
theorem gam_inj (hX : VX a n X0 X) (hY : VX a n X0 Y) (e : gam a n X = gam a n Y) : X = Y := by
  funext i
  by_cases h : i < n ∧ a.testBit i = true
  · have hk := rk_lt h.1 h.2
    have h1 := gam_dg hX.1 hk
    have h2 := gam_dg hY.1 hk
    rw [e, h2, stn_rk h.1 h.2] at h1
    exact h1.symm
  · rw [hX.2 i h, hY.2 i h]
theorem hrn_cfg (hX : VX a n X0 X) (hY : VX a n X0 Y) (e : hrn X n = hrn Y n) : X = Y := by
  funext i
  by_cases h : i < n
  · exact hrn_inj hX.1 hY.1 n (Nat.le_refl _) e i h
  · rw [hX.2 i (fun z => h z.1), hY.2 i (fun z => h z.1)]
theorem gam_chg (v : Nat) {i : Nat} (hi : i < n) (hb : a.testBit i = true) : gam a n (chg X i v) + X i * 9 ^ rk a i = gam a n X + v * 9 ^ rk a i := by
  have hk := rk_lt hi hb
  have := fb_sm_upd (fun k => X (stn a n k) * 9 ^ k) (v * 9 ^ rk a i) hk
  unfold gam
  rw [stn_rk hi hb] at this
  rw [← this]
  congr 1
  apply fb_sm_cong
  intro k hk2
  by_cases z : k = rk a i
  · rw [if_pos z, z, stn_rk hi hb]
    show (if i = i then v else X i) * _ = _
    rw [if_pos rfl]
  · rw [if_neg z]
    show (if stn a n k = i then v else X (stn a n k)) * _ = _
    rw [if_neg (fun w => z (by rw [← w, (stn_ok hk2).2.2]))]
theorem VX.chg (hX : VX a n X0 X) {i v : Nat} (hi : i < n) (hb : a.testBit i = true) (hv : v < 9) : VX a n X0 (chg X i v) := by
  refine ⟨fun j hj => ?_, fun j hj => ?_⟩
  · show (if j = i then v else X j) < 9
    split
    · exact hv
    · exact hX.1 j hj
  · show (if j = i then v else X j) = _
    rw [if_neg (fun z => hj (by rw [z]; exact ⟨hi, hb⟩))]; exact hX.2 j hj
end CFGS
