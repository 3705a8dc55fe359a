/-! steady: what is told of the steps -/
section RFD
variable {a n bt b d N : Nat} {w : Nat → Nat → Nat} {X0 X Y : CFG} {c m : HI} {g : Nat → Nat → Int64}
theorem MT_inv {w : Nat → Nat} {mv : Nat} (h18 : mv ≠ 18) (h : MT a n bt w X mv = some Y) : (mv / 2 < n ∧ a.testBit (mv / 2) = true) ∧ ((mv % 2 = 1 ∧ X (mv / 2) < 8 ∧ Y = chg X (mv / 2) (X (mv / 2) + 1)) ∨ (mv % 2 = 0 ∧ 0 < X (mv / 2) ∧ Y = chg X (mv / 2) (X (mv / 2) - 1))) := by
  unfold MT at h
  rw [if_neg h18] at h
  by_cases h2 : mv / 2 < n ∧ a.testBit (mv / 2) = true
  · rw [if_pos h2] at h
    refine ⟨h2, ?_⟩
    by_cases h3 : mv % 2 = 1
    · rw [if_pos h3] at h
      by_cases h4 : X (mv / 2) < 8 ∧ BR bt (LEz a n w X + (w (mv / 2) : Int)) = true
      · rw [if_pos h4] at h
        exact Or.inl ⟨h3, h4.1, (Option.some.inj h).symm⟩
      · rw [if_neg h4] at h; cases h
    · rw [if_neg h3] at h
      by_cases h4 : 0 < X (mv / 2) ∧ BR bt (LEz a n w X - (w (mv / 2) : Int)) = true
      · rw [if_pos h4] at h
        exact Or.inr ⟨by omega, h4.1, (Option.some.inj h).symm⟩
      · rw [if_neg h4] at h; cases h
  · rw [if_neg h2] at h; cases h
theorem io_b (u1 u2 v : Int32) (h : HI) : b_St_indexOf_2 u1 u2 h v = rh_g (0 ≤ u1.toInt ∧ u1.toInt < ((21 : Nat) : Int)) (if (h 46 u1.toNatClampNeg) ≤ v then some (.inr (.inl ())) else rh_g (0 ≤ ((u1 * (500 : Int32)) + v).toInt ∧ ((u1 * (500 : Int32)) + v).toInt < ((10500 : Nat) : Int)) (if (h 45 ((u1 * (500 : Int32)) + v).toNatClampNeg) = u2 then some (.inr (.inr ((u1 * (500 : Int32)) + v))) else some (.inl (v + (1 : Int32))))) := rfl
theorem io_c (hn : n ≤ 9) (hb : b ≤ 20) (hV : CVL a n X0 bt w N b c) (hX : VX a n X0 X) (hL : LYS a n bt w X0 b X) : OK (f_St_indexOf c (nI b) (nI (gam a n X))) (fun x => ∃ j e, j < 500 ∧ x = nI (500 * b + j) ∧ c 47 (500 * b + j) = nI e ∧ ENC a n bt w (N - b) b X e) := by
  obtain ⟨cnt, A, h1, h2, h3, h4, h5, h6⟩ := hV
  obtain ⟨j0, hj0, ej⟩ := (h5.2 X).mpr hL
  have hg := gam_lt (a := a) hn hX.1
  unfold f_St_indexOf
  refine OK.bind (P := fun x => Sum.elim (fun _ : Unit => False) (fun x : Int32 => ∃ j e, j < 500 ∧ x = nI (500 * b + j) ∧ c 47 (500 * b + j) = nI e ∧ ENC a n bt w (N - b) b X e) x) (OK.loop _ (fun i s => i ≤ j0 ∧ s = nI i) _ j0 (by omega) ?_ ⟨by omega, rfl⟩) (fun x hx => ?_)
  · rintro i v - ⟨hi, rfl⟩
    rw [io_b, nI_clamp (by omega), h2, if_neg (nI_ge (by omega) (by omega)), show nI b * 500 = nI (b * 500) from pk_mul b 500, nI_add, nI_clamp (by omega), show b * 500 + i = 500 * b + i by omega, h3 i (by omega)]
    refine OK.g (gd_nI (by omega) (by omega)) (OK.g (gd_nI (by omega) (by omega)) ?_)
    have hgA := gam_lt (a := a) hn (h4 i (by omega)).1
    by_cases e : A i = X
    · rw [if_pos (by rw [e])]
      obtain ⟨e', v1, v2⟩ := h6 i (by omega)
      rw [e] at v2
      exact OK.ret ⟨i, e', by omega, rfl, v1, v2⟩
    · rw [if_neg (fun q => e (gam_inj (h4 i (by omega)) hX ((nI_eq (by omega) (by omega)).mp q)))]
      have hne : i ≠ j0 := fun z => e (by rw [z]; exact ej)
      exact OK.ret ⟨by omega, by omega, nI_1 i⟩
  · cases x with
    | inl u => exact hx.elim
    | inr v => exact OK.ret hx
theorem bm_b (u1 u2 v : Int32) (h : HI) : b_St_behindMove_2 u1 u2 h v = if (h 42 3) ≤ v then some (.inr (.inl ())) else rh_g (0 ≤ v.toInt ∧ v.toInt < ((9 : Nat) : Int)) (if (h 43 v.toNatClampNeg) = (u2 / (2 : Int32)) then (if (u2 - u2 / (2 : Int32) * (2 : Int32)) = 0 then rh_g (0 ≤ v.toInt ∧ v.toInt < ((9 : Nat) : Int)) (some (.inr (.inr (u1 - (rh_UN v.toNatClampNeg))))) else rh_g (0 ≤ v.toInt ∧ v.toInt < ((9 : Nat) : Int)) (some (.inr (.inr (u1 + (rh_UN v.toNatClampNeg)))))) else some (.inl (v + (1 : Int32)))) := rfl
theorem bm_c {w : Nat → Nat} (hn : n ≤ 9) (sn : SNC a n bt c) {mv : Nat} (hm : mv ≤ 18) (h : MT a n bt w X mv = some Y) : OK (f_St_behindMove c (nI (gam a n X)) (nI mv)) (fun x => x = nI (gam a n Y)) := by
  have hq := rk_le a n
  unfold f_St_behindMove
  have e2 : nI mv / 2 = nI (mv / 2) := pk_div (d := 2) (by omega) (by omega) (by omega)
  have e3 : nI mv - nI mv / 2 * 2 = nI (mv % 2) := pk_rem (d := 2) (by omega) (by omega) (by omega)
  by_cases h18 : mv = 18
  · have hXY : X = Y := by
      rw [h18, MT_18] at h; exact Option.some.inj h
    subst hXY
    refine OK.bind (P := fun x => Sum.elim (fun _ : Unit => True) (fun _ : Int32 => False) x) (OK.loop _ (fun i s => i ≤ rk a n ∧ s = nI i) _ (rk a n) (by omega) ?_ ⟨by omega, rfl⟩) (fun x hx => ?_)
    · rintro i v - ⟨hi, rfl⟩
      rw [bm_b, sn.2.1, e3, e2]
      refine OK.ite (fun hc => OK.ret True.intro) (fun hc => ?_)
      have hi2 : i < rk a n := nle hc (by omega) (by omega)
      obtain ⟨s1, s2, s3⟩ := stn_ok hi2
      rw [nI_clamp (by omega), sn.2.2 i hi2, if_neg (neI (by omega) (by omega) (by omega))]
      exact OK.g (gd_nI (by omega) (by omega)) (OK.ret ⟨hi2, hi2, nI_1 i⟩)
    · cases x with
      | inl u => exact OK.ret rfl
      | inr v => exact hx.elim
  · obtain ⟨⟨h1, h2⟩, h3⟩ := MT_inv h18 h
    have hr := rk_lt h1 h2
    have hp := nine_pow (k := rk a (mv / 2)) (by omega)
    refine OK.bind (P := fun x => Sum.elim (fun _ : Unit => False) (fun x : Int32 => x = nI (gam a n Y)) x) (OK.loop _ (fun i s => i ≤ rk a (mv / 2) ∧ s = nI i) _ (rk a (mv / 2)) (by omega) ?_ ⟨by omega, rfl⟩) (fun x hx => ?_)
    · rintro i v - ⟨hi, rfl⟩
      have hi2 : i < rk a n := by omega
      obtain ⟨s1, s2, s3⟩ := stn_ok hi2
      rw [bm_b, sn.2.1, e3, e2, if_neg (nI_ge (by omega) (by omega)), nI_clamp (by omega), sn.2.2 i hi2]
      refine OK.g (gd_nI (by omega) (by omega)) ?_
      by_cases e : stn a n i = mv / 2
      · rw [if_pos (by rw [e]), UN_ok i (by omega)]
        rw [e] at s3
        rcases h3 with ⟨m1, m2, m3⟩ | ⟨m1, m2, m3⟩
        · rw [m1, if_neg (show ¬ nI 1 = 0 by decide)]
          refine OK.g (gd_nI (by omega) (by omega)) (OK.ret ?_)
          show nI (gam a n X) + nI (9 ^ i) = _
          have := gam_chg (X := X) (X (mv / 2) + 1) h1 h2
          rw [s3, Nat.succ_mul] at this
          rw [nI_add, m3]
          congr 1
          omega
        · rw [m1, if_pos (show nI 0 = 0 from rfl)]
          refine OK.g (gd_nI (by omega) (by omega)) (OK.ret ?_)
          show nI (gam a n X) - nI (9 ^ i) = _
          have := gam_chg (X := X) (X (mv / 2) - 1) h1 h2
          rw [s3] at this
          have h5 : (X (mv / 2) - 1) * 9 ^ i + 9 ^ i = X (mv / 2) * 9 ^ i := by
            rw [← Nat.succ_mul]; congr 1; omega
          rw [m3, pk_sub (by omega)]
          congr 1
          omega
      · rw [if_neg (neI (by omega) (by omega) e)]
        have hne : i ≠ rk a (mv / 2) := fun z => e (by rw [z]; exact stn_rk h1 h2)
        exact OK.ret ⟨by omega, by omega, nI_1 i⟩
    · cases x with
      | inl u => exact hx.elim
      | inr v => exact OK.ret hx
theorem s116_b (u1 u2 u3 u4 u5 v : Int32) (h : HI) (g : Nat → Nat → Int64) (rd : Option Nat) : b_Mo_steady_116 u1 u2 u3 u4 u5 h g rd v = (f_Mo_stepsBy h g u4 u2 v u5).bind (fun x18 => if x18 = u3 then some (.inr v) else some (.inl (v + (1 : Int32)))) := rfl
theorem s116_m (hn : n ≤ 9) (ha : a < 2 ^ n) (hb : b < 20) (hw : ∀ i, i < n → w (b + 1) i ≤ 9999) (hbt : bt ≤ 9999) (hX : VX a n X0 X) (hLX : LYS a n bt w X0 b X) (sm : SMX a n bt (w (b + 1)) m) (sd : STD n X m) (hL : MVL a n X0 (b + 1) (LYS a n bt w X0 (b + 1)) (DD a n bt w d (b + 1)) m g) {l : Int32} (hl : l.toInt = LEz a n (w (b + 1)) X) (hD : DD a n bt w (d + 1) b X < 99) (u1 : Int32) (rd : Option Nat) : OK (rh_loop (b_Mo_steady_116 u1 (nI (hrn X n)) (nI (DD a n bt w (d + 1) b X)) (nI (b + 1)) l m g rd) rh_N (0 : Int32)) (fun x => ∃ mv, x = nI mv ∧ FMV a n bt w d b X mv) := by
  obtain ⟨hbr, mv0, f1, f2, f3⟩ := FMV.ex hD
  refine OK.loop _ (fun i s => i ≤ mv0 ∧ s = nI i ∧ ∀ v, v < i → SBf a n bt (w (b + 1)) (DD a n bt w d (b + 1)) X v ≠ DD a n bt w (d + 1) b X) _ mv0 (by omega) ?_ ⟨by omega, rfl, fun v hv => by omega⟩
  rintro i v - ⟨hi, rfl, hB⟩
  rw [s116_b]
  refine OK.bind (sb_m hn ha hw hbt hX sm sd (k := b + 1) (by omega) hL hl (mv := i) (by omega) (fun Y e => ⟨X, i, hLX, hbr, by omega, e⟩)) ?_
  rintro x rfl
  have h9 := SBf_99 (a := a) (n := n) (bt := bt) (w := w (b + 1)) (R := DD a n bt w d (b + 1)) (X := X) (mv := i)
  by_cases e : SBf a n bt (w (b + 1)) (DD a n bt w d (b + 1)) X i = DD a n bt w (d + 1) b X
  · rw [if_pos (by rw [e])]
    exact OK.ret ⟨i, rfl, by omega, e, hB⟩
  · rw [if_neg (neI (by omega) (by omega) e)]
    have hne : i ≠ mv0 := fun z => e (by rw [z]; exact f2)
    refine OK.ret ⟨by omega, by omega, nI_1 i, fun v hv => ?_⟩
    rcases (show v < i ∨ v = i by omega) with y | y
    · exact hB v y
    · rw [y]; exact e
end RFD
