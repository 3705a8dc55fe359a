/-! which TASKS can be done at a BELL; times -/
def fitT (n : Nat) (W : Nat → Nat) (lo hi : Nat → Nat) (t s : Nat) : Bool := decide (lo t ≤ WS n W s ∧ WS n W s ≤ hi t)
def DB (n : Nat) (W : Nat → Nat) (lo hi : Nat → Nat) (e t : Nat) : Bool := decide (∃ s, s < e ∧ 1 ≤ s ∧ fitT n W lo hi t s = true)
theorem BS_or (p r : Nat → Bool) : ∀ n, BS p n ||| BS r n = BS (fun i => p i || r i) n := by
  intro n
  apply Nat.eq_of_testBit_eq
  intro i
  rw [Nat.testBit_or, BS_bit, BS_bit, BS_bit]
  cases decide (i < n) <;> simp
theorem BS_eq {x : Nat} {p : Nat → Bool} {n : Nat} (hx : x < 2 ^ n) (h : ∀ i, i < n → x.testBit i = p i) : x = BS p n := by
  apply Nat.eq_of_testBit_eq
  intro i
  rw [BS_bit]
  by_cases hi : i < n
  · rw [h i hi]; simp [hi]
  · rw [Nat.testBit_lt_two_pow (Nat.lt_of_lt_of_le hx (Nat.pow_le_pow_right (by omega) (by omega)))]; simp [hi]
section TSK
variable {k n Pm : Nat} {B : Nat → Nat} {V : Nat → Nat → Nat → Nat} {T a q : Nat} {c m : HI} {r : Nat} {lo hi W : Nat → Nat}
theorem sb_c (tk : TK r lo hi c m) {v : Nat} (hv : v < 2 ^ 31) : f_Ta_suitedBy c (nI v) = some (nI (BS (fun t => decide (lo t ≤ v ∧ v ≤ hi t)) r)) := by
  have hr := tk.1
  unfold f_Ta_suitedBy
  obtain ⟨x, e, hp⟩ := OK.loop (b_Ta_suitedBy_4 (nI v) c) (fun i x => i ≤ r ∧ x = (nI (BS (fun t => decide (lo t ≤ v ∧ v ≤ hi t)) i), nI i)) (fun x => x = nI (BS (fun t => decide (lo t ≤ v ∧ v ≤ hi t)) r)) r (by omega) (by
    rintro i _ - ⟨hi', rfl⟩
    unfold b_Ta_suitedBy_4
    dsimp only
    rw [tk.2.1]
    refine OK.ite (fun h => OK.ret ?_) (fun h => ?_)
    · have : i = r := by have := ple h (by omega) (by omega); omega
      subst this; rfl
    have hi2 : i < r := nle h (by omega) (by omega)
    rw [ta_suits tk hi2 hv, Option.bind_some, nI_1]
    by_cases hc : lo i ≤ v ∧ v ≤ hi i
    · rw [if_pos hc, if_neg (by decide), two_n i (by omega), fa_or]
      exact OK.ret ⟨hi2, hi2, by rw [BS_yes (by simpa using hc)]⟩
    · rw [if_neg hc, if_pos rfl, or0]
      exact OK.ret ⟨hi2, hi2, by rw [BS_no (by simpa using hc)]⟩) (s := (0, 0)) ⟨by omega, rfl⟩
  rw [e, Option.bind_some, hp]
theorem do_c (A : RLa k n Pm B V T a q c m) (tk : TK r lo hi c m) (tc : TC n W c) (hS : ∀ s, WS n W s ≤ 89991) : f_Ta_doable c = some (nI (BS (DB n W lo hi (2 ^ n)) r)) := by
  have hr := tk.1
  have hn := A.n9
  have hp9 := pow9 hn
  have hpr : 2 ^ r ≤ 64 := Nat.pow_le_pow_right (n := 2) (by omega) hr
  have hpr1 := Nat.two_pow_pos r
  unfold f_Ta_doable
  rw [tk.2.1, two_n r (by omega), show nI (2 ^ r) - 1 = nI (2 ^ r - 1) from pk_sub (b := 1) hpr1]
  obtain ⟨x, e, hp⟩ := OK.loop (b_Ta_doable_14 (nI (2 ^ r - 1)) c) (fun i x => i + 1 ≤ 2 ^ n ∧ x = (nI (BS (DB n W lo hi (i + 1)) r), nI (i + 1))) (fun x => x = nI (BS (DB n W lo hi (2 ^ n)) r)) (2 ^ n) (by omega) (by
    rintro i _ - ⟨hi', rfl⟩
    unfold b_Ta_doable_14
    dsimp only
    rw [A.cs]
    refine OK.ite (fun h => OK.ret ?_) (fun h => ?_)
    · have : i + 1 = 2 ^ n := by have := ple h (by omega) (by omega); omega
      show nI (BS (DB n W lo hi (i + 1)) r) = _
      rw [this]
    have hi2 : i + 1 < 2 ^ n := nle h (by omega) (by omega)
    have hlt := BS_lt (DB n W lo hi (i + 1)) r
    refine OK.ite (fun h => OK.ret ?_) (fun h => ?_)
    · have h : BS (DB n W lo hi (i + 1)) r = 2 ^ r - 1 := (nI_eq (by omega) (by omega)).mp h
      congr 1
      apply BS_cong
      intro t ht
      have h2 : (BS (DB n W lo hi (i + 1)) r).testBit t = true := by rw [h, Nat.testBit_two_pow_sub_one]; simpa using ht
      rw [BS_bit] at h2
      simp [ht] at h2
      rw [h2]
      unfold DB at h2 ⊢
      simp only [decide_eq_true_eq] at h2
      obtain ⟨s, g1, g2, g3⟩ := h2
      exact (decide_eq_true ⟨s, by omega, g2, g3⟩).symm
    · have hs := hS (i + 1)
      rw [nI_clamp (by omega), tc _ hi2, sb_c tk (by omega), Option.bind_some, fa_or, nI_1, BS_or]
      refine OK.g (gd512 hn hi2) (OK.ret ⟨by omega, by omega, ?_⟩)
      congr 2
      apply BS_cong
      intro t ht
      unfold DB fitT
      by_cases hf : lo t ≤ WS n W (i + 1) ∧ WS n W (i + 1) ≤ hi t
      · rw [decide_eq_true hf, Bool.or_true]
        exact (decide_eq_true ⟨i + 1, by omega, by omega, by simpa using hf⟩).symm
      · rw [decide_eq_false hf, Bool.or_false]
        apply decide_eq_decide.mpr
        constructor
        · rintro ⟨s, g1, g2, g3⟩; exact ⟨s, by omega, g2, g3⟩
        · rintro ⟨s, g1, g2, g3⟩
          refine ⟨s, ?_, g2, g3⟩
          rcases (show s < i + 1 ∨ s = i + 1 by omega) with z | z
          · exact z
          · subst z; exact absurd (of_decide_eq_true g3) hf) (s := (0, 1)) ⟨by omega, by
      have : BS (DB n W lo hi (0 + 1)) r = 0 := by
        apply Nat.eq_of_testBit_eq
        intro t
        rw [BS_bit, Nat.zero_testBit]
        have : DB n W lo hi (0 + 1) t = false := decide_eq_false (fun ⟨s, g1, g2, _⟩ => by omega)
        rw [this, Bool.and_false]
      rw [this]; rfl⟩
  rw [e, Option.bind_some, hp]
theorem cr_m (A : RLa k n Pm B V T a q c m) (tk : TK r lo hi c m) (tm : TM n W m) (hS : ∀ s, WS n W s ≤ 89991) {t : Nat} (ht : t < r) : OK (f_Mo_crewOf m (nI t)) (fun x => x = 0 ↔ DB n W lo hi (2 ^ n) t = false) := by
  have hr := tk.1
  have hn := A.n9
  have hp9 := pow9 hn
  unfold f_Mo_crewOf
  refine OK.bind (OK.loop _ (fun i x => i + 1 ≤ 2 ^ n ∧ x.2 = nI (i + 1) ∧ ∃ b, b < 2 ^ n ∧ x.1 = nI b ∧ (b = 0 ↔ DB n W lo hi (i + 1) t = false)) (fun x => x = 0 ↔ DB n W lo hi (2 ^ n) t = false) (2 ^ n) (by omega) ?_ ⟨by omega, rfl, 0, by omega, rfl, fun _ => decide_eq_false (fun ⟨s, g1, g2, _⟩ => by omega), fun _ => rfl⟩) (fun x hx => OK.ret hx)
  rintro i ⟨x1, x2⟩ - ⟨hi', rfl, b, hb, rfl, hbd⟩
  unfold b_Mo_crewOf_4
  dsimp only
  rw [A.me]
  refine OK.ite (fun h => OK.ret ?_) (fun h => ?_)
  · have := (nI_ltI (a := 2 ^ n - 1) (b := i + 1) (by omega) (by omega)).mp h
    rw [show 2 ^ n = i + 1 by omega, ← hbd]
    constructor
    · intro z; exact (nI_eq (b := 0) (by omega) (by omega)).mp z
    · intro z; rw [z]; rfl
  have hi2 : i + 1 ≤ 2 ^ n - 1 := nlt h (by omega) (by omega)
  rw [mo_does tk hn tm hS ht (by omega) (by omega), Option.bind_some, nI_1]
  by_cases hf : lo t ≤ WS n W (i + 1) ∧ WS n W (i + 1) ≤ hi t
  · rw [if_pos hf, if_neg (by decide)]
    have hd : DB n W lo hi (i + 1 + 1) t = true := decide_eq_true ⟨i + 1, by omega, by omega, decide_eq_true hf⟩
    have take : ∃ b', b' < 2 ^ n ∧ nI (i + 1) = nI b' ∧ (b' = 0 ↔ DB n W lo hi (i + 1 + 1) t = false) := ⟨i + 1, by omega, rfl, fun z => by omega, fun z => by rw [hd] at z; cases z⟩
    refine OK.ite (fun h0 => OK.ret ⟨by omega, by omega, rfl, take⟩) (fun h0 => OK.ite (fun _ => OK.ret ⟨by omega, by omega, rfl, b, hb, rfl, fun z => absurd (by rw [z]; rfl) h0, fun z => by rw [hd] at z; cases z⟩) (fun _ => OK.ret ⟨by omega, by omega, rfl, take⟩))
  · rw [if_neg hf, if_pos rfl]
    refine OK.ret ⟨by omega, by omega, rfl, b, hb, rfl, ?_⟩
    rw [hbd]
    have : DB n W lo hi (i + 1 + 1) t = DB n W lo hi (i + 1) t := by
      unfold DB
      apply decide_eq_decide.mpr
      constructor
      · rintro ⟨s, g1, g2, g3⟩
        refine ⟨s, ?_, g2, g3⟩
        rcases (show s < i + 1 ∨ s = i + 1 by omega) with z | z
        · exact z
        · subst z; exact absurd (of_decide_eq_true g3) hf
      · rintro ⟨s, g1, g2, g3⟩; exact ⟨s, by omega, g2, g3⟩
    rw [this]
/-- which can be done at each BELL of the day -/
def AB (n Pm : Nat) (B : Nat → Nat) (V : Nat → Nat → Nat → Nat) (T : Nat) (lo hi : Nat → Nat) (b t : Nat) : Bool := DB n (fun i => Wt Pm B V i (9 * (T / 9) + b)) lo hi (2 ^ n) t
theorem fa_m (A : RLa k n Pm B V T a q c m) (rd : Option Nat) (tk : TK r lo hi c m) : OK (f_Mo_findAble m rd) (fun x => XM m x.1 ∧ ∀ b, b < 9 → x.1 15 b = nI (BS (AB n Pm B V T lo hi b) r)) := by
  have hr := tk.1
  have hn := A.n9
  have hT := A.T30
  unfold f_Mo_findAble
  refine OK.bind (OK.loop _ (fun i x => i ≤ 9 ∧ x.1 = nI i ∧ XM m x.2.1 ∧ ∀ b, b < i → x.2.1 15 b = nI (BS (AB n Pm B V T lo hi b) r)) (fun x => XM m x.1 ∧ ∀ b, b < 9 → x.1 15 b = nI (BS (AB n Pm B V T lo hi b) r)) 9 (by omega) ?_ ⟨by omega, rfl, XM.rf, fun b hb => by omega⟩) (fun x hx => OK.ret hx)
  rintro i ⟨x1, h, rd⟩ - ⟨hi', rfl, hx, h15⟩
  dsimp only at hx h15
  unfold b_Mo_findAble_2
  dsimp only
  refine OK.ite (fun h => OK.ret ?_) (fun h => ?_)
  · have : i = 9 := by have := ple (b := 9) h (by omega) (by omega); omega
    subst this; exact ⟨hx, h15⟩
  have hi2 : i < 9 := nle (b := 9) h (by omega) (by omega)
  have A := A.r hx
  rw [A.dm, nI_add]
  have hS : ∀ s, WS n (fun j => Wt Pm B V j (9 * (T / 9) + i)) s ≤ 89991 := fun s => A.sle s (by omega)
  refine OK.bind (fs_m A.qm rd (by omega)) ?_
  rintro ⟨h', rd'⟩ ⟨hf, tm⟩
  dsimp only at hf tm ⊢
  have A := A.r hf.x
  have hx := hx.tr hf.x
  rw [nI_clamp (by omega)]
  refine OK.g (gd_nI (by omega) (by omega)) ?_
  refine OK.bind (OK.loop _ (fun t x => t ≤ r ∧ x.1 = nI t ∧ XM h' x.2 ∧ (∀ o s, o ≠ 15 → x.2 o s = h' o s) ∧ (∀ b, b < i → x.2 15 b = nI (BS (AB n Pm B V T lo hi b) r)) ∧ x.2 15 i = nI (BS (AB n Pm B V T lo hi i) t)) (fun x => XM h' x ∧ ∀ b, b < i + 1 → x 15 b = nI (BS (AB n Pm B V T lo hi b) r)) r (by omega) ?_ ⟨by omega, rfl, XM.rf.up 15 _ _ ⟨rfl, by omega, by omega⟩, fun o s ho => by show rh_up _ 15 _ _ o s = _; rw [up_f, if_neg (by omega)], fun b hb => ?_, ?_⟩) (fun x hx' => OK.ret ⟨hi2, hi2, nI_1 i, hx.tr hx'.1, hx'.2⟩)
  · rintro t ⟨x1, g⟩ - ⟨ht, rfl, gx, gf, gb, gi⟩
    dsimp only at gx gf gb gi
    have A := A.r gx
    have tk := tk.fr (XC.rf (h := c)) (hx.tr gx)
    have tm' : TM n (fun j => Wt Pm B V j (9 * (T / 9) + i)) g := ⟨fun s hs => (gf 9 s (by omega)).trans (tm.1 s hs), fun j hj => (gf 8 j (by omega)).trans (tm.2 j hj)⟩
    unfold b_Mo_findAble_27
    dsimp only
    simp only [tk.2.2.1]
    refine OK.ite (fun h => OK.ret ?_) (fun h => ?_)
    · have : t = r := by have := ple h (by omega) (by omega); omega
      subst this
      refine ⟨gx, fun b hb => ?_⟩
      rcases (show b < i ∨ b = i by omega) with z | z
      · exact gb b z
      · subst z; exact gi
    have ht2 : t < r := nle h (by omega) (by omega)
    refine OK.g (gd_nI (by omega) (by omega)) (OK.bind (cr_m A tk tm' hS ht2) (fun x hxx => ?_))
    rw [nI_clamp (n := i) (by omega), nI_1, gi]
    refine OK.ite (fun h0 => OK.g (gd_nI (by omega) (by omega)) (OK.ret ⟨ht2, ht2, rfl, gx.up 15 _ _ ⟨rfl, by omega, by omega⟩, fun o s ho => ?_, fun b hb => ?_, ?_⟩)) (fun h0 => OK.g (gd_nI (by omega) (by omega)) (OK.ret ⟨ht2, ht2, rfl, gx.up 15 _ _ ⟨rfl, by omega, by omega⟩, fun o s ho => ?_, fun b hb => ?_, ?_⟩))
    · show rh_up g 15 _ _ o s = _; rw [up_f, if_neg (by omega)]; exact gf o s ho
    · show rh_up g 15 _ _ 15 b = _; rw [up_f, if_neg (by omega)]; exact gb b hb
    · show rh_up g 15 i _ 15 i = _
      rw [rh_up_s, or0, BS_no (p := AB n Pm B V T lo hi i) (hxx.mp h0)]
    · show rh_up g 15 _ _ o s = _; rw [up_f, if_neg (by omega)]; exact gf o s ho
    · show rh_up g 15 _ _ 15 b = _; rw [up_f, if_neg (by omega)]; exact gb b hb
    · show rh_up g 15 i _ 15 i = _
      rw [rh_up_s, two_n t (by omega), fa_or, BS_yes (p := AB n Pm B V T lo hi i) ?_]
      cases hd : AB n Pm B V T lo hi i t with
      | true => rfl
      | false => exact absurd (hxx.mpr hd) h0
  · show rh_up h' 15 i 0 15 b = _
    rw [up_f, if_neg (by omega), hf 15 b rfl (by omega) (by omega)]; exact h15 b hb
  · show rh_up h' 15 i 0 15 i = _
    rw [rh_up_s]; rfl
theorem op_times (h : RLt k n Pm B V c m) (hk : k ≤ 600) (rd : Option Nat) (p : Int32) : RO (f_La_times c p) (f_Mo_times m rd p) (FIN k n Pm B V) := by
  obtain ⟨T, a, q, A⟩ := h.la hk
  have hT := A.T30
  have hn := A.n9
  obtain ⟨r, lo, hi, tk⟩ := A.tk
  have hr := tk.1
  unfold f_La_times f_Mo_times
  rw [show f_Mo_in p 0 (m 0 29 - 1) = f_Ta_has c p from ta_has tk p]
  refine RO.ii Iff.rfl (fun _ => RO.ret ⟨rfl, A.fin⟩) (fun h1 => ?_)
  obtain ⟨t, ht, rfl⟩ := ta_1 tk h1
  refine RO.br (fa_m A rd tk) ?_
  rintro ⟨hm, rd⟩ ⟨hy, h15⟩
  dsimp only at hy h15 ⊢
  have tk := tk.fr (XC.rf (h := c)) hy
  have A := A.r hy
  have hlt : ∀ b, BS (AB n Pm B V T lo hi b) r < 2 ^ 31 := fun b => Nat.lt_of_lt_of_le (BS_lt _ r) (Nat.pow_le_pow_right (by omega) (by omega))
  refine RO.bind (P := fun x y => x.1 = y ∧ RLa k n Pm B V T a q x.2 hm) (RO.loop _ _ (fun i x y => i ≤ 9 ∧ x.1 = y.1 ∧ x.2.1 = nI i ∧ y.2 = nI i ∧ RLa k n Pm B V T a q x.2.2 hm ∧ TK r lo hi x.2.2 hm) _ 9 (by omega) ?_ ⟨by omega, rfl, rfl, rfl, A, tk⟩) (fun x y hp => RO.ret ⟨hp.1, hp.2.fin⟩)
  rintro i ⟨x1, x2, hc⟩ ⟨y1, y2⟩ - ⟨hi', rfl, rfl, rfl, A, tk⟩
  dsimp only at A tk
  unfold b_La_times_17 b_Mo_times_29
  dsimp only
  refine RO.ii Iff.rfl (fun _ => RO.ret ⟨rfl, A⟩) (fun h => ?_)
  have hi2 : i < 9 := nle (b := 9) h (by omega) (by omega)
  rw [A.dc, nI_add, nI_clamp (n := i) (by omega), h15 i hi2]
  have hS : ∀ s, WS n (fun j => Wt Pm B V j (9 * (T / 9) + i)) s ≤ 89991 := fun s => A.sle s (by omega)
  refine RO.bl (su_c A.qc (by omega)) (fun hc' hx => ?_)
  have A := A.l hx.1.x
  have tk := tk.fr hx.1.x (XM.rf (h := hm))
  rw [do_c A tk hx.2 hS, Option.bind_some]
  refine RO.gr (gd_nI (by omega) (by omega)) (RO.ii ?_ (fun _ => RO.ret ⟨hi2, hi2, (or0 _).symm, nI_1 i, nI_1 i, A, tk⟩) (fun _ => RO.ret ⟨hi2, hi2, rfl, nI_1 i, nI_1 i, A, tk⟩))
  exact (bit_t (hlt i) (by omega)).trans (has_t (hlt i) (by omega)).symm
end TSK
