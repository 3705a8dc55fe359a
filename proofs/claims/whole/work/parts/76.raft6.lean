/-! steady: the reference's numbers -/
theorem lLt {x : Nat} (h : x < 2 ^ 62) : (lN x).toInt = (x : Int) := lg_ofNat_toInt (by omega)
theorem l_div {x : Nat} (h : x < 2 ^ 62) : lN x / 100 = lN (x / 100) := by
  have h1 := Nat.div_le_self x 100
  apply Int64.toInt_inj.mp
  rw [Int64.toInt_div, lLt h, lLt (by omega), show (100 : Int64).toInt = 100 from rfl, Int.tdiv_eq_ediv_of_nonneg (by omega), fb_bmodL (by omega) (by omega)]
  omega
theorem l_rem {x : Nat} (h : x < 2 ^ 62) : lN x - lN x / 100 * 100 = lN (x % 100) := by
  have h1 := Nat.div_le_self x 100
  rw [l_div h]
  have e : (lN (x / 100) * 100).toInt = ((x / 100 * 100 : Nat) : Int) := by
    rw [fb_mulL, lLt (by omega), show (100 : Int64).toInt = 100 from rfl]
    · omega
    · rw [lLt (by omega), show (100 : Int64).toInt = 100 from rfl]; omega
    · rw [lLt (by omega), show (100 : Int64).toInt = 100 from rfl]; omega
  apply Int64.toInt_inj.mp
  rw [fb_subL, lLt h, e, lLt (by omega)]
  · omega
  · rw [lLt h, e]; omega
  · rw [lLt h, e]; omega
theorem l_32 (x : Nat) : (lN x).toInt32 = nI x := Int64.toInt32_ofNat'
theorem l_64 {x : Nat} (h : x < 2 ^ 31) : (nI x).toInt64 = lN x := by
  apply Int64.toInt_inj.mp
  rw [Int32.toInt_toInt64, nI_toInt h, lLt (by omega)]
theorem l_100 {x : Nat} (h : x < 2 ^ 31) : (100 : Int64) * (nI x).toInt64 = lN (100 * x) := by
  rw [l_64 h]
  apply Int64.toInt_inj.mp
  rw [fb_mulL, lLt (by omega), lLt (by omega), show (100 : Int64).toInt = 100 from rfl]
  · omega
  · rw [lLt (by omega), show (100 : Int64).toInt = 100 from rfl]; omega
  · rw [lLt (by omega), show (100 : Int64).toInt = 100 from rfl]; omega
section RM6
variable {a n bt : Nat} {w : Nat → Nat} {X0 X : CFG} {m : HI} {g : Nat → Nat → Int64}
theorem cd_lt (hn : n ≤ 9) (hX : ∀ i, i < n → X i < 9) : hrn X n < 387420489 := by
  have h1 := hrn_lt hX n (Nat.le_refl _)
  have h2 : 9 ^ n ≤ 9 ^ 9 := Nat.pow_le_pow_right (by omega) hn
  have h3 : (9 : Nat) ^ 9 = 387420489 := by decide
  omega
theorem wo_m {k j c l : Nat} (hk : k ≤ 20) (hj : j < 500) (hc : c < 387420489) (hl : l < 100) (h : g 20 (500 * k + j) = lN (100 * c + l)) : f_Mo_wayOf g (nI k) (nI j) = some (nI c) ∧ f_Mo_leftOf g (nI k) (nI j) = some (nI l) := by
  unfold f_Mo_wayOf f_Mo_leftOf
  rw [show (500 : Int32) * nI k = nI (500 * k) from pk_mul 500 k, nI_add, rg_t (gd_nI (by omega) (by omega)), rg_t (gd_nI (by omega) (by omega)), nI_clamp (by omega), h, l_rem (by omega), l_div (by omega), l_32, l_32, show (100 * c + l) / 100 = c by omega, show (100 * c + l) % 100 = l by omega]
  exact ⟨rfl, rfl⟩
/-- what the reference reads while it steps -/
def SMX (a n bt : Nat) (w : Nat → Nat) (m : HI) : Prop := m 0 1 = nI n ∧ m 1 9 = nI a ∧ m 3 1 = nI bt ∧ ∀ i, i < n → m 8 i = nI (w i)
def STD (n : Nat) (X : CFG) (m : HI) : Prop := ∀ i, i < n → (m 22 i).toInt = (X i : Int) - 4
theorem ti_m (hm : m 3 1 = nI bt) (hbt : bt ≤ 9999) {x : Int32} {z : Int} (hx : x.toInt = z) (h1 : -1000000 ≤ z) (h2 : z ≤ 1000000) : f_Mo_isTipping m x = if BR bt z = true then 0 else 1 := by
  unfold f_Mo_isTipping
  rw [show m 3 (1 : Int32).toNatClampNeg = nI bt from hm]
  have h0 : (0 : Int32).toInt = 0 := rfl
  have ha : (if 0 ≤ x then x else 0 - x).toInt = if 0 ≤ z then z else -z := by
    by_cases hz : 0 ≤ z
    · rw [if_pos (by rw [fa_le, h0, hx]; exact hz), if_pos hz, hx]
    · rw [if_neg (by rw [fa_le, h0, hx]; exact hz), if_neg hz, fb_subI (by rw [h0, hx]; omega) (by rw [h0, hx]; omega), h0, hx]; omega
  generalize (if 0 ≤ x then x else 0 - x) = y at ha
  by_cases h : BR bt z = true
  · have := BR_iff.mp h
    rw [if_pos h, if_pos]
    rw [fa_le, ha, nI_toInt (by omega)]
    split <;> omega
  · rw [if_neg h, if_neg]
    rw [fa_le, ha, nI_toInt (by omega)]
    intro q
    refine h (BR_iff.mpr ?_)
    by_cases hz : 0 ≤ z
    · rw [if_pos hz] at q; omega
    · rw [if_neg hz] at q; omega
theorem lc_b (v i : Int32) (h : HI) : b_Mo_layCode_22_10 (v, i, h) = if i < 0 then some (.inr h) else rh_g (0 ≤ i.toInt ∧ i.toInt < ((11 : Nat) : Int)) (some (.inl (v / (9 : Int32), i + (-1 : Int32), rh_up h 22 i.toNatClampNeg ((v - v / (9 : Int32) * (9 : Int32)) - (4 : Int32))))) := rfl
theorem lc_m (hn : n ≤ 9) (hm : m 0 1 = nI n) (hX : ∀ i, i < n → X i < 9) : OK (f_Mo_layCode_22 m (nI (hrn X n))) (fun x => (∀ o j, o ≠ 22 → x o j = m o j) ∧ STD n X x) := by
  have hc := cd_lt hn hX
  unfold f_Mo_layCode_22
  rw [hm]
  refine OK.bind (P := fun x => (∀ o j, o ≠ 22 → x o j = m o j) ∧ STD n X x) (OK.loop _ (fun i s => i ≤ n ∧ s.1 = nI (hrn X (n - i)) ∧ s.2.1 = nI (n - i) - 1 ∧ (∀ o j, o ≠ 22 → s.2.2 o j = m o j) ∧ ∀ j, n - i ≤ j → j < n → (s.2.2 22 j).toInt = (X j : Int) - 4) _ n (by omega) ?_ ⟨by omega, rfl, rfl, fun _ _ _ => rfl, fun j h1 h2 => by omega⟩) (fun x hx => OK.ret hx)
  rintro i ⟨v, z, h⟩ - ⟨hi, rfl, rfl, hE, hB⟩
  dsimp only at hE hB
  rw [lc_b]
  by_cases h0 : n - i = 0
  · rw [h0] at hB
    rw [h0, dn0, if_pos (by decide)]
    exact OK.ret ⟨hE, fun j hj => hB j (by omega) hj⟩
  · obtain ⟨d, hd⟩ : ∃ d, n - i = d + 1 := ⟨n - i - 1, by omega⟩
    rw [hd] at hB ⊢
    have hxd := hX d (by omega)
    have hlt : hrn X (d + 1) < 387420489 := by
      have h1 := hrn_lt hX (d + 1) (by omega)
      have h2 : 9 ^ (d + 1) ≤ 9 ^ 9 := Nat.pow_le_pow_right (by omega) (by omega)
      have h3 : (9 : Nat) ^ 9 = 387420489 := by decide
      omega
    have e1 : hrn X (d + 1) = 9 * hrn X d + X d := rfl
    rw [dn1, if_neg (show ¬ nI d < 0 from nltI (s := 0) (by omega) (by omega)), show nI (hrn X (d + 1)) - nI (hrn X (d + 1)) / 9 * 9 = nI (hrn X (d + 1) % 9) from pk_rem (d := 9) (by omega) (by omega) (by omega), show nI (hrn X (d + 1)) / 9 = nI (hrn X (d + 1) / 9) from pk_div (d := 9) (by omega) (by omega) (by omega), show hrn X (d + 1) % 9 = X d by omega, show hrn X (d + 1) / 9 = hrn X d by omega, nI_clamp (by omega)]
    refine OK.g (gd_nI (by omega) (by omega)) (OK.ret ⟨by omega, by omega, ?_, ?_, fun o j ho => ?_, fun j h1 h2 => ?_⟩)
    · show nI (hrn X d) = nI (hrn X (n - (i + 1)))
      rw [show n - (i + 1) = d by omega]
    · show nI d + (-1 : Int32) = nI (n - (i + 1)) - 1
      rw [dnm, show n - (i + 1) = d by omega]
    · show rh_up h 22 d (nI (X d) - 4) o j = _
      rw [up_f, if_neg (fun z => ho z.1)]; exact hE o j ho
    · show (rh_up h 22 d (nI (X d) - 4) 22 j).toInt = _
      by_cases z : j = d
      · rw [z, rh_up_s]; exact sub4 hxd
      · rw [gup _ _ _ _ z]; exact hB j (by omega) h2
theorem ls_b (l v : Int32) (h : HI) : b_Mo_leanStood_4 h (l, v) = if (h 0 1) ≤ v then some (.inr l) else if (f_Mo_has (h 1 (9 : Int32).toNatClampNeg) v) = 0 then some (.inl (l + (0 : Int32), v + (1 : Int32))) else rh_g (0 ≤ v.toInt ∧ v.toInt < ((11 : Nat) : Int)) (rh_g (0 ≤ v.toInt ∧ v.toInt < ((9 : Nat) : Int)) (some (.inl (l + ((h 22 v.toNatClampNeg) * (h 8 v.toNatClampNeg)), v + (1 : Int32))))) := rfl
theorem tm_m {i : Nat} (hX : X i < 9) (hw : w i ≤ 9999) (h8 : m 8 i = nI (w i)) (h22 : (m 22 i).toInt = (X i : Int) - 4) : (m 22 i * m 8 i).toInt = ((X i : Int) - 4) * (w i : Int) := by
  have hb := tm_bd (x := X i) (w := w i) (by omega) hw
  rw [h8, fb_mulI, h22, nI_toInt (by omega)]
  · rw [h22, nI_toInt (by omega)]; omega
  · rw [h22, nI_toInt (by omega)]; omega
theorem ls_m (hn : n ≤ 9) (ha : a < 2 ^ n) (hX : ∀ i, i < n → X i < 9) (hw : ∀ i, i < n → w i ≤ 9999) (sm : SMX a n bt w m) (sd : STD n X m) : OK (f_Mo_leanStood m) (fun x => x.toInt = LEz a n w X) := by
  have ha31 := p31 hn ha
  unfold f_Mo_leanStood
  refine OK.bind (P := fun x => x.toInt = LEz a n w X) (OK.loop _ (fun i s => i ≤ n ∧ s.2 = nI i ∧ s.1.toInt = fb_si (fun i => if a.testBit i = true then ((X i : Int) - 4) * (w i : Int) else 0) i) _ n (by omega) ?_ ⟨by omega, rfl, rfl⟩) (fun x hx => OK.ret hx)
  rintro i ⟨l, v⟩ - ⟨hi, rfl, hl⟩
  dsimp only at hl
  rw [ls_b, sm.1, show m 1 (9 : Int32).toNatClampNeg = nI a from sm.2.1]
  refine OK.ite (fun hc => OK.ret ?_) (fun hc => ?_)
  · have : i = n := by have := ple hc (by omega) (by omega); omega
    subst this; exact hl
  have hi2 : i < n := nle hc (by omega) (by omega)
  by_cases hb : a.testBit i = true
  · rw [if_neg (fun z => by rw [(has_t ha31 (by omega)).mp z] at hb; cases hb), nI_clamp (by omega), nI_1]
    have ht := tm_m (X := X) (w := w) (hX i hi2) (hw i hi2) (sm.2.2.2 i hi2) (sd i hi2)
    have hbd := fb_si_bound (f := fun i => if a.testBit i = true then ((X i : Int) - 4) * (w i : Int) else 0) (c := 39996) (by omega) (n := i) (fun j hj => by
      split
      · exact tm_bd (by have := hX j (by omega); omega) (hw j (by omega))
      · omega)
    have hb2 := tm_bd (x := X i) (w := w i) (by have := hX i hi2; omega) (hw i hi2)
    refine OK.g (gd_nI (by omega) (by omega)) (OK.g (gd_nI (by omega) (by omega)) (OK.ret ⟨hi2, hi2, rfl, ?_⟩))
    show (l + m 22 i * m 8 i).toInt = _
    rw [fb_si_succ, if_pos hb, fb_addI, hl, ht]
    · rw [hl, ht]; omega
    · rw [hl, ht]; omega
  · rw [if_pos ((has_t ha31 (by omega)).mpr (Bool.eq_false_iff.mpr hb)), nI_1]
    refine OK.ret ⟨hi2, hi2, rfl, ?_⟩
    show (l + 0).toInt = _
    rw [Int32.add_zero, fb_si_succ, if_neg hb, hl, Int.add_zero]
def mvR (n : Nat) : Option CFG → Int32
  | none => -1
  | some Y => nI (hrn Y n)
theorem pw_m (hm : m 0 1 = nI n) (hn : n ≤ 9) {i : Nat} (hi : i < n) (u1 u5 : Int32) : OK (rh_loop (b_Mo_stepTo_91 u1 u5 m) rh_N ((1 : Int32), nI (i + 1))) (fun x => x = nI (9 ^ (n - 1 - i))) := by
  refine OK.loop _ (fun j s => i + 1 + j ≤ n ∧ s.2 = nI (i + 1 + j) ∧ s.1 = nI (9 ^ j)) _ 9 (by omega) ?_ ⟨by omega, rfl, rfl⟩
  rintro j ⟨p, v⟩ - ⟨hj, rfl, rfl⟩
  unfold b_Mo_stepTo_91
  dsimp only
  rw [hm]
  refine OK.ite (fun hc => OK.ret ?_) (fun hc => ?_)
  · have := ple hc (by omega) (by omega)
    show nI (9 ^ j) = _
    congr 2; omega
  · have := nle hc (by omega) (by omega)
    refine OK.ret ⟨by omega, by omega, nI_1 _, ?_⟩
    show nI (9 ^ j) * 9 = _
    rw [show nI (9 ^ j) * 9 = nI (9 ^ j * 9) from pk_mul _ 9, Nat.pow_succ]
theorem st_m (hn : n ≤ 9) (ha : a < 2 ^ n) (hX : ∀ i, i < n → X i < 9) (hw : ∀ i, i < n → w i ≤ 9999) (hbt : bt ≤ 9999) (sm : SMX a n bt w m) (sd : STD n X m) {l : Int32} (hl : l.toInt = LEz a n w X) {mv : Nat} (hmv : mv ≤ 18) (hlt : mv / 2 < n ∨ mv = 18) : OK (f_Mo_stepTo m (nI (hrn X n)) (nI mv) l) (fun x => x = mvR n (MT a n bt w X mv)) := by
  have ha31 := p31 hn ha
  have hbd := LE_bd (a := a) hn hX hw
  have hc := cd_lt hn hX
  unfold f_Mo_stepTo
  by_cases h18 : mv = 18
  · rw [h18, if_pos (show nI 18 = 18 from rfl), MT_18]
    exact OK.ret rfl
  · have hi := hlt.resolve_right h18
    rw [if_neg (show ¬ nI mv = 18 from neI (s := 18) (by omega) (by omega) h18), show nI mv - nI mv / 2 * 2 = nI (mv % 2) from pk_rem (d := 2) (by omega) (by omega) (by omega), show nI mv / 2 = nI (mv / 2) from pk_div (d := 2) (by omega) (by omega) (by omega)]
    have j25 : ∀ (by0 : Int32) (z : Int), by0.toInt = z → (z = 1 ∧ mv % 2 = 1 ∨ z = -1 ∧ mv % 2 = 0) → OK (j_Mo_stepTo_25 m (nI (hrn X n)) l (nI (mv / 2)) by0) (fun x => x = mvR n (MT a n bt w X mv)) := by
      intro by0 z hby hz
      unfold j_Mo_stepTo_25
      rw [show m 1 (9 : Int32).toNatClampNeg = nI a from sm.2.1]
      by_cases hb : a.testBit (mv / 2) = true
      · rw [if_neg (fun q => by rw [(has_t ha31 (by omega)).mp q] at hb; cases hb), nI_clamp (by omega)]
        have hx := hX _ hi
        have hww := hw _ hi
        have h22 := sd _ hi
        have h8 := sm.2.2.2 _ hi
        have hs : (m 22 (mv / 2) + by0).toInt = (X (mv / 2) : Int) - 4 + z := by
          rw [fb_addI, h22, hby]
          · rw [h22, hby]; omega
          · rw [h22, hby]; omega
        have hm : (by0 * m 8 (mv / 2)).toInt = z * (w (mv / 2) : Int) := by
          rw [h8, fb_mulI, hby, nI_toInt (by omega)]
          · rw [hby, nI_toInt (by omega)]; rcases hz with ⟨q, _⟩ | ⟨q, _⟩ <;> rw [q] <;> omega
          · rw [hby, nI_toInt (by omega)]; rcases hz with ⟨q, _⟩ | ⟨q, _⟩ <;> rw [q] <;> omega
        have hmb : -9999 ≤ z * (w (mv / 2) : Int) ∧ z * (w (mv / 2) : Int) ≤ 9999 := by rcases hz with ⟨q, _⟩ | ⟨q, _⟩ <;> rw [q] <;> omega
        have hll : (l + by0 * m 8 (mv / 2)).toInt = LEz a n w X + z * (w (mv / 2) : Int) := by
          rw [fb_addI, hl, hm]
          · rw [hl, hm]; omega
          · rw [hl, hm]; omega
        generalize hy1 : m 22 (mv / 2) + by0 = y1 at hs
        generalize hy2 : l + by0 * m 8 (mv / 2) = y2 at hll
        refine OK.g (gd_nI (by omega) (by omega)) ?_
        have hin : f_Mo_in y1 (-4) 4 = if -4 ≤ (X (mv / 2) : Int) - 4 + z ∧ (X (mv / 2) : Int) - 4 + z ≤ 4 then 1 else 0 := by
          unfold f_Mo_in
          have h4 : (-4 : Int32).toInt = -4 := rfl
          have h4' : (4 : Int32).toInt = 4 := rfl
          by_cases q1 : (X (mv / 2) : Int) - 4 + z < -4
          · rw [if_pos (by rw [fa_lt, hs, h4]; exact q1), if_neg (by omega)]
          · rw [if_neg (by rw [fa_lt, hs, h4]; exact q1)]
            by_cases q2 : 4 < (X (mv / 2) : Int) - 4 + z
            · rw [if_pos (by rw [fa_lt, hs, h4']; exact q2), if_neg (by omega)]
            · rw [if_neg (by rw [fa_lt, hs, h4']; exact q2), if_pos (by omega)]
        rw [hin, ti_m sm.2.2.1 hbt hll (by omega) (by omega)]
        have p9 := nine_pow (k := n - 1 - mv / 2) (by omega)
        have hch := hrn_chg (X := X) (i := mv / 2) 0 n
        rw [if_pos hi, if_pos hi, Nat.zero_mul, Nat.add_zero] at hch
        rcases hz with ⟨rfl, hp⟩ | ⟨rfl, hp⟩
        · have e := MT_up (bt := bt) (w := w) (X := X) hn hi hb
          rw [show 2 * (mv / 2) + 1 = mv by omega] at e
          rw [e]
          have hb1 : by0 = 1 := by rw [fa_eq, hby]; rfl
          rw [Int.one_mul]
          by_cases q1 : X (mv / 2) < 8
          · rw [if_pos (show -4 ≤ (X (mv / 2) : Int) - 4 + 1 ∧ (X (mv / 2) : Int) - 4 + 1 ≤ 4 by omega), if_neg (show ¬ (1 : Int32) = 0 by decide)]
            refine OK.g (gd_nI (by omega) (by omega)) ?_
            by_cases q2 : BR bt (LEz a n w X + (w (mv / 2) : Int)) = true
            · rw [if_pos q2, if_pos rfl, if_pos ⟨q1, q2⟩, nI_1]
              refine OK.bind (pw_m sm.1 hn hi _ _) (fun r hr => OK.ret ?_)
              rw [hr, hb1, Int32.one_mul, nI_add]
              show nI _ = nI _
              have h2 := hrn_chg (X := X) (i := mv / 2) (X (mv / 2) + 1) n
              rw [if_pos hi, if_pos hi, Nat.succ_mul] at h2
              congr 1; omega
            · rw [if_neg q2, if_neg (show ¬ (1 : Int32) = 0 by decide), if_neg (fun q => q2 q.2)]
              exact OK.ret rfl
          · rw [if_neg (show ¬ (-4 ≤ (X (mv / 2) : Int) - 4 + 1 ∧ (X (mv / 2) : Int) - 4 + 1 ≤ 4) by omega), if_pos rfl, if_neg (fun q => q1 q.1)]
            exact OK.ret rfl
        · have e := MT_dn (bt := bt) (w := w) (X := X) hn hi hb
          rw [show 2 * (mv / 2) = mv by omega] at e
          rw [e]
          have hb1 : by0 = -1 := by rw [fa_eq, hby]; rfl
          rw [show LEz a n w X + -1 * (w (mv / 2) : Int) = LEz a n w X - (w (mv / 2) : Int) by omega]
          by_cases q1 : 0 < X (mv / 2)
          · rw [if_pos (show -4 ≤ (X (mv / 2) : Int) - 4 + -1 ∧ (X (mv / 2) : Int) - 4 + -1 ≤ 4 by omega), if_neg (show ¬ (1 : Int32) = 0 by decide)]
            refine OK.g (gd_nI (by omega) (by omega)) ?_
            by_cases q2 : BR bt (LEz a n w X - (w (mv / 2) : Int)) = true
            · rw [if_pos q2, if_pos rfl, if_pos ⟨q1, q2⟩, nI_1]
              refine OK.bind (pw_m sm.1 hn hi _ _) (fun r hr => OK.ret ?_)
              rw [hr, hb1]
              show _ = nI _
              have h2 := hrn_chg (X := X) (i := mv / 2) (X (mv / 2) - 1) n
              rw [if_pos hi, if_pos hi] at h2
              have h5 : (X (mv / 2) - 1) * 9 ^ (n - 1 - mv / 2) + 9 ^ (n - 1 - mv / 2) = X (mv / 2) * 9 ^ (n - 1 - mv / 2) := by
                rw [← Nat.succ_mul]; congr 1; omega
              have h6 : hrn (chg X (mv / 2) (X (mv / 2) - 1)) n + 9 ^ (n - 1 - mv / 2) = hrn X n := by omega
              rw [← h6, ← nI_add, show (-1 : Int32) * nI (9 ^ (n - 1 - mv / 2)) = -(nI (9 ^ (n - 1 - mv / 2))) from (Int32.neg_mul 1 _).trans (by rw [Int32.one_mul]), Int32.add_assoc, Int32.add_right_neg, Int32.add_zero]
            · rw [if_neg q2, if_neg (show ¬ (1 : Int32) = 0 by decide), if_neg (fun q => q2 q.2)]
              exact OK.ret rfl
          · rw [if_neg (show ¬ (-4 ≤ (X (mv / 2) : Int) - 4 + -1 ∧ (X (mv / 2) : Int) - 4 + -1 ≤ 4) by omega), if_pos rfl, if_neg (fun q => q1 q.1)]
            exact OK.ret rfl
      · rw [if_pos ((has_t ha31 (by omega)).mpr (Bool.eq_false_iff.mpr hb)), MT_no h18 (fun q => hb q.2)]
        exact OK.ret rfl
    by_cases hp : mv % 2 = 1
    · rw [hp, if_pos (show nI 1 = 1 from rfl)]
      exact j25 1 1 rfl (Or.inl ⟨rfl, hp⟩)
    · rw [show mv % 2 = 0 by omega, if_neg (show ¬ nI 0 = 1 by decide)]
      exact j25 (-1) (-1) rfl (Or.inr ⟨rfl, by omega⟩)
end RM6
