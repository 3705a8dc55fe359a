/-! steady: the reference's lists, in order of their numbers -/
def SRT (n cnt : Nat) (D : Nat → CFG) : Prop := ∀ i j, i < j → j < cnt → hrn (D i) n < hrn (D j) n
def MLS (n k cnt : Nat) (D : Nat → CFG) (lf : Nat → Nat) (g : Nat → Nat → Int64) : Prop := ∀ j, j < cnt → g 20 (500 * k + j) = lN (100 * hrn (D j) n + lf j) ∧ lf j < 100
section RM7
variable {a n bt : Nat} {X0 X : CFG} {m : HI} {g : Nat → Nat → Int64} {cnt : Nat} {D : Nat → CFG} {lf : Nat → Nat}
theorem fi_b (u1 u2 l h : Int32) (g : Nat → Nat → Int64) : b_Mo_find_10 u1 u2 g (l, h) = if h ≤ l then some (.inr l) else (f_Mo_wayOf g u1 ((l + h) / (2 : Int32))).bind (fun x4 => if u2 ≤ x4 then some (.inl (l, (l + h) / (2 : Int32))) else some (.inl (((l + h) / (2 : Int32)) + (1 : Int32), h))) := rfl
theorem fi_m (hn : n ≤ 9) {k : Nat} (hk : k ≤ 20) (hc : cnt ≤ 500) (hm : m 21 k = nI cnt) (ls : MLS n k cnt D lf g) (hD : ∀ j, j < cnt → VX a n X0 (D j)) (hX : VX a n X0 X) (hs : SRT n cnt D) : OK (f_Mo_find m g (nI k) (nI (hrn X n))) (fun x => (∃ j, j < cnt ∧ D j = X ∧ x = nI j) ∨ ((∀ j, j < cnt → D j ≠ X) ∧ ∃ p, p ≤ cnt ∧ x = -1 - nI p ∧ (∀ j, j < p → hrn (D j) n < hrn X n) ∧ ∀ j, p ≤ j → j < cnt → hrn X n < hrn (D j) n)) := by
  have hcx := cd_lt hn hX.1
  have hcd : ∀ j, j < cnt → hrn (D j) n < 387420489 := fun j hj => cd_lt hn (hD j hj).1
  unfold f_Mo_find
  rw [nI_clamp (by omega), hm]
  refine OK.g (gd_nI (by omega) (by omega)) (OK.bind (P := fun x => ∃ p, p ≤ cnt ∧ x = nI p ∧ (∀ j, j < p → hrn (D j) n < hrn X n) ∧ ∀ j, p ≤ j → j < cnt → hrn X n ≤ hrn (D j) n) (OK.loop _ (fun i s => ∃ l h, l ≤ h ∧ h ≤ cnt ∧ h - l + i ≤ cnt ∧ s.1 = nI l ∧ s.2 = nI h ∧ (∀ j, j < l → hrn (D j) n < hrn X n) ∧ ∀ j, h ≤ j → j < cnt → hrn X n ≤ hrn (D j) n) _ cnt (by omega) ?_ ⟨0, cnt, by omega, by omega, by omega, rfl, rfl, fun j hj => by omega, fun j h1 h2 => by omega⟩) ?_)
  · rintro i ⟨s1, s2⟩ - ⟨l, h, h1, h2, h3, rfl, rfl, h4, h5⟩
    rw [fi_b]
    refine OK.ite (fun hc2 => OK.ret ?_) (fun hc2 => ?_)
    · have := ple hc2 (by omega) (by omega)
      have : l = h := by omega
      subst this
      exact ⟨l, by omega, rfl, h4, h5⟩
    have hlt : l < h := nle hc2 (by omega) (by omega)
    rw [nI_add, show nI (l + h) / 2 = nI ((l + h) / 2) from pk_div (d := 2) (by omega) (by omega) (by omega), (wo_m hk (j := (l + h) / 2) (by omega) (hcd _ (by omega)) (ls _ (by omega)).2 (ls _ (by omega)).1).1, Option.bind_some, nI_1]
    by_cases hle : hrn X n ≤ hrn (D ((l + h) / 2)) n
    · rw [if_pos (nI_le hle (by have := hcd ((l + h) / 2) (by omega); omega))]
      refine OK.ret ⟨by omega, l, (l + h) / 2, by omega, by omega, by omega, rfl, rfl, h4, fun j hj1 hj2 => ?_⟩
      rcases (show j = (l + h) / 2 ∨ (l + h) / 2 < j by omega) with y | y
      · rw [y]; exact hle
      · have := hs _ _ y hj2; omega
    · rw [if_neg (nI_ge (by omega) (by omega))]
      refine OK.ret ⟨by omega, (l + h) / 2 + 1, h, by omega, by omega, by omega, rfl, rfl, fun j hj => ?_, h5⟩
      rcases (show j = (l + h) / 2 ∨ j < (l + h) / 2 by omega) with y | y
      · rw [y]; omega
      · have := hs _ _ y (by omega); omega
  · rintro x ⟨p, hp, rfl, h4, h5⟩
    refine OK.g (gd_nI (by omega) (by omega)) ?_
    by_cases hpc : cnt ≤ p
    · rw [if_pos (nI_le hpc (by omega))]
      refine OK.ret (Or.inr ⟨fun j hj e => ?_, p, hp, rfl, h4, fun j h1 h2 => by omega⟩)
      have := h4 j (by omega)
      rw [e] at this; omega
    · rw [if_neg (nI_ge (by omega) (by omega)), (wo_m hk (j := p) (by omega) (hcd _ (by omega)) (ls _ (by omega)).2 (ls _ (by omega)).1).1, Option.bind_some]
      by_cases he : hrn (D p) n = hrn X n
      · rw [if_pos (by rw [he])]
        exact OK.ret (Or.inl ⟨p, by omega, hrn_cfg (hD p (by omega)) hX he, rfl⟩)
      · rw [if_neg (fun z => he ((nI_eq (by have := hcd p (by omega); omega) (by omega)).mp z))]
        refine OK.ret (Or.inr ⟨fun j hj e => ?_, p, hp, rfl, h4, fun j h1 h2 => ?_⟩)
        · rcases (show j < p ∨ j = p ∨ p < j by omega) with y | y | y
          · have := h4 j y; rw [e] at this; omega
          · subst y; exact he (by rw [e])
          · have h6 := hs _ _ y hj
            have h7 := h5 p (Nat.le_refl _) (by omega)
            rw [e] at h6; omega
        · have h7 := h5 p (Nat.le_refl _) (by omega)
          rcases (show j = p ∨ p < j by omega) with y | y
          · rw [y]; omega
          · have := hs _ _ y h2; omega
def insA (D : Nat → CFG) (p : Nat) (X : CFG) : Nat → CFG := fun j => if j < p then D j else if j = p then X else D (j - 1)
theorem ins_lt {p i j : Nat} (hp : p ≤ cnt) (h5 : SRT n cnt D) (hlo : ∀ j, j < p → hrn (D j) n < hrn X n) (hhi : ∀ j, p ≤ j → j < cnt → hrn X n < hrn (D j) n) (hij : i < j) (hj : j < cnt + 1) : hrn (insA D p X i) n < hrn (insA D p X j) n := by
  show hrn (if i < p then D i else if i = p then X else D (i - 1)) n < hrn (if j < p then D j else if j = p then X else D (j - 1)) n
  by_cases i1 : i < p
  · rw [if_pos i1]
    by_cases j1 : j < p
    · rw [if_pos j1]
      exact h5 i j hij (by omega)
    · rw [if_neg j1]
      by_cases j2 : j = p
      · rw [if_pos j2]; exact hlo i i1
      · rw [if_neg j2]
        have := hlo i i1
        have := hhi (j - 1) (by omega) (by omega)
        omega
  · rw [if_neg i1, if_neg (show ¬ j < p by omega), if_neg (show ¬ j = p by omega)]
    by_cases i2 : i = p
    · rw [if_pos i2]; exact hhi (j - 1) (by omega) (by omega)
    · rw [if_neg i2]; exact h5 (i - 1) (j - 1) (by omega) (by omega)
/-- a list of the reference as it grows -/
def BLM (a n : Nat) (X0 : CFG) (k : Nat) (P : CFG → Prop) (m : HI) (g : Nat → Nat → Int64) : Prop := ∃ cnt D, cnt ≤ 500 ∧ m 21 k = nI cnt ∧ MLS n k cnt D (fun _ => 0) g ∧ (∀ j, j < cnt → VX a n X0 (D j)) ∧ SRT n cnt D ∧ SETL cnt D P
theorem BLM.iff {k : Nat} {P Q : CFG → Prop} (h : BLM a n X0 k P m g) (e : ∀ X, P X ↔ Q X) : BLM a n X0 k Q m g := by
  obtain ⟨cnt, D, h1, h2, h3, h4, h5, h6⟩ := h
  exact ⟨cnt, D, h1, h2, h3, h4, h5, h6.iff e⟩
def FMk (k : Nat) (g g' : Nat → Nat → Int64) : Prop := ∀ j, (j < 500 * k ∨ 500 * (k + 1) ≤ j) → g' 20 j = g 20 j
theorem neg1 (p : Nat) : (-1 : Int32) - (-1 - nI p) = nI p := by
  rw [Int32.sub_eq_add_neg, Int32.neg_sub, Int32.sub_eq_add_neg, Int32.add_comm (nI p), ← Int32.add_assoc, Int32.add_right_neg, Int32.zero_add]
theorem ad_b (u1 u2 u3 v : Int32) (h : HI) (g : Nat → Nat → Int64) : b_Mo_add_35 u1 u2 u3 h (v, g) = if v ≤ ((-1 : Int32) - u3) then some (.inr g) else rh_g (0 ≤ ((((500 : Int32) * u1) + v) - (1 : Int32)).toInt ∧ ((((500 : Int32) * u1) + v) - (1 : Int32)).toInt < ((10500 : Nat) : Int)) (rh_g (0 ≤ (((500 : Int32) * u1) + v).toInt ∧ (((500 : Int32) * u1) + v).toInt < ((10500 : Nat) : Int)) (some (.inl (v + (-1 : Int32), rh_up g 20 (((500 : Int32) * u1) + v).toNatClampNeg (g 20 ((((500 : Int32) * u1) + v) - (1 : Int32)).toNatClampNeg))))) := rfl
theorem ad_m (hn : n ≤ 9) {k : Nat} (hk : k ≤ 20) {P : CFG → Prop} (h : BLM a n X0 k P m g) (hX : VX a n X0 X) : OK (f_Mo_add m g (nI k) (nI (hrn X n))) (fun x => (∀ o j, (o = 21 → j ≠ k) → x.2.1 o j = m o j) ∧ FMk k g x.2.2 ∧ ((x.1 = 1 ∧ BLM a n X0 k (fun Y => P Y ∨ Y = X) x.2.1 x.2.2) ∨ (x.1 = 0 ∧ ∀ Q : CFG → Prop, (∀ Y, P Y ∨ Y = X → Q Y) → OVF Q))) := by
  have hcx := cd_lt hn hX.1
  obtain ⟨cnt, D, h1, h2, h3, h4, h5, h6⟩ := h
  unfold f_Mo_add
  refine OK.bind (fi_m hn hk h1 h2 h3 h4 hX h5) ?_
  rintro x (⟨j, hj, e, rfl⟩ | ⟨hno, p, hp, rfl, hlo, hhi⟩)
  · rw [if_neg (show ¬ nI j < 0 from nltI (s := 0) (by omega) (by omega))]
    refine OK.ret ⟨fun _ _ _ => rfl, fun _ _ => rfl, Or.inl ⟨rfl, cnt, D, h1, h2, h3, h4, h5, h6.iff (fun Y => ⟨Or.inl, fun z => z.elim id (fun z => ?_)⟩)⟩⟩
    rw [z]; exact (h6.2 X).mp ⟨j, hj, e⟩
  · have hneg : (-1 - nI p : Int32).toInt = -1 - (p : Int) := by
      rw [fb_subI, nI_toInt (by omega)]
      · rfl
      · rw [nI_toInt (by omega), show (-1 : Int32).toInt = -1 from rfl]; omega
      · rw [nI_toInt (by omega), show (-1 : Int32).toInt = -1 from rfl]; omega
    have hp1 := neg1 p
    have hk500 : ((500 : Int32) * nI k - 1 - (-1 - nI p)) = nI (500 * k + p) := by
      apply ofI
      have e1 : ((500 : Int32) * nI k).toInt = ((500 * k : Nat) : Int) := by rw [show (500 : Int32) * nI k = nI (500 * k) from pk_mul 500 k, nI_toInt (by omega)]
      have e2 : ((500 : Int32) * nI k - 1).toInt = ((500 * k : Nat) : Int) - 1 := by
        rw [fb_subI, e1, show (1 : Int32).toInt = 1 from rfl]
        · rw [e1, show (1 : Int32).toInt = 1 from rfl]; omega
        · rw [e1, show (1 : Int32).toInt = 1 from rfl]; omega
      rw [fb_subI, e2, hneg]
      · omega
      · rw [e2, hneg]; omega
      · rw [e2, hneg]; omega
    generalize hx1 : (-1 - nI p : Int32) = x1 at hneg hp1 hk500
    rw [if_pos (by rw [fa_lt, hneg, show (0 : Int32).toInt = 0 from rfl]; omega), nI_clamp (by omega), h2]
    refine OK.g (gd_nI (by omega) (by omega)) ?_
    by_cases h500 : cnt = 500
    · subst h500
      rw [if_pos (show nI 500 = 500 from rfl)]
      refine OK.ret ⟨fun _ _ _ => rfl, fun _ _ => rfl, Or.inr ⟨rfl, fun Q hQ => h6.ovf (X := X) (fun z => ?_) hQ⟩⟩
      obtain ⟨j, hj, e⟩ := (h6.2 X).mpr z
      exact hno j hj e
    · rw [if_neg (show ¬ nI cnt = 500 from neI (s := 500) (by omega) (by omega) h500)]
      refine OK.g (gd_nI (by omega) (by omega)) (OK.bind (P := fun g' => FMk k g g' ∧ ∀ j, j < cnt + 1 → g' 20 (500 * k + j) = if p < j then g 20 (500 * k + (j - 1)) else g 20 (500 * k + j)) (OK.loop _ (fun i s => i ≤ cnt - p ∧ s.1 = nI (cnt - i) ∧ FMk k g s.2 ∧ ∀ j, j < cnt + 1 → s.2 20 (500 * k + j) = if cnt - i < j then g 20 (500 * k + (j - 1)) else g 20 (500 * k + j)) _ (cnt - p) (by omega) ?_ ⟨by omega, rfl, fun _ _ => rfl, fun j hj => by rw [if_neg (by omega)]⟩) ?_)
      · rintro i ⟨v, g'⟩ - ⟨hi, rfl, hF, hB⟩
        dsimp only at hF hB
        rw [ad_b, hp1]
        refine OK.ite (fun hc => OK.ret ?_) (fun hc => ?_)
        · have := ple hc (by omega) (by omega)
          have e : cnt - i = p := by omega
          rw [e] at hB
          exact ⟨hF, hB⟩
        have hlt : p < cnt - i := nle hc (by omega) (by omega)
        obtain ⟨d, hd⟩ : ∃ d, cnt - i = d + 1 := ⟨cnt - i - 1, by omega⟩
        rw [hd] at hB hlt ⊢
        rw [show (500 : Int32) * nI k = nI (500 * k) from pk_mul 500 k, nI_add, show nI (500 * k + (d + 1)) - 1 = nI (500 * k + d) from (pk_sub (a := 500 * k + (d + 1)) (b := 1) (by omega)), nI_clamp (by omega), nI_clamp (by omega), nI_m1]
        refine OK.g (gd_nI (by omega) (by omega)) (OK.g (gd_nI (by omega) (by omega)) (OK.ret ⟨by omega, by omega, ?_, fun j hj => ?_, fun j hj => ?_⟩))
        · show nI d = nI (cnt - (i + 1))
          congr 1; omega
        · show rh_up g' 20 (500 * k + (d + 1)) _ 20 j = _
          rw [gup _ _ _ _ (by omega)]; exact hF j hj
        · show rh_up g' 20 (500 * k + (d + 1)) (g' 20 (500 * k + d)) 20 (500 * k + j) = _
          rw [show cnt - (i + 1) = d by omega]
          by_cases z : j = d + 1
          · rw [z, rh_up_s, hB d (by omega), if_neg (by omega), if_pos (by omega), Nat.add_sub_cancel]
          · rw [gup _ _ _ _ (by omega), hB j hj]
            by_cases y : d < j
            · rw [if_pos (by omega), if_pos y]
            · rw [if_neg (by omega), if_neg y]
      · rintro g2 ⟨hF, hB⟩
        rw [hk500, nI_clamp (by omega), nI_1, l_100 (by omega)]
        refine OK.g (gd_nI (by omega) (by omega)) (OK.g (gd_nI (by omega) (by omega)) (OK.g (gd_nI (by omega) (by omega)) (OK.ret ⟨fun o j ho => ?_, fun j hj => ?_, Or.inl ⟨rfl, cnt + 1, insA D p X, by omega, ?_, fun j hj => ⟨?_, (show 0 < 100 by omega)⟩, fun j hj => ?_, fun i j hij hj => ?_, ⟨fun i j hij hj => ?_, fun Y => ?_⟩⟩⟩)))
        · show rh_up m 21 k _ o j = _
          rw [up_f, if_neg (fun z => ho z.1 z.2)]
        · show rh_up g2 20 (500 * k + p) _ 20 j = _
          rw [gup _ _ _ _ (by omega)]; exact hF j hj
        · show rh_up m 21 k _ 21 k = _
          rw [rh_up_s]
        · show rh_up g2 20 (500 * k + p) (lN (100 * hrn X n)) 20 (500 * k + j) = lN (100 * hrn (if j < p then D j else if j = p then X else D (j - 1)) n + 0)
          rw [Nat.add_zero]
          by_cases z : j = p
          · rw [z, rh_up_s, if_neg (by omega), if_pos rfl]
          · rw [gup _ _ _ _ (by omega), hB j hj]
            by_cases y : p < j
            · rw [if_pos y, if_neg (by omega), if_neg z]
              have := (h3 (j - 1) (by omega)).1
              rw [Nat.add_zero] at this; exact this
            · rw [if_neg y, if_pos (by omega)]
              have := (h3 j (by omega)).1
              rw [Nat.add_zero] at this; exact this
        · show VX a n X0 (if j < p then D j else if j = p then X else D (j - 1))
          by_cases z : j < p
          · rw [if_pos z]; exact h4 j (by omega)
          · rw [if_neg z]
            by_cases y : j = p
            · rw [if_pos y]; exact hX
            · rw [if_neg y]; exact h4 _ (by omega)
        · show hrn (if i < p then D i else if i = p then X else D (i - 1)) n < hrn (if j < p then D j else if j = p then X else D (j - 1)) n
          exact ins_lt hp h5 hlo hhi hij hj
        · intro e
          have : hrn (insA D p X i) n < hrn (insA D p X j) n := ins_lt hp h5 hlo hhi hij hj
          rw [e] at this; omega
        · dsimp only
          rw [← h6.2 Y]
          constructor
          · rintro ⟨j, hj, e⟩
            have e : (if j < p then D j else if j = p then X else D (j - 1)) = Y := e
            by_cases z : j < p
            · rw [if_pos z] at e; exact Or.inl ⟨j, by omega, e⟩
            · rw [if_neg z] at e
              by_cases y : j = p
              · rw [if_pos y] at e; exact Or.inr e.symm
              · rw [if_neg y] at e; exact Or.inl ⟨j - 1, by omega, e⟩
          · rintro (⟨j, hj, e⟩ | rfl)
            · by_cases z : j < p
              · exact ⟨j, by omega, by show (if j < p then D j else _) = Y; rw [if_pos z]; exact e⟩
              · refine ⟨j + 1, by omega, ?_⟩
                show (if j + 1 < p then D (j + 1) else if j + 1 = p then X else D (j + 1 - 1)) = Y
                rw [if_neg (by omega), if_neg (by omega), Nat.add_sub_cancel]; exact e
            · refine ⟨p, by omega, ?_⟩
              show (if p < p then D p else if p = p then Y else D (p - 1)) = Y
              rw [if_neg (by omega), if_pos rfl]
end RM7
