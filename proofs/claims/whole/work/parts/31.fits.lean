/-! fits, liars -/
def Wb (Pm : Nat) (V : Nat → Nat → Nat → Nat) (i b t : Nat) : Nat := if Pm.testBit i then V b t i else b
/-- what i must weigh at what was weighed as the k-th -/
def ND (n Pm : Nat) (B : Nat → Nat) (V : Nat → Nat → Nat → Nat) (T i : Nat) (st wt sm : Nat → Nat) (k : Nat) : Int32 := nI (sm k) - nI (WS n (fun j => Wt Pm B V j (T + wt k)) (nand (st k) (2 ^ i)))
def AGb (n Pm : Nat) (B : Nat → Nat) (V : Nat → Nat → Nat → Nat) (T i : Nat) (st wt sm : Nat → Nat) (b k : Nat) : Bool := if (st k).testBit i then decide (nI (Wb Pm V i b (T + wt k)) = ND n Pm B V T i st wt sm k) else decide (ND n Pm B V T i st wt sm k = 0)
def AG (n Pm : Nat) (B : Nat → Nat) (V : Nat → Nat → Nat → Nat) (T i r : Nat) (st wt sm : Nat → Nat) (b : Nat) : Prop := ∀ k, k < r → AGb n Pm B V T i st wt sm b k = true
def FS (P : Nat → Bool) (b0 : Nat) : Nat → Nat × Nat × Nat × Nat
  | 0 => (0, 0, 0, 0)
  | w + 1 => if P (w + 1) then ((FS P b0 w).1 + 1, (if (FS P b0 w).1 = 0 then w + 1 else (FS P b0 w).2.1), w + 1, (FS P b0 w).2.2.2 + (if w + 1 = b0 then 0 else 1)) else FS P b0 w
theorem FS_le (P : Nat → Bool) (b0 : Nat) : ∀ w, (FS P b0 w).1 ≤ w ∧ (FS P b0 w).2.2.2 ≤ w
  | 0 => by unfold FS; exact ⟨Nat.le_refl _, Nat.le_refl _⟩
  | w + 1 => by
    have := FS_le P b0 w
    unfold FS
    split
    · refine ⟨by dsimp only; omega, ?_⟩
      dsimp only
      split <;> omega
    · omega
theorem FS_no {P : Nat → Bool} (b0 : Nat) : ∀ w, (∀ b, 1 ≤ b → b ≤ w → P b = false) → FS P b0 w = (0, 0, 0, 0)
  | 0, _ => rfl
  | w + 1, h => by
    unfold FS
    rw [h (w + 1) (by omega) (by omega)]
    exact FS_no b0 w (fun b h1 h2 => h b h1 (by omega))
theorem FS_pos (P : Nat → Bool) (b0 : Nat) : ∀ w, (FS P b0 w).2.2.2 ≠ 0 ↔ ∃ b, 1 ≤ b ∧ b ≤ w ∧ b ≠ b0 ∧ P b = true
  | 0 => by
    refine ⟨fun h => absurd rfl h, ?_⟩
    rintro ⟨b, h1, h2, -⟩
    omega
  | w + 1 => by
    have ih := FS_pos P b0 w
    have step : (FS P b0 (w + 1)).2.2.2 ≠ 0 ↔ (FS P b0 w).2.2.2 ≠ 0 ∨ (w + 1 ≠ b0 ∧ P (w + 1) = true) := by
      show (if P (w + 1) then _ else FS P b0 w).2.2.2 ≠ 0 ↔ _
      cases hp : P (w + 1) with
      | false => simp
      | true =>
        simp only [if_true]
        by_cases hb : w + 1 = b0
        · rw [if_pos hb]; simp [hb]
        · rw [if_neg hb]; simp [hb]
    rw [step, ih]
    constructor
    · rintro (⟨b, h1, h2, h3, h4⟩ | ⟨h1, h2⟩)
      · exact ⟨b, h1, by omega, h3, h4⟩
      · exact ⟨w + 1, by omega, by omega, h1, h2⟩
    · rintro ⟨b, h1, h2, h3, h4⟩
      by_cases e : b = w + 1
      · subst e; exact Or.inr ⟨h3, h4⟩
      · exact Or.inl ⟨b, h1, by omega, h3, h4⟩
section FITS
variable {k n Pm : Nat} {B : Nat → Nat} {V : Nat → Nat → Nat → Nat} {T a q : Nat} {c m : HI}
theorem wb_c {h : HI} (q : QC n Pm B V h) {i b t : Nat} (hi : i < n) (hb1 : 1 ≤ b) (hb2 : b ≤ 999) (ht : t < 2 ^ 30) : ∃ h', f_Cr_weightWith h (nI i) (nI b) (nI t) = some (nI (Wb Pm V i b t), h') ∧ E8 h h' := by
  have hp := isP q hi
  obtain ⟨a1, a2, a3, a4, a5, a6, a7⟩ := q
  unfold f_Cr_weightWith Wb
  cases hb : Pm.testBit i with
  | false =>
    rw [if_pos (hp.mpr hb)]
    exact ⟨h, by simp, E8.rf⟩
  | true =>
    rw [if_neg (fun z => by rw [hp.mp z] at hb; cases hb), show nI t - nI t / 9 * 9 = nI (t % 9) from pk_rem (d := 9) (by omega) (by omega) (by omega), show nI t / 9 = nI (t / 9) from pk_div (d := 9) (by omega) (by omega) (by omega)]
    obtain ⟨h', h1, h2⟩ := a6 h rfl (fun _ => rfl) b t i hb1 hb2 ht (by omega)
    rw [h1]
    exact ⟨h', by simp, h2⟩
theorem wb_m {h : HI} (q : QM n Pm B V h) (rd : Option Nat) {i b t : Nat} (hi : i < n) (hb1 : 1 ≤ b) (hb2 : b ≤ 999) (ht : t < 2 ^ 30) : ∃ h' rd', f_Mo_weightBy h rd (nI i) (nI b) (nI t) = some (nI (Wb Pm V i b t), h', rd') ∧ EM h h' := by
  obtain ⟨a1, a2, a3, a4, a5, a6, a7⟩ := q
  have hp := has_t (p := Pm) (i := i) (p31 a1 a2) (by omega)
  unfold Wb
  cases hb : Pm.testBit i with
  | false =>
    refine ⟨h, rd, ?_, EM.rf⟩
    unfold f_Mo_weightBy
    rw [a4, if_pos (hp.mpr hb)]
    simp
  | true =>
    obtain ⟨h', rd', h1, h2⟩ := a6 h rd rfl (fun _ => rfl) b t i hb1 hb2 ht (by omega) (by rw [a4]; exact fun z => by rw [hp.mp z] at hb; cases hb)
    rw [h1]
    exact ⟨h', rd', by simp, h2⟩
theorem Wb_le (q : QC n Pm B V c) {i b t : Nat} (hi : i < n) (hb1 : 1 ≤ b) (hb2 : b ≤ 999) (ht : t < 2 ^ 30) : Wb Pm V i b t ≤ 9999 := by
  obtain ⟨a1, a2, a3, a4, a5, a6, a7⟩ := q
  unfold Wb
  split
  · exact a7 _ _ _ hb1 hb2 ht (by omega)
  · omega
/-- what the class has gathered of the first j -/
def GN (n Pm : Nat) (B : Nat → Nat) (V : Nat → Nat → Nat → Nat) (T i j : Nat) (st wt sm : Nat → Nat) (h : HI) : Prop := h 34 7 = nI (fb_ct (fun k => (st k).testBit i) j) ∧ ∀ k, k < j → (st k).testBit i = true → h 38 (fb_ct (fun k => (st k).testBit i) k) = ND n Pm B V T i st wt sm k ∧ h 39 (fb_ct (fun k => (st k).testBit i) k) = nI (T + wt k)
theorem GN.e8 {i j : Nat} {st wt sm : Nat → Nat} {h h' : HI} (g : GN n Pm B V T i j st wt sm h) (e : E8 h h') : GN n Pm B V T i j st wt sm h' := by
  refine ⟨(e 34 7 (by omega)).trans g.1, fun k hk hb => ?_⟩
  rw [e 38 _ (by omega), e 39 _ (by omega)]
  exact g.2 k hk hb
theorem ct_lt {p : Nat → Bool} {k j : Nat} (hk : k < j) (hp : p k = true) : fb_ct p k < fb_ct p j := by
  have h1 := fb_ct_mono p (show k + 1 ≤ j by omega)
  rw [fb_ct_succ, hp] at h1
  simp at h1
  omega
theorem ga_c (A : RLa k n Pm B V T a q c m) {r i : Nat} {st wt sm : Nat → Nat} (sc : SCL n r st wt sm c m) (hi : i < n) : OK (f_Sc_gather c (nI i) (nI T)) (fun x => XC c x.2 ∧ ((x.1 = 1 ∧ GN n Pm B V T i r st wt sm x.2 ∧ ∀ k, k < r → (st k).testBit i = false → ND n Pm B V T i st wt sm k = 0) ∨ (x.1 = 0 ∧ ∃ k, k < r ∧ (((st k).testBit i = false ∧ ¬ ND n Pm B V T i st wt sm k = 0) ∨ ¬ 0 ≤ ND n Pm B V T i st wt sm k)))) := by
  have hT := A.T30
  have hn := A.n9
  have hp9 := pow9 hn
  have hr := sc.1
  unfold f_Sc_gather
  refine OK.bind (P := fun x => match x with | .inl e => XC c e ∧ GN n Pm B V T i r st wt sm e ∧ ∀ k, k < r → (st k).testBit i = false → ND n Pm B V T i st wt sm k = 0 | .inr t => XC c t.2 ∧ t.1 = 0 ∧ ∃ k, k < r ∧ (((st k).testBit i = false ∧ ¬ ND n Pm B V T i st wt sm k = 0) ∨ ¬ 0 ≤ ND n Pm B V T i st wt sm k)) (OK.loop _ (fun j x => j ≤ r ∧ x.1 = nI j ∧ XC c x.2 ∧ GN n Pm B V T i j st wt sm x.2 ∧ ∀ k, k < j → (st k).testBit i = false → ND n Pm B V T i st wt sm k = 0) _ r (by omega) ?_ ⟨by omega, rfl, XC.rf.up 34 7 0 ⟨rfl, by omega, by omega⟩, ⟨rfl, fun k hk => by omega⟩, fun k hk => by omega⟩) ?_
  · rintro j ⟨x1, h⟩ - ⟨hj, rfl, hx, hg, hz⟩
    dsimp only at hx hg hz
    have sc := sc.fr hx (XM.rf (h := m))
    have A := A.l hx
    unfold b_Sc_gather_7
    dsimp only
    simp only [sc.2.1]
    refine OK.ite (fun h1 => OK.ret ?_) (fun h1 => ?_)
    · have : j = r := by have := ple h1 (by omega) (by omega); omega
      subst this
      exact ⟨hx, hg, hz⟩
    have hj2 : j < r := nle h1 (by omega) (by omega)
    obtain ⟨s1, s2, s3, s4, s5, s6, -⟩ := sc.2.2.2 j hj2
    have g10 := gd_nI (i := j) (N := 10) (by omega) (by omega)
    rw [nI_clamp (n := j) (by omega), s4, s5]
    simp only [s6]
    rw [two_n i (by omega), andn', nI_add, rg_t g10, rg_t g10, rg_t g10]
    have hst := p31 hn s1
    obtain ⟨h', e1, e2⟩ := to_c A.qc (Nat.lt_of_le_of_lt (nand_le (st j) (2 ^ i)) hst) (t := T + wt j) (by omega)
    rw [e1, Option.bind_some, rg_t g10]
    dsimp only
    have s4' : h' 35 j = nI (st j) := (e2 35 j (by omega)).trans s4
    have g7 : h' 34 7 = nI (fb_ct (fun k => (st k).testBit i) j) := (e2 34 7 (by omega)).trans hg.1
    have hct := fb_ct_le (fun k => (st k).testBit i) j
    simp only [s4', g7]
    have hb := bit_t (p := st j) (i := i) hst (by omega)
    have hND : nI (sm j) - nI (WS n (fun j_1 => Wt Pm B V j_1 (T + wt j)) (nand (st j) (2 ^ i))) = ND n Pm B V T i st wt sm j := rfl
    simp only [hND]
    rw [nI_1 j]
    cases hbt : (st j).testBit i with
    | false =>
      rw [if_pos (hb.mpr hbt)]
      have hx' := hx.tr e2.x
      have hg' : GN n Pm B V T i (j + 1) st wt sm h' := by
        refine ⟨?_, fun k hk hb' => ?_⟩
        · rw [g7, fb_ct_succ]; simp [hbt]
        · exact (hg.e8 e2).2 k (by rcases (show k < j ∨ k = j by omega) with z | z; exact z; subst z; rw [hbt] at hb'; cases hb') hb'
      refine OK.ite (fun h0 => OK.ite (fun _ => OK.ret ⟨hj2, hj2, rfl, hx', hg', fun k hk hb => ?_⟩) (fun h2 => OK.ret ⟨hx', rfl, j, hj2, Or.inr h2⟩)) (fun h0 => OK.ret ⟨hx', rfl, j, hj2, Or.inl ⟨hbt, h0⟩⟩)
      rcases (show k < j ∨ k = j by omega) with z | z
      · exact hz k z hb
      · subst z; exact h0
    | true =>
      rw [if_neg (fun z => by rw [hb.mp z] at hbt; cases hbt)]
      have gg := gd_nI (i := fb_ct (fun k => (st k).testBit i) j) (N := 10) (by omega) (by omega)
      rw [rg_t gg, rg_t gg, nI_clamp (n := fb_ct (fun k => (st k).testBit i) j) (by omega)]
      have hx' : XC c (rh_up (rh_up (rh_up h' 38 (fb_ct (fun k => (st k).testBit i) j) (ND n Pm B V T i st wt sm j)) 39 (fb_ct (fun k => (st k).testBit i) j) (nI (T + wt j))) 34 7 (nI (fb_ct (fun k => (st k).testBit i) j) + 1)) := (((hx.tr e2.x).up 38 _ _ ⟨rfl, by omega, by omega⟩).up 39 _ _ ⟨rfl, by omega, by omega⟩).up 34 7 _ ⟨rfl, by omega, by omega⟩
      refine OK.ite (fun _ => OK.ret ⟨hj2, hj2, rfl, hx', ⟨?_, fun k hk hb => ?_⟩, fun k hk hb' => ?_⟩) (fun h2 => OK.ret ⟨hx', rfl, j, hj2, Or.inr h2⟩)
      · rw [fb_ct_succ]; simp only [hbt, if_true]; exact nI_1 _
      · dsimp only
        simp only [up_f]
        rcases (show k < j ∨ k = j by omega) with z | z
        · have h4 := ct_lt (p := fun k => (st k).testBit i) z hb
          rw [if_neg (by omega), if_neg (by omega), if_neg (by omega), if_neg (by omega), if_neg (by omega), if_neg (by omega)]
          exact (hg.e8 e2).2 k z hb
        · subst z
          simp
      · rcases (show k < j ∨ k = j by omega) with z | z
        · exact hz k z hb'
        · subst z; rw [hbt] at hb'; cases hb'
  · rintro (x | x) hp
    · exact OK.ret ⟨hp.1, Or.inl ⟨rfl, hp.2⟩⟩
    · exact OK.ret ⟨hp.1, Or.inr hp.2⟩
theorem ag_c (A : RLa k n Pm B V T a q c m) {r i b : Nat} {st wt sm : Nat → Nat} (sc : SCL n r st wt sm c m) (hi : i < n) (hb1 : 1 ≤ b) (hb2 : b ≤ 999) (hg : GN n Pm B V T i r st wt sm c) (hz : ∀ k, k < r → (st k).testBit i = false → ND n Pm B V T i st wt sm k = 0) : OK (f_Sc_agrees c (nI i) (nI b)) (fun x => E8 c x.2 ∧ ((x.1 = 1 ∧ AG n Pm B V T i r st wt sm b) ∨ (x.1 = 0 ∧ ¬ AG n Pm B V T i r st wt sm b))) := by
  have hT := A.T30
  have hr := sc.1
  have hct := fb_ct_le (fun k => (st k).testBit i) r
  unfold f_Sc_agrees
  refine OK.bind (P := fun x => match x with | .inl e => E8 c e ∧ AG n Pm B V T i r st wt sm b | .inr t => E8 c t.2 ∧ t.1 = 0 ∧ ¬ AG n Pm B V T i r st wt sm b) (OK.loop _ (fun j x => j ≤ fb_ct (fun k => (st k).testBit i) r ∧ x.1 = nI j ∧ E8 c x.2 ∧ ∀ k, k < r → (st k).testBit i = true → fb_ct (fun k => (st k).testBit i) k < j → nI (Wb Pm V i b (T + wt k)) = ND n Pm B V T i st wt sm k) _ (fb_ct (fun k => (st k).testBit i) r) (by omega) ?_ ⟨by omega, rfl, E8.rf, fun k hk _ h => by omega⟩) ?_
  · rintro j ⟨x1, h⟩ - ⟨hj, rfl, he, hw⟩
    dsimp only at he hw
    have hg := hg.e8 he
    have A := A.l he.x
    unfold b_Sc_agrees_2
    dsimp only
    simp only [hg.1]
    refine OK.ite (fun h1 => OK.ret ⟨he, fun k hk => ?_⟩) (fun h1 => ?_)
    · have := ple h1 (by omega) (by omega)
      unfold AGb
      cases hbt : (st k).testBit i with
      | false => simpa using hz k hk hbt
      | true =>
        have h4 := ct_lt (p := fun k => (st k).testBit i) hk hbt
        simpa using hw k hk hbt (by omega)
    have hj2 : j < fb_ct (fun k => (st k).testBit i) r := nle h1 (by omega) (by omega)
    obtain ⟨k0, hk0, hbk, hpos⟩ := fb_ct_kth hj2
    have hbk : (st k0).testBit i = true := hbk
    have g := hg.2 k0 hk0 hbk
    rw [hpos] at g
    have g10 := gd_nI (i := j) (N := 10) (by omega) (by omega)
    have hwt := (sc.2.2.2 k0 hk0).2.1
    rw [rg_t g10, nI_clamp (n := j) (by omega), g.2]
    obtain ⟨h', e1, e2⟩ := wb_c A.qc hi hb1 hb2 (t := T + wt k0) (by omega)
    rw [e1, Option.bind_some, rg_t g10]
    have g1 : h' 38 j = ND n Pm B V T i st wt sm k0 := (e2 38 j (by omega)).trans g.1
    dsimp only
    rw [nI_1]
    refine OK.ite (fun h2 => OK.ret ⟨hj2, hj2, rfl, he.tr e2, fun k hk hb hlt => ?_⟩) (fun h2 => OK.ret ⟨he.tr e2, rfl, fun z => ?_⟩)
    · rcases (show fb_ct (fun k => (st k).testBit i) k < j ∨ fb_ct (fun k => (st k).testBit i) k = j by omega) with y | y
      · exact hw k hk hb y
      · have : k = k0 := fb_ct_kth_one (p := fun k => (st k).testBit i) hb hbk (y.trans hpos.symm)
        subst this
        exact h2.trans g1
    · have := z k0 hk0
      unfold AGb at this
      rw [hbk] at this
      simp only [if_true, decide_eq_true_eq] at this
      exact h2 (this.trans g1.symm)
  · rintro (x | x) hp
    · exact OK.ret ⟨hp.1, Or.inl ⟨rfl, hp.2⟩⟩
    · exact OK.ret ⟨hp.1, Or.inr hp.2⟩
/-- which cells findBases leaves alone -/
def XB (h h' : HI) : Prop := ∀ o k, (pM o k = true ∨ o = 5 ∨ (o = 0 ∧ (k = 8 ∨ k = 9))) → h' o k = h o k
theorem fb_m (A : RLa k n Pm B V T a q c m) (rd : Option Nat) {r i : Nat} {st wt sm : Nat → Nat} (sc : SCL n r st wt sm c m) (hi : i < n) : OK (f_Mo_findBases m rd (nI i)) (fun x => XM m x.1 ∧ x.1 0 42 = nI (FS (fun b => decide (∀ k, k < r → AGb n Pm B V T i st wt sm b k = true)) (B i) 999).1 ∧ x.1 0 43 = nI (FS (fun b => decide (∀ k, k < r → AGb n Pm B V T i st wt sm b k = true)) (B i) 999).2.2.2 ∧ ((FS (fun b => decide (∀ k, k < r → AGb n Pm B V T i st wt sm b k = true)) (B i) 999).1 ≠ 0 → x.1 0 40 = nI (FS (fun b => decide (∀ k, k < r → AGb n Pm B V T i st wt sm b k = true)) (B i) 999).2.1 ∧ x.1 0 41 = nI (FS (fun b => decide (∀ k, k < r → AGb n Pm B V T i st wt sm b k = true)) (B i) 999).2.2.1)) := by
  have hT := A.T30
  have hn := A.n9
  have hp9 := pow9 hn
  have hr := sc.1
  unfold f_Mo_findBases
  refine OK.bind (P := fun x => XM m x.1 ∧ x.1 0 42 = 0 ∧ x.1 0 43 = 0 ∧ ∀ k, k < r → x.1 24 k = ND n Pm B V T i st wt sm k) (OK.loop _ (fun j x => j ≤ r ∧ x.1 = nI j ∧ XM m x.2.1 ∧ x.2.1 0 42 = 0 ∧ x.2.1 0 43 = 0 ∧ ∀ k, k < j → x.2.1 24 k = ND n Pm B V T i st wt sm k) _ r (by omega) ?_ ⟨by omega, rfl, (XM.rf.up 0 42 0 ⟨rfl, by omega, by omega⟩).up 0 43 0 ⟨rfl, by omega, by omega⟩, rfl, rfl, fun k hk => by omega⟩) ?_
  · rintro j ⟨x1, h, rd⟩ - ⟨hj, rfl, hx, h42, h43, h24⟩
    dsimp only at hx h42 h43 h24
    have sc := sc.fr (XC.rf (h := c)) hx
    have A := A.r hx
    unfold b_Mo_findBases_12
    dsimp only
    simp only [sc.2.2.1]
    refine OK.ite (fun h1 => OK.ret ?_) (fun h1 => ?_)
    · have : j = r := by have := ple h1 (by omega) (by omega); omega
      subst this
      exact ⟨hx, h42, h43, h24⟩
    have hj2 : j < r := nle h1 (by omega) (by omega)
    obtain ⟨s1, s2, s3, -, -, -, s4, s5, s6⟩ := sc.2.2.2 j hj2
    have hst := p31 hn s1
    rw [three_0, three_1, three_2, nI_clamp (n := j) (by omega), nI_clamp (n := 3 * j) (by omega), nI_clamp (n := 3 * j + 1) (by omega), nI_clamp (n := 3 * j + 2) (by omega), s4, s5, s6, two_n i (by omega), andn', A.mt', nI_add, rg_t (gd_nI (N := 30) (by omega) (by omega)), rg_t (gd_nI (N := 30) (by omega) (by omega)), rg_t (gd_nI (N := 30) (by omega) (by omega))]
    obtain ⟨h', rd', e1, e2⟩ := to_m A.qm rd (Nat.lt_of_le_of_lt (nand_le (st j) (2 ^ i)) hst) (t := T + wt j) (by omega)
    rw [e1, Option.bind_some, rg_t (gd_nI (N := 10) (by omega) (by omega)), nI_1]
    dsimp only
    refine OK.ret ⟨hj2, hj2, rfl, (hx.tr e2.x).up 24 _ _ ⟨rfl, by omega, by omega⟩, (e2 0 42 rfl).trans h42, (e2 0 43 rfl).trans h43, fun k hk => ?_⟩
    show rh_up h' 24 j _ 24 k = _
    rw [up_f]
    by_cases hkj : k = j
    · subst hkj; rw [if_pos ⟨rfl, rfl⟩]; rfl
    · rw [if_neg (by omega), e2 24 k rfl]; exact h24 k (by omega)
  rintro ⟨h0, rd0⟩ ⟨hx0, h42, h43, h24⟩
  dsimp only at hx0 h42 h43 h24 ⊢
  generalize hP : (fun b => decide (∀ k, k < r → AGb n Pm B V T i st wt sm b k = true)) = P
  refine OK.bind (OK.loop _ (fun w x => w ≤ 999 ∧ x.1 = nI (w + 1) ∧ XM m x.2.1 ∧ (∀ k, k < r → x.2.1 24 k = ND n Pm B V T i st wt sm k) ∧ x.2.1 0 42 = nI (FS P (B i) w).1 ∧ x.2.1 0 43 = nI (FS P (B i) w).2.2.2 ∧ ((FS P (B i) w).1 ≠ 0 → x.2.1 0 40 = nI (FS P (B i) w).2.1 ∧ x.2.1 0 41 = nI (FS P (B i) w).2.2.1)) (fun x => XM m x.1 ∧ x.1 0 42 = nI (FS P (B i) 999).1 ∧ x.1 0 43 = nI (FS P (B i) 999).2.2.2 ∧ ((FS P (B i) 999).1 ≠ 0 → x.1 0 40 = nI (FS P (B i) 999).2.1 ∧ x.1 0 41 = nI (FS P (B i) 999).2.2.1)) 999 (by omega) ?_ ⟨by omega, rfl, hx0, h24, h42, h43, fun z => absurd rfl z⟩) (fun x hx => OK.ret hx)
  rintro w ⟨x1, h, rd⟩ - ⟨hw, rfl, hx, h24, h42, h43, h40⟩
  dsimp only at hx h24 h42 h43 h40
  unfold b_Mo_findBases_81
  dsimp only
  refine OK.ite (fun h1 => OK.ret ?_) (fun h1 => ?_)
  · have : w = 999 := by have := (nI_ltI (a := 999) (b := w + 1) (by omega) (by omega)).mp h1; omega
    subst this
    exact ⟨hx, h42, h43, h40⟩
  have hw2 : w + 1 ≤ 999 := nlt (b := 999) h1 (by omega) (by omega)
  refine OK.bind (P := fun x => EM h x.2.1 ∧ ((x.1 = 1 ∧ P (w + 1) = true) ∨ (x.1 = 0 ∧ P (w + 1) = false))) (OK.loop _ (fun j x => x.2.1 = nI j ∧ j ≤ r ∧ EM h x.2.2.1 ∧ ((x.1 = 1 ∧ ∀ k, k < j → AGb n Pm B V T i st wt sm (w + 1) k = true) ∨ (x.1 = 0 ∧ P (w + 1) = false))) _ r (by omega) ?_ ⟨rfl, by omega, EM.rf, Or.inl ⟨rfl, fun k hk => by omega⟩⟩) ?_
  · rintro j ⟨x1, x2, h', rd⟩ - ⟨rfl, hj, he, his⟩
    dsimp only at he his
    have hx' := hx.tr he.x
    have sc := sc.fr (XC.rf (h := c)) hx'
    have A := A.r hx'
    unfold b_Mo_findBases_93
    dsimp only
    simp only [sc.2.2.1]
    refine OK.ite (fun h1 => OK.ret ⟨he, ?_⟩) (fun h1 => ?_)
    · have : j = r := by have := ple h1 (by omega) (by omega); omega
      subst this
      rcases his with ⟨z1, z2⟩ | z
      · exact Or.inl ⟨z1, by rw [← hP]; simpa using z2⟩
      · exact Or.inr z
    refine OK.ite (fun h2 => OK.ret ⟨he, ?_⟩) (fun h2 => ?_)
    · rcases his with ⟨z1, z2⟩ | z
      · rw [z1] at h2; exact absurd h2 (by decide)
      · exact Or.inr z
    have hall : ∀ k, k < j → AGb n Pm B V T i st wt sm (w + 1) k = true := by
      rcases his with ⟨z1, z2⟩ | z
      · exact z2
      · exact absurd z.1 h2
    have hj2 : j < r := nle h1 (by omega) (by omega)
    obtain ⟨s1, s2, s3, -, -, -, s4, s5, s6⟩ := sc.2.2.2 j hj2
    have hst := p31 hn s1
    have h24' : h' 24 j = ND n Pm B V T i st wt sm j := (he 24 j rfl).trans (h24 j hj2)
    have hhas := has_t (p := st j) (i := i) hst (by omega)
    rw [three_0, three_1, nI_clamp (n := j) (by omega), nI_clamp (n := 3 * j) (by omega), nI_clamp (n := 3 * j + 1) (by omega)]
    simp only [s4, s5, A.mt', nI_add, nI_1]
    refine OK.g (gd_nI (N := 30) (by omega) (by omega)) ?_
    have yes : AGb n Pm B V T i st wt sm (w + 1) j = true → ∀ k, k < j + 1 → AGb n Pm B V T i st wt sm (w + 1) k = true := fun z k hk => by
      rcases (show k < j ∨ k = j by omega) with y | y
      · exact hall k y
      · subst y; exact z
    have no : AGb n Pm B V T i st wt sm (w + 1) j = false → P (w + 1) = false := fun z => by
      rw [← hP]
      refine decide_eq_false (fun y => ?_)
      rw [y j hj2] at z; cases z
    cases hbt : (st j).testBit i with
    | false =>
      rw [if_pos (hhas.mpr hbt)]
      refine OK.g (gd_nI (N := 10) (by omega) (by omega)) ?_
      refine OK.ite (fun h3 => OK.ret ⟨hj2, rfl, hj2, he, Or.inl ⟨rfl, yes ?_⟩⟩) (fun h3 => OK.ret ⟨hj2, rfl, hj2, he, Or.inr ⟨rfl, no ?_⟩⟩)
      · unfold AGb; rw [hbt]; simpa using (h3.trans h24').symm
      · unfold AGb; rw [hbt]; simpa using fun z => h3 ((h24'.trans z).symm)
    | true =>
      rw [if_neg (fun z => by rw [hhas.mp z] at hbt; cases hbt)]
      refine OK.g (gd_nI (N := 30) (by omega) (by omega)) ?_
      obtain ⟨h2', rd', e1, e2⟩ := wb_m A.qm rd hi (b := w + 1) (by omega) (by omega) (t := T + wt j) (by omega)
      rw [e1, Option.bind_some]
      refine OK.g (gd_nI (N := 10) (by omega) (by omega)) ?_
      dsimp only
      have h24'' : h2' 24 j = ND n Pm B V T i st wt sm j := (e2 24 j rfl).trans h24'
      refine OK.ite (fun h3 => OK.ret ⟨hj2, rfl, hj2, he.tr e2, Or.inl ⟨rfl, yes ?_⟩⟩) (fun h3 => OK.ret ⟨hj2, rfl, hj2, he.tr e2, Or.inr ⟨rfl, no ?_⟩⟩)
      · unfold AGb; rw [hbt]; simpa using h3.trans h24''
      · unfold AGb; rw [hbt]; simpa using fun z => h3 (z.trans h24''.symm)
  rintro ⟨x1, h', rd'⟩ ⟨he, hp⟩
  dsimp only at he hp ⊢
  have hx' := hx.tr he.x
  have A := A.r hx'
  have h42' : h' 0 42 = nI (FS P (B i) w).1 := (he 0 42 rfl).trans h42
  have h43' : h' 0 43 = nI (FS P (B i) w).2.2.2 := (he 0 43 rfl).trans h43
  have hfl := FS_le P (B i) w
  unfold j_Mo_findBases_173
  rw [nI_1]
  rcases hp with ⟨rfl, hp⟩ | ⟨rfl, hp⟩
  · rw [if_neg (by decide), nI_clamp (n := i) (by omega)]
    have eFS : FS P (B i) (w + 1) = ((FS P (B i) w).1 + 1, (if (FS P (B i) w).1 = 0 then w + 1 else (FS P (B i) w).2.1), w + 1, (FS P (B i) w).2.2.2 + (if w + 1 = B i then 0 else 1)) := by
      show (if P (w + 1) then _ else _) = _
      rw [if_pos hp]
    have hbs := (A.bs i hi).2
    have hB1 : h' 2 i = nI (B i) := hbs.1
    rw [h42', h43', nI_1, nI_1]
    have g9 := gd_nI (i := i) (N := 9) (by omega) (by omega)
    refine OK.ite (fun h3 => OK.g g9 ?_) (fun h3 => OK.g g9 ?_)
    · have hc0 : (FS P (B i) w).1 = 0 := (nI_eq (b := 0) (by omega) (by omega)).mp h3
      refine OK.ite (fun h4 => ?_) (fun h4 => ?_)
      · have h4 : w + 1 = B i := (nI_eq (by omega) (by omega)).mp (h4.trans hB1)
        refine OK.ret ⟨by omega, by omega, rfl, ((hx'.up 0 40 _ ⟨rfl, by omega, by omega⟩).up 0 41 _ ⟨rfl, by omega, by omega⟩).up 0 42 _ ⟨rfl, by omega, by omega⟩, fun k hk => (he 24 k rfl).trans (h24 k hk), ?_, ?_, fun _ => ⟨?_, ?_⟩⟩
        · rw [eFS]; rfl
        · rw [eFS]; dsimp only; rw [if_pos h4]; exact h43'
        · rw [eFS]; dsimp only; rw [if_pos hc0]; rfl
        · rw [eFS]; rfl
      · have h4 : ¬ w + 1 = B i := fun z => h4 (by rw [z]; exact hB1.symm)
        refine OK.ret ⟨by omega, by omega, rfl, (((hx'.up 0 40 _ ⟨rfl, by omega, by omega⟩).up 0 41 _ ⟨rfl, by omega, by omega⟩).up 0 42 _ ⟨rfl, by omega, by omega⟩).up 0 43 _ ⟨rfl, by omega, by omega⟩, fun k hk => (he 24 k rfl).trans (h24 k hk), ?_, ?_, fun _ => ⟨?_, ?_⟩⟩
        · rw [eFS]; rfl
        · rw [eFS]; dsimp only; rw [if_neg h4]; rfl
        · rw [eFS]; dsimp only; rw [if_pos hc0]; rfl
        · rw [eFS]; rfl
    · have hc0 : ¬ (FS P (B i) w).1 = 0 := fun z => h3 (by rw [z]; rfl)
      refine OK.ite (fun h4 => ?_) (fun h4 => ?_)
      · have h4 : w + 1 = B i := (nI_eq (by omega) (by omega)).mp (h4.trans hB1)
        refine OK.ret ⟨by omega, by omega, rfl, (hx'.up 0 41 _ ⟨rfl, by omega, by omega⟩).up 0 42 _ ⟨rfl, by omega, by omega⟩, fun k hk => (he 24 k rfl).trans (h24 k hk), ?_, ?_, fun _ => ⟨?_, ?_⟩⟩
        · rw [eFS]; rfl
        · rw [eFS]; dsimp only; rw [if_pos h4]; exact h43'
        · rw [eFS]; dsimp only; rw [if_neg hc0]; exact (he 0 40 rfl).trans (h40 hc0).1
        · rw [eFS]; rfl
      · have h4 : ¬ w + 1 = B i := fun z => h4 (by rw [z]; exact hB1.symm)
        refine OK.ret ⟨by omega, by omega, rfl, ((hx'.up 0 41 _ ⟨rfl, by omega, by omega⟩).up 0 42 _ ⟨rfl, by omega, by omega⟩).up 0 43 _ ⟨rfl, by omega, by omega⟩, fun k hk => (he 24 k rfl).trans (h24 k hk), ?_, ?_, fun _ => ⟨?_, ?_⟩⟩
        · rw [eFS]; rfl
        · rw [eFS]; dsimp only; rw [if_neg h4]; rfl
        · rw [eFS]; dsimp only; rw [if_neg hc0]; exact (he 0 40 rfl).trans (h40 hc0).1
        · rw [eFS]; rfl
  · rw [if_pos rfl]
    have eFS : FS P (B i) (w + 1) = FS P (B i) w := by
      show (if P (w + 1) then _ else _) = _
      rw [hp]; rfl
    refine OK.ret ⟨by omega, by omega, rfl, hx', fun k hk => (he 24 k rfl).trans (h24 k hk), ?_, ?_, ?_⟩
    · rw [eFS]; exact h42'
    · rw [eFS]; exact h43'
    · rw [eFS]; exact fun z => ⟨(he 0 40 rfl).trans (h40 z).1, (he 0 41 rfl).trans (h40 z).2⟩
end FITS
