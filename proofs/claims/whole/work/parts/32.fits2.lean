/-! fits, liars: the calls -/
section FITS2
variable {k n Pm : Nat} {B : Nat → Nat} {V : Nat → Nat → Nat → Nat} {T a q : Nat} {c m : HI}
theorem ag_no (A : RLa k n Pm B V T a q c m) {r i : Nat} {st wt sm : Nat → Nat} (sc : SCL n r st wt sm c m) (hi : i < n) (h : ∃ k, k < r ∧ (((st k).testBit i = false ∧ ¬ ND n Pm B V T i st wt sm k = 0) ∨ ¬ 0 ≤ ND n Pm B V T i st wt sm k)) : ∀ b, 1 ≤ b → b ≤ 999 → decide (∀ k, k < r → AGb n Pm B V T i st wt sm b k = true) = false := by
  intro b hb1 hb2
  have hT := A.T30
  refine decide_eq_false (fun z => ?_)
  obtain ⟨j, hj, h⟩ := h
  have hz := z j hj
  unfold AGb at hz
  have hwt := (sc.2.2.2 j hj).2.1
  cases hbt : (st j).testBit i with
  | false =>
    rw [hbt] at hz
    simp only [Bool.false_eq_true, if_false, decide_eq_true_eq] at hz
    rcases h with ⟨-, h⟩ | h
    · exact h hz
    · rw [hz] at h; exact h (by decide)
  | true =>
    rw [hbt] at hz
    simp only [if_true, decide_eq_true_eq] at hz
    rcases h with ⟨h, -⟩ | h
    · rw [hbt] at h; cases h
    · rw [← hz] at h
      have := Wb_le A.qc hi hb1 hb2 (t := T + wt j) (by omega)
      exact h (nI_pos' (by omega))
theorem op_fits (h : RLt k n Pm B V c m) (hk : k ≤ 600) (rd : Option Nat) (p : Int32) : RO (f_La_fits c p) (f_Mo_fits m rd p) (FIN k n Pm B V) := by
  obtain ⟨T, a, q, A⟩ := h.la hk
  have hT := A.T30
  obtain ⟨r, st, wt, sm, sc⟩ := A.scl
  unfold f_La_fits f_Mo_fits
  rw [A.one, Option.bind_some, A.ct]
  refine RO.ii Iff.rfl (fun _ => RO.ret ⟨rfl, A.fin⟩) (fun h1 => ?_)
  obtain ⟨i, hi, rfl⟩ := has_1 A h1
  refine RO.bl (ga_c A sc hi) ?_
  rintro ⟨x1, hc⟩ ⟨hx, hg⟩
  refine RO.br (fb_m A rd sc hi) ?_
  rintro ⟨hm, rd⟩ ⟨hy, h42, h43, h40⟩
  dsimp only at hx hg hy h42 h43 h40 ⊢
  have sc := sc.fr hx hy
  have A := A.fr hx hy
  rcases hg with ⟨rfl, hg, hz⟩ | ⟨rfl, hno⟩
  · rw [if_neg (by decide)]
    have hl : OK (rh_loop (b_La_fits_45 (nI i)) rh_N ((-2 : Int32), (0 : Int32), (0 : Int32), (1 : Int32), hc)) (fun x => E8 hc x.2.2.2 ∧ x.2.2.1 = nI (FS (fun b => decide (∀ k, k < r → AGb n Pm B V T i st wt sm b k = true)) (B i) 999).1 ∧ ((FS (fun b => decide (∀ k, k < r → AGb n Pm B V T i st wt sm b k = true)) (B i) 999).1 = 0 → x.1 = -2) ∧ ((FS (fun b => decide (∀ k, k < r → AGb n Pm B V T i st wt sm b k = true)) (B i) 999).1 ≠ 0 → x.1 = nI (FS (fun b => decide (∀ k, k < r → AGb n Pm B V T i st wt sm b k = true)) (B i) 999).2.1 ∧ x.2.1 = nI (FS (fun b => decide (∀ k, k < r → AGb n Pm B V T i st wt sm b k = true)) (B i) 999).2.2.1)) := by
      generalize hP : (fun b => decide (∀ k, k < r → AGb n Pm B V T i st wt sm b k = true)) = P
      refine OK.loop _ (fun w x => w ≤ 999 ∧ x.2.2.2.1 = nI (w + 1) ∧ E8 hc x.2.2.2.2 ∧ x.2.2.1 = nI (FS P (B i) w).1 ∧ ((FS P (B i) w).1 = 0 → x.1 = -2) ∧ ((FS P (B i) w).1 ≠ 0 → x.1 = nI (FS P (B i) w).2.1 ∧ x.2.1 = nI (FS P (B i) w).2.2.1)) _ 999 (by omega) ?_ ⟨by omega, rfl, E8.rf, rfl, fun _ => rfl, fun z => absurd rfl z⟩
      rintro w ⟨x1, x2, x3, x4, h⟩ - ⟨hw, rfl, he, hx3, hx1, hx2⟩
      dsimp only at he hx3 hx1 hx2
      subst hx3
      unfold b_La_fits_45
      dsimp only
      refine OK.ite (fun h1 => OK.ret ?_) (fun h1 => ?_)
      · have : w = 999 := by have := (nI_ltI (a := 999) (b := w + 1) (by omega) (by omega)).mp h1; omega
        subst this
        exact ⟨he, rfl, hx1, hx2⟩
      have hw2 : w + 1 ≤ 999 := nlt (b := 999) h1 (by omega) (by omega)
      have A := A.l he.x
      have sc := sc.fr he.x (XM.rf (h := hm))
      refine OK.bind (ag_c A sc hi (b := w + 1) (by omega) hw2 (hg.e8 he) hz) ?_
      rintro ⟨y1, h'⟩ ⟨he', hag⟩
      dsimp only at he' hag ⊢
      rw [nI_1 (w + 1)]
      have hfl := FS_le P (B i) w
      rcases hag with ⟨rfl, hag⟩ | ⟨rfl, hag⟩
      · have hp : P (w + 1) = true := by rw [← hP]; exact decide_eq_true hag
        have eFS : FS P (B i) (w + 1) = ((FS P (B i) w).1 + 1, (if (FS P (B i) w).1 = 0 then w + 1 else (FS P (B i) w).2.1), w + 1, (FS P (B i) w).2.2.2 + (if w + 1 = B i then 0 else 1)) := by
          show (if P (w + 1) then _ else _) = _
          rw [if_pos hp]
        rw [if_neg (by decide), nI_1]
        refine OK.ite (fun h3 => ?_) (fun h3 => ?_)
        · have hc0 : (FS P (B i) w).1 = 0 := (nI_eq (b := 0) (by omega) (by omega)).mp h3
          refine OK.ret ⟨by omega, by omega, rfl, he.tr he', ?_, fun z => ?_, fun _ => ⟨?_, ?_⟩⟩
          · rw [eFS]
          · rw [eFS] at z; dsimp only at z; omega
          · rw [eFS]; dsimp only; rw [if_pos hc0]
          · rw [eFS]
        · have hc0 : ¬ (FS P (B i) w).1 = 0 := fun z => h3 (by rw [z]; rfl)
          refine OK.ret ⟨by omega, by omega, rfl, he.tr he', ?_, fun z => ?_, fun _ => ⟨?_, ?_⟩⟩
          · rw [eFS]
          · rw [eFS] at z; dsimp only at z; omega
          · rw [eFS]; dsimp only; rw [if_neg hc0]; exact (hx2 hc0).1
          · rw [eFS]
      · have hp : P (w + 1) = false := by rw [← hP]; exact decide_eq_false hag
        have eFS : FS P (B i) (w + 1) = FS P (B i) w := by
          show (if P (w + 1) then _ else _) = _
          rw [hp]; rfl
        rw [if_pos rfl]
        refine OK.ret ⟨by omega, by omega, rfl, he.tr he', ?_, ?_, ?_⟩
        · rw [eFS]
        · rw [eFS]; exact hx1
        · rw [eFS]; exact hx2
    generalize hF : FS (fun b => decide (∀ k, k < r → AGb n Pm B V T i st wt sm b k = true)) (B i) 999 = F at hl h42 h43 h40
    have hfl := FS_le (fun b => decide (∀ k, k < r → AGb n Pm B V T i st wt sm b k = true)) (B i) 999
    rw [hF] at hfl
    refine RO.bl hl ?_
    rintro ⟨x1, x2, x3, hc'⟩ ⟨he, hx3, hx1, hx2⟩
    dsimp only at he hx3 hx1 hx2 ⊢
    subst hx3
    have A := A.l he.x
    simp only [h42]
    by_cases hF0 : F.1 = 0
    · rw [hF0, if_pos (show nI 0 ≤ 0 by decide), if_pos (show nI 0 = 0 from rfl)]
      exact RO.ret ⟨hx1 hF0, A.fin⟩
    · rw [if_neg (show ¬ nI F.1 ≤ 0 from nI_ge (a := 0) (b := F.1) (by omega) (by omega)), if_neg (nz0 hF0 (by omega))]
      obtain ⟨e1, e2⟩ := hx2 hF0
      obtain ⟨e3, e4⟩ := h40 hF0
      rw [e2, e4]
      obtain ⟨u, w, eu, ew, A1⟩ := A.tell (nI F.2.2.1)
      have fw : w = rh_up (rh_up (rh_up hm 0 8 0) 5 0 (nI F.2.2.1)) 0 8 1 := (Option.some.inj ew).symm
      rw [eu, ew, Option.bind_some, Option.bind_some, show w 0 42 = nI F.1 by rw [fw]; exact h42]
      obtain ⟨u2, w2, eu2, ew2, A2⟩ := A1.add (by omega) (nI F.1)
      have fw2 : w2 = rh_up (rh_up w 5 1 (nI F.1)) 0 8 2 := by
        rw [fw] at ew2 ⊢
        exact (Option.some.inj ew2).symm
      rw [eu2, ew2, Option.bind_some, Option.bind_some]
      refine RO.ret ⟨?_, A2.fin⟩
      show x1 = w2 0 40
      rw [e1, fw2, fw]
      exact e3.symm
  · rw [if_pos rfl]
    have := FS_no (P := fun b => decide (∀ k, k < r → AGb n Pm B V T i st wt sm b k = true)) (B i) 999 (fun b h1 h2 => ag_no A sc hi hno b h1 h2)
    rw [this] at h42
    rw [if_pos (show hm 0 42 = 0 from h42)]
    exact RO.ret ⟨rfl, A.fin⟩
theorem cb_c (A : RLa k n Pm B V T a q c m) {r i : Nat} {st wt sm : Nat → Nat} (sc : SCL n r st wt sm c m) (hi : i < n) (hg : GN n Pm B V T i r st wt sm c) (hz : ∀ k, k < r → (st k).testBit i = false → ND n Pm B V T i st wt sm k = 0) : OK (f_La_canBeFalse c (nI i)) (fun x => E8 c x.2 ∧ ((x.1 = 1 ∧ ∃ b, 1 ≤ b ∧ b ≤ 999 ∧ b ≠ B i ∧ decide (∀ k, k < r → AGb n Pm B V T i st wt sm b k = true) = true) ∨ (x.1 = 0 ∧ ¬ ∃ b, 1 ≤ b ∧ b ≤ 999 ∧ b ≠ B i ∧ decide (∀ k, k < r → AGb n Pm B V T i st wt sm b k = true) = true))) := by
  have hn := A.n9
  unfold f_La_canBeFalse
  refine OK.bind (P := fun x => match x with | .inl e => E8 c e ∧ ¬ ∃ b, 1 ≤ b ∧ b ≤ 999 ∧ b ≠ B i ∧ decide (∀ k, k < r → AGb n Pm B V T i st wt sm b k = true) = true | .inr t => E8 c t.2 ∧ t.1 = 1 ∧ ∃ b, 1 ≤ b ∧ b ≤ 999 ∧ b ≠ B i ∧ decide (∀ k, k < r → AGb n Pm B V T i st wt sm b k = true) = true) (OK.loop _ (fun w x => w ≤ 999 ∧ x.1 = nI (w + 1) ∧ E8 c x.2 ∧ ¬ ∃ b, 1 ≤ b ∧ b ≤ w ∧ b ≠ B i ∧ decide (∀ k, k < r → AGb n Pm B V T i st wt sm b k = true) = true) _ 999 (by omega) ?_ ⟨by omega, rfl, E8.rf, fun ⟨b, h1, h2, _⟩ => by omega⟩) ?_
  · rintro w ⟨x1, h⟩ - ⟨hw, rfl, he, hno⟩
    dsimp only at he hno
    unfold b_La_canBeFalse_2
    dsimp only
    refine OK.ite (fun h1 => OK.ret ?_) (fun h1 => ?_)
    · have : w = 999 := by have := (nI_ltI (a := 999) (b := w + 1) (by omega) (by omega)).mp h1; omega
      subst this
      exact ⟨he, hno⟩
    have hw2 : w + 1 ≤ 999 := nlt (b := 999) h1 (by omega) (by omega)
    have A := A.l he.x
    have sc := sc.fr he.x (XM.rf (h := m))
    have hb := A.bs i hi
    have hb1 : h 5 i = nI (B i) := hb.1
    rw [nI_clamp (n := i) (by omega), nI_1 (w + 1)]
    refine OK.g (gd_nI (by omega) (by omega)) (OK.ite (fun h2 => OK.ret ⟨by omega, by omega, rfl, he, ?_⟩) (fun h2 => ?_))
    · have h2 : w + 1 = B i := (nI_eq (by omega) (by omega)).mp (h2.trans hb1)
      rintro ⟨b, g1, g2, g3, g4⟩
      exact hno ⟨b, g1, by omega, g3, g4⟩
    · have h2 : ¬ w + 1 = B i := fun z => h2 (by rw [z]; exact hb1.symm)
      refine OK.bind (ag_c A sc hi (b := w + 1) (by omega) hw2 (hg.e8 he) hz) ?_
      rintro ⟨y1, h'⟩ ⟨he', hag⟩
      dsimp only at he' hag ⊢
      rcases hag with ⟨rfl, hag⟩ | ⟨rfl, hag⟩
      · rw [if_neg (by decide)]
        exact OK.ret ⟨he.tr he', rfl, w + 1, by omega, hw2, h2, decide_eq_true hag⟩
      · rw [if_pos rfl]
        refine OK.ret ⟨by omega, by omega, rfl, he.tr he', ?_⟩
        rintro ⟨b, g1, g2, g3, g4⟩
        rcases (show b ≤ w ∨ b = w + 1 by omega) with z | z
        · exact hno ⟨b, g1, z, g3, g4⟩
        · subst z; exact hag (show ∀ k, k < r → AGb n Pm B V T i st wt sm (w + 1) k = true by simpa using g4)
  · rintro (x | x) hp
    · exact OK.ret ⟨hp.1, Or.inr ⟨rfl, hp.2⟩⟩
    · exact OK.ret ⟨hp.1, Or.inl hp.2⟩
theorem op_liars (h : RLt k n Pm B V c m) (hk : k ≤ 600) (rd : Option Nat) : RO (f_La_liars c) (f_Mo_liars m rd) (FIN k n Pm B V) := by
  obtain ⟨T, a, q, A⟩ := h.la hk
  have hT := A.T30
  have hn := A.n9
  obtain ⟨r, st, wt, sm, sc⟩ := A.scl
  unfold f_La_liars f_Mo_liars
  refine RO.bind (P := FIN k n Pm B V) (RO.loop _ _ (fun i x y => i ≤ n ∧ x.1 = y.1 ∧ x.2.1 = nI i ∧ y.2.1 = nI i ∧ RLa k n Pm B V T a q x.2.2 y.2.2.1 ∧ SCL n r st wt sm x.2.2 y.2.2.1) _ n (by omega) ?_ ⟨by omega, rfl, rfl, rfl, A, sc⟩) (fun x y hp => RO.ret hp)
  rintro i ⟨x1, x2, hc⟩ ⟨y1, y2, hm, rd⟩ - ⟨hi, rfl, rfl, rfl, A, sc⟩
  dsimp only at A sc
  unfold b_La_liars_4 b_Mo_liars_9
  dsimp only
  simp only [A.cn, A.mn, A.ct]
  refine RO.ii Iff.rfl (fun _ => RO.ret ⟨rfl, A.fin⟩) (fun h1 => ?_)
  have hi2 : i < n := nle h1 (by omega) (by omega)
  refine RO.bl (ga_c A sc hi2) ?_
  rintro ⟨z1, hc⟩ ⟨hx, hg⟩
  refine RO.br (fb_m A rd sc hi2) ?_
  rintro ⟨hm, rd⟩ ⟨hy, h42, h43, h40⟩
  dsimp only at hx hg hy h42 h43 h40 ⊢
  have sc := sc.fr hx hy
  have A := A.fr hx hy
  have hfl := FS_le (fun b => decide (∀ k, k < r → AGb n Pm B V T i st wt sm b k = true)) (B i) 999
  have hps := FS_pos (fun b => decide (∀ k, k < r → AGb n Pm B V T i st wt sm b k = true)) (B i) 999
  simp only [h43]
  generalize (FS (fun b => decide (∀ k, k < r → AGb n Pm B V T i st wt sm b k = true)) (B i) 999).2.2.2 = F at hfl hps
  rcases hg with ⟨rfl, hg, hz⟩ | ⟨rfl, hno⟩
  · rw [if_neg (by decide)]
    refine RO.bl (cb_c A sc hi2 hg hz) ?_
    rintro ⟨y1, hc'⟩ ⟨he, hq⟩
    dsimp only at he hq ⊢
    have sc := sc.fr he.x (XM.rf (h := hm))
    have A := A.l he.x
    rcases hq with ⟨rfl, hq⟩ | ⟨rfl, hq⟩
    · rw [if_neg (by decide), if_neg (show ¬ nI F ≤ 0 from nI_ge (a := 0) (b := F) (by have := hps.mpr hq; omega) (by omega))]
      exact RO.ret ⟨hi2, hi2, rfl, nI_1 i, nI_1 i, A, sc⟩
    · rw [if_pos rfl, show F = 0 from Decidable.not_not.mp (fun z => hq (hps.mp z)), if_pos (show nI 0 ≤ 0 by decide)]
      exact RO.ret ⟨hi2, hi2, (or0 _).symm, nI_1 i, nI_1 i, A, sc⟩
  · rw [if_pos rfl, show F = 0 from Decidable.not_not.mp (fun z => by
      obtain ⟨b, g1, g2, g3, g4⟩ := hps.mp z
      rw [ag_no A sc hi2 hno b g1 g2] at g4
      cases g4), if_pos (show nI 0 ≤ 0 by decide)]
    exact RO.ret ⟨hi2, hi2, (or0 _).symm, nI_1 i, nI_1 i, A, sc⟩
end FITS2
