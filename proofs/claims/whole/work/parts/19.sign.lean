/-! sign -/
def sgC (v x : Int32) : Int32 := ((v.toUInt32 >>> (x.toUInt32 &&& Int32.toUInt32 31)).toInt32) &&& (255 : Int32)
def sgM (v x : Int32) : Int32 := ((v >>> (((8 : Int32) * x) &&& 31)).toInt8.toInt32).toInt8.toInt32
theorem sg_eq (v : Int32) (s : Nat) (hs : s ≤ 24) (x : Int32) (hx : (8 : Int32) * x = nI s) : sgC v (nI s) = sgM v x &&& 255 := by
  unfold sgC sgM
  rw [fb_byte_twice, bp_b, hx]
  apply b_ext
  intro i hi
  rw [show (255 : Int32) = 255 from rfl, b_and, b_and, b_255]
  by_cases h8 : i < 8
  · rw [b_ushr s (by omega), b_sshr s (by omega) v hi, if_pos (by omega)]
  · simp [h8]
theorem sg_c (v x : Int32) (h : HI) {u : Nat} (hu : u < 80) (hh : h 0 1 = nI u) (hx : ¬ x < 0) : b_La_sign_19 v (x, h) = some (.inl (x + (-8 : Int32), rh_up (rh_up h 1 u (sgC v x)) 0 1 (nI (u + 1)))) := by
  simp only [b_La_sign_19, hh, if_neg hx]
  rw [rg_t (gd_nI hu (by omega)), nI_clamp (by omega), show nI u + 1 = nI (u + 1) from nI_1 u]
  rfl
theorem sg_m (v x : Int32) (h : HI) {u : Nat} (hu : u < 80) (hh : h 0 6 = nI u) (hx : ¬ x < 0) : b_Mo_sign_20 v (x, h) = some (.inl (x + (-1 : Int32), rh_up (rh_up h 0 6 (nI (u + 1))) 4 u (sgM v x))) := by
  simp only [b_Mo_sign_20, hh, if_neg hx]
  rw [rg_t (gd_nI hu (by omega)), nI_clamp (by omega), show nI u + 1 = nI (u + 1) from nI_1 u]
  rfl
theorem sg_cx (v x : Int32) (h : HI) (hx : x < 0) : b_La_sign_19 v (x, h) = some (.inr h) := by
  unfold b_La_sign_19
  dsimp only
  rw [if_pos hx]
theorem sg_mx (v x : Int32) (h : HI) (hx : x < 0) : b_Mo_sign_20 v (x, h) = some (.inr h) := by
  unfold b_Mo_sign_20
  dsimp only
  rw [if_pos hx]
theorem op_sign {k n Pm : Nat} {B : Nat → Nat} {V : Nat → Nat → Nat → Nat} {hc hm : HI} (h : RLt k n Pm B V hc hm) (v : Int32) : ∃ r hc' hm', f_La_sign hc v = some (r, hc') ∧ f_Mo_sign hm v = some (r, hm') ∧ RLt (k + 1) n Pm B V hc' hm' := by
  obtain ⟨⟨t, ht, h1, h2, h3⟩, hrest⟩ := RQ.mono h.1 (Nat.le_succ k)
  have h1 : hc 0 1 = nI t := h1
  have h2 : hm 0 6 = nI t := h2
  unfold f_La_sign f_Mo_sign
  rw [h1, h2, show nI t + 4 = nI (t + 4) from nI_add t 4]
  have hle : (nI (t + 4) ≤ (80 : Int32)) ↔ t + 4 ≤ 80 := nI_leI (a := t + 4) (b := 80) (by omega) (by omega)
  by_cases q : t + 4 ≤ 80
  · rw [if_pos (hle.mpr q), if_pos (hle.mpr q)]
    obtain ⟨m, hm5⟩ := rh_N_eq 5 (by omega)
    rw [hm5]
    rw [lp_go (sg_c v 24 hc (u := t) (by omega) h1 (by decide)), show (24 : Int32) + (-8 : Int32) = 16 by decide,
      lp_go (sg_c v 16 _ (u := t + 1) (by omega) rfl (by decide)), show (16 : Int32) + (-8 : Int32) = 8 by decide,
      lp_go (sg_c v 8 _ (u := t + 1 + 1) (by omega) rfl (by decide)), show (8 : Int32) + (-8 : Int32) = 0 by decide,
      lp_go (sg_c v 0 _ (u := t + 1 + 1 + 1) (by omega) rfl (by decide)), show (0 : Int32) + (-8 : Int32) = -8 by decide,
      lp_end (sg_cx v (-8) _ (by decide))]
    rw [lp_go (sg_m v 3 (rh_up hm 0 9 0) (u := t) (by omega) h2 (by decide)), show (3 : Int32) + (-1 : Int32) = 2 by decide,
      lp_go (sg_m v 2 _ (u := t + 1) (by omega) rfl (by decide)), show (2 : Int32) + (-1 : Int32) = 1 by decide,
      lp_go (sg_m v 1 _ (u := t + 1 + 1) (by omega) rfl (by decide)), show (1 : Int32) + (-1 : Int32) = 0 by decide,
      lp_go (sg_m v 0 _ (u := t + 1 + 1 + 1) (by omega) rfl (by decide)), show (0 : Int32) + (-1 : Int32) = -1 by decide,
      lp_end (sg_mx v (-1) _ (by decide))]
    refine ⟨nI (t + 1 + 1 + 1 + 1), _, _, rfl, rfl, ⟨⟨t + 1 + 1 + 1 + 1, by omega, rfl, rfl, fun i hi => ?_⟩, hrest⟩, h.2.kept rfl (fun _ => rfl) rfl (fun _ => rfl)⟩
    have e0 := sg_eq v 24 (by omega) 3 rfl
    have e1 := sg_eq v 16 (by omega) 2 rfl
    have e2 := sg_eq v 8 (by omega) 1 rfl
    have e3 := sg_eq v 0 (by omega) 0 rfl
    generalize hC : rh_up (rh_up (rh_up (rh_up (rh_up (rh_up (rh_up (rh_up hc 1 t (sgC v 24)) 0 1 (nI (t + 1))) 1 (t + 1) (sgC v 16)) 0 1 (nI (t + 1 + 1))) 1 (t + 1 + 1) (sgC v 8)) 0 1 (nI (t + 1 + 1 + 1))) 1 (t + 1 + 1 + 1) (sgC v 0)) 0 1 (nI (t + 1 + 1 + 1 + 1)) = C
    generalize hM : rh_up (rh_up (rh_up (rh_up (rh_up (rh_up (rh_up (rh_up (rh_up hm 0 9 0) 0 6 (nI (t + 1))) 4 t (sgM v 3)) 0 6 (nI (t + 1 + 1))) 4 (t + 1) (sgM v 2)) 0 6 (nI (t + 1 + 1 + 1))) 4 (t + 1 + 1) (sgM v 1)) 0 6 (nI (t + 1 + 1 + 1 + 1))) 4 (t + 1 + 1 + 1) (sgM v 0) = M
    show C 1 i = M 4 i &&& 255 ∧ (M 4 i).toInt8.toInt32 = M 4 i
    subst hC; subst hM
    have hb : ∀ x, (sgM v x).toInt8.toInt32 = sgM v x := fun x => fb_byte_twice _
    refine ⟨?_, ?_⟩
    · rcases (show i < t ∨ i = t ∨ i = t + 1 ∨ i = t + 1 + 1 ∨ i = t + 1 + 1 + 1 by omega) with q | q | q | q | q
      · have n0 : i ≠ t := by omega
        have n1 : i ≠ t + 1 := by omega
        have n2 : i ≠ t + 1 + 1 := by omega
        have n3 : i ≠ t + 1 + 1 + 1 := by omega
        simp [up_f, n0, n1, n2, n3]
        exact (h3 i q).1
      · subst q; simp [up_f, show ¬ i = i + 1 + 1 + 1 by omega, show ¬ i = i + 1 + 1 by omega]; exact e0
      · subst q; simp [up_f]; exact e1
      · subst q; simp [up_f]; exact e2
      · subst q; simp [up_f]; exact e3
    · rcases (show i < t ∨ i = t ∨ i = t + 1 ∨ i = t + 1 + 1 ∨ i = t + 1 + 1 + 1 by omega) with q | q | q | q | q
      · have n0 : i ≠ t := by omega
        have n1 : i ≠ t + 1 := by omega
        have n2 : i ≠ t + 1 + 1 := by omega
        have n3 : i ≠ t + 1 + 1 + 1 := by omega
        simp [up_f, n0, n1, n2, n3]
        exact (h3 i q).2
      · subst q; simp [up_f, show ¬ i = i + 1 + 1 + 1 by omega, show ¬ i = i + 1 + 1 by omega]; exact hb _
      · subst q; simp [up_f]; exact hb _
      · subst q; simp [up_f]; exact hb _
      · subst q; simp [up_f]; exact hb _
  · rw [if_neg (fun z => q (hle.mp z)), if_neg (fun z => q (hle.mp z))]
    exact ⟨_, _, _, rfl, rfl, h.thr 0⟩
