section HAC
variable {C0 C : HI} {W : List Nat} {D : List Int32} {dp dg : Nat} {bh : Bool} {cm : Nat → Bool} {x : Nat}
theorem hs_mod {c : Int32} (r : HS C0 C W (c :: D) dp dg bh cm) (v : Int32) : HS C0 (rh_up C 9 D.length v) W (v :: D) dp dg bh cm := by
  obtain ⟨f, a1, a2, a3, a4, a5, a6, a7, a8, a9, a10, a11⟩ := r
  refine ⟨f.up 9 _ _ (nh9 _), a1, a2, a3, a4, a5, ⟨?_, a6.2.mv (fun i hi => ?_)⟩, a7, a8, ⟨a9.1, fun _ => List.cons_ne_nil _ _⟩, a10, a11⟩
  · rw [up_f, if_pos ⟨rfl, rfl⟩]
  · rw [up_f, if_neg (by omega)]
theorem hs_opn (r : HS C0 C W D dp dg bh cm) (hd : dp < 4) : HS C0 (rh_up (rh_up C 6 8 (nI (dp + 1))) 11 (dp + 1) 0) W D (dp + 1) dg bh (fun j => if j = dp + 1 then false else cm j) := by
  obtain ⟨f, a1, a2, a3, a4, a5, a6, a7, a8, a9, a10, a11⟩ := r
  refine ⟨(f.up 6 8 _ (nh6 (by omega))).up 11 _ _ (nh11 _), a1, a2, rfl, a4, a5, a6, a7, by omega, a9, a10, fun j hj => ?_⟩
  dsimp only
  by_cases z : j = dp + 1
  · rw [up_f, if_pos ⟨rfl, z⟩, if_neg (by rw [if_pos z]; decide)]
  · rw [up_f, if_neg (fun q => z q.2), up_f, if_neg (by omega)]
    simp only [if_neg z]
    exact a11 j (by omega)
theorem hs_cm (r : HS C0 C W D dp dg bh cm) (b : Bool) {v : Int32} (hv : v = (if b = true then 1 else 0)) : HS C0 (rh_up C 11 dp v) W D dp dg bh (fun j => if j = dp then b else cm j) := by
  obtain ⟨f, a1, a2, a3, a4, a5, a6, a7, a8, a9, a10, a11⟩ := r
  refine ⟨f.up 11 _ _ (nh11 _), a1, a2, a3, a4, a5, a6, a7, a8, a9, a10, fun j hj => ?_⟩
  dsimp only
  by_cases z : j = dp
  · rw [up_f, if_pos ⟨rfl, z⟩]
    simp only [if_pos z]; exact hv
  · rw [up_f, if_neg (fun q => z q.2)]
    simp only [if_neg z]; exact a11 j hj
theorem hs_dp (r : HS C0 C W D (dp + 1) dg bh cm) : HS C0 (rh_up C 6 8 (nI dp)) W D dp dg bh cm := by
  obtain ⟨f, a1, a2, a3, a4, a5, a6, a7, a8, a9, a10, a11⟩ := r
  exact ⟨f.up 6 8 _ (nh6 (by omega)), a1, a2, rfl, a4, a5, a6, a7, by omega, a9, a10, fun j hj => a11 j (by omega)⟩
theorem tkD_ok (r : HS C0 C W D dp dg bh cm) (hl : W.length + D.length ≤ 46) : (tkD W D dp dg bh cm x).elim (∃ C', f_Ha_takesDigit C (nI (x - 48)) = some (0, C') ∧ FH C0 C') (fun s' => ∃ C', f_Ha_takesDigit C (nI (x - 48)) = some (1, C') ∧ HSt C0 C' s') := by
  have a4 := r.2.2.2.2.1
  have a5 := r.2.2.2.2.2.1
  have a9 := r.2.2.2.2.2.2.2.2.2.1
  unfold tkD
  by_cases h1 : dg = 0 ∧ bh = false
  · rw [if_pos h1]
    obtain ⟨rfl, rfl⟩ := h1
    obtain ⟨C', e1, e2⟩ := put_c r (by omega) (nI (x - 48))
    refine ⟨_, ?_, hs_dg (d := 1) (hs_bh e2 true (v := 1) rfl) ⟨by omega, fun _ => List.cons_ne_nil _ _⟩⟩
    unfold f_Ha_takesDigit
    rw [a4, if_pos (show nI 0 = 0 from rfl), a5, if_pos (by decide), e1, Option.bind_some, e2.2.2.2.2.1]
    rfl
  · rw [if_neg h1]
    have hf : f_Ha_takesDigit C (nI (x - 48)) = j_Ha_takesDigit_27 C (nI (x - 48)) := by
      unfold f_Ha_takesDigit
      by_cases h2 : dg = 0
      · subst h2
        rw [a4, if_pos (show nI 0 = 0 from rfl), a5]
        cases bh with
        | false => exact absurd ⟨rfl, rfl⟩ h1
        | true => rw [if_neg (by decide)]
      · rw [a4, if_neg (nz0 h2 (by omega))]
    rw [hf]
    unfold j_Ha_takesDigit_27
    rw [a4]
    by_cases h2 : 0 < dg ∧ dg < 3
    · rw [if_pos h2]
      cases D with
      | nil => exact absurd rfl (a9.2 h2.1)
      | cons c D =>
        rw [List.length_cons] at hl
        have g9 := gd_nI (i := D.length) (N := 48) (by omega) (by omega)
        have a1 : C 6 4 = nI (D.length + 1) := r.2.1
        have a6 : C 9 D.length = c := r.2.2.2.2.2.2.1.1
        refine ⟨_, ?_, hs_dg (d := dg + 1) (hs_mod r (c * 10 + nI (x - 48))) ⟨by omega, fun _ => List.cons_ne_nil _ _⟩⟩
        rw [if_neg (show ¬ nI dg ≤ 0 from nI_ge (b := dg) (a := 0) h2.1 (by omega)), if_neg (show ¬ (3 : Int32) ≤ nI dg from nI_ge (b := 3) h2.2 (by omega)), a1, show nI (D.length + 1) - 1 = nI D.length from pk_sub (a := D.length + 1) (b := 1) (by omega), rg_t g9, rg_t g9, nI_clamp (by omega), a6, nI_1]
    · rw [if_neg h2]
      refine ⟨C, ?_, r.1⟩
      by_cases h3 : 0 < dg
      · rw [if_neg (show ¬ nI dg ≤ 0 from nI_ge (b := dg) (a := 0) h3 (by omega)), if_pos (show (3 : Int32) ≤ nI dg from nI_le (a := 3) (by omega) (by omega))]
      · rw [if_pos (show nI dg ≤ 0 by rw [show dg = 0 by omega]; decide)]
theorem tkA_ok (r : HS C0 C W D dp 0 false cm) (hl : W.length + D.length ≤ 46) (hx : x < 256) : (tkA W D dp cm x).elim (∃ C', f_Ha_takesAhead C (nI x) = some (0, C') ∧ FH C0 C') (fun s' => ∃ C', f_Ha_takesAhead C (nI x) = some (1, C') ∧ HSt C0 C' s') := by
  have a3 := r.2.2.2.1
  unfold tkA f_Ha_takesAhead
  rw [isL_c x hx]
  by_cases h1 : isL x = true
  · rw [if_pos h1, if_pos h1, if_neg (by decide)]
    obtain ⟨C', e1, e2⟩ := put_c r (by omega) (ng x)
    refine ⟨_, ?_, hs_bh e2 true (v := 1) rfl⟩
    rw [show -(nI x) = ng x from rfl, e1, Option.bind_some]
  · rw [if_neg h1, if_neg h1, if_pos rfl]
    by_cases h2 : x = 45
    · rw [if_pos h2, if_pos (show nI x = 45 by rw [h2]; rfl)]
      obtain ⟨C', e1, e2⟩ := putOff_c r (by omega) (a := 126) (by omega)
      refine ⟨_, ?_, e2⟩
      rw [show (126 : Int32) = nI 126 from rfl, e1, Option.bind_some]
    · rw [if_neg h2, if_neg (show ¬ nI x = 45 from neI (s := 45) (by omega) (by omega) h2)]
      by_cases h3 : x = 40
      · rw [if_pos (show nI x = 40 by rw [h3]; rfl), a3]
        by_cases h4 : dp < 4
        · rw [if_pos ⟨h3, h4⟩, if_neg (show ¬ (4 : Int32) ≤ nI dp from nI_ge (b := 4) h4 (by omega)), nI_1, rg_t (gd_nI (by omega) (by omega)), nI_clamp (by omega), show ((0 : Int32) &&& 1) = 0 from rfl]
          obtain ⟨C', e1, e2⟩ := putOff_c (hs_opn r h4) (by omega) (a := 40) (by omega)
          refine ⟨_, ?_, e2⟩
          rw [h3, e1, Option.bind_some]
        · rw [if_neg (fun z => h4 z.2), if_pos (show (4 : Int32) ≤ nI dp from nI_le (a := 4) (by omega) (by have := r.2.2.2.2.2.2.2.2.1; omega))]
          exact ⟨C, rfl, r.1⟩
      · rw [if_neg (fun z => h3 z.1), if_neg (show ¬ nI x = 40 from neI (s := 40) (by omega) (by omega) h3)]
        exact ⟨C, rfl, r.1⟩
theorem pp_len (k : Nat) : ∀ (W : List Nat) (D : List Int32), (pp k W D).1.length + (pp k W D).2.length = W.length + D.length
  | [], D => rfl
  | a :: W, D => by
    unfold pp
    by_cases h : k ≤ bd a
    · rw [if_pos h, pp_len k W, List.length_cons, List.length_cons]; omega
    · rw [if_neg h]
theorem cl_len : ∀ (W : List Nat) (D : List Int32), (cl W D).1.length + (cl W D).2.length = W.length + D.length
  | [], D => rfl
  | a :: W, D => by
    unfold cl
    by_cases h : a = 40
    · rw [if_pos h]
    · rw [if_neg h, cl_len W, List.length_cons, List.length_cons]; omega
theorem closes_ok (r : HS C0 C W D dp 0 true cm) (hl : W.length + D.length ≤ 46) : (if dp = 0 then (none : Option RT) else some ((cl W D).1.tail, (cl W D).2, dp - 1, 0, true, cm)).elim (∃ C', f_Ha_closes C = some (0, C') ∧ FH C0 C') (fun s' => ∃ C', f_Ha_closes C = some (1, C') ∧ HSt C0 C' s') := by
  have a3 := r.2.2.2.1
  have a8 := r.2.2.2.2.2.2.2.2.1
  unfold f_Ha_closes
  rw [a3]
  by_cases h0 : dp = 0
  · rw [if_pos h0, if_pos (show nI dp = 0 by rw [h0]; rfl)]
    exact ⟨C, rfl, r.1⟩
  · obtain ⟨d, rfl⟩ : ∃ d, dp = d + 1 := ⟨dp - 1, by omega⟩
    rw [if_neg h0, if_neg (nz0 h0 (by omega))]
    obtain ⟨C', e1, e2⟩ := cl_k (C0 := C0) W D C rh_N r (by omega) (by unfold rh_N; omega)
    rw [e1, Option.bind_some]
    have b3 := e2.2.2.2.1
    have b2 := e2.2.2.1
    have hlen := cl_len W D
    generalize (cl W D).1 = W1 at e2 b2 hlen ⊢
    generalize (cl W D).2 = D1 at e2 hlen ⊢
    rw [b2, b3, show nI (d + 1) - 1 = nI d from pk_sub (a := d + 1) (b := 1) (by omega)]
    cases W1 with
    | nil =>
      refine ⟨_, ?_, hs_dp e2⟩
      rw [List.length_nil, if_pos (show nI 0 ≤ 0 by decide)]
      rfl
    | cons a W1 =>
      rw [List.length_cons] at hlen
      refine ⟨_, ?_, hs_dp (hs_pop e2)⟩
      rw [List.length_cons, if_neg (show ¬ nI (W1.length + 1) ≤ 0 from nI_ge (b := W1.length + 1) (a := 0) (by omega) (by omega)), show nI (W1.length + 1) - 1 = nI W1.length from pk_sub (a := W1.length + 1) (b := 1) (by omega)]
      rfl
theorem bo_le : ∀ a, a < 256 → bo a ≤ 3 := by decide +kernel
theorem tkB_ok (r : HS C0 C W D dp 0 true cm) (hl : W.length + D.length ≤ 46) (hx : x < 256) : (tkB W D dp cm x).elim (∃ C', f_Ha_takesBehind C (nI x) = some (0, C') ∧ FH C0 C') (fun s' => ∃ C', f_Ha_takesBehind C (nI x) = some (1, C') ∧ HSt C0 C' s') := by
  have a3 := r.2.2.2.1
  have a8 := r.2.2.2.2.2.2.2.2.1
  have a11 := r.2.2.2.2.2.2.2.2.2.2.2 dp (by omega)
  unfold tkB f_Ha_takesBehind
  by_cases h1 : x = 41
  · rw [if_pos h1, if_pos (show nI x = 41 by rw [h1]; rfl)]
    have hc := closes_ok r hl
    by_cases h0 : dp = 0
    · rw [if_pos h0] at hc ⊢
      obtain ⟨C', e1, e2⟩ := hc
      exact ⟨C', by rw [e1, Option.bind_some, rg_t (Or.inl rfl)], e2⟩
    · rw [if_neg h0] at hc ⊢
      obtain ⟨C', e1, e2⟩ := hc
      exact ⟨C', by rw [e1, Option.bind_some, rg_t (Or.inr rfl)], e2⟩
  · rw [if_neg h1, if_neg (show ¬ nI x = 41 from neI (s := 41) (by omega) (by omega) h1)]
    by_cases h2 : x = 126
    · subst h2
      rw [if_pos (Or.inl (show bo 126 = 0 from rfl)), if_pos (show nI 126 = 126 from rfl)]
      unfold j_Ha_takesBehind_25
      rw [if_pos rfl]
      exact ⟨C, rfl, r.1⟩
    · rw [if_neg (show ¬ nI x = 126 from neI (s := 126) (by omega) (by omega) h2), (bd_c x hx).1]
      have hb : bo x = bd x := by unfold bo; rw [if_neg h2]
      have hb3 := bo_le x hx
      rw [← hb]
      unfold j_Ha_takesBehind_25
      by_cases h3 : bo x = 0
      · rw [if_pos (Or.inl h3), if_pos (show nI (bo x) = 0 by rw [h3]; rfl)]
        exact ⟨C, rfl, r.1⟩
      · rw [if_neg (nz0 h3 (by omega)), a3, nI_clamp (by omega), rg_t (gd_nI (by omega) (by omega))]
        have j49 : (bo x = 1 → cm dp = false) → ∃ C', j_Ha_takesBehind_49 C (nI x) (nI (bo x)) = some (1, C') ∧ HSt C0 C' (x :: (pp (bo x) W D).1, (pp (bo x) W D).2, dp, 0, false, fun j => if j = dp then (cm dp || decide (bo x = 1)) else cm j) := fun hcm => by
          have j69 : ∀ k3 : Int32, (((if cm dp = true then (1 : Int32) else 0) ||| k3) &&& 1) = (if (cm dp || decide (bo x = 1)) = true then 1 else 0) → ∃ C', j_Ha_takesBehind_69 C (nI x) (nI (bo x)) (nI dp) (if cm dp = true then (1 : Int32) else 0) k3 = some (1, C') ∧ HSt C0 C' (x :: (pp (bo x) W D).1, (pp (bo x) W D).2, dp, 0, false, fun j => if j = dp then (cm dp || decide (bo x = 1)) else cm j) := fun k3 hk3 => by
            unfold j_Ha_takesBehind_69
            rw [rg_t (gd_nI (by omega) (by omega)), nI_clamp (by omega), hk3]
            obtain ⟨C1, e1, e2⟩ := pop_k (C0 := C0) (nI x) (k := bo x) (by omega) W D _ rh_N (hs_cm r (cm dp || decide (bo x = 1)) rfl) (by omega) (by unfold rh_N; omega)
            have hlen := pp_len (bo x) W D
            obtain ⟨C2, e3, e4⟩ := putOff_c e2 (by omega) hx
            refine ⟨_, ?_, hs_bh e4 false (v := 0) rfl⟩
            rw [e1, Option.bind_some, e3, Option.bind_some]
          unfold j_Ha_takesBehind_49
          rw [a3, nI_clamp (by omega), rg_t (gd_nI (by omega) (by omega)), a11]
          by_cases h4 : bo x = 1
          · rw [if_pos (show nI (bo x) = 1 by rw [h4]; rfl)]
            refine j69 1 ?_
            rw [hcm h4, h4]; rfl
          · rw [if_neg (show ¬ nI (bo x) = 1 from neI (s := 1) (by omega) (by omega) h4)]
            refine j69 0 ?_
            rw [decide_eq_false h4]
            cases cm dp <;> rfl
        by_cases h4 : bo x = 1
        · rw [if_pos (show nI (bo x) = 1 by rw [h4]; rfl), a11]
          by_cases h5 : cm dp = true
          · rw [if_pos (Or.inr ⟨h4, h5⟩), if_pos h5, if_neg (by decide)]
            exact ⟨C, rfl, r.1⟩
          · rw [if_neg (fun z => z.elim h3 (fun z => h5 z.2)), if_neg h5, if_pos rfl]
            exact j49 (fun _ => Bool.eq_false_iff.mpr h5)
        · rw [if_neg (fun z => z.elim h3 (fun z => h4 z.1)), if_neg (show ¬ nI (bo x) = 1 from neI (s := 1) (by omega) (by omega) h4)]
          exact j49 (fun z => absurd z h4)
theorem tk_ok (r : HS C0 C W D dp dg bh cm) (hl : W.length + D.length ≤ 46) (hx : x < 256) : (tk W D dp dg bh cm x).elim (∃ C', f_Ha_takes C (nI x) = some (0, C') ∧ FH C0 C') (fun s' => ∃ C', f_Ha_takes C (nI x) = some (1, C') ∧ HSt C0 C' s') := by
  unfold f_Ha_takes tk
  rw [r.2.1, r.2.2.1, if_neg (show ¬ (48 : Int32) ≤ nI D.length from nI_ge (b := 48) (by omega) (by omega)), if_pos (show nI W.length < 48 from ltI (s := 48) (by omega) (by omega))]
  by_cases h1 : 48 ≤ x ∧ x ≤ 57
  · rw [if_pos h1, if_neg (fun z => (isd hx).mp z h1), show nI x - 48 = nI (x - 48) from pk_sub (b := 48) h1.1]
    have hd := tkD_ok (x := x) r hl
    cases hk : tkD W D dp dg bh cm x with
    | none =>
      rw [hk] at hd
      obtain ⟨C', e1, e2⟩ := hd
      exact ⟨C', by rw [e1, Option.bind_some, rg_t (Or.inl rfl)], e2⟩
    | some s' =>
      rw [hk] at hd
      obtain ⟨C', e1, e2⟩ := hd
      exact ⟨C', by rw [e1, Option.bind_some, rg_t (Or.inr rfl)], e2⟩
  · rw [if_neg h1, if_pos ((isd hx).mpr h1), r.2.2.2.2.2.1]
    have r0 : HS C0 (rh_up C 6 9 (0 : Int32)) W D dp 0 bh cm := hs_dg (d := 0) r ⟨by omega, fun z => absurd z (by omega)⟩
    cases bh with
    | false =>
      rw [if_pos (show (if false = true then (1 : Int32) else 0) = 0 from rfl), if_pos rfl]
      have hd := tkA_ok (x := x) r0 hl hx
      cases hk : tkA W D dp cm x with
      | none =>
        rw [hk] at hd
        obtain ⟨C', e1, e2⟩ := hd
        exact ⟨C', by rw [e1, Option.bind_some, rg_t (Or.inl rfl)], e2⟩
      | some s' =>
        rw [hk] at hd
        obtain ⟨C', e1, e2⟩ := hd
        exact ⟨C', by rw [e1, Option.bind_some, rg_t (Or.inr rfl)], e2⟩
    | true =>
      rw [if_neg (show ¬ (if true = true then (1 : Int32) else 0) = 0 by decide), if_neg (by decide)]
      have hd := tkB_ok (x := x) r0 hl hx
      cases hk : tkB W D dp cm x with
      | none =>
        rw [hk] at hd
        obtain ⟨C', e1, e2⟩ := hd
        exact ⟨C', by rw [e1, Option.bind_some, rg_t (Or.inl rfl)], e2⟩
      | some s' =>
        rw [hk] at hd
        obtain ⟨C', e1, e2⟩ := hd
        exact ⟨C', by rw [e1, Option.bind_some, rg_t (Or.inr rfl)], e2⟩
theorem tk_len {s' : RT} (h : tk W D dp dg bh cm x = some s') : s'.1.length + s'.2.1.length ≤ W.length + D.length + 1 := by
  unfold tk at h
  by_cases h1 : 48 ≤ x ∧ x ≤ 57
  · rw [if_pos h1] at h
    unfold tkD at h
    by_cases h2 : dg = 0 ∧ bh = false
    · rw [if_pos h2] at h
      rw [← Option.some.inj h]
      show W.length + (D.length + 1) ≤ _
      omega
    · rw [if_neg h2] at h
      by_cases h3 : 0 < dg ∧ dg < 3
      · rw [if_pos h3] at h
        cases D with
        | nil => cases h
        | cons c D =>
          rw [← Option.some.inj h]
          show W.length + (D.length + 1) ≤ W.length + (D.length + 1) + 1
          omega
      · rw [if_neg h3] at h; cases h
  · rw [if_neg h1] at h
    by_cases hb : bh = false
    · rw [if_pos hb] at h
      unfold tkA at h
      by_cases h2 : isL x = true
      · rw [if_pos h2] at h
        rw [← Option.some.inj h]
        show W.length + (D.length + 1) ≤ _
        omega
      · rw [if_neg h2] at h
        by_cases h3 : x = 45
        · rw [if_pos h3] at h
          rw [← Option.some.inj h]
          show (W.length + 1) + D.length ≤ _
          omega
        · rw [if_neg h3] at h
          by_cases h4 : x = 40 ∧ dp < 4
          · rw [if_pos h4] at h
            rw [← Option.some.inj h]
            show (W.length + 1) + D.length ≤ _
            omega
          · rw [if_neg h4] at h; cases h
    · rw [if_neg hb] at h
      unfold tkB at h
      by_cases h2 : x = 41
      · rw [if_pos h2] at h
        by_cases h3 : dp = 0
        · rw [if_pos h3] at h; cases h
        · rw [if_neg h3] at h
          rw [← Option.some.inj h]
          show (cl W D).1.tail.length + (cl W D).2.length ≤ _
          have := cl_len W D
          rw [List.length_tail]
          omega
      · rw [if_neg h2] at h
        by_cases h3 : bo x = 0 ∨ (bo x = 1 ∧ cm dp = true)
        · rw [if_pos h3] at h; cases h
        · rw [if_neg h3] at h
          rw [← Option.some.inj h]
          show ((pp (bo x) W D).1.length + 1) + (pp (bo x) W D).2.length ≤ _
          have := pp_len (bo x) W D
          omega
end HAC
def tks (s : RT) (x : Nat) : Option RT := tk s.1 s.2.1 s.2.2.1 s.2.2.2.1 s.2.2.2.2.1 s.2.2.2.2.2 x
def ks (tx : Nat → Nat) : Nat → Nat → RT → Option RT
  | 0, _, s => some s
  | n + 1, p, s => (tks s (tx p)).bind (ks tx n (p + 1))
theorem ks_add (tx : Nat → Nat) : ∀ (n m p : Nat) (s : RT), ks tx (n + m) p s = (ks tx n p s).bind (ks tx m (p + n))
  | 0, m, p, s => by rw [Nat.zero_add]; rfl
  | n + 1, m, p, s => by
    rw [show n + 1 + m = (n + m) + 1 by omega]
    show (tks s (tx p)).bind (ks tx (n + m) (p + 1)) = ((tks s (tx p)).bind (ks tx n (p + 1))).bind (ks tx m (p + (n + 1)))
    cases tks s (tx p) with
    | none => rfl
    | some s1 =>
      show ks tx (n + m) (p + 1) s1 = (ks tx n (p + 1) s1).bind (ks tx m (p + (n + 1)))
      rw [ks_add tx n m (p + 1) s1, show p + 1 + n = p + (n + 1) by omega]
theorem ks_cat {tx : Nat → Nat} {n m p : Nat} {s s1 : RT} {r : Option RT} (h1 : ks tx n p s = some s1) (h2 : ks tx m (p + n) s1 = r) : ks tx (n + m) p s = r := by
  rw [ks_add, h1]; exact h2
theorem ks_one {tx : Nat → Nat} {p : Nat} {s s1 : RT} (h : tks s (tx p) = some s1) : ks tx 1 p s = some s1 := by
  show (tks s (tx p)).bind (ks tx 0 (p + 1)) = _
  rw [h]; rfl
/-- the class reads on, sign by sign -/
theorem rd_c {C0 : HI} {tx : Nat → Nat} {e : Nat} (he : e ≤ 40) (htx : ∀ i, i < e → tx i < 256 ∧ C0 1 i = nI (tx i)) (u2 u3 : Int32) : ∀ (n p : Nat) (s : RT) (C : HI) (N : Nat), HSt C0 C s → s.1.length + s.2.1.length ≤ p → p + n = e → n + 1 ≤ N →
    (∃ s' C', ks tx n p s = some s' ∧ rh_loop (b_Re_readThrough_Ha_6_1_19 u2 u3 (nI e)) N (nI p, C) = some (.inl C') ∧ HSt C0 C' s' ∧ s'.1.length + s'.2.1.length ≤ e) ∨
    (∃ q s' C', q < n ∧ ks tx q p s = some s' ∧ tks s' (tx (p + q)) = none ∧ rh_loop (b_Re_readThrough_Ha_6_1_19 u2 u3 (nI e)) N (nI p, C) = some (.inr (-1 - nI (p + q), C')) ∧ FH C0 C')
  | 0, p, s, C, N, r, hl, hp, hN => by
    refine Or.inl ⟨s, C, rfl, st_e ?_ (by omega), r, by omega⟩
    unfold b_Re_readThrough_Ha_6_1_19
    dsimp only
    rw [if_pos (nI_le (by omega) (by omega))]
  | n + 1, p, s, C, N, r, hl, hp, hN => by
    have hC1 : C 1 p = nI (tx p) := (r.1 1 p ⟨by omega, by omega, by omega, by omega⟩).trans (htx p (by omega)).2
    have hk := tk_ok (x := tx p) r (by omega) (htx p (by omega)).1
    have hbody : b_Re_readThrough_Ha_6_1_19 u2 u3 (nI e) (nI p, C) = (f_Ha_takes C (nI (tx p))).bind (fun x4 => if x4.1 = 0 then some (.inr (.inr (-1 - nI p, x4.2))) else some (.inl (nI (p + 1), x4.2))) := by
      unfold b_Re_readThrough_Ha_6_1_19
      dsimp only
      rw [if_neg (nI_ge (by omega) (by omega)), rg_t (gd_nI (by omega) (by omega)), nI_clamp (by omega), hC1, nI_1]
      rfl
    cases h1 : tks s (tx p) with
    | none =>
      unfold tks at h1
      rw [h1] at hk
      obtain ⟨C', e1, e2⟩ := hk
      refine Or.inr ⟨0, s, C', by omega, rfl, h1, st_e ?_ (by omega), e2⟩
      rw [hbody, e1, Option.bind_some, if_pos rfl]
      rfl
    | some s1 =>
      have hlen := tk_len h1
      unfold tks at h1
      rw [h1] at hk
      obtain ⟨C', e1, e2⟩ := hk
      have hgo : rh_loop (b_Re_readThrough_Ha_6_1_19 u2 u3 (nI e)) N (nI p, C) = rh_loop (b_Re_readThrough_Ha_6_1_19 u2 u3 (nI e)) (N - 1) (nI (p + 1), C') := st_l (by rw [hbody, e1, Option.bind_some, if_neg (show ¬ (1 : Int32) = 0 by decide)]) (by omega)
      rw [hgo]
      rcases rd_c he htx u2 u3 n (p + 1) s1 C' (N - 1) e2 (by omega) (by omega) (by omega) with ⟨s', C2, g1, g2, g3, g4⟩ | ⟨q, s', C2, g0, g1, g2, g3, g4⟩
      · exact Or.inl ⟨s', C2, by show (tks s (tx p)).bind _ = _; unfold tks; rw [h1]; exact g1, g2, g3, g4⟩
      · refine Or.inr ⟨q + 1, s', C2, by omega, by show (tks s (tx p)).bind _ = _; unfold tks; rw [h1]; exact g1, ?_, ?_, g4⟩
        · rw [show p + (q + 1) = p + 1 + q by omega]; exact g2
        · rw [show p + (q + 1) = p + 1 + q by omega]; exact g3
