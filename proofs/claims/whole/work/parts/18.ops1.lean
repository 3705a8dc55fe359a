/-! the calls that ask for no weight: end, bear, forget, unsay, task, weighed, sign -/
section OPS1
variable {k n Pm : Nat} {B : Nat → Nat} {V : Nat → Nat → Nat → Nat} {hc hm : HI}
theorem sm_thr (h : HI) (v : Int32) : SM h (rh_up h 0 9 v) := SM.rf.up 0 9 v rfl
/-- thrown alone changes on the reference's side -/
theorem RLt.thr (h : RLt k n Pm B V hc hm) (v : Int32) : RLt (k + 1) n Pm B V hc (rh_up hm 0 9 v) :=
  h.ask SC.rf (sm_thr hm v) (h.2.kept rfl (fun _ => rfl) rfl (fun _ => rfl))
theorem op_end (h : RLt k n Pm B V hc hm) (p : Int32) : (f_La_end hc p).1 = (f_Mo_end hm p).1 ∧ RLt (k + 1) n Pm B V (f_La_end hc p).2 (f_Mo_end hm p).2 := by
  obtain ⟨⟨t, ht, h1, h2, h3⟩, hrest⟩ := h.1
  have h1 : hc 0 1 = nI t := h1
  have h2 : hm 0 6 = nI t := h2
  unfold f_La_end f_Mo_end
  rw [in_wi, h1, h2]
  unfold f_La_within
  by_cases q1 : p < 0
  · rw [if_pos q1, if_pos q1]
    exact ⟨rfl, h.thr 0⟩
  · rw [if_neg q1, if_neg q1]
    by_cases q2 : p ≤ nI t
    · rw [if_pos q2, if_neg (show ¬ nI t < p by rw [fa_lt]; rw [fa_le] at q2; omega), if_neg (by decide)]
      refine ⟨rfl, ⟨⟨?_, (hrest : RFolk n Pm B _ _ ∧ _).1, ?_⟩, ?_⟩⟩
      · obtain ⟨j, hj, rfl⟩ : ∃ j, j ≤ t ∧ p = nI j := by
          obtain ⟨j, -, hj, e⟩ := nI_rng (lo := 0) (hi := t) (x := p) q1 (by rw [fa_lt]; rw [fa_le] at q2; omega) (by omega) (by omega)
          exact ⟨j, hj, e⟩
        exact ⟨j, by omega, rfl, rfl, fun i hi => h3 i (by omega)⟩
      · exact (RQ.mono h.1 (Nat.le_succ k)).2.2
      · exact h.2.kept rfl (fun _ => rfl) rfl (fun _ => rfl)
    · rw [if_neg q2, if_pos (show nI t < p by rw [fa_lt]; rw [fa_le] at q2; omega), if_pos rfl]
      exact ⟨rfl, h.thr 0⟩
theorem op_forget (h : RLt k n Pm B V hc hm) : (f_La_forget hc).1 = (f_Mo_forget hm).1 ∧ RLt (k + 1) n Pm B V (f_La_forget hc).2 (f_Mo_forget hm).2 := by
  obtain ⟨h1, h2, h3, ⟨q, g1, g2, g3, g4⟩, h5⟩ := RQ.mono h.1 (Nat.le_succ k)
  exact ⟨g2.trans g3.symm, ⟨h1, h2, h3, ⟨0, by omega, rfl, rfl, fun i hi => by omega⟩, h5⟩, h.2.kept rfl (fun _ => rfl) rfl (fun _ => rfl)⟩
theorem op_unsay (h : RLt k n Pm B V hc hm) : (f_La_unsay hc).1 = (f_Mo_unsay hm).1 ∧ RLt (k + 1) n Pm B V (f_La_unsay hc).2 (f_Mo_unsay hm).2 := by
  obtain ⟨h1, h2, h3, h4, ⟨q, g1, g2, g3, g4⟩, h6⟩ := RQ.mono h.1 (Nat.le_succ k)
  exact ⟨g2.trans g3.symm, ⟨h1, h2, h3, h4, ⟨0, by omega, rfl, rfl, fun i hi => by omega⟩, h6⟩, h.2.kept rfl (fun _ => rfl) rfl (fun _ => rfl)⟩
theorem op_bear (h : RLt k n Pm B V hc hm) (p v : Int32) : ∃ r hc' hm', f_La_bear hc p v = some (r, hc') ∧ f_Mo_bear hm p v = some (r, hm') ∧ RLt (k + 1) n Pm B V hc' hm' := by
  unfold f_La_bear f_Mo_bear
  rw [mo_isHeavy, in_wi]
  by_cases q1 : f_La_within p 0 2 = 0
  · rw [if_pos q1, if_pos q1]
    exact ⟨_, _, _, rfl, rfl, h.thr 0⟩
  · rw [if_neg q1, if_neg q1]
    simp only [Option.bind_some]
    by_cases q2 : f_La_within v 0 9999 = 0
    · rw [if_pos q2, if_pos q2]
      exact ⟨_, _, _, rfl, rfl, h.thr 0⟩
    · rw [if_neg q2, if_neg q2]
      obtain ⟨a, -, ha, rfl⟩ := nI_rng (lo := 0) (hi := 2) (wi_1 q1).1 (wi_1 q1).2 (by omega) (by omega)
      obtain ⟨b, -, hb, rfl⟩ := nI_rng (lo := 0) (hi := 9999) (wi_1 q2).1 (wi_1 q2).2 (by omega) (by omega)
      have g := gd_nI (i := a) (N := 3) (by omega) (by omega)
      rw [rg_t g, rg_t g, rg_t g, rg_t g, nI_clamp (by omega)]
      obtain ⟨h1, h2, h3, h4⟩ := RQ.mono h.1 (Nat.le_succ k)
      have e : hc 40 a = hm 3 a := (h3 a (by omega)).1
      refine ⟨hc 40 a, rh_up hc 40 a (nI b), rh_up (rh_up hm 0 9 0) 3 a (nI b), rfl, by rw [show (rh_up hm 0 9 0) 3 a = hc 40 a from e.symm], ⟨h1, h2, fun i hi => ?_, h4⟩, h.2.kept rfl (fun _ => rfl) rfl (fun _ => rfl)⟩
      show rh_up hc 40 a (nI b) 40 i = rh_up (rh_up hm 0 9 0) 3 a (nI b) 3 i ∧ ∃ v, v ≤ 9999 ∧ rh_up hc 40 a (nI b) 40 i = nI v
      by_cases hi2 : i = a
      · subst hi2
        rw [rh_up_s, rh_up_s]
        exact ⟨rfl, b, hb, rfl⟩
      · rw [rh_up_k _ _ _ hi2, rh_up_k _ _ _ hi2]
        exact h3 i hi
theorem op_task (h : RLt k n Pm B V hc hm) (p v : Int32) : ∃ r hc' hm', f_La_task hc p v = some (r, hc') ∧ f_Mo_task hm p v = some (r, hm') ∧ RLt (k + 1) n Pm B V hc' hm' := by
  obtain ⟨h1, h2, h3, ⟨q, g1, g2, g3, g4⟩, h5⟩ := RQ.mono h.1 (Nat.le_succ k)
  have g2 : hc 25 0 = nI q := g2
  have g3 : hm 0 29 = nI q := g3
  unfold f_La_task f_Mo_task
  rw [mo_isHeavy, mo_isHeavy, g2, g3]
  simp only [Option.bind_some]
  by_cases q1 : f_La_within p 0 9999 = 0
  · rw [if_pos q1, if_pos q1]
    exact ⟨_, _, _, rfl, rfl, h.thr 0⟩
  · rw [if_neg q1, if_neg q1]
    obtain ⟨a, -, ha, rfl⟩ := nI_rng (lo := 0) (hi := 9999) (wi_1 q1).1 (wi_1 q1).2 (by omega) (by omega)
    by_cases q2 : f_La_within v (nI a) 9999 = 0
    · rw [if_pos q2]
      have key : (if f_La_within v 0 9999 = 0 then some ((-1 : Int32), rh_up hm 0 9 0) else if nI a ≤ v then (if nI q = 6 then some ((-2 : Int32), rh_up hm 0 9 0) else rh_g (0 ≤ ((2 : Int32) * nI q).toInt ∧ ((2 : Int32) * nI q).toInt < ((12 : Nat) : Int)) (rh_g (0 ≤ (((2 : Int32) * nI q) + (1 : Int32)).toInt ∧ (((2 : Int32) * nI q) + (1 : Int32)).toInt < ((12 : Nat) : Int)) (some ((nI q + (1 : Int32)) - (1 : Int32), rh_up (rh_up (rh_up (rh_up hm 0 9 (0 : Int32)) 14 ((2 : Int32) * nI q).toNatClampNeg (nI a)) 14 (((2 : Int32) * nI q) + (1 : Int32)).toNatClampNeg v) 0 29 (nI q + (1 : Int32)))))) else some ((-1 : Int32), rh_up hm 0 9 0)) = some ((-1 : Int32), rh_up hm 0 9 0) := by
        by_cases q3 : f_La_within v 0 9999 = 0
        · rw [if_pos q3]
        · rw [if_neg q3, if_neg]
          intro q4
          rcases wi_0 q2 with q5 | q5
          · rw [fa_lt] at q5; rw [fa_le] at q4; omega
          · exact (wi_1 q3).2 q5
      rw [key]
      exact ⟨_, _, _, rfl, rfl, h.thr 0⟩
    · rw [if_neg q2]
      obtain ⟨b, hab, hb, rfl⟩ := nI_rng (lo := a) (hi := 9999) (wi_1 q2).1 (wi_1 q2).2 (by omega) (by omega)
      have q3 : ¬ f_La_within (nI b) 0 9999 = 0 := by
        intro q3
        rcases wi_0 q3 with q4 | q4
        · exact nI_pos (by omega) q4
        · exact (wi_1 q2).2 q4
      rw [if_neg q3, if_pos (nI_le hab (by omega))]
      by_cases q4 : nI q = 6
      · rw [if_pos q4, if_pos q4]
        exact ⟨_, _, _, rfl, rfl, h.thr 0⟩
      · rw [if_neg q4, if_neg q4]
        have hq : q < 6 := by
          rcases Nat.lt_or_ge q 6 with hq | hq
          · exact hq
          · exact absurd (by rw [show q = 6 by omega]; rfl) q4
        have e1 : (2 : Int32) * nI q = nI (2 * q) := pk_mul 2 q
        have e2 : nI (2 * q) + 1 = nI (2 * q + 1) := nI_1 (2 * q)
        have e3 : nI q + 1 = nI (q + 1) := nI_1 q
        rw [e1, e2, e3]
        rw [rg_t (gd_nI (i := q) (N := 6) hq (by omega)), rg_t (gd_nI (i := q) (N := 6) hq (by omega)), rg_t (gd_nI (i := 2 * q) (N := 12) (by omega) (by omega)), rg_t (gd_nI (i := 2 * q + 1) (N := 12) (by omega) (by omega)), nI_clamp (by omega), nI_clamp (by omega), nI_clamp (by omega)]
        refine ⟨_, _, _, rfl, rfl, ⟨h1, h2, h3, ⟨q + 1, by omega, rfl, rfl, fun i hi => ?_⟩, h5⟩, h.2.kept rfl (fun _ => rfl) rfl (fun _ => rfl)⟩
        show ∃ a' b', a' ≤ b' ∧ b' ≤ 9999 ∧ rh_up (rh_up (rh_up hc 26 q (nI a)) 27 q (nI b)) 25 0 (nI (q + 1)) 26 i = nI a' ∧ rh_up (rh_up (rh_up hc 26 q (nI a)) 27 q (nI b)) 25 0 (nI (q + 1)) 27 i = nI b' ∧ rh_up (rh_up (rh_up (rh_up hm 0 9 0) 14 (2 * q) (nI a)) 14 (2 * q + 1) (nI b)) 0 29 (nI (q + 1)) 14 (2 * i) = nI a' ∧ rh_up (rh_up (rh_up (rh_up hm 0 9 0) 14 (2 * q) (nI a)) 14 (2 * q + 1) (nI b)) 0 29 (nI (q + 1)) 14 (2 * i + 1) = nI b'
        by_cases hi2 : i = q
        · subst hi2
          exact ⟨a, b, hab, hb, by simp [up_f], by simp [up_f], by simp [up_f], by simp [up_f]⟩
        · obtain ⟨a', b', e1, e2, e3, e4, e5, e6⟩ := g4 i (by omega)
          refine ⟨a', b', e1, e2, ?_, ?_, ?_, ?_⟩
          · simp only [up_f]; rw [if_neg (by omega), if_neg (by omega), if_neg (by omega)]; exact e3
          · simp only [up_f]; rw [if_neg (by omega), if_neg (by omega), if_neg (by omega)]; exact e4
          · simp only [up_f]; rw [if_neg (by omega), if_neg (by omega), if_neg (by omega), if_neg (by omega)]; exact e5
          · simp only [up_f]; rw [if_neg (by omega), if_neg (by omega), if_neg (by omega), if_neg (by omega)]; exact e6
theorem two_n : ∀ n, n ≤ 9 → (1 : Int32) <<< (nI n &&& 31) = nI (2 ^ n) := by
  intro n hn
  rcases (show n = 0 ∨ n = 1 ∨ n = 2 ∨ n = 3 ∨ n = 4 ∨ n = 5 ∨ n = 6 ∨ n = 7 ∨ n = 8 ∨ n = 9 by omega) with h | h | h | h | h | h | h | h | h | h <;> subst h <;> decide
theorem pow9 {n : Nat} (hn : n ≤ 9) : 1 ≤ 2 ^ n ∧ 2 ^ n ≤ 512 := ⟨Nat.one_le_two_pow, Nat.pow_le_pow_right (n := 2) (by omega) hn⟩
theorem hold_w {c m : HI} (hn : n ≤ 9) (h1 : c 4 0 = nI n) (h2 : m 0 1 = nI n) (p : Int32) : f_Cr_holds c p = f_La_within p 0 (f_Mo_everybody m) := by
  have hp := pow9 hn
  unfold f_Cr_holds f_La_within f_Mo_everybody f_Cr_sets
  rw [h1, h2, two_n n hn]
  have e : nI (2 ^ n) - 1 = nI (2 ^ n - 1) := pk_sub (b := 1) hp.1
  rw [e]
  by_cases q1 : p < 0
  · rw [if_pos q1, if_pos q1]
  · rw [if_neg q1, if_neg q1]
    have h3 : nI (2 ^ n) ≤ p ↔ nI (2 ^ n - 1) < p := by
      rw [fa_le, fa_lt, nI_toInt (by omega), nI_toInt (by omega)]
      omega
    by_cases q2 : nI (2 ^ n) ≤ p
    · rw [if_pos q2, if_pos (h3.mp q2)]
    · rw [if_neg q2, if_neg (fun z => q2 (h3.mpr z))]
theorem hold_1 {c : HI} (hn : n ≤ 9) (h1 : c 4 0 = nI n) {p : Int32} (h : ¬ f_Cr_holds c p = 0) : ∃ s, s < 2 ^ n ∧ p = nI s := by
  have hp := pow9 hn
  have e := hold_w (m := fun _ _ => nI n) hn h1 rfl p
  rw [e] at h
  have h2 := wi_1 h
  rw [show f_Mo_everybody (fun _ _ => nI n) = nI (2 ^ n - 1) by unfold f_Mo_everybody; rw [two_n n hn]; exact pk_sub (b := 1) hp.1] at h2
  obtain ⟨s, -, hs, e⟩ := nI_rng (lo := 0) h2.1 h2.2 (by omega) (by omega)
  exact ⟨s, by omega, e⟩
theorem op_weighed (h : RLt k n Pm B V hc hm) (p a v : Int32) : ∃ r hc' hm', f_La_weighed hc p a v = some (r, hc') ∧ f_Mo_weighed hm p a v = some (r, hm') ∧ RLt (k + 1) n Pm B V hc' hm' := by
  obtain ⟨h1, h2, h3, h4, ⟨q, g1, g2, g3, g4⟩, h6⟩ := RQ.mono h.1 (Nat.le_succ k)
  have g2 : hc 34 1 = nI q := g2
  have g3 : hm 0 39 = nI q := g3
  obtain ⟨hn, f1, f2, f3⟩ := id h2
  unfold f_La_weighed f_Mo_weighed f_Sc_hear
  rw [mo_areFolk, mo_isHeavy, in_wi, ← hold_w (c := hc) (m := rh_up hm 0 9 0) hn f1 f2 p, g2, g3]
  simp only [Option.bind_some]
  by_cases q1 : f_Cr_holds hc p = 0
  · rw [if_pos q1, if_pos q1]
    exact ⟨_, _, _, rfl, rfl, h.thr 0⟩
  · rw [if_neg q1, if_neg q1]
    by_cases q2 : f_La_within a 0 99 = 0
    · rw [if_pos q2, if_pos q2]
      exact ⟨_, _, _, rfl, rfl, h.thr 0⟩
    · rw [if_neg q2, if_neg q2]
      by_cases q3 : f_La_within v 0 9999 = 0
      · rw [if_pos q3, if_pos q3]
        exact ⟨_, _, _, rfl, rfl, h.thr 0⟩
      · rw [if_neg q3, if_neg q3]
        by_cases q4 : nI q = 10
        · rw [if_pos q4, if_pos q4]
          exact ⟨_, _, _, rfl, rfl, h.thr 0⟩
        · rw [if_neg q4, if_neg q4]
          have hq : q < 10 := by
            rcases Nat.lt_or_ge q 10 with hq | hq
            · exact hq
            · exact absurd (by rw [show q = 10 by omega]; rfl) q4
          obtain ⟨s, hs, rfl⟩ := hold_1 hn f1 q1
          obtain ⟨a, -, ha, rfl⟩ := nI_rng (lo := 0) (hi := 99) (wi_1 q2).1 (wi_1 q2).2 (by omega) (by omega)
          obtain ⟨b, -, hb, rfl⟩ := nI_rng (lo := 0) (hi := 9999) (wi_1 q3).1 (wi_1 q3).2 (by omega) (by omega)
          have e1 : (3 : Int32) * nI q = nI (3 * q) := pk_mul 3 q
          have e2 : nI (3 * q) + 1 = nI (3 * q + 1) := nI_1 (3 * q)
          have e4 : nI (3 * q) + 2 = nI (3 * q + 2) := nI_add (3 * q) 2
          have e3 : nI q + 1 = nI (q + 1) := nI_1 q
          have gq := gd_nI (i := q) (N := 10) hq (by omega)
          rw [e1, e2, e3, e4, rg_t gq, rg_t gq, rg_t gq, rg_t (gd_nI (i := 3 * q) (N := 30) (by omega) (by omega)), rg_t (gd_nI (i := 3 * q + 1) (N := 30) (by omega) (by omega)), rg_t (gd_nI (i := 3 * q + 2) (N := 30) (by omega) (by omega)), nI_clamp (by omega), nI_clamp (by omega), nI_clamp (by omega), nI_clamp (by omega)]
          refine ⟨_, _, _, rfl, rfl, ⟨h1, h2, h3, h4, ⟨q + 1, by omega, rfl, rfl, fun i hi => ?_⟩, h6⟩, h.2.kept rfl (fun _ => rfl) rfl (fun _ => rfl)⟩
          generalize hC : rh_up (rh_up (rh_up (rh_up hc 35 q (nI s)) 36 q (nI a)) 37 q (nI b)) 34 1 (nI (q + 1)) = C
          generalize hM : rh_up (rh_up (rh_up (rh_up (rh_up hm 0 9 0) 23 (3 * q) (nI s)) 23 (3 * q + 1) (nI a)) 23 (3 * q + 2) (nI b)) 0 39 (nI (q + 1)) = M
          show ∃ s a v, s < 2 ^ n ∧ a ≤ 99 ∧ v ≤ 9999 ∧ C 35 i = nI s ∧ C 36 i = nI a ∧ C 37 i = nI v ∧ M 23 (3 * i) = nI s ∧ M 23 (3 * i + 1) = nI a ∧ M 23 (3 * i + 2) = nI v
          subst hC; subst hM
          by_cases hi2 : i = q
          · subst hi2
            exact ⟨s, a, b, hs, ha, hb, by simp [up_f], by simp [up_f], by simp [up_f], by simp [up_f], by simp [up_f], by simp [up_f]⟩
          · obtain ⟨s', a', b', e1, e2, e3, e4, e5, e6, e7, e8, e9⟩ := g4 i (by omega)
            have c1 : ∀ o, o = 35 ∨ o = 36 ∨ o = 37 → rh_up (rh_up (rh_up (rh_up hc 35 q (nI s)) 36 q (nI a)) 37 q (nI b)) 34 1 (nI (q + 1)) o i = hc o i := by
              intro o ho
              simp only [up_f]
              rw [if_neg (by omega), if_neg (by omega), if_neg (by omega), if_neg (by omega)]
            have c2 : ∀ j, j < 3 → rh_up (rh_up (rh_up (rh_up (rh_up hm 0 9 0) 23 (3 * q) (nI s)) 23 (3 * q + 1) (nI a)) 23 (3 * q + 2) (nI b)) 0 39 (nI (q + 1)) 23 (3 * i + j) = hm 23 (3 * i + j) := by
              intro j hj
              simp only [up_f]
              rw [if_neg (by omega), if_neg (by omega), if_neg (by omega), if_neg (by omega), if_neg (by omega)]
            exact ⟨s', a', b', e1, e2, e3, (c1 35 (by omega)).trans e4, (c1 36 (by omega)).trans e5, (c1 37 (by omega)).trans e6, (c2 0 (by omega)).trans e7, (c2 1 (by omega)).trans e8, (c2 2 (by omega)).trans e9⟩
end OPS1
