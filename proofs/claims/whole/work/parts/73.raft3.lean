/-! steady: the class's table of what was found behind a bell -/
def hsh (w : Int32) : Int32 := ((w * (-1640531535 : Int32)).toUInt32 >>> ((22 : Int32).toUInt32 &&& Int32.toUInt32 31)).toInt32
theorem hsh_ok (w : Int32) : ∃ s, s < 1024 ∧ hsh w = nI s := by
  unfold hsh
  generalize w * (-1640531535 : Int32) = x
  refine ⟨x.toBitVec.toNat / 2 ^ 22, ?_, ?_⟩
  · have h1 : x.toBitVec.toNat < 2 ^ 32 := x.toBitVec.isLt
    exact Nat.div_lt_of_lt_mul (by omega)
  · apply b_ext
    intro i hi
    rw [show (x.toUInt32 >>> ((22 : Int32).toUInt32 &&& Int32.toUInt32 31)).toInt32 = (x.toUInt32 >>> ((nI 22).toUInt32 &&& Int32.toUInt32 31)).toInt32 from rfl, b_ushr 22 (by omega), bt_nI _ hi, Nat.testBit_div_two_pow, Nat.add_comm]
    rfl
def hsN (w : Nat) : Nat := (hsh (nI w)).toNatClampNeg
theorem hsN_ok (w : Nat) : hsN w < 1024 ∧ hsh (nI w) = nI (hsN w) := by
  obtain ⟨s, h1, h2⟩ := hsh_ok (nI w)
  unfold hsN
  rw [h2, nI_clamp (by omega)]
  exact ⟨h1, rfl⟩
/-- the list of a bell, and the table over its first entries -/
def LST (a n b cnt : Nat) (A : Nat → CFG) (c : HI) : Prop := ∀ j, j < cnt → c 45 (500 * b + j) = nI (gam a n (A j))
def TBL (a n cnt : Nat) (A : Nat → CFG) (c : HI) : Prop := cnt ≤ 500 ∧ (∀ s, s < 1024 → c 48 s = 0 ∨ ∃ j, j < cnt ∧ c 48 s = nI (j + 1)) ∧ (∀ s s', s < 1024 → s' < 1024 → c 48 s = c 48 s' → ¬ c 48 s = 0 → s = s') ∧ ∀ j, j < cnt → ∃ d, d < 1024 ∧ c 48 ((hsN (gam a n (A j)) + d) % 1024) = nI (j + 1) ∧ ∀ e, e < d → ¬ c 48 ((hsN (gam a n (A j)) + e) % 1024) = 0
section TBS
variable {a n b cnt : Nat} {A : Nat → CFG} {X0 X : CFG} {c : HI}
theorem TBL.free (t : TBL a n cnt A c) : ∃ s, s < 1024 ∧ c 48 s = 0 := by
  obtain ⟨h1, h2, h3, h4⟩ := t
  have hd : (∃ s, s < 1024 ∧ c 48 s = 0) ∨ ∀ s, s < 1024 → ¬ c 48 s = 0 := by
    by_cases z : ∃ s, s < 1024 ∧ c 48 s = 0
    · exact Or.inl z
    · exact Or.inr (fun s hs w => z ⟨s, hs, w⟩)
  rcases hd with z | z
  · exact z
  · exfalso
    have := fb_holes 500 1024 (fun s => (c 48 s).toNatClampNeg - 1) (fun s hs => by
      rcases h2 s hs with y | ⟨j, hj, y⟩
      · exact absurd y (z s hs)
      · rw [y, nI_clamp (by omega)]; omega) (fun s s' hss hs' e => by
      rcases h2 s (by omega) with y | ⟨j, hj, y⟩
      · exact absurd y (z s (by omega))
      · rcases h2 s' hs' with y' | ⟨j', hj', y'⟩
        · exact absurd y' (z s' hs')
        · rw [y, y', nI_clamp (by omega), nI_clamp (by omega)] at e
          have : j = j' := by omega
          subst this
          have := h3 s s' (by omega) hs' (by rw [y, y']) (z s (by omega))
          omega)
    omega
theorem so_b (u1 u2 s t : Int32) (h : HI) : b_St_slotOf_11 u1 u2 h (s, t) = if (1024 : Int32) ≤ t then some (.inr (.inl s)) else rh_g (0 ≤ s.toInt ∧ s.toInt < ((1024 : Nat) : Int)) (if (h 48 s.toNatClampNeg) = 0 then some (.inr (.inr s)) else rh_g (0 ≤ (((u1 * (500 : Int32)) + (h 48 s.toNatClampNeg)) - (1 : Int32)).toInt ∧ (((u1 * (500 : Int32)) + (h 48 s.toNatClampNeg)) - (1 : Int32)).toInt < ((10500 : Nat) : Int)) (if (h 45 (((u1 * (500 : Int32)) + (h 48 s.toNatClampNeg)) - (1 : Int32)).toNatClampNeg) = u2 then some (.inr (.inr s)) else some (.inl ((s + (1 : Int32)) &&& (1023 : Int32), t + (1 : Int32))))) := rfl
theorem so_c (hn : n ≤ 9) (hb : b ≤ 20) (t : TBL a n cnt A c) (ls : LST a n b cnt A c) (hA : ∀ j, j < cnt → VX a n X0 (A j)) (hX : VX a n X0 X) : OK (f_St_slotOf c (nI b) (nI (gam a n X))) (fun x => ∃ s, s < 1024 ∧ x = nI s ∧ ((∃ j, j < cnt ∧ A j = X ∧ c 48 s = nI (j + 1)) ∨ ((∀ j, j < cnt → A j ≠ X) ∧ c 48 s = 0 ∧ ∃ d, d < 1024 ∧ s = (hsN (gam a n X) + d) % 1024 ∧ ∀ e, e < d → ¬ c 48 ((hsN (gam a n X) + e) % 1024) = 0))) := by
  obtain ⟨z, hz1, hz2⟩ := t.free
  obtain ⟨t1, t2, t3, t4⟩ := t
  obtain ⟨hH, hH2⟩ := hsN_ok (gam a n X)
  have hgX := gam_lt (a := a) hn hX.1
  generalize hHH : hsN (gam a n X) = H at hH hH2
  unfold f_St_slotOf
  rw [show ((nI (gam a n X) * (-1640531535 : Int32)).toUInt32 >>> ((22 : Int32).toUInt32 &&& Int32.toUInt32 31)).toInt32 = nI H from hH2]
  have hT : (H + (z + 1024 - H) % 1024) % 1024 = z := by omega
  generalize (z + 1024 - H) % 1024 = T at hT
  have hT2 : ∃ T, T < 1024 ∧ (H + T) % 1024 = z := ⟨(z + 1024 - H) % 1024, by omega, by omega⟩
  clear hT
  obtain ⟨T, hTl, hT⟩ := hT2
  refine OK.bind (P := fun x => Sum.elim (fun _ : Int32 => False) (fun x : Int32 => ∃ s, s < 1024 ∧ x = nI s ∧ ((∃ j, j < cnt ∧ A j = X ∧ c 48 s = nI (j + 1)) ∨ ((∀ j, j < cnt → A j ≠ X) ∧ c 48 s = 0 ∧ ∃ d, d < 1024 ∧ s = (H + d) % 1024 ∧ ∀ e, e < d → ¬ c 48 ((H + e) % 1024) = 0))) x) (OK.loop _ (fun i x => i ≤ T ∧ x.1 = nI ((H + i) % 1024) ∧ x.2 = nI i ∧ ∀ e, e < i → ¬ c 48 ((H + e) % 1024) = 0 ∧ ∀ j, j < cnt → A j = X → ¬ c 48 ((H + e) % 1024) = nI (j + 1)) _ T (by omega) ?_ ⟨by omega, by rw [Nat.add_zero, Nat.mod_eq_of_lt hH], rfl, fun e he => by omega⟩) (fun x hx => ?_)
  · rintro i ⟨s, v⟩ - ⟨hi, rfl, rfl, hB⟩
    have hm : (H + i) % 1024 < 1024 := Nat.mod_lt _ (by omega)
    rw [so_b, if_neg (show ¬ (1024 : Int32) ≤ nI i from nI_ge (b := 1024) (by omega) (by omega)), nI_clamp (by omega)]
    refine OK.g (gd_nI hm (by omega)) ?_
    rcases t2 _ hm with y | ⟨j, hj, y⟩
    · rw [if_pos y]
      refine OK.ret ⟨_, hm, rfl, Or.inr ⟨fun j hj e => ?_, y, i, by omega, rfl, fun e he => (hB e he).1⟩⟩
      obtain ⟨d, d1, d2, d3⟩ := t4 j hj
      rw [e, hHH] at d2 d3
      rcases Nat.lt_trichotomy d i with q | q | q
      · exact (hB d q).2 j hj e d2
      · subst q
        rw [y] at d2
        exact nz0 (show j + 1 ≠ 0 by omega) (by omega) d2.symm
      · exact d3 i q y
    · rw [if_neg (by rw [y]; exact nz0 (by omega) (by omega)), y, show nI b * 500 = nI (b * 500) from pk_mul b 500, nI_add, show nI (b * 500 + (j + 1)) - 1 = nI (500 * b + j) from (pk_sub (a := b * 500 + (j + 1)) (b := 1) (by omega)).trans (by congr 1; omega), nI_clamp (by omega), ls j hj]
      refine OK.g (gd_nI (by omega) (by omega)) ?_
      have hgA := gam_lt (a := a) hn (hA j hj).1
      by_cases e : A j = X
      · rw [if_pos (by rw [e])]
        exact OK.ret ⟨_, hm, rfl, Or.inl ⟨j, hj, e, y⟩⟩
      · rw [if_neg (fun q => e (gam_inj (hA j hj) hX ((nI_eq (by omega) (by omega)).mp q)))]
        have hne : i ≠ T := fun q => by
          rw [q, hT] at y
          rw [hz2] at y
          exact nz0 (show j + 1 ≠ 0 by omega) (by omega) y.symm
        refine OK.ret ⟨by omega, by omega, ?_, nI_1 i, fun e' he' => ?_⟩
        · show (nI ((H + i) % 1024) + 1) &&& 1023 = _
          rw [nI_1, show nI ((H + i) % 1024 + 1) &&& 1023 = nI (((H + i) % 1024 + 1) % 1024) from fa_mask _ 10]
          congr 1; omega
        · rcases (show e' < i ∨ e' = i by omega) with q | q
          · exact hB e' q
          · subst q
            refine ⟨by rw [y]; exact nz0 (by omega) (by omega), fun j' hj' e2 => ?_⟩
            rw [y]
            intro q2
            have := (nI_eq (by omega) (by omega)).mp q2
            have : j = j' := by omega
            subst this; exact e e2
  · cases x with
    | inl u => exact hx.elim
    | inr v => exact OK.ret hx
/-- one entry more -/
theorem TBL.put {c' : HI} {s d : Nat} (t : TBL a n cnt A c) (hc : cnt < 500) (hs : s = (hsN (gam a n (A cnt)) + d) % 1024) (hd : d < 1024) (h0 : c 48 s = 0) (hpre : ∀ e, e < d → ¬ c 48 ((hsN (gam a n (A cnt)) + e) % 1024) = 0) (h1 : c' 48 s = nI (cnt + 1)) (h2 : ∀ s', s' ≠ s → c' 48 s' = c 48 s') : TBL a n (cnt + 1) A c' := by
  obtain ⟨t1, t2, t3, t4⟩ := t
  have hs2 : s < 1024 := by rw [hs]; exact Nat.mod_lt _ (by omega)
  have nz : ∀ s', ¬ c 48 s' = 0 → c' 48 s' = c 48 s' := fun s' h => h2 s' (fun z => h (by rw [z]; exact h0))
  refine ⟨by omega, fun s' hs' => ?_, fun s1 s2 hs1 hs2' e hne => ?_, fun j hj => ?_⟩
  · by_cases z : s' = s
    · exact Or.inr ⟨cnt, by omega, by rw [z, h1]⟩
    · rw [h2 s' z]
      rcases t2 s' hs' with y | ⟨j, hj, y⟩
      · exact Or.inl y
      · exact Or.inr ⟨j, by omega, y⟩
  · by_cases z1 : s1 = s
    · by_cases z2 : s2 = s
      · rw [z1, z2]
      · exfalso
        rw [z1, h1, h2 s2 z2] at e
        rcases t2 s2 hs2' with y | ⟨j, hj, y⟩
        · rw [y] at e; exact nz0 (show cnt + 1 ≠ 0 by omega) (by omega) e
        · rw [y] at e
          have := (nI_eq (by omega) (by omega)).mp e
          omega
    · by_cases z2 : s2 = s
      · exfalso
        rw [z2, h1, h2 s1 z1] at e
        rcases t2 s1 hs1 with y | ⟨j, hj, y⟩
        · rw [y] at e; exact nz0 (show cnt + 1 ≠ 0 by omega) (by omega) e.symm
        · rw [y] at e
          have := (nI_eq (by omega) (by omega)).mp e
          omega
      · rw [h2 s1 z1, h2 s2 z2] at e
        rw [h2 s1 z1] at hne
        exact t3 s1 s2 hs1 hs2' e hne
  · rcases (show j < cnt ∨ j = cnt by omega) with y | y
    · obtain ⟨d', d1, d2, d3⟩ := t4 j y
      refine ⟨d', d1, ?_, fun e he => ?_⟩
      · rw [nz _ (by rw [d2]; exact nz0 (by omega) (by omega))]; exact d2
      · rw [nz _ (d3 e he)]; exact d3 e he
    · subst y
      refine ⟨d, hd, by rw [← hs]; exact h1, fun e he => ?_⟩
      rw [nz _ (hpre e he)]; exact hpre e he
end TBS
/-- a list without a double, of just those that P names -/
def SETL (cnt : Nat) (A : Nat → CFG) (P : CFG → Prop) : Prop := (∀ i j, i < j → j < cnt → A i ≠ A j) ∧ ∀ X, (∃ j, j < cnt ∧ A j = X) ↔ P X
def snocA (A : Nat → CFG) (cnt : Nat) (X : CFG) : Nat → CFG := fun j => if j = cnt then X else A j
theorem SETL.snoc {cnt : Nat} {A : Nat → CFG} {P : CFG → Prop} (h : SETL cnt A P) {X : CFG} (hX : ∀ j, j < cnt → A j ≠ X) : SETL (cnt + 1) (snocA A cnt X) (fun Y => P Y ∨ Y = X) := by
  refine ⟨fun i j hij hj => ?_, fun Y => ?_⟩
  · show (if i = cnt then X else A i) ≠ (if j = cnt then X else A j)
    rw [if_neg (by omega)]
    by_cases z : j = cnt
    · rw [if_pos z]; exact hX i (by omega)
    · rw [if_neg z]; exact h.1 i j hij (by omega)
  · dsimp only
    rw [← h.2 Y]
    constructor
    · rintro ⟨j, hj, e⟩
      have e : (if j = cnt then X else A j) = Y := e
      by_cases z : j = cnt
      · rw [if_pos z] at e; exact Or.inr e.symm
      · rw [if_neg z] at e; exact Or.inl ⟨j, by omega, e⟩
    · rintro (⟨j, hj, e⟩ | rfl)
      · exact ⟨j, by omega, by show (if j = cnt then X else A j) = Y; rw [if_neg (by omega)]; exact e⟩
      · exact ⟨cnt, by omega, if_pos rfl⟩
theorem SETL.iff {cnt : Nat} {A : Nat → CFG} {P Q : CFG → Prop} (h : SETL cnt A P) (e : ∀ X, P X ↔ Q X) : SETL cnt A Q := ⟨h.1, fun X => (h.2 X).trans (e X)⟩
/-- more than 500 -/
def OVF (P : CFG → Prop) : Prop := ∃ E : Nat → CFG, (∀ i j, i < j → j < 501 → E i ≠ E j) ∧ ∀ i, i < 501 → P (E i)
theorem SETL.ovf {A : Nat → CFG} {P Q : CFG → Prop} (h : SETL 500 A P) {X : CFG} (hX : ¬ P X) (hQ : ∀ Y, P Y ∨ Y = X → Q Y) : OVF Q := by
  refine ⟨snocA A 500 X, (h.snoc (fun j hj e => hX ((h.2 X).mp ⟨j, hj, e⟩))).1, fun i hi => hQ _ ?_⟩
  exact ((h.snoc (fun j hj e => hX ((h.2 X).mp ⟨j, hj, e⟩))).2 _).mp ⟨i, hi, rfl⟩
theorem OVF.no {cnt : Nat} {A : Nat → CFG} {P : CFG → Prop} (h : SETL cnt A P) (hc : cnt ≤ 500) (o : OVF P) : False := by
  obtain ⟨E, h1, h2⟩ := o
  have hx : ∀ i, ∃ j, i < 501 → j < cnt ∧ A j = E i := fun i => by
    by_cases hi : i < 501
    · obtain ⟨j, hj, e⟩ := (h.2 (E i)).mpr (h2 i hi)
      exact ⟨j, fun _ => ⟨hj, e⟩⟩
    · exact ⟨0, fun z => absurd z hi⟩
  have hf := fun i => Classical.choose_spec (hx i)
  obtain ⟨i, j, hij, hj, e⟩ := fb_twice (m := cnt) (n := 501) (f := fun i => Classical.choose (hx i)) (fun i hi => (hf i hi).1) (by omega)
  have a1 := (hf i (by omega)).2
  have a2 := (hf j hj).2
  rw [e, a2] at a1
  exact h1 i j hij hj a1.symm
