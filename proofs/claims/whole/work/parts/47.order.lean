/-! order: the least load, by sets and by going through all orders -/
def mnL (p : Nat → Bool) (g : Nat → Nat) : Nat → Nat
  | 0 => 1000000000
  | i + 1 => if p i = true then (if g i < mnL p g i then g i else mnL p g i) else mnL p g i
theorem mnL_le {p : Nat → Bool} {g : Nat → Nat} : ∀ {n i : Nat}, i < n → p i = true → mnL p g n ≤ g i
  | 0, i, h, _ => by omega
  | n + 1, i, h, hp => by
    unfold mnL
    rcases (show i < n ∨ i = n by omega) with z | z
    · have := mnL_le (p := p) (g := g) z hp
      split
      · split <;> omega
      · exact this
    · subst z
      rw [if_pos hp]
      split <;> omega
theorem mnL_in {p : Nat → Bool} {g : Nat → Nat} (hg : ∀ i, p i = true → g i < 1000000000) : ∀ {n : Nat}, (∃ i, i < n ∧ p i = true) → ∃ i, i < n ∧ p i = true ∧ mnL p g n = g i
  | 0, ⟨i, h, _⟩ => by omega
  | n + 1, ⟨i, h, hp⟩ => by
    unfold mnL
    by_cases hn : p n = true
    · rw [if_pos hn]
      by_cases hl : g n < mnL p g n
      · rw [if_pos hl]; exact ⟨n, by omega, hn, rfl⟩
      · rw [if_neg hl]
        by_cases he : ∃ i, i < n ∧ p i = true
        · obtain ⟨j, h1, h2, h3⟩ := mnL_in hg he
          exact ⟨j, by omega, h2, h3⟩
        · exfalso
          have : mnL p g n = 1000000000 := by
            have hh : ∀ k, k ≤ n → mnL p g k = 1000000000 := by
              intro k
              induction k with
              | zero => intro _; rfl
              | succ k ih =>
                intro hk
                unfold mnL
                rw [if_neg (fun z => he ⟨k, by omega, z⟩)]
                exact ih (by omega)
            exact hh n (Nat.le_refl n)
          have := hg n hn
          omega
    · rw [if_neg hn]
      have hi : i < n := by
        rcases (show i < n ∨ i = n by omega) with z | z
        · exact z
        · subst z; exact absurd hp hn
      obtain ⟨j, h1, h2, h3⟩ := mnL_in hg ⟨i, hi, hp⟩
      exact ⟨j, by omega, h2, h3⟩
def LO (n N : Nat) (W : Nat → Nat → Nat) : Nat → Nat → Nat
  | 0, _ => 0
  | e + 1, S => mnL (fun i => S.testBit i) (fun i => W i (N - (e + 1)) + LO n N W e (nand S (2 ^ i))) n
def FA (n N : Nat) (W : Nat → Nat → Nat) (e S : Nat) : Nat := fa_first (fun i => S.testBit i && decide (W i (N - (e + 1)) + LO n N W e (nand S (2 ^ i)) = LO n N W (e + 1) S)) n
def LX (n N : Nat) (W : Nat → Nat → Nat) : Nat → Nat → Nat → Nat
  | 0, _, _ => 0
  | e + 1, S, 0 => FA n N W e S
  | e + 1, S, j + 1 => LX n N W e (nand S (2 ^ FA n N W e S)) j
theorem nd_bit {S i j : Nat} (hS : S < 2 ^ 31) : (nand S (2 ^ i)).testBit j = if j = i then false else S.testBit j := by
  rw [nand_bit S (2 ^ i) hS, Nat.testBit_two_pow]
  by_cases h : j = i
  · subst h; simp
  · rw [if_neg h]
    have : decide (i = j) = false := decide_eq_false (fun z => h z.symm)
    rw [this]; simp
theorem nd_pc {n S i : Nat} (hn : n ≤ 9) (hS : S < 2 ^ n) (hb : S.testBit i = true) : i < n ∧ pc (nand S (2 ^ i)) + 1 = pc S ∧ nand S (2 ^ i) < S := by
  have hp9 := pow9 hn
  have hi : i < n := by
    rcases Nat.lt_or_ge i n with h | h
    · exact h
    · rw [Nat.testBit_lt_two_pow (Nat.lt_of_lt_of_le hS (Nat.pow_le_pow_right (by omega) h))] at hb; cases hb
  have h1 := nand_le S (2 ^ i)
  have e1 := (pc_all S (by omega)).2.2.1
  have e2 := (pc_all (nand S (2 ^ i)) (by omega)).2.2.1
  have hc := fb_ct_upd (fun j => S.testBit j) false (i := i) (n := 9) (by omega)
  rw [fb_ct_cong (q := fun j => (nand S (2 ^ i)).testBit j) (fun k _ => (nd_bit (by omega)).symm)] at hc
  simp only [hb] at hc
  refine ⟨hi, by rw [e1, e2]; simpa using hc, ?_⟩
  rcases Nat.lt_or_ge (nand S (2 ^ i)) S with h | h
  · exact h
  · have : nand S (2 ^ i) = S := by omega
    have h2 := nd_bit (S := S) (i := i) (j := i) (by omega)
    rw [this, if_pos rfl, hb] at h2
    cases h2
theorem pc_ex {n S : Nat} (hn : n ≤ 9) (hS : S < 2 ^ n) (h : 0 < pc S) : ∃ i, i < n ∧ S.testBit i = true := by
  have hp9 := pow9 hn
  rw [(pc_all S (by omega)).2.2.1, fb_ct_pos] at h
  obtain ⟨i, _, hb⟩ := h
  exact ⟨i, (nd_pc hn hS hb).1, hb⟩
section LOS
variable {n N : Nat} {W : Nat → Nat → Nat}
theorem LO_le (hn : n ≤ 9) (hW : ∀ i b, i < n → W i (N - (b + 1)) ≤ 9999) : ∀ (e S : Nat), S < 2 ^ n → pc S = e → LO n N W e S ≤ e * 9999
  | 0, _, _, _ => by unfold LO; omega
  | e + 1, S, hS, he => by
    obtain ⟨i, hi, hb⟩ := pc_ex hn hS (by omega)
    have h2 := nd_pc hn hS hb
    have ih := LO_le hn hW e (nand S (2 ^ i)) (by omega) (by omega)
    have h3 := mnL_le (p := fun i => S.testBit i) (g := fun i => W i (N - (e + 1)) + LO n N W e (nand S (2 ^ i))) hi hb
    have h4 := hW i e hi
    have h5 : LO n N W (e + 1) S ≤ W i (N - (e + 1)) + LO n N W e (nand S (2 ^ i)) := h3
    omega
theorem LO_min {e S i : Nat} (hi : i < n) (hb : S.testBit i = true) : LO n N W (e + 1) S ≤ W i (N - (e + 1)) + LO n N W e (nand S (2 ^ i)) := mnL_le (p := fun i => S.testBit i) (g := fun i => W i (N - (e + 1)) + LO n N W e (nand S (2 ^ i))) hi hb
theorem FA_is (hn : n ≤ 9) (hW : ∀ i b, i < n → W i (N - (b + 1)) ≤ 9999) {e S : Nat} (hS : S < 2 ^ n) (he : pc S = e + 1) : FA n N W e S < n ∧ S.testBit (FA n N W e S) = true ∧ W (FA n N W e S) (N - (e + 1)) + LO n N W e (nand S (2 ^ FA n N W e S)) = LO n N W (e + 1) S ∧ ∀ i, i < FA n N W e S → S.testBit i = true → LO n N W (e + 1) S < W i (N - (e + 1)) + LO n N W e (nand S (2 ^ i)) := by
  have he9 : e + 1 ≤ 9 := by
    have hp9 := pow9 hn
    rw [← he]; exact (pc_all S (by omega)).2.1
  obtain ⟨j, hj, hb, hm⟩ := mnL_in (p := fun i => S.testBit i) (g := fun i => W i (N - (e + 1)) + LO n N W e (nand S (2 ^ i))) (fun i hb => by
    have h2 := nd_pc hn hS hb
    have h3 := LO_le (N := N) hn hW e (nand S (2 ^ i)) (by omega) (by omega)
    have h4 := hW i e h2.1
    have : e * 9999 ≤ 8 * 9999 := Nat.mul_le_mul_right _ (by omega)
    show W i (N - (e + 1)) + _ < _
    omega) (n := n) (pc_ex hn hS (by omega))
  have hlt : FA n N W e S < n := by
    rcases Nat.lt_or_ge (FA n N W e S) n with h | h
    · exact h
    · have := fa_first_no (fun i => S.testBit i && decide (W i (N - (e + 1)) + LO n N W e (nand S (2 ^ i)) = LO n N W (e + 1) S)) n j (Nat.lt_of_lt_of_le hj h)
      rw [Bool.and_eq_false_iff] at this
      rcases this with z | z
      · rw [show S.testBit j = true from hb] at z; cases z
      · exact absurd (show W j (N - (e + 1)) + LO n N W e (nand S (2 ^ j)) = LO n N W (e + 1) S from hm.symm) (of_decide_eq_false z)
  have hy := fa_first_yes (fun i => S.testBit i && decide (W i (N - (e + 1)) + LO n N W e (nand S (2 ^ i)) = LO n N W (e + 1) S)) n hlt
  rw [Bool.and_eq_true] at hy
  refine ⟨hlt, hy.1, of_decide_eq_true hy.2, fun i hi hb2 => ?_⟩
  have hno := fa_first_no (fun i => S.testBit i && decide (W i (N - (e + 1)) + LO n N W e (nand S (2 ^ i)) = LO n N W (e + 1) S)) n i hi
  have hne : ¬ W i (N - (e + 1)) + LO n N W e (nand S (2 ^ i)) = LO n N W (e + 1) S := by
    intro z
    rw [Bool.and_eq_false_iff] at hno
    rcases hno with w | w
    · rw [hb2] at w; cases w
    · exact of_decide_eq_false w z
  have := LO_min (N := N) (W := W) (e := e) (S := S) (i := i) (n := n) (by omega) hb2
  omega
end LOS
