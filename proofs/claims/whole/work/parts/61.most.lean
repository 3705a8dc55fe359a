/-! most: sets of TASKS done at once -/
def DJ (r : Nat) (ft : Nat → Nat → Bool) (G S : Nat) : Prop := ∃ f : Nat → Nat, (∀ t, G.testBit t = true → t < r ∧ f t ≠ 0 ∧ SUB (f t) S ∧ ft t (f t) = true) ∧ ∀ t u j, t ≠ u → G.testBit t = true → G.testBit u = true → (f t).testBit j = true → (f u).testBit j = false
theorem flipb (n j i : Nat) : (n ^^^ 2 ^ j).testBit i = if i = j then !n.testBit i else n.testBit i := by
  rw [fb_bit_flip]
  by_cases h : i = j
  · rw [if_pos h, decide_eq_true h, Bool.xor_true]
  · rw [if_neg h, decide_eq_false h, Bool.xor_false]
theorem setb (n j i : Nat) : (n ||| 2 ^ j).testBit i = if i = j then true else n.testBit i := by
  rw [fb_bit_set]
  by_cases h : i = j
  · rw [if_pos h, decide_eq_true h, Bool.or_true]
  · rw [if_neg h, decide_eq_false h, Bool.or_false]
theorem SUB.tr {a b c : Nat} (h : SUB a b) (g : SUB b c) : SUB a c := fun j hj => g j (h j hj)
theorem SUB.iff {a b : Nat} : SUB a b ↔ a &&& b = a := by
  constructor
  · intro h
    apply Nat.eq_of_testBit_eq
    intro j
    rw [Nat.testBit_and]
    cases z : a.testBit j with
    | false => rfl
    | true => rw [h j z]; rfl
  · intro h j hj
    rw [← h, Nat.testBit_and, Bool.and_eq_true] at hj
    exact hj.2
theorem SUB.le {a b : Nat} (h : SUB a b) : a ≤ b := by
  have := SUB.iff.mp h
  rw [← this]; exact Nat.and_le_right
theorem SUB.flip {S i : Nat} (h : S.testBit i = true) : SUB (S ^^^ 2 ^ i) S := fun j hj => by
  rw [flipb] at hj
  by_cases z : j = i
  · subst z; exact h
  · rw [if_neg z] at hj; exact hj
section DJS
variable {r : Nat} {ft : Nat → Nat → Bool} {G S : Nat}
theorem DJ.mono {S' : Nat} (h : DJ r ft G S) (hs : SUB S S') : DJ r ft G S' := by
  obtain ⟨f, h1, h2⟩ := h
  exact ⟨f, fun t ht => ⟨(h1 t ht).1, (h1 t ht).2.1, (h1 t ht).2.2.1.tr hs, (h1 t ht).2.2.2⟩, h2⟩
theorem DJ_step {i : Nat} (hi : S.testBit i = true) : DJ r ft G S ↔ DJ r ft G (S ^^^ 2 ^ i) ∨ ∃ P t, SUB P (S ^^^ 2 ^ i) ∧ t < r ∧ ft t (P ||| 2 ^ i) = true ∧ G.testBit t = true ∧ DJ r ft (G ^^^ 2 ^ t) ((S ^^^ 2 ^ i) ^^^ P) := by
  constructor
  · rintro ⟨f, h1, h2⟩
    by_cases hc : ∃ t, G.testBit t = true ∧ (f t).testBit i = true
    · obtain ⟨t, ht, hti⟩ := hc
      obtain ⟨a1, a2, a3, a4⟩ := h1 t ht
      have hP : (f t ^^^ 2 ^ i) ||| 2 ^ i = f t := by
        apply Nat.eq_of_testBit_eq
        intro j
        rw [setb]
        by_cases z : j = i
        · rw [if_pos z, z, hti]
        · rw [if_neg z, flipb, if_neg z]
      refine Or.inr ⟨f t ^^^ 2 ^ i, t, fun j hj => ?_, a1, by rw [hP]; exact a4, ht, f, fun u hu => ?_, fun u v j huv hu hv => ?_⟩
      · rw [flipb] at hj ⊢
        by_cases z : j = i
        · subst z; rw [if_pos rfl, hti] at hj; cases hj
        · rw [if_neg z] at hj ⊢; exact a3 j hj
      · rw [flipb] at hu
        by_cases z : u = t
        · subst z; rw [if_pos rfl, ht] at hu; cases hu
        · rw [if_neg z] at hu
          obtain ⟨b1, b2, b3, b4⟩ := h1 u hu
          refine ⟨b1, b2, fun j hj => ?_, b4⟩
          have hd := h2 u t j z hu ht hj
          have hji : j ≠ i := fun w => by rw [w, hti] at hd; cases hd
          rw [Nat.testBit_xor, flipb, if_neg hji, flipb, if_neg hji, b3 j hj, hd]; rfl
      · rw [flipb] at hu hv
        by_cases z : u = t
        · subst z; rw [if_pos rfl, ht] at hu; cases hu
        · rw [if_neg z] at hu
          by_cases w : v = t
          · subst w; rw [if_pos rfl, ht] at hv; cases hv
          · rw [if_neg w] at hv
            exact h2 u v j huv hu hv
    · refine Or.inl ⟨f, fun t ht => ?_, h2⟩
      obtain ⟨a1, a2, a3, a4⟩ := h1 t ht
      refine ⟨a1, a2, fun j hj => ?_, a4⟩
      have hji : j ≠ i := fun w => hc ⟨t, ht, by rw [← w]; exact hj⟩
      rw [flipb, if_neg hji]; exact a3 j hj
  · rintro (h | ⟨P, t, hP, ht, hft, hG, f, h1, h2⟩)
    · exact h.mono (SUB.flip hi)
    · have hPi : P.testBit i = false := by
        cases z : P.testBit i with
        | false => rfl
        | true =>
          have := hP i z
          rw [flipb, if_pos rfl, hi] at this; cases this
      have hPS : SUB (P ||| 2 ^ i) S := fun j hj => by
        rw [setb] at hj
        by_cases z : j = i
        · subst z; exact hi
        · rw [if_neg z] at hj; exact SUB.flip hi j (hP j hj)
      have hout : ∀ u, G.testBit u = true → u ≠ t → ∀ j, (f u).testBit j = true → (P ||| 2 ^ i).testBit j = false ∧ S.testBit j = true := fun u hu hut j hj => by
        have h3 := (h1 u (by rw [flipb, if_neg hut]; exact hu)).2.2.1 j hj
        rw [Nat.testBit_xor, flipb] at h3
        by_cases z : j = i
        · subst z; rw [if_pos rfl, hi, hPi] at h3; cases h3
        · rw [if_neg z] at h3
          rw [setb, if_neg z]
          cases w : P.testBit j with
          | false => rw [w, Bool.xor_false] at h3; exact ⟨rfl, h3⟩
          | true =>
            have := hP j w
            rw [flipb, if_neg z] at this
            rw [w, this] at h3; cases h3
      refine ⟨fun u => if u = t then P ||| 2 ^ i else f u, fun u hu => ?_, fun u v j huv hu hv hj => ?_⟩
      · dsimp only
        by_cases z : u = t
        · rw [if_pos z, z]
          refine ⟨ht, fun w => ?_, hPS, hft⟩
          have : (P ||| 2 ^ i).testBit i = true := by rw [setb, if_pos rfl]
          rw [w, Nat.zero_testBit] at this; cases this
        · rw [if_neg z]
          obtain ⟨b1, b2, b3, b4⟩ := h1 u (by rw [flipb, if_neg z]; exact hu)
          exact ⟨b1, b2, fun j hj => (hout u hu z j hj).2, b4⟩
      · dsimp only at hj ⊢
        by_cases z : u = t
        · have hvt : v ≠ t := fun w => huv (z.trans w.symm)
          rw [if_pos z] at hj
          rw [if_neg hvt]
          cases w : (f v).testBit j with
          | false => rfl
          | true => have := (hout v hv hvt j w).1; rw [hj] at this; cases this
        · rw [if_neg z] at hj
          by_cases w : v = t
          · rw [if_pos w]; exact (hout u hu z j hj).1
          · rw [if_neg w]
            exact h2 u v j huv (by rw [flipb, if_neg z]; exact hu) (by rw [flipb, if_neg w]; exact hv) hj
theorem DJ_0 (S : Nat) : DJ r ft 0 S := by
  refine ⟨fun _ => 0, fun t ht => ?_, fun t u j _ ht => ?_⟩
  · rw [Nat.zero_testBit] at ht; cases ht
  · rw [Nat.zero_testBit] at ht; cases ht
theorem DJ_e : DJ r ft G 0 ↔ G = 0 := by
  constructor
  · rintro ⟨f, h1, h2⟩
    apply Nat.eq_of_testBit_eq
    intro t
    rw [Nat.zero_testBit]
    cases ht : G.testBit t with
    | false => rfl
    | true =>
      obtain ⟨a1, a2, a3, a4⟩ := h1 t ht
      exact absurd (Nat.le_zero.mp a3.le) a2
  · rintro rfl; exact DJ_0 0
theorem DJ_r (h : DJ r ft G S) : G < 2 ^ r := by
  obtain ⟨f, h1, h2⟩ := h
  by_cases z : G < 2 ^ r
  · exact z
  · exfalso
    obtain ⟨i, hi, hb⟩ := Nat.exists_ge_and_testBit_of_ge_two_pow (by omega : 2 ^ r ≤ G)
    have := (h1 i hb).1
    omega
end DJS
