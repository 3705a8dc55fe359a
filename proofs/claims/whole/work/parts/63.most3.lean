/-! most: the side that goes by sets of TASKS, and both -/
def DX (r : Nat) (ft : Nat → Nat → Bool) (G S : Nat) : Prop := ∃ f : Nat → Nat, (∀ t, G.testBit t = true → t < r ∧ f t ≠ 0 ∧ SUB (f t) S ∧ ft t (f t) = true) ∧ (∀ t u j, t ≠ u → G.testBit t = true → G.testBit u = true → (f t).testBit j = true → (f u).testBit j = false) ∧ ∀ j, S.testBit j = true → ∃ t, G.testBit t = true ∧ (f t).testBit j = true
section DXS
variable {r : Nat} {ft : Nat → Nat → Bool} {G S : Nat}
theorem DX_0 : DX r ft 0 S ↔ S = 0 := by
  constructor
  · rintro ⟨f, h1, h2, h3⟩
    apply Nat.eq_of_testBit_eq
    intro j
    rw [Nat.zero_testBit]
    cases z : S.testBit j with
    | false => rfl
    | true =>
      obtain ⟨t, ht, _⟩ := h3 j z
      rw [Nat.zero_testBit] at ht; cases ht
  · rintro rfl
    refine ⟨fun _ => 0, fun t ht => ?_, fun t u j _ ht => ?_, fun j hj => ?_⟩
    · rw [Nat.zero_testBit] at ht; cases ht
    · rw [Nat.zero_testBit] at ht; cases ht
    · rw [Nat.zero_testBit] at hj; cases hj
theorem DX_step {t : Nat} (ht : G.testBit t = true) (htr : t < r) : DX r ft G S ↔ ∃ s w, s ≠ 0 ∧ ft t s = true ∧ w &&& s = 0 ∧ DX r ft (G ^^^ 2 ^ t) w ∧ S = w ||| s := by
  constructor
  · rintro ⟨f, h1, h2, h3⟩
    obtain ⟨a1, a2, a3, a4⟩ := h1 t ht
    have hx : ∀ j, (S ^^^ f t).testBit j = (S.testBit j && !(f t).testBit j) := fun j => by
      rw [Nat.testBit_xor]
      cases z : (f t).testBit j with
      | false => cases S.testBit j <;> rfl
      | true => rw [a3 j z]; rfl
    refine ⟨f t, S ^^^ f t, a2, a4, ?_, ⟨f, fun u hu => ?_, fun u v j huv hu hv hj => ?_, fun j hj => ?_⟩, ?_⟩
    · apply Nat.eq_of_testBit_eq
      intro j
      rw [Nat.testBit_and, hx, Nat.zero_testBit]
      cases (f t).testBit j <;> simp
    · rw [flipb] at hu
      by_cases z : u = t
      · subst z; rw [if_pos rfl, ht] at hu; cases hu
      · rw [if_neg z] at hu
        obtain ⟨b1, b2, b3, b4⟩ := h1 u hu
        refine ⟨b1, b2, fun j hj => ?_, b4⟩
        rw [hx, b3 j hj, h2 u t j z hu ht hj]; rfl
    · rw [flipb] at hu hv
      by_cases z : u = t
      · subst z; rw [if_pos rfl, ht] at hu; cases hu
      · rw [if_neg z] at hu
        by_cases w : v = t
        · subst w; rw [if_pos rfl, ht] at hv; cases hv
        · rw [if_neg w] at hv
          exact h2 u v j huv hu hv hj
    · rw [hx, Bool.and_eq_true, Bool.not_eq_true'] at hj
      obtain ⟨u, hu1, hu2⟩ := h3 j hj.1
      have z : u ≠ t := fun z => by rw [z, hj.2] at hu2; cases hu2
      exact ⟨u, by rw [flipb, if_neg z]; exact hu1, hu2⟩
    · apply Nat.eq_of_testBit_eq
      intro j
      rw [Nat.testBit_or, hx]
      cases z : (f t).testBit j with
      | false => simp
      | true => rw [a3 j z]; rfl
  · rintro ⟨s, w, h1, h2, h3, ⟨f, g1, g2, g3⟩, rfl⟩
    have hd : ∀ j, w.testBit j = true → s.testBit j = false := fun j hj => by
      cases z : s.testBit j with
      | false => rfl
      | true =>
        have : (w &&& s).testBit j = true := by rw [Nat.testBit_and, hj, z]; rfl
        rw [h3, Nat.zero_testBit] at this; cases this
    refine ⟨fun u => if u = t then s else f u, fun u hu => ?_, fun u v j huv hu hv hj => ?_, fun j hj => ?_⟩
    · dsimp only
      by_cases z : u = t
      · rw [if_pos z, z]
        exact ⟨htr, h1, fun j hj => by rw [Nat.testBit_or, hj, Bool.or_true], h2⟩
      · rw [if_neg z]
        obtain ⟨b1, b2, b3, b4⟩ := g1 u (by rw [flipb, if_neg z]; exact hu)
        exact ⟨b1, b2, fun j hj => by rw [Nat.testBit_or, b3 j hj, Bool.true_or], b4⟩
    · dsimp only at hj ⊢
      by_cases z : u = t
      · have hvt : v ≠ t := fun w => huv (z.trans w.symm)
        rw [if_pos z] at hj
        rw [if_neg hvt]
        cases y : (f v).testBit j with
        | false => rfl
        | true =>
          have := hd j ((g1 v (by rw [flipb, if_neg hvt]; exact hv)).2.2.1 j y)
          rw [hj] at this; cases this
      · rw [if_neg z] at hj
        have hw := (g1 u (by rw [flipb, if_neg z]; exact hu)).2.2.1 j hj
        by_cases y : v = t
        · rw [if_pos y]; exact hd j hw
        · rw [if_neg y]
          exact g2 u v j huv (by rw [flipb, if_neg z]; exact hu) (by rw [flipb, if_neg y]; exact hv) hj
    · rw [Nat.testBit_or, Bool.or_eq_true] at hj
      dsimp only
      rcases hj with hj | hj
      · obtain ⟨u, u1, u2⟩ := g3 j hj
        rw [flipb] at u1
        have z : u ≠ t := fun z => by rw [if_pos z, z, ht] at u1; cases u1
        rw [if_neg z] at u1
        exact ⟨u, u1, by rw [if_neg z]; exact u2⟩
      · exact ⟨t, ht, by rw [if_pos rfl]; exact hj⟩
theorem DJ_X {n : Nat} (hr : r ≤ 6) : DJ r ft G (2 ^ n - 1) ↔ ∃ S, S < 2 ^ n ∧ DX r ft G S := by
  constructor
  · rintro ⟨f, h1, h2⟩
    refine ⟨BS (fun j : Nat => decide (∃ t : Nat, t < 6 ∧ (G.testBit t && (f t).testBit j) = true)) n, BS_lt _ n, f, fun t ht => ?_, h2, fun j hj => ?_⟩
    · obtain ⟨a1, a2, a3, a4⟩ := h1 t ht
      refine ⟨a1, a2, fun j hj => ?_, a4⟩
      have := a3 j hj
      rw [Nat.testBit_two_pow_sub_one] at this
      rw [BS_bit, this, Bool.true_and]
      exact decide_eq_true ⟨t, by omega, by rw [ht, hj]; rfl⟩
    · rw [BS_bit, Bool.and_eq_true, decide_eq_true_eq, decide_eq_true_eq] at hj
      obtain ⟨_, t, _, z1⟩ := hj
      rw [Bool.and_eq_true] at z1
      exact ⟨t, z1.1, z1.2⟩
  · rintro ⟨S, hS, f, h1, h2, _⟩
    refine DJ.mono (S := S) ⟨f, h1, h2⟩ (fun j hj => ?_)
    rw [Nat.testBit_two_pow_sub_one]
    refine decide_eq_true ?_
    rcases Nat.lt_or_ge j n with z | z
    · exact z
    · rw [Nat.testBit_lt_two_pow (Nat.lt_of_lt_of_le hS (Nat.pow_le_pow_right (by omega) z))] at hj; cases hj
end DXS
section MO3
variable {k n Pm : Nat} {B : Nat → Nat} {V : Nat → Nat → Nat → Nat} {T a q : Nat} {c m : HI} {r : Nat} {lo hi W : Nat → Nat}
theorem X17 {h g : HI} (hf : ∀ o j, o ≠ 17 → g o j = h o j) : XM h g := fun o j hp => hf o j (fun z => by subst z; rcases hp with z | z | z; exact absurd (show false = true from z) (by decide); omega; omega)
/-- USED, as far as it is filled: rows below D are known, the others empty but for what row D has -/
def USD (r n : Nat) (ft : Nat → Nat → Bool) (D : Nat) (h : HI) : Prop := ∀ G w, G < D → w < 2 ^ n → ((h 17 (512 * G + w) = 1 ∧ DX r ft G w) ∨ (h 17 (512 * G + w) = 0 ∧ ¬ DX r ft G w))
theorem or_lt {n a b : Nat} (ha : a < 2 ^ n) (hb : b < 2 ^ n) : a ||| b < 2 ^ n := Nat.or_lt_two_pow ha hb
theorem m124_b (u2 u3 u4 u5 u6 u8 v z : Int32) (rd : Option Nat) (g : HI) : b_Mo_most_124 u2 u3 u4 u5 u6 u8 rd (v, z, g) = if (f_Mo_everybody g) < z then some (.inr (v, g)) else if (z &&& u8) = 0 then rh_g (0 ≤ ((u2 * u6) + z).toInt ∧ ((u2 * u6) + z).toInt < ((32768 : Nat) : Int)) (if (g 17 ((u2 * u6) + z).toNatClampNeg) = 0 then some (.inl (v, z + (1 : Int32), g)) else rh_g (0 ≤ ((u2 * u4) + (z ||| u8)).toInt ∧ ((u2 * u4) + (z ||| u8)).toInt < ((32768 : Nat) : Int)) (some (.inl ((1 : Int32), z + (1 : Int32), rh_up g 17 ((u2 * u4) + (z ||| u8)).toNatClampNeg ((1 : Int32) &&& 1))))) else some (.inl (v, z + (1 : Int32), g)) := rfl
theorem m124 (hn : n ≤ 9) {ft : Nat → Nat → Bool} {D G s : Nat} (hD : D < 64) (hG : G < D) (hs : s < 2 ^ n) {h : HI} (hev : f_Mo_everybody h = nI (2 ^ n - 1)) (hh : ∀ g : HI, (∀ o j, o ≠ 17 → g o j = h o j) → f_Mo_everybody g = nI (2 ^ n - 1)) (hu : USD r n ft D h) {R : Nat → Prop} (hR : ∀ w, w < 2 ^ n → ((h 17 (512 * D + w) = 1 ∧ R w) ∨ (h 17 (512 * D + w) = 0 ∧ ¬ R w))) (u3 u5 : Int32) (rd : Option Nat) {v0 : Int32} {Q : Prop} (hv : (v0 = 1 ∧ Q) ∨ (v0 = 0 ∧ ¬ Q)) : OK (rh_loop (b_Mo_most_124 (512 : Int32) u3 (nI D) u5 (nI G) (nI s) rd) rh_N (v0, (0 : Int32), h)) (fun x => (∀ o j, o ≠ 17 → x.2 o j = h o j) ∧ USD r n ft D x.2 ∧ (∀ j, 512 * (D + 1) ≤ j → x.2 17 j = h 17 j) ∧ (∀ w, w < 2 ^ n → ((x.2 17 (512 * D + w) = 1 ∧ (R w ∨ ∃ w', w' < 2 ^ n ∧ w' &&& s = 0 ∧ DX r ft G w' ∧ w = w' ||| s)) ∨ (x.2 17 (512 * D + w) = 0 ∧ ¬ (R w ∨ ∃ w', w' < 2 ^ n ∧ w' &&& s = 0 ∧ DX r ft G w' ∧ w = w' ||| s)))) ∧ ((x.1 = 1 ∧ (Q ∨ ∃ w', w' < 2 ^ n ∧ w' &&& s = 0 ∧ DX r ft G w')) ∨ (x.1 = 0 ∧ ¬ (Q ∨ ∃ w', w' < 2 ^ n ∧ w' &&& s = 0 ∧ DX r ft G w')))) := by
  have hp9 := pow9 hn
  refine OK.loop _ (fun i x => i ≤ 2 ^ n ∧ x.2.1 = nI i ∧ (∀ o j, o ≠ 17 → x.2.2 o j = h o j) ∧ USD r n ft D x.2.2 ∧ (∀ j, 512 * (D + 1) ≤ j → x.2.2 17 j = h 17 j) ∧ (∀ w, w < 2 ^ n → ((x.2.2 17 (512 * D + w) = 1 ∧ (R w ∨ ∃ w', w' < i ∧ w' &&& s = 0 ∧ DX r ft G w' ∧ w = w' ||| s)) ∨ (x.2.2 17 (512 * D + w) = 0 ∧ ¬ (R w ∨ ∃ w', w' < i ∧ w' &&& s = 0 ∧ DX r ft G w' ∧ w = w' ||| s)))) ∧ ((x.1 = 1 ∧ (Q ∨ ∃ w', w' < i ∧ w' &&& s = 0 ∧ DX r ft G w')) ∨ (x.1 = 0 ∧ ¬ (Q ∨ ∃ w', w' < i ∧ w' &&& s = 0 ∧ DX r ft G w')))) _ (2 ^ n) (by omega) ?_ ⟨by omega, rfl, fun _ _ _ => rfl, hu, fun _ _ => rfl, fun w hw => ?_, ?_⟩
  · rintro i ⟨v, z, g⟩ - ⟨hi', rfl, hf, hU, ht, hw, hv'⟩
    dsimp only at hf hU ht hw hv'
    rw [m124_b, hh g hf]
    refine OK.ite (fun hc => OK.ret ?_) (fun hc => ?_)
    · have := (nI_ltI (a := 2 ^ n - 1) (b := i) (by omega) (by omega)).mp hc
      have : i = 2 ^ n := by omega
      subst this
      exact ⟨hf, hU, ht, hw, hv'⟩
    have hi2 : i ≤ 2 ^ n - 1 := nlt hc (by omega) (by omega)
    have skip : ¬ (i &&& s = 0 ∧ DX r ft G i) → OK (some (.inl (v, nI i + 1, g)) : Option ((Int32 × Int32 × HI) ⊕ (Int32 × HI))) (fun x => Sum.elim (fun s' => i < 2 ^ n ∧ i + 1 ≤ 2 ^ n ∧ s'.2.1 = nI (i + 1) ∧ (∀ o j, o ≠ 17 → s'.2.2 o j = h o j) ∧ USD r n ft D s'.2.2 ∧ (∀ j, 512 * (D + 1) ≤ j → s'.2.2 17 j = h 17 j) ∧ (∀ w, w < 2 ^ n → ((s'.2.2 17 (512 * D + w) = 1 ∧ (R w ∨ ∃ w', w' < i + 1 ∧ w' &&& s = 0 ∧ DX r ft G w' ∧ w = w' ||| s)) ∨ (s'.2.2 17 (512 * D + w) = 0 ∧ ¬ (R w ∨ ∃ w', w' < i + 1 ∧ w' &&& s = 0 ∧ DX r ft G w' ∧ w = w' ||| s)))) ∧ ((s'.1 = 1 ∧ (Q ∨ ∃ w', w' < i + 1 ∧ w' &&& s = 0 ∧ DX r ft G w')) ∨ (s'.1 = 0 ∧ ¬ (Q ∨ ∃ w', w' < i + 1 ∧ w' &&& s = 0 ∧ DX r ft G w')))) (fun x => (∀ o j, o ≠ 17 → x.2 o j = h o j) ∧ USD r n ft D x.2 ∧ (∀ j, 512 * (D + 1) ≤ j → x.2 17 j = h 17 j) ∧ (∀ w, w < 2 ^ n → ((x.2 17 (512 * D + w) = 1 ∧ (R w ∨ ∃ w', w' < 2 ^ n ∧ w' &&& s = 0 ∧ DX r ft G w' ∧ w = w' ||| s)) ∨ (x.2 17 (512 * D + w) = 0 ∧ ¬ (R w ∨ ∃ w', w' < 2 ^ n ∧ w' &&& s = 0 ∧ DX r ft G w' ∧ w = w' ||| s)))) ∧ ((x.1 = 1 ∧ (Q ∨ ∃ w', w' < 2 ^ n ∧ w' &&& s = 0 ∧ DX r ft G w')) ∨ (x.1 = 0 ∧ ¬ (Q ∨ ∃ w', w' < 2 ^ n ∧ w' &&& s = 0 ∧ DX r ft G w')))) x) := fun hno => by
      have e1 : ∀ w, (∃ w', w' < i + 1 ∧ w' &&& s = 0 ∧ DX r ft G w' ∧ w = w' ||| s) ↔ ∃ w', w' < i ∧ w' &&& s = 0 ∧ DX r ft G w' ∧ w = w' ||| s := fun w => by
        constructor
        · rintro ⟨w', z1, z2, z3, z4⟩
          refine ⟨w', ?_, z2, z3, z4⟩
          rcases (show w' < i ∨ w' = i by omega) with y | y
          · exact y
          · subst y; exact absurd ⟨z2, z3⟩ hno
        · rintro ⟨w', z1, z2⟩; exact ⟨w', by omega, z2⟩
      have e2 : (∃ w', w' < i + 1 ∧ w' &&& s = 0 ∧ DX r ft G w') ↔ ∃ w', w' < i ∧ w' &&& s = 0 ∧ DX r ft G w' := by
        constructor
        · rintro ⟨w', z1, z2, z3⟩
          refine ⟨w', ?_, z2, z3⟩
          rcases (show w' < i ∨ w' = i by omega) with y | y
          · exact y
          · subst y; exact absurd ⟨z2, z3⟩ hno
        · rintro ⟨w', z1, z2⟩; exact ⟨w', by omega, z2⟩
      refine OK.ret ⟨by omega, by omega, nI_1 i, hf, hU, ht, fun w hw2 => ?_, ?_⟩
      · rw [e1 w]; exact hw w hw2
      · rw [e2]; exact hv'
    rw [fa_and]
    have hand : i &&& s < 2 ^ 31 := Nat.lt_of_le_of_lt Nat.and_le_left (by omega)
    by_cases h0 : i &&& s = 0
    · rw [h0, if_pos (show nI 0 = 0 from rfl), show (512 : Int32) * nI G = nI (512 * G) from pk_mul 512 G, nI_add, nI_clamp (by omega)]
      refine OK.g (gd_nI (by omega) (by omega)) ?_
      rcases hU G i hG (by omega) with ⟨u1, u2⟩ | ⟨u1, u2⟩
      · rw [u1, if_neg (by decide), fa_or, show (512 : Int32) * nI D = nI (512 * D) from pk_mul 512 D, nI_add]
        have hor := or_lt (n := n) (a := i) (b := s) (by omega) hs
        rw [nI_clamp (by omega)]
        refine OK.g (gd_nI (by omega) (by omega)) (OK.ret ⟨by omega, by omega, nI_1 i, fun o j ho => ?_, fun G' w' hG' hw' => ?_, fun j hj => ?_, fun w hw2 => ?_, Or.inl ⟨rfl, Or.inr ⟨i, by omega, h0, u2⟩⟩⟩)
        · show rh_up g 17 _ _ o j = _
          rw [up_f, if_neg (fun z => ho z.1)]; exact hf o j ho
        · show (rh_up g 17 _ _ 17 (512 * G' + w') = 1 ∧ _) ∨ (rh_up g 17 _ _ 17 (512 * G' + w') = 0 ∧ _)
          rw [gup _ _ _ _ (show 512 * G' + w' ≠ 512 * D + (i ||| s) by omega)]
          exact hU G' w' hG' hw'
        · show rh_up g 17 _ _ 17 j = _
          rw [gup _ _ _ _ (show j ≠ 512 * D + (i ||| s) by omega)]
          exact ht j hj
        · show (rh_up g 17 _ _ 17 (512 * D + w) = 1 ∧ _) ∨ (rh_up g 17 _ _ 17 (512 * D + w) = 0 ∧ _)
          by_cases y : w = i ||| s
          · rw [y, rh_up_s]
            exact Or.inl ⟨by decide, Or.inr ⟨i, by omega, h0, u2, rfl⟩⟩
          · rw [gup _ _ _ _ (show 512 * D + w ≠ 512 * D + (i ||| s) by omega)]
            have e1 : (∃ w', w' < i + 1 ∧ w' &&& s = 0 ∧ DX r ft G w' ∧ w = w' ||| s) ↔ ∃ w', w' < i ∧ w' &&& s = 0 ∧ DX r ft G w' ∧ w = w' ||| s := by
              constructor
              · rintro ⟨w', z1, z2, z3, z4⟩
                refine ⟨w', ?_, z2, z3, z4⟩
                rcases (show w' < i ∨ w' = i by omega) with x | x
                · exact x
                · subst x; exact absurd z4 y
              · rintro ⟨w', z1, z2⟩; exact ⟨w', by omega, z2⟩
            rw [e1]; exact hw w hw2
      · rw [u1, if_pos rfl]
        exact skip (fun z => u2 z.2)
    · rw [if_neg (nz0 h0 hand)]
      exact skip (fun z => h0 z.1)
  · have e1 : (∃ w', w' < 0 ∧ w' &&& s = 0 ∧ DX r ft G w' ∧ w = w' ||| s) ↔ False := ⟨fun ⟨w', z, _⟩ => by omega, False.elim⟩
    rw [e1, or_false]; exact hR w hw
  · have e1 : (∃ w', w' < 0 ∧ w' &&& s = 0 ∧ DX r ft G w') ↔ False := ⟨fun ⟨w', z, _⟩ => by omega, False.elim⟩
    rw [e1, or_false]; exact hv
end MO3
