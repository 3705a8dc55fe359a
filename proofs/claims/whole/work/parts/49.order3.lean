/-! order: the reference's side, and the call -/
def OBW (n N : Nat) (W : Nat → Nat → Nat) (h : HI) : Prop := ∀ b i, b < N → i < n → h 25 (9 * b + i) = nI (W i b)
def GOQ (n N : Nat) (W : Nat → Nat → Nat) (e S sum bst : Nat) (h x : HI) : Prop := (∀ o j, (o = 0 → j ≠ 48) → (o = 26 → j < N - e) → o ≠ 27 → x o j = h o j) ∧ ((sum + LO n N W e S < bst ∧ x 0 48 = nI (sum + LO n N W e S) ∧ ∀ j, j < N → x 27 j = if j < N - e then h 26 j else nI (LX n N W e S (j - (N - e)))) ∨ (bst ≤ sum + LO n N W e S ∧ x 0 48 = nI bst ∧ ∀ j, x 27 j = h 27 j))
section ORDM
variable {n N : Nat} {W : Nat → Nat → Nat}
theorem go_bM (T : HI → Int32 → Int32 → Int32 → Option HI) (u1 u2 u3 x : Int32) (h : HI) : b_Mo_goOrder_51 T u1 u2 u3 (x, h) = if (h 0 1) ≤ x then some (.inr h) else if (f_Mo_has u2 x) = 0 then some (.inl (x + (1 : Int32), h)) else rh_g (0 ≤ u1.toInt ∧ u1.toInt < ((9 : Nat) : Int)) (rh_g (0 ≤ (((9 : Int32) * u1) + x).toInt ∧ (((9 : Int32) * u1) + x).toInt < ((81 : Nat) : Int)) ((T (rh_up h 26 u1.toNatClampNeg x) (u1 + (1 : Int32)) (u2 &&& (((1 : Int32) <<< (x &&& 31)) ^^^ (-1 : Int32))) (u3 + ((rh_up h 26 u1.toNatClampNeg x) 25 (((9 : Int32) * u1) + x).toNatClampNeg))).bind (fun x13 => some (.inl (x + (1 : Int32), x13))))) := rfl
theorem go_m (hn : n ≤ 9) (hN : N ≤ 7) (hW : ∀ i b, i < n → W i (N - (b + 1)) ≤ 9999) : ∀ (e f S sum bst : Nat) (h : HI), e ≤ f → e ≤ N → S < 2 ^ n → pc S = e → sum ≤ (N - e) * 9999 → bst < 2 ^ 31 → h 0 48 = nI bst → h 0 1 = nI n → OBW n N W h → OK (f_Mo_goOrder (g_Mo_goOrder f) h (nI (N - e)) (nI S) (nI sum)) (GOQ n N W e S sum bst h) := by
  intro e
  induction e with
  | zero =>
    intro f S sum bst h hf heN hS he hsum hbst h48 h01 hbw
    have hp9 := pow9 hn
    have hS0 : S = 0 := (pc_all S (by omega)).2.2.2 he
    have hs9 : sum ≤ 7 * 9999 := Nat.le_trans hsum (Nat.mul_le_mul_right _ (by omega))
    unfold f_Mo_goOrder
    rw [h48]
    refine OK.ite (fun hlt => ?_) (fun hlt => ?_)
    · have hlt := (nI_ltI (by omega) (by omega)).mp hlt
      rw [if_pos (show nI S = 0 by rw [hS0]; rfl)]
      refine OK.bind (OK.loop _ (fun i z => i ≤ N - 0 ∧ z.1 = nI i ∧ (∀ o j, o ≠ 27 → z.2 o j = rh_up h 0 48 (nI sum) o j) ∧ ∀ j, j < i → z.2 27 j = h 26 j) (fun x => (∀ o j, o ≠ 27 → x o j = rh_up h 0 48 (nI sum) o j) ∧ ∀ j, j < N - 0 → x 27 j = h 26 j) (N - 0) (by omega) ?_ ⟨by omega, rfl, fun _ _ _ => rfl, fun j hj => by omega⟩) ?_
      · rintro i ⟨z1, g⟩ - ⟨hi, rfl, f1, e1⟩
        dsimp only at f1 e1
        unfold b_Mo_goOrder_21
        dsimp only
        refine OK.ite (fun h9 => ?_) (fun h9 => ?_)
        · have : i = N - 0 := by have := ple h9 (by omega) (by omega); omega
          subst this
          exact OK.ret ⟨f1, e1⟩
        have hi2 : i < N - 0 := nle h9 (by omega) (by omega)
        have g9 := gd_nI (i := i) (N := 9) (by omega) (by omega)
        rw [nI_clamp (n := i) (by omega), nI_1]
        refine OK.g g9 (OK.g g9 (OK.ret ⟨hi2, hi2, rfl, fun o j ho => ?_, fun j hj => ?_⟩))
        · show rh_up g 27 _ _ o j = _
          rw [up_f, if_neg (by omega)]; exact f1 o j ho
        · show rh_up g 27 i _ 27 j = _
          rw [up_f]
          by_cases z : j = i
          · subst z; rw [if_pos ⟨rfl, rfl⟩]; exact f1 26 j (by omega)
          · rw [if_neg (by omega)]; exact e1 j (by omega)
      · rintro x ⟨f1, e1⟩
        refine OK.ret ⟨fun o j h0 h26 h27 => ?_, Or.inl ⟨?_, ?_, fun j hj => ?_⟩⟩
        · rw [f1 o j h27, up_f, if_neg (fun z => h0 z.1 z.2)]
        · show sum + 0 < bst
          omega
        · rw [f1 0 48 (by omega)]; rfl
        · rw [if_pos (by omega)]; exact e1 j (by omega)
    · have hge : bst ≤ sum := by
        rcases Nat.lt_or_ge sum bst with z | z
        · exact absurd (ltI hbst z) hlt
        · exact z
      exact OK.ret ⟨fun _ _ _ _ _ => rfl, Or.inr ⟨by show bst ≤ sum + 0; omega, h48, fun _ => rfl⟩⟩
  | succ e ih =>
    intro f S sum bst h hf heN hS he hsum hbst h48 h01 hbw
    have hp9 := pow9 hn
    have hs9 : sum ≤ 7 * 9999 := Nat.le_trans hsum (Nat.mul_le_mul_right _ (by omega))
    have hS0 : S ≠ 0 := fun z => by subst z; rw [show pc 0 = 0 by decide] at he; omega
    obtain ⟨f', rfl⟩ : ∃ f', f = f' + 1 := ⟨f - 1, by omega⟩
    have hLO : ∀ i, S.testBit i = true → LO n N W e (nand S (2 ^ i)) ≤ 7 * 9999 := fun i hb => by
      have h2 := nd_pc hn hS hb
      exact Nat.le_trans (LO_le hn hW e _ (by omega) (by omega)) (Nat.mul_le_mul_right _ (by omega))
    have fa := FA_is (N := N) (W := W) hn hW hS he
    unfold f_Mo_goOrder
    rw [h48]
    refine OK.ite (fun hlt => ?_) (fun hlt => ?_)
    · rw [if_neg (nz0 hS0 (by omega))]
      refine OK.bind (OK.loop _ (fun i z => i ≤ n ∧ z.1 = nI i ∧ (∀ o j, (o = 0 → j ≠ 48) → (o = 26 → j < N - (e + 1)) → o ≠ 27 → z.2 o j = h o j) ∧ ((z.2 0 48 = nI bst ∧ (∀ j, z.2 27 j = h 27 j) ∧ ∀ i', i' < i → S.testBit i' = true → bst ≤ sum + (W i' (N - (e + 1)) + LO n N W e (nand S (2 ^ i')))) ∨ (∃ w, w < i ∧ S.testBit w = true ∧ sum + (W w (N - (e + 1)) + LO n N W e (nand S (2 ^ w))) < bst ∧ z.2 0 48 = nI (sum + (W w (N - (e + 1)) + LO n N W e (nand S (2 ^ w)))) ∧ (∀ i', i' < i → S.testBit i' = true → W w (N - (e + 1)) + LO n N W e (nand S (2 ^ w)) ≤ W i' (N - (e + 1)) + LO n N W e (nand S (2 ^ i'))) ∧ (∀ i', i' < w → S.testBit i' = true → W w (N - (e + 1)) + LO n N W e (nand S (2 ^ w)) < W i' (N - (e + 1)) + LO n N W e (nand S (2 ^ i'))) ∧ ∀ j, j < N → z.2 27 j = if j < N - (e + 1) then h 26 j else if j = N - (e + 1) then nI w else nI (LX n N W e (nand S (2 ^ w)) (j - (N - e)))))) (GOQ n N W (e + 1) S sum bst h) n (by omega) ?_ ⟨by omega, rfl, fun _ _ _ _ _ => rfl, Or.inl ⟨h48, fun _ => rfl, fun i' hi' => by omega⟩⟩) (fun x hx => OK.ret hx)
      rintro i ⟨z1, g⟩ - ⟨hi, rfl, fr, hst⟩
      dsimp only at fr hst
      have g01 : g 0 1 = nI n := (fr 0 1 (by omega) (by omega) (by omega)).trans h01
      rw [go_bM, g01]
      refine OK.ite (fun h9 => ?_) (fun h9 => ?_)
      · have : i = n := by have := ple h9 (by omega) (by omega); omega
        subst this
        refine OK.ret ⟨fr, ?_⟩
        rcases hst with ⟨a1, a2, a3⟩ | ⟨w, a1, a2, a3, a4, a5, a6, a7⟩
        · refine Or.inr ⟨?_, a1, a2⟩
          have := a3 _ fa.1 fa.2.1
          rw [fa.2.2.1] at this
          exact this
        · have hw : w = FA i N W e S := by
            rcases Nat.lt_or_ge w (FA i N W e S) with z | z
            · have h1 := fa.2.2.2 w z a2
              have h2 := a5 _ fa.1 fa.2.1
              rw [fa.2.2.1] at h2
              omega
            · rcases Nat.lt_or_ge (FA i N W e S) w with z2 | z2
              · have h1 := a6 _ z2 fa.2.1
                rw [fa.2.2.1] at h1
                have h2 := LO_min (N := N) (W := W) (e := e) (S := S) (n := i) a1 a2
                omega
              · omega
          rw [hw, fa.2.2.1] at a3 a4
          refine Or.inl ⟨a3, a4, fun j hj => ?_⟩
          rw [a7 j hj, hw]
          by_cases j1 : j < N - (e + 1)
          · rw [if_pos j1, if_pos j1]
          · rw [if_neg j1, if_neg j1]
            by_cases j2 : j = N - (e + 1)
            · rw [if_pos j2, show j - (N - (e + 1)) = 0 by omega]; rfl
            · rw [if_neg j2, show j - (N - (e + 1)) = (j - (N - e)) + 1 by omega]; rfl
      have hi2 : i < n := nle h9 (by omega) (by omega)
      have hb := has_t (p := S) (i := i) (by omega) (by omega)
      refine OK.ite (fun h0 => ?_) (fun h0 => ?_)
      · have hbf := hb.mp h0
        refine OK.ret ⟨hi2, hi2, nI_1 i, fr, ?_⟩
        rcases hst with ⟨a1, a2, a3⟩ | ⟨w, a1, a2, a3, a4, a5, a6, a7⟩
        · refine Or.inl ⟨a1, a2, fun i' hi' hb' => ?_⟩
          rcases (show i' < i ∨ i' = i by omega) with z | z
          · exact a3 i' z hb'
          · subst z; rw [hbf] at hb'; cases hb'
        · refine Or.inr ⟨w, by omega, a2, a3, a4, fun i' hi' hb' => ?_, a6, a7⟩
          rcases (show i' < i ∨ i' = i by omega) with z | z
          · exact a5 i' z hb'
          · subst z; rw [hbf] at hb'; cases hb'
      · have hbt : S.testBit i = true := by
          cases hbt : S.testBit i with
          | true => rfl
          | false => exact absurd (hb.mpr hbt) h0
        have h2 := nd_pc hn hS hbt
        have hLi := hLO i hbt
        have hWi := hW i e hi2
        have g9 := gd_nI (i := N - (e + 1)) (N := 9) (by omega) (by omega)
        have e9 : (9 : Int32) * nI (N - (e + 1)) = nI (9 * (N - (e + 1))) := pk_mul 9 _
        rw [e9, nI_add, two_n i (by omega), andn', nI_clamp (n := N - (e + 1)) (by omega), nI_clamp (n := 9 * (N - (e + 1)) + i) (by omega), nI_1 i, nI_1 (N - (e + 1)), show N - (e + 1) + 1 = N - e by omega]
        have e25 : rh_up g 26 (N - (e + 1)) (nI i) 25 (9 * (N - (e + 1)) + i) = nI (W i (N - (e + 1))) := (fr 25 _ (by omega) (by omega) (by omega)).trans (hbw (N - (e + 1)) i (by omega) hi2)
        rw [e25, nI_add]
        have hsum' : sum + W i (N - (e + 1)) ≤ (N - e) * 9999 := by
          have h5 : (N - e) * 9999 = (N - (e + 1)) * 9999 + 9999 := by
            rw [show N - e = N - (e + 1) + 1 by omega, Nat.add_mul]
          omega
        refine OK.g g9 (OK.g (gd_nI (by omega) (by omega)) ?_)
        -- what is the best by now
        obtain ⟨cur, hcur, hcb, hcb2, hstc⟩ : ∃ cur, g 0 48 = nI cur ∧ cur < 2 ^ 31 ∧ cur ≤ bst ∧ ((cur = bst ∧ (∀ j, g 27 j = h 27 j) ∧ ∀ i', i' < i → S.testBit i' = true → bst ≤ sum + (W i' (N - (e + 1)) + LO n N W e (nand S (2 ^ i')))) ∨ (∃ w, w < i ∧ S.testBit w = true ∧ sum + (W w (N - (e + 1)) + LO n N W e (nand S (2 ^ w))) < bst ∧ cur = sum + (W w (N - (e + 1)) + LO n N W e (nand S (2 ^ w))) ∧ (∀ i', i' < i → S.testBit i' = true → W w (N - (e + 1)) + LO n N W e (nand S (2 ^ w)) ≤ W i' (N - (e + 1)) + LO n N W e (nand S (2 ^ i'))) ∧ (∀ i', i' < w → S.testBit i' = true → W w (N - (e + 1)) + LO n N W e (nand S (2 ^ w)) < W i' (N - (e + 1)) + LO n N W e (nand S (2 ^ i'))) ∧ ∀ j, j < N → g 27 j = if j < N - (e + 1) then h 26 j else if j = N - (e + 1) then nI w else nI (LX n N W e (nand S (2 ^ w)) (j - (N - e))))) := by
          rcases hst with ⟨a1, a2, a3⟩ | ⟨w, a1, a2, a3, a4, a5, a6, a7⟩
          · exact ⟨bst, a1, hbst, Nat.le_refl _, Or.inl ⟨rfl, a2, a3⟩⟩
          · exact ⟨_, a4, by omega, by omega, Or.inr ⟨w, a1, a2, a3, rfl, a5, a6, a7⟩⟩
        have ihh := ih f' (nand S (2 ^ i)) (sum + W i (N - (e + 1))) cur (rh_up g 26 (N - (e + 1)) (nI i)) (by omega) (by omega) (by omega) (by omega) hsum' hcb hcur g01 (fun b i' hb' hi' => (fr 25 _ (by omega) (by omega) (by omega)).trans (hbw b i' hb' hi'))
        refine OK.bind ihh ?_
        rintro x ⟨fx, hx⟩
        have fr' : ∀ o j, (o = 0 → j ≠ 48) → (o = 26 → j < N - (e + 1)) → o ≠ 27 → x o j = h o j := fun o j h0 h26 h27 => by
          rw [fx o j h0 (fun z => Nat.lt_of_lt_of_le (h26 z) (Nat.sub_le_sub_left (Nat.le_succ e) N)) h27, up_f, if_neg (fun z => by have hz := h26 z.1; rw [z.2] at hz; exact Nat.lt_irrefl _ hz)]
          exact fr o j h0 h26 h27
        refine OK.ret ⟨hi2, hi2, rfl, fr', ?_⟩
        rcases hx with ⟨b1, b2, b3⟩ | ⟨b1, b2, b3⟩
        · -- it is better
          refine Or.inr ⟨i, by omega, hbt, by omega, by rw [show sum + (W i (N - (e + 1)) + LO n N W e (nand S (2 ^ i))) = sum + W i (N - (e + 1)) + LO n N W e (nand S (2 ^ i)) by omega]; exact b2, fun i' hi' hb' => ?_, fun i' hi' hb' => ?_, fun j hj => ?_⟩
          · rcases (show i' < i ∨ i' = i by omega) with z | z
            · rcases hstc with ⟨c1, c2, c3⟩ | ⟨w, c1, c2, c3, c4, c5, c6, c7⟩
              · have := c3 i' z hb'; omega
              · have := c5 i' z hb'; omega
            · subst z; exact Nat.le_refl _
          · rcases hstc with ⟨c1, c2, c3⟩ | ⟨w, c1, c2, c3, c4, c5, c6, c7⟩
            · have := c3 i' hi' hb'; omega
            · have := c5 i' hi' hb'; omega
          · show x 27 j = _
            rw [b3 j hj]
            by_cases j1 : j < N - (e + 1)
            · rw [if_pos (by omega), if_pos j1, up_f, if_neg (by omega)]
              exact fr 26 j (by omega) (fun _ => j1) (by omega)
            · rw [if_neg j1]
              by_cases j2 : j = N - (e + 1)
              · rw [if_pos (by omega), if_pos j2, j2, rh_up_s]
              · rw [if_neg (by omega), if_neg j2]
        · -- it is not
          rcases hstc with ⟨c1, c2, c3⟩ | ⟨w, c1, c2, c3, c4, c5, c6, c7⟩
          · refine Or.inl ⟨by show x 0 48 = _; rw [b2, c1], fun j => (b3 j).trans (c2 j), fun i' hi' hb' => ?_⟩
            rcases (show i' < i ∨ i' = i by omega) with z | z
            · exact c3 i' z hb'
            · subst z; omega
          · refine Or.inr ⟨w, by omega, c2, c3, by show x 0 48 = _; rw [b2, c4], fun i' hi' hb' => ?_, c6, fun j hj => (b3 j).trans (c7 j hj)⟩
            rcases (show i' < i ∨ i' = i by omega) with z | z
            · exact c5 i' z hb'
            · subst z; omega
    · have hge : bst ≤ sum := by
        rcases Nat.lt_or_ge sum bst with z | z
        · exact absurd (ltI hbst z) hlt
        · exact z
      exact OK.ret ⟨fun _ _ _ _ _ => rfl, Or.inr ⟨by omega, h48, fun _ => rfl⟩⟩
end ORDM
