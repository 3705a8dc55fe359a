/-! over the river: which sets can be left behind each crossing -/
def CC (n Pm bt : Nat) (W : Nat → Nat → Nat) (k s : Nat) : Prop := s &&& Pm ≠ 0 ∧ WS n (W k) s ≤ bt
def TH (S k L : Nat) : Nat := if k % 2 = 0 then L else S ^^^ L
def NR (n Pm bt : Nat) (W : Nat → Nat → Nat) (S : Nat) : Nat → Nat → Prop
  | 0, L => L = S
  | k + 1, L' => ∃ L s, NR n Pm bt W S k L ∧ SUB s (TH S k L) ∧ CC n Pm bt W k s ∧ L' = L ^^^ s
theorem SUB.xor {a b S : Nat} (ha : SUB a S) (hb : SUB b S) : SUB (a ^^^ b) S := fun j hj => by
  rw [Nat.testBit_xor] at hj
  cases z : a.testBit j with
  | true => exact ha j z
  | false =>
    rw [z, Bool.false_xor] at hj
    exact hb j hj
theorem SUB.rf {a : Nat} : SUB a a := fun _ h => h
theorem TH_sub {S k L : Nat} (h : SUB L S) : SUB (TH S k L) S := by
  unfold TH
  split
  · exact h
  · exact SUB.rf.xor h
theorem xx (S L : Nat) : S ^^^ (S ^^^ L) = L := by rw [← Nat.xor_assoc, Nat.xor_self, Nat.zero_xor]
theorem nandx {S L : Nat} (hS : S < 2 ^ 31) (h : SUB L S) : nand S L = S ^^^ L := by
  apply Nat.eq_of_testBit_eq
  intro j
  rw [nand_bit S L hS, Nat.testBit_xor]
  cases z : L.testBit j with
  | false => cases S.testBit j <;> rfl
  | true => rw [h j z]; rfl
section NRS
variable {n Pm bt S : Nat} {W : Nat → Nat → Nat}
theorem NR_sub : ∀ {k L : Nat}, NR n Pm bt W S k L → SUB L S
  | 0, L, h => by have h : L = S := h; rw [h]; exact SUB.rf
  | k + 1, L', h => by
    obtain ⟨L, s, h1, h2, _, rfl⟩ := h
    exact (NR_sub h1).xor (h2.tr (TH_sub (NR_sub h1)))
theorem CC_0 {k s : Nat} (h : CC n Pm bt W k s) : s ≠ 0 := fun z => h.1 (by rw [z, Nat.zero_and])
theorem xor_0 {a b : Nat} (h : 0 = a ^^^ b) : a = b := by
  have : a ^^^ (a ^^^ b) = a := by rw [← h, Nat.xor_zero]
  rw [xx] at this; exact this.symm
/-- the last crossing takes all that are left -/
theorem NR_end {k : Nat} : NR n Pm bt W S (k + 1) 0 ↔ k % 2 = 0 ∧ ∃ L, NR n Pm bt W S k L ∧ CC n Pm bt W k L := by
  constructor
  · rintro ⟨L, s, h1, h2, h3, h4⟩
    have e := xor_0 h4
    subst e
    by_cases hk : k % 2 = 0
    · exact ⟨hk, L, h1, h3⟩
    · exfalso
      unfold TH at h2
      rw [if_neg hk] at h2
      have : L = 0 := by
        apply Nat.eq_of_testBit_eq
        intro j
        rw [Nat.zero_testBit]
        cases z : L.testBit j with
        | false => rfl
        | true =>
          have h5 := h2 j z
          rw [Nat.testBit_xor, z, NR_sub h1 j z] at h5; cases h5
      exact CC_0 h3 this
  · rintro ⟨hk, L, h1, h2⟩
    refine ⟨L, L, h1, ?_, h2, (Nat.xor_self L).symm⟩
    unfold TH
    rw [if_pos hk]; exact SUB.rf
end NRS
/-- the class's rows of bits -/
def RB (g : Nat → Nat → Int64) (k O : Nat) : Bool := bl (g 33 (8 * k + O / 64)) (O % 64)
theorem m63 (O : Nat) : nI O &&& 63 = nI (O % 64) := fa_mask O 6
theorem ix_ok {k O : Nat} (hO : O < 512) : nI k * 8 + (nI O >>> ((6 : Int32) &&& 31)) = nI (8 * k + O / 64) := by
  rw [show nI O >>> ((6 : Int32) &&& 31) = nI (O / 2 ^ 6) from shrI (t := 6) (by omega) (by omega), show nI k * 8 = nI (k * 8) from pk_mul k 8, nI_add, Nat.mul_comm k 8]
theorem ir_ok {g : Nat → Nat → Int64} {k O : Nat} (hk : k < 20) (hO : O < 512) : f_Ri_isReached g (nI k) (nI O) = some (if RB g k O = true then 1 else 0) := by
  unfold f_Ri_isReached
  rw [ix_ok hO, rg_t (gd_nI (by omega) (by omega)), nI_clamp (by omega), m63]
  unfold RB
  by_cases h : bl (g 33 (8 * k + O / 64)) (O % 64) = true
  · rw [if_neg (fun z => by rw [(bl_tst _ (by omega)).mp z] at h; cases h), if_pos h]
  · rw [if_pos ((bl_tst _ (by omega)).mpr (Bool.eq_false_iff.mpr h)), if_neg h]
theorem one_bit {p i : Nat} (hp : p < 64) (hi : i < 64) : bl ((1 : Int64) <<< ((nI p).toInt64 &&& 63)) i = decide (i = p) := by
  rw [bl_shl (ss_all p hp) hi]
  by_cases h : p ≤ i
  · rw [decide_eq_true h, Bool.true_and, bl_1 _ (by omega)]
    by_cases z : i = p
    · subst z; rw [Nat.sub_self]; simp
    · rw [decide_eq_false (by omega), decide_eq_false z]
  · rw [decide_eq_false h, Bool.false_and, decide_eq_false (by omega)]
theorem RB_up {g : Nat → Nat → Int64} {k O k' O' : Nat} (hO : O < 512) (hO' : O' < 512) (v : Int64) : RB (rh_up g 33 (8 * k + O / 64) v) k' O' = if k' = k ∧ O' / 64 = O / 64 then bl v (O' % 64) else RB g k' O' := by
  unfold RB
  by_cases h : k' = k ∧ O' / 64 = O / 64
  · rw [if_pos h, h.1, h.2, rh_up_s]
  · rw [if_neg h, gup _ _ _ _ (by omega)]
theorem rc_ok {g : Nat → Nat → Int64} {k O : Nat} (hk : k < 20) (hO : O < 512) : ∃ g', f_Ri_reach g (nI k) (nI O) = some g' ∧ ∀ k' O', O' < 512 → RB g' k' O' = (RB g k' O' || decide (k' = k ∧ O' = O)) := by
  unfold f_Ri_reach
  rw [ix_ok hO, rg_t (gd_nI (by omega) (by omega)), rg_t (gd_nI (by omega) (by omega)), nI_clamp (by omega), m63]
  refine ⟨_, rfl, fun k' O' hO' => ?_⟩
  rw [RB_up hO hO']
  by_cases h : k' = k ∧ O' / 64 = O / 64
  · rw [if_pos h, bl_or, one_bit (by omega) (by omega)]
    obtain ⟨rfl, h2⟩ := h
    have e : RB g k' O' = bl (g 33 (8 * k' + O / 64)) (O' % 64) := by unfold RB; rw [h2]
    rw [e]
    congr 1
    apply decide_eq_decide.mpr
    omega
  · rw [if_neg h, decide_eq_false (fun z => h ⟨z.1, by rw [z.2]⟩), Bool.or_false]
theorem lv_ok {g : Nat → Nat → Int64} {k O : Nat} (hk : k < 20) (hO : O < 512) : ∃ g', f_Ri_leave g (nI k) (nI O) = some g' ∧ ∀ k' O', O' < 512 → RB g' k' O' = (RB g k' O' && !decide (k' = k ∧ O' = O)) := by
  unfold f_Ri_leave
  rw [ix_ok hO, rg_t (gd_nI (by omega) (by omega)), rg_t (gd_nI (by omega) (by omega)), nI_clamp (by omega), m63]
  refine ⟨_, rfl, fun k' O' hO' => ?_⟩
  rw [RB_up hO hO']
  by_cases h : k' = k ∧ O' / 64 = O / 64
  · rw [if_pos h, bl_and, bl_xor, one_bit (by omega) (by omega), bl_m1 _ (by omega), Bool.xor_true]
    obtain ⟨rfl, h2⟩ := h
    have e : RB g k' O' = bl (g 33 (8 * k' + O / 64)) (O' % 64) := by unfold RB; rw [h2]
    rw [e]
    congr 2
    apply decide_eq_decide.mpr
    omega
  · rw [if_neg h, decide_eq_false (fun z => h ⟨z.1, by rw [z.2]⟩), Bool.not_false, Bool.and_true]
/-- what the class holds while it looks for ways over -/
def RVC (n Pm S bt t0 : Nat) (h : HI) : Prop := h 4 1 = nI Pm ∧ h 32 2 = nI S ∧ h 32 3 = nI bt ∧ h 32 4 = nI t0
section RVS
variable {n Pm bt S t0 : Nat} {W : Nat → Nat → Nat} {h : HI}
theorem ca_ok (hn : n ≤ 9) (rv : RVC n Pm S bt t0 h) {k s : Nat} (hP : Pm < 2 ^ 31) (hbt : bt ≤ 9999) (hs : s < 2 ^ n) (tc : TC n (W k) h) (hS : ∀ s, WS n (W k) s ≤ 89991) : ∃ x : Int32, f_Ri_carries h (nI s) = some x ∧ ((x = 1 ∧ CC n Pm bt W k s) ∨ (x = 0 ∧ ¬ CC n Pm bt W k s)) := by
  have hp9 := pow9 hn
  unfold f_Ri_carries CC
  rw [rv.1, fa_and, nI_clamp (by omega), rv.2.2.1, tc s hs]
  have hand : s &&& Pm < 2 ^ 31 := Nat.lt_of_le_of_lt Nat.and_le_right hP
  by_cases h0 : s &&& Pm = 0
  · rw [h0, if_pos (show nI 0 = 0 from rfl)]
    exact ⟨0, rfl, Or.inr ⟨rfl, fun z => z.1 rfl⟩⟩
  · rw [if_neg (nz0 h0 hand), rg_t (gd_nI (by omega) (by omega))]
    have := hS s
    by_cases h1 : bt < WS n (W k) s
    · rw [if_pos (ltI (by omega) h1)]
      exact ⟨0, rfl, Or.inr ⟨rfl, fun z => by have := z.2; omega⟩⟩
    · rw [if_neg (nltI (by omega) h1)]
      exact ⟨1, rfl, Or.inl ⟨rfl, h0, by omega⟩⟩
theorem par {k : Nat} (hk : k < 2 ^ 31) : (nI k - nI k / 2 * 2 = 0) ↔ k % 2 = 0 := by
  rw [show nI k - nI k / 2 * 2 = nI (k % 2) from pk_rem (d := 2) hk (by omega) (by omega)]
  rcases (show k % 2 = 0 ∨ k % 2 = 1 by omega) with z | z
  · rw [z]; decide
  · rw [z]; decide
/-- the bank, told by those who are over -/
theorem bk_ok (rv : RVC n Pm S bt t0 h) {k O : Nat} (hk : k < 2 ^ 31) (hS : S < 2 ^ 31) (hO : SUB O S) : f_Ri_bankOf h (nI k) (nI O) = nI (TH S k (S ^^^ O)) := by
  unfold f_Ri_bankOf TH
  by_cases h0 : k % 2 = 0
  · rw [if_pos ((par hk).mpr h0), if_pos h0, rv.2.1, andn', nandx hS hO]
  · rw [if_neg (fun z => h0 ((par hk).mp z)), if_neg h0, xx]
theorem wd29 (hn : n ≤ 9) (rv : RVC n Pm S bt t0 h) {k O M : Nat} (hP : Pm < 2 ^ 31) (hbt : bt ≤ 9999) (hk : k < 19) (hS : S < 2 ^ n) (hO : SUB O S) (hM : SUB M S) (tc : TC n (W k) h) (hW : ∀ s, WS n (W k) s ≤ 89991) (g : Nat → Nat → Int64) : OK (rh_loop (b_Ri_widen_29 (nI k) (nI O) (nI M) h) rh_N (nI M, g)) (fun x => ∀ k' O', O' < 512 → (RB x k' O' = true ↔ (RB g k' O' = true ∨ (k' = k + 1 ∧ ∃ s, SUB s M ∧ CC n Pm bt W k s ∧ O' = O ^^^ s)))) := by
  have hp9 := pow9 hn
  have hM2 := hM.le
  refine OK.loop _ (fun i x => ∃ P, SUB P M ∧ P + i ≤ M ∧ x.1 = nI P ∧ ∀ k' O', O' < 512 → (RB x.2 k' O' = true ↔ (RB g k' O' = true ∨ (k' = k + 1 ∧ ∃ s, SUB s M ∧ P < s ∧ CC n Pm bt W k s ∧ O' = O ^^^ s)))) _ 512 (by omega) ?_ ⟨M, SUB.rf, by omega, rfl, fun k' O' hO' => ?_⟩
  · rintro i ⟨v, g'⟩ - ⟨P, hP2, hPi, rfl, hB⟩
    dsimp only at hB
    unfold b_Ri_widen_29
    dsimp only
    by_cases h0 : P = 0
    · subst h0
      rw [if_pos (show nI 0 ≤ 0 by decide)]
      refine OK.ret (fun k' O' hO' => ?_)
      rw [hB k' O' hO']
      constructor
      · rintro (z | ⟨z1, s, z2, _, z3⟩)
        · exact Or.inl z
        · exact Or.inr ⟨z1, s, z2, z3⟩
      · rintro (z | ⟨z1, s, z2, z3⟩)
        · exact Or.inl z
        · exact Or.inr ⟨z1, s, z2, by have := CC_0 z3.1; omega, z3⟩
    · rw [if_neg (show ¬ nI P ≤ 0 from nI_ge (a := 0) (b := P) (by omega) (by omega)), pvI (by omega)]
      have hPS := (hP2.tr hM).le
      obtain ⟨x, hx1, hx2⟩ := ca_ok hn rv hP hbt (k := k) (s := P) (by omega) tc hW
      rw [hx1, Option.bind_some]
      have hle : (P - 1) &&& M ≤ P - 1 := Nat.and_le_left
      have hnew : SUB ((P - 1) &&& M) M := fun j hj => by rw [Nat.testBit_and, Bool.and_eq_true] at hj; exact hj.2
      have hstep : ∀ s, SUB s M → ((P - 1) &&& M < s ↔ P ≤ s) := fun s hs => by
        constructor
        · intro z
          rcases Nat.lt_or_ge s P with y | y
          · have := pv P M s (SUB.iff.mp hP2) (SUB.iff.mp hs) y; omega
          · exact y
        · intro z; omega
      rcases hx2 with ⟨rfl, hc⟩ | ⟨rfl, hc⟩
      · rw [if_neg (by decide), nI_1, fb_xorI]
        have hxl : O ^^^ P < 512 := by have := (hO.xor (hP2.tr hM)).le; omega
        obtain ⟨g2, e1, e2⟩ := rc_ok (g := g') (k := k + 1) (O := O ^^^ P) (by omega) hxl
        rw [e1, Option.bind_some]
        refine OK.ret ⟨by omega, _, hnew, by omega, rfl, fun k' O' hO' => ?_⟩
        show RB g2 k' O' = true ↔ _
        rw [e2 k' O' hO', Bool.or_eq_true, hB k' O' hO', decide_eq_true_eq]
        constructor
        · rintro ((z | ⟨z1, s, z2, z3, z4⟩) | ⟨z1, z2⟩)
          · exact Or.inl z
          · exact Or.inr ⟨z1, s, z2, (hstep s z2).mpr (by omega), z4⟩
          · exact Or.inr ⟨z1, P, hP2, (hstep P hP2).mpr (by omega), hc, z2⟩
        · rintro (z | ⟨z1, s, z2, z3, z4⟩)
          · exact Or.inl (Or.inl z)
          · rcases (show P < s ∨ s = P by have := (hstep s z2).mp z3; omega) with y | y
            · exact Or.inl (Or.inr ⟨z1, s, z2, y, z4⟩)
            · subst y; exact Or.inr ⟨z1, z4.2⟩
      · rw [if_pos rfl]
        refine OK.ret ⟨by omega, _, hnew, by omega, rfl, fun k' O' hO' => ?_⟩
        show RB g' k' O' = true ↔ _
        rw [hB k' O' hO']
        constructor
        · rintro (z | ⟨z1, s, z2, z3, z4⟩)
          · exact Or.inl z
          · exact Or.inr ⟨z1, s, z2, (hstep s z2).mpr (by omega), z4⟩
        · rintro (z | ⟨z1, s, z2, z3, z4⟩)
          · exact Or.inl z
          · rcases (show P < s ∨ s = P by have := (hstep s z2).mp z3; omega) with y | y
            · exact Or.inr ⟨z1, s, z2, y, z4⟩
            · subst y; exact absurd z4.1 hc
  · constructor
    · exact Or.inl
    · rintro (z | ⟨_, s, z1, z2, _⟩)
      · exact z
      · have := z1.le; omega
end RVS
