/-! bits of longs -/
def bl (x : Int64) (i : Nat) : Bool := x.toBitVec.getLsbD i
theorem bl_or (x y : Int64) (i : Nat) : bl (x ||| y) i = (bl x i || bl y i) := by unfold bl; rw [Int64.toBitVec_or, BitVec.getLsbD_or]
theorem bl_and (x y : Int64) (i : Nat) : bl (x &&& y) i = (bl x i && bl y i) := by unfold bl; rw [Int64.toBitVec_and, BitVec.getLsbD_and]
theorem bl_xor (x y : Int64) (i : Nat) : bl (x ^^^ y) i = (bl x i ^^ bl y i) := by unfold bl; rw [Int64.toBitVec_xor, BitVec.getLsbD_xor]
theorem bl_0 (i : Nat) : bl 0 i = false := BitVec.getLsbD_zero
theorem bl_1 : ∀ i, i < 64 → bl 1 i = decide (i = 0) := by decide +kernel
theorem bl_m1 : ∀ i, i < 64 → bl (-1) i = true := by decide +kernel
theorem bl_ext {x y : Int64} (h : ∀ i, i < 64 → bl x i = bl y i) : x = y := Int64.toBitVec_inj.mp (BitVec.eq_of_getLsbD_eq (fun i hi => h i hi))
theorem bl_shl {x s : Int64} {k : Nat} (hs : (s.toBitVec.smod 64).toNat = k) {i : Nat} (hi : i < 64) : bl (x <<< s) i = (decide (k ≤ i) && bl x (i - k)) := by
  unfold bl
  rw [Int64.toBitVec_shiftLeft]
  show (x.toBitVec <<< (s.toBitVec.smod 64).toNat).getLsbD i = _
  rw [hs, BitVec.getLsbD_shiftLeft]
  rcases Nat.lt_or_ge i k with h | h
  · simp [h, Nat.not_le.mpr h]
  · simp [hi, h, Nat.not_lt.mpr h]
theorem sl_all : ∀ t, t < 6 → ((((1 : Int32) <<< (nI t &&& 31)).toInt64 &&& 63).toBitVec.smod 64).toNat = 2 ^ t := by decide +kernel
theorem su_all : ∀ p, p < 64 → (((nI p).toInt64.toUInt64 &&& Int64.toUInt64 63).toBitVec % 64).toNat = p := by decide +kernel
theorem ss_all : ∀ p, p < 64 → (((nI p).toInt64 &&& 63).toBitVec.smod 64).toNat = p := by decide +kernel
theorem bl_ushr (x : Int64) {p : Nat} (hp : p < 64) (i : Nat) : bl ((x.toUInt64 >>> ((nI p).toInt64.toUInt64 &&& Int64.toUInt64 63)).toInt64) i = bl x (p + i) := by
  show (x.toUInt64 >>> ((nI p).toInt64.toUInt64 &&& Int64.toUInt64 63)).toBitVec.getLsbD i = x.toUInt64.toBitVec.getLsbD (p + i)
  rw [UInt64.toBitVec_shiftRight]
  show (x.toUInt64.toBitVec >>> (((nI p).toInt64.toUInt64 &&& Int64.toUInt64 63).toBitVec % 64).toNat).getLsbD i = _
  rw [su_all p hp, BitVec.getLsbD_ushiftRight]
theorem bl_tst (x : Int64) {p : Nat} (hp : p < 64) : lg_cmp ((((x.toUInt64 >>> ((nI p).toInt64.toUInt64 &&& Int64.toUInt64 63)).toInt64) &&& (1 : Int64))) (0 : Int64) = 0 ↔ bl x p = false := by
  have h1 : ∀ y : Int64, lg_cmp y 0 = 0 ↔ y = 0 := fun y => by
    unfold lg_cmp
    by_cases h : y > 0
    · rw [if_pos h]
      constructor
      · intro z; exact absurd z (by decide)
      · rintro rfl; exact absurd h (by decide)
    · rw [if_neg h]
      by_cases h2 : y = 0
      · rw [if_pos h2]; exact ⟨fun _ => h2, fun _ => rfl⟩
      · rw [if_neg h2]; exact ⟨fun z => absurd z (by decide), fun z => absurd z h2⟩
  rw [h1]
  constructor
  · intro h
    have := bl_0 0
    rw [← h, bl_and, bl_ushr x hp, bl_1 0 (by omega)] at this
    simpa using this
  · intro h
    apply bl_ext
    intro i hi
    rw [bl_and, bl_ushr x hp, bl_1 i hi, bl_0]
    by_cases z : i = 0
    · subst z; rw [Nat.add_zero, h]; rfl
    · rw [decide_eq_false z, Bool.and_false]
theorem gw_all : ∀ t, t < 6 → ∀ i, i < 64 → bl (rh_GW t) i = i.testBit t := by decide +kernel
theorem wt_nat : ∀ t, t < 6 → ∀ i, i < 64 → (decide (2 ^ t ≤ i) && !((i - 2 ^ t).testBit t)) = i.testBit t ∧ (i.testBit t = true → i - 2 ^ t = i ^^^ 2 ^ t) ∧ i ^^^ 2 ^ t < 64 := by decide +kernel
theorem wt_ok (x : Int64) {t : Nat} (ht : t < 6) : ∃ w, f_Ta_withTask x (nI t) = some w ∧ ∀ i, i < 64 → bl w i = (i.testBit t && bl x (i ^^^ 2 ^ t)) := by
  unfold f_Ta_withTask
  rw [rg_t (gd_nI ht (by omega)), nI_clamp (by omega)]
  refine ⟨_, rfl, fun i hi => ?_⟩
  obtain ⟨h1, h2, h3⟩ := wt_nat t ht i hi
  have hsub : i - 2 ^ t < 64 := Nat.lt_of_le_of_lt (Nat.sub_le _ _) hi
  rw [bl_shl (sl_all t ht) hi, bl_and, bl_xor]
  by_cases hb : i.testBit t = true
  · rw [hb] at h1
    simp only [Bool.and_eq_true, decide_eq_true_eq, Bool.not_eq_true'] at h1
    rw [gw_all t ht _ hsub, bl_m1 _ hsub, h1.2, decide_eq_true h1.1, hb, h2 hb]
    simp
  · rw [Bool.not_eq_true] at hb
    rw [hb] at h1 ⊢
    rw [Bool.false_and]
    by_cases hk : 2 ^ t ≤ i
    · rw [decide_eq_true hk, Bool.true_and, Bool.not_eq_false'] at h1
      rw [gw_all t ht _ hsub, bl_m1 _ hsub, h1]
      simp
    · rw [decide_eq_false hk, Bool.false_and]
