/-! trim, balance, even, swap -/
theorem b_31 (x : Int32) : bt x 31 = decide (x.toInt < 0) := by
  unfold bt
  rw [show x.toInt = x.toBitVec.toInt from rfl, ← BitVec.msb_eq_toInt, BitVec.msb_eq_getLsbD_last]
theorem bt_1 : ∀ i, i < 32 → bt 1 i = decide (i = 0) := by decide +kernel
theorem sh31 (x : Int32) : x >>> ((31 : Int32) &&& 31) = if x.toInt < 0 then -1 else 0 := by
  apply b_ext
  intro i hi
  rw [show ((31 : Int32) &&& 31) = (nI 31 &&& 31) from rfl, b_sshr 31 (by omega) x hi]
  have e : (if 31 + i < 32 then bt x (31 + i) else bt x 31) = bt x 31 := by
    split
    · rw [show 31 + i = 31 by omega]
    · rfl
  rw [e, b_31]
  by_cases h : x.toInt < 0
  · rw [if_pos h, b_m1 i hi]; simpa using h
  · rw [if_neg h, b_0]; simpa using h
theorem us31 (x : Int32) : (x.toUInt32 >>> ((31 : Int32).toUInt32 &&& Int32.toUInt32 31)).toInt32 = if x.toInt < 0 then 1 else 0 := by
  apply b_ext
  intro i hi
  show bt (x.toUInt32 >>> ((nI 31).toUInt32 &&& Int32.toUInt32 31)).toInt32 i = _
  rw [b_ushr 31 (by omega) x i]
  by_cases h0 : i = 0
  · subst h0
    rw [b_31]
    by_cases h : x.toInt < 0
    · rw [if_pos h, bt_1 0 hi]; simpa using h
    · rw [if_neg h, b_0]; simpa using h
  · rw [b_big (by omega)]
    split
    · rw [bt_1 i hi]; simp [h0]
    · rw [b_0]
theorem sgn_eq (x : Int32) (h : x.toInt ≠ -2147483648) : f_In_signum x = if 0 < x.toInt then 1 else if x.toInt < 0 then -1 else 0 := by
  unfold f_In_signum
  rw [sh31, us31, fb_negI h]
  by_cases h1 : 0 < x.toInt
  · rw [if_pos h1, if_neg (by omega), if_pos (by omega)]; rfl
  · rw [if_neg h1]
    by_cases h2 : x.toInt < 0
    · rw [if_pos h2, if_neg (by omega)]; rfl
    · rw [if_neg h2, if_neg (by omega)]; rfl
theorem subN {a b : Nat} (ha : a < 2 ^ 30) (hb : b < 2 ^ 30) : (nI a - nI b).toInt = (a : Int) - b := by
  rw [fb_subI (by rw [nI_toInt (by omega), nI_toInt (by omega)]; omega) (by rw [nI_toInt (by omega), nI_toInt (by omega)]; omega), nI_toInt (by omega), nI_toInt (by omega)]
section OPS5
variable {k n Pm : Nat} {B : Nat → Nat} {V : Nat → Nat → Nat → Nat} {T a q : Nat} {c m : HI}
theorem isA_has (A : RLa k n Pm B V T a q c m) {i : Nat} (hi : i < n) : (f_De_isAboard c (nI i) = 0) ↔ a.testBit i = false := by
  unfold f_De_isAboard
  rw [A.ca]
  have := bit_t (p := a) (i := i) (p31 A.n9 A.an) (by have := A.n9; omega)
  rw [← this]
  by_cases z : (nI a >>> (nI i &&& 31)) &&& 1 = 0
  · simp [z]
  · simp [z]
theorem op_trim (h : RLt k n Pm B V c m) (hk : k ≤ 600) (rd : Option Nat) (p : Int32) : RO (f_La_trim c p) (f_Mo_trim m rd p) (FIN k n Pm B V) := by
  obtain ⟨T, a, q, A⟩ := h.la hk
  have hT := A.T30
  have hn := A.n9
  unfold f_La_trim f_Mo_trim
  rw [A.one, Option.bind_some, A.mt', A.ma', A.ct]
  refine RO.ii Iff.rfl (fun _ => RO.ret ⟨rfl, A.fin⟩) (fun h1 => ?_)
  obtain ⟨i, hi, rfl⟩ := has_1 A h1
  refine RO.ii ((isA_has A hi).trans (has_t (p31 hn A.an) (by omega)).symm) (fun h2 => ?_) (fun _ => RO.ret ⟨rfl, A.fin⟩)
  refine RO.bind (A.ln rd (by omega)) ?_
  rintro ⟨l, hc⟩ ⟨l2, hm, rd⟩ ⟨-, h2, A, -⟩
  dsimp only at h2 A ⊢
  subst h2
  rw [A.ct, A.mt']
  refine RO.bind (A.wt rd hi (by omega)) ?_
  rintro ⟨w, hc⟩ ⟨w2, hm, rd⟩ ⟨h1, h2, A⟩
  have A : RLa k n Pm B V T a q hc hm := A
  dsimp only at h1 h2 ⊢
  have e : w = w2 := h1.trans h2.symm
  subst e
  refine RO.bind (P := fun x y => x = y) (RO.loop _ _ (fun i s t => s = t ∧ s.2.toInt = (i : Int) - 4 ∧ i ≤ 9) _ 9 (by omega) ?_ ⟨rfl, rfl, by omega⟩) ?_
  · rintro j ⟨x1, x2⟩ ⟨y1, y2⟩ - ⟨h1, h2, h3⟩
    cases h1
    have h2 : x2.toInt = (j : Int) - 4 := h2
    unfold b_La_trim_64 b_Mo_trim_67
    dsimp only
    refine RO.ii Iff.rfl (fun h1 => RO.ret rfl) (fun h1 => ?_)
    have hj : j < 9 := by
      rw [fa_lt, h2, show (4 : Int32).toInt = 4 from rfl] at h1
      omega
    have e : (x2 + 1).toInt = ((j + 1 : Nat) : Int) - 4 := by
      rw [fb_addI (by rw [h2, show (1 : Int32).toInt = 1 from rfl]; omega) (by rw [h2, show (1 : Int32).toInt = 1 from rfl]; omega), h2, show (1 : Int32).toInt = 1 from rfl]
      omega
    rw [Int32.mul_comm x1 w, Int32.mul_comm x2 w]
    exact RO.ii Iff.rfl (fun _ => RO.ret ⟨hj, rfl, e, hj⟩) (fun _ => RO.ret ⟨hj, rfl, e, hj⟩)
  · rintro x _ rfl
    rw [Int32.mul_comm x w]
    exact RO.bind (A.tell _) (fun x y A => RO.ret ⟨rfl, A.fin⟩)
theorem RLa.apart (A : RLa k n Pm B V T a q c m) (p v : Int32) : f_Mo_areTwoSets m p v = some (f_La_areApart c p v) := by
  unfold f_Mo_areTwoSets f_La_areApart
  rw [A.hold, A.hold, Option.bind_some, Option.bind_some]
  split
  · rfl
  · split
    · rfl
    · split <;> rfl
theorem apart_1 (A : RLa k n Pm B V T a q c m) {p v : Int32} (h : ¬ f_La_areApart c p v = 0) : ∃ s r, s < 2 ^ n ∧ r < 2 ^ n ∧ p = nI s ∧ v = nI r ∧ s &&& r = 0 := by
  unfold f_La_areApart at h
  split at h
  · exact absurd rfl h
  · next h1 =>
    split at h
    · exact absurd rfl h
    · next h2 =>
      obtain ⟨s, hs, rfl⟩ := hold_1 A.n9 A.cn h1
      obtain ⟨r, hr, rfl⟩ := hold_1 A.n9 A.cn h2
      split at h
      · next h3 =>
        rw [fa_and, show (0 : Int32) = nI 0 from rfl, nI_eq (Nat.lt_of_le_of_lt Nat.and_le_left (p31 A.n9 hs)) (by omega)] at h3
        exact ⟨s, r, hs, hr, rfl, rfl, h3⟩
      · exact absurd rfl h
theorem RLa.over (A : RLa k n Pm B V T a q c m) (rd : Option Nat) {s r t : Nat} (hs : s < 2 ^ n) (hr : r < 2 ^ n) (ht : t < 2 ^ 30) : RO (f_La_overweight c (nI s) (nI r) (nI t)) (f_Mo_sinks m rd (nI s) (nI r) (nI t)) (fun x y => x.1.toInt = (WS n (fun i => Wt Pm B V i t) s : Int) - (WS n (fun i => Wt Pm B V i t) r : Int) ∧ -100000 ≤ x.1.toInt ∧ x.1.toInt ≤ 100000 ∧ y.1 = (if 0 < x.1.toInt then 1 else if x.1.toInt < 0 then -1 else 0) ∧ RLa k n Pm B V T a q x.2 y.2.1) := by
  unfold f_La_overweight f_Mo_sinks
  refine RO.bind (A.tog rd (p31 A.n9 hs) ht) ?_
  rintro ⟨w, hc⟩ ⟨w2, hm, rd⟩ ⟨h1, h2, A⟩
  have A : RLa k n Pm B V T a q hc hm := A
  dsimp only at h1 h2 ⊢
  subst h1; subst h2
  refine RO.bind (A.tog rd (p31 A.n9 hr) ht) ?_
  rintro ⟨w, hc⟩ ⟨w2, hm, rd⟩ ⟨h1, h2, A⟩
  have A : RLa k n Pm B V T a q hc hm := A
  dsimp only at h1 h2 ⊢
  subst h1; subst h2
  have l1 := A.sle s ht
  have l2 := A.sle r ht
  generalize WS n (fun i => Wt Pm B V i t) s = x at l1
  generalize WS n (fun i => Wt Pm B V i t) r = y at l2
  have e := subN (a := x) (b := y) (by omega) (by omega)
  refine RO.ir (fun h1 => RO.ir (fun h2 => ?_) (fun h2 => ?_)) (fun h1 => ?_)
  · rw [nI_leI (by omega) (by omega)] at h1 h2
    exact RO.ret ⟨e, by rw [e]; omega, by rw [e]; omega, by rw [e, if_neg (by omega), if_neg (by omega)], A⟩
  · rw [nI_leI (by omega) (by omega)] at h1 h2
    exact RO.ret ⟨e, by rw [e]; omega, by rw [e]; omega, by rw [e, if_neg (by omega), if_pos (by omega)], A⟩
  · rw [nI_leI (by omega) (by omega)] at h1
    exact RO.ret ⟨e, by rw [e]; omega, by rw [e]; omega, by rw [e, if_pos (by omega)], A⟩
theorem op_balance (h : RLt k n Pm B V c m) (hk : k ≤ 600) (rd : Option Nat) (p v w : Int32) : ((f_La_areApart c p v = 0 ∨ f_La_within w 0 99 = 0) ∧ OK (f_Mo_balance m rd p v w) (LOST k n Pm B V c)) ∨ (¬ f_La_areApart c p v = 0 ∧ ¬ f_La_within w 0 99 = 0 ∧ RO (f_La_balance c p v w) (f_Mo_balance m rd p v w) (FIT k n Pm B V)) := by
  obtain ⟨T, a, q, A⟩ := h.la hk
  have hT := A.T30
  unfold f_La_balance f_Mo_balance
  rw [A.apart, Option.bind_some, in_wi, A.ct, A.mt']
  by_cases h1 : f_La_areApart c p v = 0
  · rw [if_pos h1]
    exact Or.inl ⟨Or.inl h1, OK.ret ⟨rfl, A.lost⟩⟩
  · rw [if_neg h1, if_neg h1]
    by_cases h2 : f_La_within w 0 99 = 0
    · rw [if_pos h2]
      exact Or.inl ⟨Or.inr h2, OK.ret ⟨rfl, A.lost⟩⟩
    · rw [if_neg h2, if_neg h2]
      refine Or.inr ⟨h1, h2, ?_⟩
      obtain ⟨s, r, hs, hr, rfl, rfl, -⟩ := apart_1 A h1
      obtain ⟨j, -, hj, rfl⟩ := wi_n (lo := 0) (hi := 99) h2 (by omega) (by omega)
      rw [nI_add]
      refine RO.bind (A.over rd hs hr (by omega)) ?_
      rintro x y ⟨-, h1, h2, h3, A⟩
      exact RO.ret ⟨by rw [sgn_eq _ (by omega)]; exact h3.symm, A.th, A.fin⟩
theorem op_even (h : RLt k n Pm B V c m) (hk : k ≤ 600) (rd : Option Nat) (p v : Int32) : RO (f_La_even c p v) (f_Mo_even m rd p v) (FIN k n Pm B V) := by
  obtain ⟨T, a, q, A⟩ := h.la hk
  have hT := A.T30
  unfold f_La_even f_Mo_even
  rw [A.apart, Option.bind_some]
  refine RO.ii Iff.rfl (fun _ => RO.ret ⟨rfl, A.fin⟩) (fun h1 => ?_)
  obtain ⟨s, r, hs, hr, rfl, rfl, -⟩ := apart_1 A h1
  refine RO.bind (P := fun x y => x.1 = y.1 ∧ x.2.1 = y.2.1 ∧ RLa k n Pm B V T a q x.2.2 y.2.2.1)
    (RO.loop _ _ (fun i x y => i ≤ 9 ∧ x.1 = y.1 ∧ x.2.1 = y.2.1 ∧ x.2.2.1 = nI i ∧ y.2.2.1 = nI i ∧ RLa k n Pm B V T a q x.2.2.2 y.2.2.2.1) _ 9 (by omega) ?_ ⟨by omega, rfl, rfl, rfl, rfl, A⟩) ?_
  · rintro i ⟨x1, x2, x3, hc⟩ ⟨y1, y2, y3, hm, rd⟩ - ⟨hi, rfl, rfl, rfl, rfl, A⟩
    have A : RLa k n Pm B V T a q hc hm := A
    unfold b_La_even_19 b_Mo_even_24
    dsimp only
    refine RO.ii Iff.rfl (fun h1 => RO.ret ⟨rfl, rfl, A⟩) (fun h1 => ?_)
    have hi2 : i < 9 := nle (b := 9) h1 (by omega) (by omega)
    rw [A.dc, A.dm, nI_add]
    refine RO.bind (A.over rd hs hr (by omega)) ?_
    rintro ⟨y1, hc'⟩ ⟨y2, hm', rd'⟩ ⟨-, h1, h2, h3, A'⟩
    dsimp only at h1 h2 h3 A' ⊢
    subst h3
    refine RO.ii ?_ (fun h0 => ?_) (fun h0 => ?_)
    · rw [fa_eq, show (0 : Int32).toInt = 0 from rfl]
      split
      · exact ⟨fun _ => by omega, fun z => absurd z (by decide)⟩
      · split
        · exact ⟨fun _ => by omega, fun z => absurd z (by decide)⟩
        · exact ⟨fun _ => rfl, fun _ => by omega⟩
    · rw [if_pos (show y1 ≤ 0 by rw [h0]; decide)]
      exact RO.ir (fun z => by rw [if_neg (show ¬ 0 < y1.toInt by rw [h0]; decide), if_neg (show ¬ y1.toInt < 0 by rw [h0]; decide)] at z; exact absurd z (by decide)) (fun _ => RO.ret ⟨by omega, by omega, rfl, rfl, nI_1 _, nI_1 _, A'⟩)
    · refine RO.ix ?_ (fun _ => RO.ret ⟨by omega, by omega, rfl, rfl, nI_1 _, nI_1 _, A'⟩) (fun _ => RO.ret ⟨by omega, by omega, rfl, rfl, nI_1 _, nI_1 _, A'⟩)
      rw [fa_eq, show (0 : Int32).toInt = 0 from rfl] at h0
      rw [fa_le, show (0 : Int32).toInt = 0 from rfl]
      split
      · exact ⟨fun _ => by omega, fun z => absurd rfl z⟩
      · split
        · exact ⟨fun _ => by decide, fun _ => by omega⟩
        · exact ⟨fun _ => by decide, fun _ => by omega⟩
  · rintro ⟨x1, x2, hc⟩ ⟨y1, y2, hm, rd⟩ ⟨rfl, rfl, A⟩
    have A : RLa k n Pm B V T a q hc hm := A
    exact RO.bind (A.tell _) (fun x y A => RO.ret ⟨rfl, A.fin⟩)
theorem la_isBell (p : Int32) : f_La_isBell p = some (f_La_within p 0 8) := by
  unfold f_La_isBell
  rw [rg_t (wi_01 _ _ _)]
theorem mo_isBell (p : Int32) : f_Mo_isBell p = some (f_La_within p 0 8) := by
  unfold f_Mo_isBell
  rw [in_wi, rg_t (wi_01 _ _ _)]
/-- what swap asks for -/
def swOK (c : HI) (p v o w : Int32) : Prop := ¬ f_Cr_has c p = 0 ∧ ¬ f_Cr_has c o = 0 ∧ ¬ p = o ∧ ¬ f_La_within v 0 8 = 0 ∧ ¬ f_La_within w 0 8 = 0 ∧ ¬ f_Cr_isPerson c p = 0 ∧ ¬ f_Cr_isPerson c o = 0
theorem mo_isPerson (A : RLa k n Pm B V T a q c m) (p : Int32) : OK (f_Mo_isPerson m p) (fun x => x = 0 ↔ (f_Cr_has c p = 0 ∨ f_Cr_isPerson c p = 0)) := by
  unfold f_Mo_isPerson
  rw [A.one, Option.bind_some]
  refine OK.ite (fun h1 => OK.ret ⟨fun _ => Or.inl h1, fun _ => rfl⟩) (fun h1 => ?_)
  obtain ⟨i, hi, rfl⟩ := has_1 A h1
  have := isP_has A hi
  refine OK.ite (fun h2 => OK.ret ⟨fun _ => Or.inr (this.mpr h2), fun _ => rfl⟩) (fun h2 => OK.ret ⟨fun z => absurd z (by decide), fun z => ?_⟩)
  rcases z with z | z
  · exact absurd z h1
  · exact absurd (this.mp z) h2
theorem sub_sub4 (x y z w : Int32) : x + y - (z + w) = x + y - z - w := by
  rw [Int32.sub_eq_add_neg, Int32.neg_add, Int32.sub_eq_add_neg, Int32.sub_eq_add_neg, ← Int32.add_assoc, Int32.sub_eq_add_neg]
theorem op_swap (h : RLt k n Pm B V c m) (hk : k ≤ 600) (rd : Option Nat) (p v o w : Int32) : (¬ swOK c p v o w ∧ OK (f_Mo_swap m rd p v o w) (LOST k n Pm B V c)) ∨ (swOK c p v o w ∧ RO (f_La_swap c p v o w) (f_Mo_swap m rd p v o w) (FIT k n Pm B V)) := by
  obtain ⟨T, a, q, A⟩ := h.la hk
  have hT := A.T30
  unfold f_La_swap f_Mo_swap
  rw [la_isBell, la_isBell, mo_isBell, mo_isBell]
  simp only [Option.bind_some]
  obtain ⟨x1, e1, g1⟩ := mo_isPerson A p
  obtain ⟨x2, e2, g2⟩ := mo_isPerson A o
  rw [e1, e2]
  simp only [Option.bind_some]
  by_cases h1 : x1 = 0
  · rw [if_pos h1]
    refine Or.inl ⟨fun z => ?_, OK.ret ⟨rfl, A.lost⟩⟩
    rcases g1.mp h1 with y | y
    · exact z.1 y
    · exact z.2.2.2.2.2.1 y
  · rw [if_neg h1]
    by_cases h2 : x2 = 0
    · rw [if_pos h2]
      refine Or.inl ⟨fun z => ?_, OK.ret ⟨rfl, A.lost⟩⟩
      rcases g2.mp h2 with y | y
      · exact z.2.1 y
      · exact z.2.2.2.2.2.2 y
    · rw [if_neg h2]
      by_cases h3 : p = o
      · rw [if_pos h3]
        exact Or.inl ⟨fun z => z.2.2.1 h3, OK.ret ⟨rfl, A.lost⟩⟩
      · rw [if_neg h3, if_neg h3]
        by_cases h4 : f_La_within v 0 8 = 0
        · rw [if_pos h4]
          exact Or.inl ⟨fun z => z.2.2.2.1 h4, OK.ret ⟨rfl, A.lost⟩⟩
        · rw [if_neg h4, if_neg h4]
          by_cases h5 : f_La_within w 0 8 = 0
          · rw [if_pos h5]
            exact Or.inl ⟨fun z => z.2.2.2.2.1 h5, OK.ret ⟨rfl, A.lost⟩⟩
          · rw [if_neg h5, if_neg h5]
            have k1 : ¬ f_Cr_has c p = 0 := fun z => h1 (g1.mpr (Or.inl z))
            have k2 : ¬ f_Cr_has c o = 0 := fun z => h2 (g2.mpr (Or.inl z))
            have k3 : ¬ f_Cr_isPerson c p = 0 := fun z => h1 (g1.mpr (Or.inr z))
            have k4 : ¬ f_Cr_isPerson c o = 0 := fun z => h2 (g2.mpr (Or.inr z))
            refine Or.inr ⟨⟨k1, k2, h3, h4, h5, k3, k4⟩, ?_⟩
            rw [if_neg k1, if_neg k2, if_neg k3, if_neg k4]
            obtain ⟨i, hi, rfl⟩ := has_1 A k1
            obtain ⟨j, hj, rfl⟩ := has_1 A k2
            obtain ⟨v, -, hv, rfl⟩ := wi_n (lo := 0) (hi := 8) h4 (by omega) (by omega)
            obtain ⟨w, -, hw, rfl⟩ := wi_n (lo := 0) (hi := 8) h5 (by omega) (by omega)
            rw [A.dc, A.dm, nI_add]
            refine RO.bind (A.wt rd hj (by omega)) ?_
            rintro ⟨z1, hc⟩ ⟨y1, hm, rd⟩ ⟨e1, e2, A⟩
            have A : RLa k n Pm B V T a q hc hm := A
            dsimp only at e1 e2 ⊢
            rw [A.dc, A.dm, nI_add]
            refine RO.bind (A.wt rd hi (by omega)) ?_
            rintro ⟨z2, hc⟩ ⟨y2, hm, rd⟩ ⟨e3, e4, A⟩
            have A : RLa k n Pm B V T a q hc hm := A
            dsimp only at e3 e4 ⊢
            rw [A.dc, A.dm, nI_add]
            refine RO.bind (A.wt rd hj (by omega)) ?_
            rintro ⟨z3, hc⟩ ⟨y3, hm, rd⟩ ⟨e5, e6, A⟩
            have A : RLa k n Pm B V T a q hc hm := A
            dsimp only at e5 e6 ⊢
            rw [A.dc, A.dm, nI_add]
            refine RO.bind (A.wt rd hi (by omega)) ?_
            rintro ⟨z4, hc⟩ ⟨y4, hm, rd⟩ ⟨e7, e8, A⟩
            have A : RLa k n Pm B V T a q hc hm := A
            dsimp only at e7 e8 ⊢
            refine RO.ret ⟨?_, A.th, A.fin⟩
            show z1 + z2 - (z3 + z4) = y1 + y2 - y3 - y4
            rw [e1, e2, e3, e4, e5, e6, e7, e8]
            exact sub_sub4 _ _ _ _
end OPS5
