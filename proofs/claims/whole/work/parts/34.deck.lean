/-! the deck: mark, remember, lay, try, on both sides -/
def LSM (f : Nat → Int32) : Nat → Int32
  | 0 => 0
  | i + 1 => LSM f i + f i
theorem LSM_cong {f g : Nat → Int32} : ∀ {n : Nat}, (∀ i, i < n → f i = g i) → LSM f n = LSM g n
  | 0, _ => rfl
  | i + 1, h => by unfold LSM; rw [LSM_cong (fun j hj => h j (by omega)), h i (by omega)]
theorem LSM_upd (f g : Nat → Int32) {i : Nat} (d : Int32) (h : ∀ j, j ≠ i → g j = f j) (hi : g i = f i + d) : ∀ n, i < n → LSM g n = LSM f n + d := by
  intro n hn
  induction n with
  | zero => omega
  | succ n ih =>
    unfold LSM
    by_cases e : i = n
    · subst e
      rw [LSM_cong (g := f) (fun j hj => h j (by omega)), hi, Int32.add_assoc]
    · rw [ih (by omega), h n (by omega), Int32.add_assoc, Int32.add_comm d, ← Int32.add_assoc]
theorem LN_LSM (a : Nat) (P : Nat → Int32) (W : Nat → Nat) : ∀ n, LN a P W n = LSM (fun j => if a.testBit j then P j * nI (W j) else 0) n
  | 0 => rfl
  | i + 1 => by unfold LN LSM; rw [LN_LSM a P W i]
theorem RLa.t0 {k n Pm : Nat} {B : Nat → Nat} {V : Nat → Nat → Nat → Nat} {T a q : Nat} {c m : HI} (A : RLa k n Pm B V T a q c m) : RLt k n Pm B V c m := ⟨A.1, q, A.2.2.2.2.2.2.2.1, A.2.2.2.2.2.2.2.2.1, A.2.2.2.2.2.2.2.2.2.1, A.2.2.2.2.2.2.2.2.2.2⟩
theorem RQ.deck {k k' n Pm : Nat} {B : Nat → Nat} {V : Nat → Nat → Nat → Nat} {c m c' m' : HI} (h : RQ k n Pm B V (rC c) (rM m)) (hk : k ≤ k') (x : ∀ o j, pC o j = true → o ≠ 13 → o ≠ 14 → o ≠ 16 → c' o j = c o j) (y : ∀ o j, pM o j = true → o ≠ 1 → o ≠ 10 → (o = 0 → j ≠ 24) → m' o j = m o j) (d : RDeck k' n c' m') (p : RPast k' n c' m') : RQ k' n Pm B V (rC c') (rM m') := by
  obtain ⟨⟨t, t1, t2, t3, t4⟩, ⟨f1, f2, f3, f4, f5, f6, f7⟩, h3, ⟨r, r1, r2, r3, r4⟩, ⟨s, s1, s2, s3, s4⟩, -, -, ⟨q, q1, q2, q3⟩, ⟨v1, v2, v3⟩⟩ := h
  refine ⟨⟨t, t1, (x 0 1 rfl (by omega) (by omega) (by omega)).trans t2, (y 0 6 rfl (by omega) (by omega) (by omega)).trans t3, fun i hi => ?_⟩, ⟨f1, (x 4 0 rfl (by omega) (by omega) (by omega)).trans f2, (y 0 1 rfl (by omega) (by omega) (by omega)).trans f3, (x 4 1 rfl (by omega) (by omega) (by omega)).trans f4, (y 0 2 rfl (by omega) (by omega) (by omega)).trans f5, f6, fun i hi => ?_⟩, fun i hi => ?_, ⟨r, r1, (x 25 0 rfl (by omega) (by omega) (by omega)).trans r2, (y 0 29 rfl (by omega) (by omega) (by omega)).trans r3, fun i hi => ?_⟩, ⟨s, s1, (x 34 1 rfl (by omega) (by omega) (by omega)).trans s2, (y 0 39 rfl (by omega) (by omega) (by omega)).trans s3, fun i hi => ?_⟩, d, p, ⟨q, by omega, (y 0 49 rfl (by omega) (by omega) (by omega)).trans q2, fun j hj => ?_⟩, ⟨fun z z1 z2 => v1 z (z1.trans (x 6 1 rfl (by omega) (by omega) (by omega))) (fun i => (z2 i).trans (x 7 i rfl (by omega) (by omega) (by omega))), fun z rd z1 z2 => v2 z rd (z1.trans (y 0 17 rfl (by omega) (by omega) (by omega))) (fun i => (z2 i).trans (y 7 i rfl (by omega) (by omega) (by omega))), v3⟩⟩
  · show c' 1 i = m' 4 i &&& 255 ∧ (m' 4 i).toInt8.toInt32 = m' 4 i
    rw [x 1 i rfl (by omega) (by omega) (by omega), y 4 i rfl (by omega) (by omega) (by omega)]
    exact t4 i hi
  · show c' 5 i = nI (B i) ∧ m' 2 i = nI (B i) ∧ _
    rw [x 5 i rfl (by omega) (by omega) (by omega), y 2 i rfl (by omega) (by omega) (by omega)]
    exact f7 i hi
  · show c' 40 i = m' 3 i ∧ ∃ v, v ≤ 9999 ∧ c' 40 i = nI v
    rw [x 40 i rfl (by omega) (by omega) (by omega), y 3 i rfl (by omega) (by omega) (by omega)]
    exact h3 i hi
  · show ∃ a b, a ≤ b ∧ b ≤ 9999 ∧ c' 26 i = nI a ∧ c' 27 i = nI b ∧ m' 14 (2 * i) = nI a ∧ m' 14 (2 * i + 1) = nI b
    rw [x 26 i rfl (by omega) (by omega) (by omega), x 27 i rfl (by omega) (by omega) (by omega), y 14 _ rfl (by omega) (by omega) (by omega), y 14 _ rfl (by omega) (by omega) (by omega)]
    exact r4 i hi
  · show ∃ s a v, s < 2 ^ n ∧ a ≤ 99 ∧ v ≤ 9999 ∧ c' 35 i = nI s ∧ c' 36 i = nI a ∧ c' 37 i = nI v ∧ m' 23 (3 * i) = nI s ∧ m' 23 (3 * i + 1) = nI a ∧ m' 23 (3 * i + 2) = nI v
    rw [x 35 i rfl (by omega) (by omega) (by omega), x 36 i rfl (by omega) (by omega) (by omega), x 37 i rfl (by omega) (by omega) (by omega), y 23 _ rfl (by omega) (by omega) (by omega), y 23 _ rfl (by omega) (by omega) (by omega), y 23 _ rfl (by omega) (by omega) (by omega)]
    exact s4 i hi
  · obtain ⟨z, g1, g2, g3, g4⟩ := q3 j hj
    have e29 : m' 29 j = m 29 j := y 29 j rfl (by omega) (by omega) (by omega)
    have e18 : c' 18 j = c 18 j := x 18 j rfl (by omega) (by omega) (by omega)
    refine ⟨z, g1, (y 30 j rfl (by omega) (by omega) (by omega)).trans g2, ?_, ?_⟩
    · show m' 29 j = 0 ∨ m' 29 j = 1
      rw [e29]; exact g3
    · show (c' 18 j = 1 ∧ m' 29 j = 1 ∧ z = q ∧ SN k' n (c' 17 (11 * j)) (c' 17 (11 * j + 1)) (fun i => c' 17 (11 * j + 2 + i)) (fun i => m' 28 (11 * j + i))) ∨ (c' 18 j = 0 ∧ (m' 29 j = 0 ∨ z ≠ q))
      rw [e29, e18]
      rcases g4 with ⟨g4, g5, g6, g7⟩ | g4
      · refine Or.inl ⟨g4, g5, g6, ?_⟩
        have e1 : ∀ i, c' 17 i = c 17 i := fun i => x 17 i rfl (by omega) (by omega) (by omega)
        have e2 : ∀ i, m' 28 i = m 28 i := fun i => y 28 i rfl (by omega) (by omega) (by omega)
        simp only [e1, e2]
        exact SN.mono g7 hk (Nat.le_refl _)
      · exact Or.inr g4
/-- all but the deck's cells of the class, all but those of the reference -/
def YC (c c' : HI) : Prop := ∀ o j, o ≠ 8 → o ≠ 13 → o ≠ 14 → o ≠ 15 → o ≠ 16 → c' o j = c o j
def YM (m m' : HI) : Prop := ∀ o j, sM o j = false → o ≠ 1 → o ≠ 10 → o ≠ 11 → o ≠ 12 → (o = 0 → j ≠ 24) → m' o j = m o j
theorem YC.rf {c : HI} : YC c c := fun _ _ _ _ _ _ _ => rfl
theorem YM.rf {m : HI} : YM m m := fun _ _ _ _ _ _ _ _ => rfl
theorem YC.tr {a b c : HI} (h : YC a b) (g : YC b c) : YC a c := fun o k q1 q2 q3 q4 q5 => (g o k q1 q2 q3 q4 q5).trans (h o k q1 q2 q3 q4 q5)
theorem YM.tr {a b c : HI} (h : YM a b) (g : YM b c) : YM a c := fun o k q1 q2 q3 q4 q5 q6 => (g o k q1 q2 q3 q4 q5 q6).trans (h o k q1 q2 q3 q4 q5 q6)
theorem E8.y {c c' : HI} (h : E8 c c') : YC c c' := fun o k q1 _ _ _ _ => h o k q1
theorem EM.y {m m' : HI} (h : EM m m') : YM m m' := fun o k q1 _ _ _ _ _ => h o k q1
section DECK
variable {k n Pm : Nat} {B : Nat → Nat} {V : Nat → Nat → Nat → Nat} {T a q : Nat} {c m : HI}
theorem RLa.deck {c' m' : HI} {k' T' a' : Nat} (A : RLa k n Pm B V T a q c m) (hk : k ≤ k') (hk6 : k' ≤ 600) (x : YC c c') (y : YM m m') (hT : T' ≤ 2400 * k') (ha : a' < 2 ^ n) (c1 : c' 13 1 = nI T') (m1 : m' 1 10 = nI T') (c2 : c' 13 2 = nI a') (m2 : m' 1 9 = nI a') (P : ∀ i, i < 9 → c' 14 i = m' 1 i ∧ -4 ≤ (c' 14 i).toInt ∧ (c' 14 i).toInt ≤ 4 ∧ (n ≤ i → c' 14 i = 0)) (hp : RPast k' n c' m') : RLa k' n Pm B V T' a' q c' m' := by
  obtain ⟨a1, a2, a3, ⟨a4, a5⟩, a6, ⟨a7, a8⟩, a9, a10, a11, a12, a13⟩ := A
  refine ⟨RQ.deck a1 hk (fun o j p n1 n2 n3 => x o j (fun z => by subst z; exact absurd (show false = true from p) (by decide)) n1 n2 (fun z => by subst z; exact absurd (show false = true from p) (by decide)) n3) (fun o j p n1 n2 n3 => y o j (sM_no (Or.inl p)) n1 n2 (fun z => by subst z; exact absurd (show false = true from p) (by decide)) (fun z => by subst z; exact absurd (show false = true from p) (by decide)) n3) ⟨⟨T', hT, c1, m1⟩, ⟨a', ha, c2, m2⟩, P⟩ hp, hk6, hT, ⟨c1, m1⟩, ha, ⟨c2, m2⟩, ?_, a10, ?_, ?_, fun i hi => ?_⟩
  · rw [y 0 9 rfl (by omega) (by omega) (by omega) (by omega) (by omega)]; exact a9
  · rw [x 2 1 (by omega) (by omega) (by omega) (by omega) (by omega)]; exact a11
  · rw [y 0 8 rfl (by omega) (by omega) (by omega) (by omega) (by omega)]; exact a12
  · rw [x 3 i (by omega) (by omega) (by omega) (by omega) (by omega), y 5 i rfl (by omega) (by omega) (by omega) (by omega) (by omega)]; exact a13 i hi
/-- the old deck as the class has marked it -/
def MK (c x : HI) : Prop := (∀ o j, o ≠ 15 → x o j = c o j) ∧ x 15 0 = c 13 1 ∧ x 15 1 = c 13 2 ∧ ∀ i, i < 9 → x 15 (2 + i) = c 14 i
theorem mk_c (c : HI) : OK (f_De_mark c) (MK c) := by
  unfold f_De_mark f_De_copyTo_15
  refine OK.bind (P := MK c) ?_ (fun x hx => OK.ret hx)
  rw [rg_t (by decide), rg_t (by decide)]
  refine OK.bind (OK.loop _ (fun i x => i ≤ 9 ∧ x.1 = nI i ∧ (∀ o j, o ≠ 15 → x.2 o j = c o j) ∧ x.2 15 0 = c 13 1 ∧ x.2 15 1 = c 13 2 ∧ ∀ j, j < i → x.2 15 (2 + j) = c 14 j) (MK c) 9 (by omega) ?_ ⟨by omega, rfl, fun o j ho => ?_, rfl, rfl, fun j hj => by omega⟩) (fun x hx => OK.ret hx)
  · rintro i ⟨x1, h⟩ - ⟨hi, rfl, f, e0, e1, e2⟩
    dsimp only at f e0 e1 e2
    unfold b_De_copyTo_15_18
    dsimp only
    refine OK.ite (fun h9 => OK.ret ?_) (fun h9 => ?_)
    · have : i = 9 := by have := ple (b := 9) h9 (by omega) (by omega); omega
      subst this
      exact ⟨f, e0, e1, e2⟩
    have hi2 : i < 9 := nle (b := 9) h9 (by omega) (by omega)
    rw [show (0 : Int32) + 2 + nI i = nI (2 + i) from nI_add 2 i, nI_clamp (n := i) (by omega), nI_clamp (n := 2 + i) (by omega), nI_1]
    refine OK.g (gd_nI (by omega) (by omega)) (OK.g (gd_nI (by omega) (by omega)) (OK.ret ⟨hi2, hi2, rfl, fun o j ho => ?_, ?_, ?_, fun j hj => ?_⟩))
    · show rh_up h 15 _ _ o j = _; rw [up_f, if_neg (by omega)]; exact f o j ho
    · show rh_up h 15 _ _ 15 0 = _; rw [up_f, if_neg (by omega)]; exact e0
    · show rh_up h 15 _ _ 15 1 = _; rw [up_f, if_neg (by omega)]; exact e1
    · show rh_up h 15 (2 + i) _ 15 (2 + j) = _
      rw [up_f]
      by_cases e : j = i
      · subst e; rw [if_pos ⟨rfl, rfl⟩]; exact f 14 j (by omega)
      · rw [if_neg (by omega)]; exact e2 j (by omega)
  · show rh_up (rh_up c 15 _ _) 15 _ _ o j = _
    rw [up_f, if_neg (by omega), up_f, if_neg (by omega)]
/-- a row more of the past: rows of r0 go down by sh, and s is laid behind them -/
def PU (q0 : Nat) (r0 s r1 : Nat → Int32) : Prop := (∀ j, j < 11 * (q0 - q0 / 12) → r1 j = r0 (j + 11 * (q0 / 12))) ∧ ∀ i, i < 11 → r1 (11 * (q0 - q0 / 12) + i) = s i
theorem rem_c {q0 : Nat} (hq : q0 ≤ 12) (hc : c 13 6 = nI q0) : OK (f_De_remember c) (fun x => (∀ o j, o ≠ 16 → (o = 13 → j ≠ 6) → x o j = c o j) ∧ x 13 6 = nI (q0 - q0 / 12 + 1) ∧ PU q0 (c 16) (c 15) (x 16)) := by
  unfold f_De_remember
  rw [hc]
  by_cases h12 : q0 = 12
  · subst h12
    rw [if_pos (show nI 12 = 12 from rfl)]
    have e : ∀ f : Nat → Int32, rh_upA c 16 f 13 6 = nI 12 := fun f => hc
    simp only [e]
    rw [rg_t (by decide)]
    refine OK.ret ⟨fun o j ho hj => ?_, ?_, fun j hj => ?_, fun i hi => ?_⟩
    · rw [up_f, if_neg (by omega), rh_upA_o _ _ ho, up_f, if_neg (by omega), rh_upA_o _ _ ho]
    · rw [rh_up_s]; rfl
    · rw [rh_up_o _ _ _ (by omega), rh_upA_s]
      show (if 121 ≤ j ∧ j < 121 + 11 then _ else rh_up (rh_upA c 16 _) 13 6 _ 16 j) = _
      rw [if_neg (by omega), rh_up_o _ _ _ (by omega), rh_upA_s]
      show (if 0 ≤ j ∧ j < 0 + 121 then c 16 (11 + (j - 0)) else c 16 j) = c 16 (j + 11)
      rw [if_pos (by omega), show 11 + (j - 0) = j + 11 by omega]
    · rw [rh_up_o _ _ _ (by omega), rh_upA_s]
      show (if 121 ≤ 121 + i ∧ 121 + i < 121 + 11 then rh_up (rh_upA c 16 _) 13 6 _ 15 (0 + (121 + i - 121)) else _) = _
      rw [if_pos (by omega), rh_up_o _ _ _ (by omega), rh_upA_o _ _ (by omega), show 0 + (121 + i - 121) = i by omega]
  · rw [if_neg (show ¬ nI q0 = (12 : Int32) from fun z => h12 ((nI_eq (b := 12) (by omega) (by omega)).mp z)), show nI q0 * 11 = nI (q0 * 11) from pk_mul q0 11]
    have e : ∀ f : Nat → Int32, rh_upA c 16 f 13 6 = nI q0 := fun f => hc
    simp only [e]
    have hd : q0 / 12 = 0 := by omega
    have e11 : (nI (q0 * 11)).toNatClampNeg = q0 * 11 := nI_clamp (by omega)
    rw [rg_t ⟨by decide, by decide, nI_pos (by omega), by decide, by decide, by rw [e11]; show q0 * 11 + 11 ≤ 132; omega⟩, e11, nI_1]
    unfold PU
    rw [hd]
    refine OK.ret ⟨fun o j ho hj => ?_, ?_, fun j hj => ?_, fun i hi => ?_⟩
    · rw [up_f, if_neg (by omega), rh_upA_o _ _ ho]
    · rw [rh_up_s]; rfl
    · rw [rh_up_o _ _ _ (by omega), rh_upA_s]
      show (if q0 * 11 ≤ j ∧ j < q0 * 11 + 11 then _ else c 16 j) = _
      rw [if_neg (by omega)]; rfl
    · rw [rh_up_o _ _ _ (by omega), rh_upA_s]
      show (if q0 * 11 ≤ 11 * q0 + i ∧ 11 * q0 + i < q0 * 11 + 11 then c 15 (0 + (11 * q0 + i - q0 * 11)) else _) = _
      rw [if_pos (by omega), show 0 + (11 * q0 + i - q0 * 11) = i by omega]
theorem lay10 {p : Nat} (hp : p ≤ 121) (h : HI) : OK (f_Mo_lay_1_10 h (nI p)) (fun x => (∀ o j, o ≠ 10 → x o j = h o j) ∧ (∀ j, j < p → x 10 j = h 10 j) ∧ ∀ i, i < 11 → x 10 (p + i) = h 1 i) := by
  unfold f_Mo_lay_1_10
  refine OK.bind (OK.loop _ (fun i x => i ≤ 11 ∧ x.1 = nI i ∧ (∀ o j, o ≠ 10 → x.2 o j = h o j) ∧ (∀ j, j < p → x.2 10 j = h 10 j) ∧ ∀ j, j < i → x.2 10 (p + j) = h 1 j) (fun x => (∀ o j, o ≠ 10 → x o j = h o j) ∧ (∀ j, j < p → x 10 j = h 10 j) ∧ ∀ i, i < 11 → x 10 (p + i) = h 1 i) 11 (by omega) ?_ ⟨by omega, rfl, fun _ _ _ => rfl, fun _ _ => rfl, fun j hj => by omega⟩) (fun x hx => OK.ret hx)
  rintro i ⟨x1, g⟩ - ⟨hi, rfl, f, e0, e1⟩
  dsimp only at f e0 e1
  unfold b_Mo_lay_1_10_2
  dsimp only
  refine OK.ite (fun h9 => OK.ret ?_) (fun h9 => ?_)
  · have : i = 11 := by have := ple (b := 11) h9 (by omega) (by omega); omega
    subst this
    exact ⟨f, e0, e1⟩
  have hi2 : i < 11 := nle (b := 11) h9 (by omega) (by omega)
  rw [nI_add, nI_clamp (n := i) (by omega), nI_clamp (n := p + i) (by omega), nI_1]
  refine OK.g (gd_nI (by omega) (by omega)) (OK.g (gd_nI (by omega) (by omega)) (OK.ret ⟨hi2, hi2, rfl, fun o j ho => ?_, fun j hj => ?_, fun j hj => ?_⟩))
  · show rh_up g 10 _ _ o j = _; rw [up_f, if_neg (by omega)]; exact f o j ho
  · show rh_up g 10 _ _ 10 j = _; rw [up_f, if_neg (by omega)]; exact e0 j hj
  · show rh_up g 10 (p + i) _ 10 (p + j) = _
    rw [up_f]
    by_cases e : j = i
    · subst e; rw [if_pos ⟨rfl, rfl⟩]; exact f 1 j (by omega)
    · rw [if_neg (by omega)]; exact e1 j (by omega)
theorem shift10 (b : (Int32 × HI) → Option ((Int32 × HI) ⊕ HI)) (hb : b = b_Mo_remember_1_11) (h : HI) : OK (rh_loop b rh_N ((0 : Int32), h)) (fun x => (∀ o j, o ≠ 10 → x o j = h o j) ∧ ∀ j, j < 121 → x 10 j = h 10 (j + 11)) := by
  subst hb
  refine OK.loop _ (fun i x => i ≤ 121 ∧ x.1 = nI i ∧ (∀ o j, o ≠ 10 → x.2 o j = h o j) ∧ (∀ j, j < i → x.2 10 j = h 10 (j + 11)) ∧ ∀ j, i ≤ j → x.2 10 j = h 10 j) _ 121 (by omega) ?_ ⟨by omega, rfl, fun _ _ _ => rfl, fun j hj => by omega, fun _ _ => rfl⟩
  rintro i ⟨x1, g⟩ - ⟨hi, rfl, f, e0, e1⟩
  dsimp only at f e0 e1
  unfold b_Mo_remember_1_11
  dsimp only
  refine OK.ite (fun h9 => OK.ret ?_) (fun h9 => ?_)
  · have : i = 121 := by have := ple (b := 121) h9 (by omega) (by omega); omega
    subst this
    exact ⟨f, e0⟩
  have hi2 : i < 121 := nle (b := 121) h9 (by omega) (by omega)
  rw [show nI i + 11 = nI (i + 11) from nI_add i 11, nI_clamp (n := i) (by omega), nI_clamp (n := i + 11) (by omega), nI_1]
  refine OK.g (gd_nI (by omega) (by omega)) (OK.g (gd_nI (by omega) (by omega)) (OK.ret ⟨hi2, hi2, rfl, fun o j ho => ?_, fun j hj => ?_, fun j hj => ?_⟩))
  · show rh_up g 10 _ _ o j = _; rw [up_f, if_neg (by omega)]; exact f o j ho
  · show rh_up g 10 i _ 10 j = _
    rw [up_f]
    by_cases e : j = i
    · subst e; rw [if_pos ⟨rfl, rfl⟩]; exact e1 _ (by omega)
    · rw [if_neg (by omega)]; exact e0 j (by omega)
  · show rh_up g 10 i _ 10 j = _
    rw [up_f, if_neg (by omega)]; exact e1 j (by omega)
theorem rem_m {q0 : Nat} (hq : q0 ≤ 12) {h : HI} (hh : h 0 24 = nI q0) : OK (f_Mo_remember_1 h) (fun x => (∀ o j, o ≠ 10 → (o = 0 → j ≠ 24) → x o j = h o j) ∧ x 0 24 = nI (q0 - q0 / 12 + 1) ∧ PU q0 (h 10) (h 1) (x 10)) := by
  unfold f_Mo_remember_1
  rw [hh]
  by_cases h12 : q0 = 12
  · subst h12
    rw [if_pos (show nI 12 = 12 from rfl)]
    refine OK.bind (shift10 _ rfl h) ?_
    rintro x ⟨f, e⟩
    have e24 : x 0 24 = nI 12 := (f 0 24 (by omega)).trans hh
    rw [e24, show nI 12 - 1 = nI 11 from pk_sub (a := 12) (b := 1) (by omega), show (11 : Int32) * nI 11 = nI 121 from pk_mul 11 11]
    refine OK.bind (lay10 (by omega) (rh_up x 0 24 (nI 11))) ?_
    rintro y ⟨f2, e2, e3⟩
    have e25 : y 0 24 = nI 11 := f2 0 24 (by omega)
    rw [e25]
    refine OK.ret ⟨fun o j ho hj => ?_, rfl, fun j hj => ?_, fun i hi => ?_⟩
    · rw [up_f, if_neg (by omega), f2 o j ho, up_f, if_neg (by omega), f o j ho]
    · show y 10 j = _
      rw [e2 j (by omega)]
      show x 10 j = _
      exact e j (by omega)
    · show y 10 (121 + i) = _
      rw [e3 i hi]
      show x 1 i = _
      exact f 1 i (by omega)
  · rw [if_neg (show ¬ nI q0 = (12 : Int32) from fun z => h12 ((nI_eq (b := 12) (by omega) (by omega)).mp z)), show (11 : Int32) * nI q0 = nI (11 * q0) from pk_mul 11 q0]
    refine OK.bind (lay10 (by omega) h) ?_
    rintro y ⟨f2, e2, e3⟩
    have e25 : y 0 24 = nI q0 := (f2 0 24 (by omega)).trans hh
    rw [e25, nI_1]
    have hd : q0 / 12 = 0 := by omega
    unfold PU
    rw [hd]
    refine OK.ret ⟨fun o j ho hj => ?_, rfl, fun j hj => ?_, fun i hi => ?_⟩
    · rw [up_f, if_neg (by omega), f2 o j ho]
    · show y 10 j = _
      rw [e2 j (by omega)]; rfl
    · show y 10 (11 * q0 + i) = _
      exact e3 i hi
/-- a past with a row more -/
theorem RPast.push {k' q0 : Nat} {c' m' : HI} (hq : q0 ≤ 12) (hold : ∀ j, j < q0 → SN k n (c 16 (11 * j)) (c 16 (11 * j + 1)) (fun i => c 16 (11 * j + 2 + i)) (fun i => m 10 (11 * j + i))) (hk : k ≤ k') {s t : Nat → Int32} (hs : SN k n (s 0) (s 1) (fun i => s (2 + i)) t) (h1 : c' 13 6 = nI (q0 - q0 / 12 + 1)) (h2 : m' 0 24 = nI (q0 - q0 / 12 + 1)) (pc : PU q0 (c 16) s (c' 16)) (pm : PU q0 (m 10) t (m' 10)) : RPast k' n c' m' := by
  refine ⟨q0 - q0 / 12 + 1, by omega, h1, h2, fun j hj => ?_⟩
  rcases (show j < q0 - q0 / 12 ∨ j = q0 - q0 / 12 by omega) with z | z
  · have h := (hold (j + q0 / 12) (by omega)).mono hk (Nat.le_refl n)
    have e1 : ∀ i, i < 11 → c' 16 (11 * j + i) = c 16 (11 * (j + q0 / 12) + i) := fun i hi => by
      rw [pc.1 _ (by omega)]; congr 1; omega
    have e2 : ∀ i, i < 11 → m' 10 (11 * j + i) = m 10 (11 * (j + q0 / 12) + i) := fun i hi => by
      rw [pm.1 _ (by omega)]; congr 1; omega
    obtain ⟨⟨T, g1, g2, g3⟩, ⟨a, g4, g5, g6⟩, g7⟩ := h
    refine ⟨⟨T, g1, (e1 0 (by omega)).trans g2, (e2 10 (by omega)).trans g3⟩, ⟨a, g4, (e1 1 (by omega)).trans g5, (e2 9 (by omega)).trans g6⟩, fun i hi => ?_⟩
    dsimp only
    rw [show 11 * j + 2 + i = 11 * j + (2 + i) by omega, e1 (2 + i) (by omega), e2 i (by omega), show 11 * (j + q0 / 12) + (2 + i) = 11 * (j + q0 / 12) + 2 + i by omega]
    exact g7 i hi
  · subst z
    obtain ⟨⟨T, g1, g2, g3⟩, ⟨a, g4, g5, g6⟩, g7⟩ := hs.mono hk (Nat.le_refl n)
    refine ⟨⟨T, g1, (pc.2 0 (by omega)).trans g2, (pm.2 10 (by omega)).trans g3⟩, ⟨a, g4, (pc.2 1 (by omega)).trans g5, (pm.2 9 (by omega)).trans g6⟩, fun i hi => ?_⟩
    dsimp only
    rw [show 11 * (q0 - q0 / 12) + 2 + i = 11 * (q0 - q0 / 12) + (2 + i) by omega, pc.2 (2 + i) (by omega), pm.2 i (by omega)]
    exact g7 i hi
end DECK
