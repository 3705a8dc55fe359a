/-! makeup, split, ballast -/
theorem RO.loopN {σ τ ρ ω : Type} (b : σ → Option (σ ⊕ ρ)) (c : τ → Option (τ ⊕ ω)) (I : Nat → σ → τ → Prop) (Q : ρ → ω → Prop) (e n1 n2 : Nat) (he1 : e < n1) (he2 : e < n2)
    (hs : ∀ i s t, i ≤ e → I i s t → RO (b s) (c t) (LQ (fun s' t' => i < e ∧ I (i + 1) s' t') Q)) {s : σ} {t : τ} (h0 : I 0 s t) : RO (rh_loop b n1 s) (rh_loop c n2 t) Q := by
  have key : ∀ (n1 n2 i : Nat) (s : σ) (t : τ), i ≤ e → e - i < n1 → e - i < n2 → I i s t → RO (rh_loop b n1 s) (rh_loop c n2 t) Q := by
    intro n1
    induction n1 with
    | zero => intro n2 i s t _ h; omega
    | succ n1 ih =>
      intro n2 i s t hi hn1 hn2 hI
      cases n2 with
      | zero => omega
      | succ n2 =>
        obtain ⟨x, y, hx, hy, hq⟩ := hs i s t hi hI
        cases x with
        | inl s' =>
          cases y with
          | inl t' => rw [lp_go hx, lp_go hy]; exact ih n2 (i + 1) s' t' (by have := hq.1; omega) (by have := hq.1; omega) (by have := hq.1; omega) hq.2
          | inr w => exact hq.elim
        | inr r =>
          cases y with
          | inl t' => exact hq.elim
          | inr w => rw [lp_end hx, lp_end hy]; exact ⟨r, w, rfl, rfl, hq⟩
  exact key n1 n2 0 s t (Nat.zero_le _) (by omega) (by omega) h0
theorem bt_nI (n : Nat) {i : Nat} (hi : i < 32) : bt (nI n) i = n.testBit i := by
  unfold bt
  show (BitVec.ofNat 32 n).getLsbD i = n.testBit i
  rw [BitVec.getLsbD_ofNat]
  simp [hi]
theorem bt_not (x : Int32) {i : Nat} (hi : i < 32) : bt (x ^^^ -1) i = !(bt x i) := by
  rw [b_xor, b_m1 i hi]
  simp
/-- what a mask takes away -/
theorem andn (s u : Nat) : nI s &&& (nI u ^^^ -1) = nI (s &&& ((2 ^ 32 - 1) ^^^ (u % 2 ^ 32))) := by
  apply b_ext
  intro i hi
  rw [b_and, bt_nI _ hi, bt_not _ hi, bt_nI _ hi, bt_nI _ hi, Nat.testBit_and, Nat.testBit_xor, Nat.testBit_two_pow_sub_one, Nat.testBit_mod_two_pow]
  simp [hi]
def nand (s u : Nat) : Nat := s &&& ((2 ^ 32 - 1) ^^^ (u % 2 ^ 32))
theorem nand_bit (s u : Nat) (hs : s < 2 ^ 31) (i : Nat) : (nand s u).testBit i = (s.testBit i && !u.testBit i) := by
  unfold nand
  rw [Nat.testBit_and, Nat.testBit_xor, Nat.testBit_two_pow_sub_one, Nat.testBit_mod_two_pow]
  by_cases hi : i < 32
  · simp [hi]
  · rw [Nat.testBit_lt_two_pow (Nat.lt_of_lt_of_le hs (Nat.pow_le_pow_right (by omega) (by omega)))]
    simp
theorem nand_le (s u : Nat) : nand s u ≤ s := Nat.and_le_left
theorem andn' (s u : Nat) : nI s &&& (nI u ^^^ -1) = nI (nand s u) := andn s u
theorem nand_0 {s u : Nat} (hs : s < 2 ^ 31) : nand s u = 0 ↔ s &&& u = s := by
  constructor
  · intro h
    apply Nat.eq_of_testBit_eq
    intro i
    have h2 := nand_bit s u hs i
    rw [h, Nat.zero_testBit] at h2
    rw [Nat.testBit_and]
    cases a1 : s.testBit i <;> cases a2 : u.testBit i <;> simp_all
  · intro h
    apply Nat.eq_of_testBit_eq
    intro i
    rw [nand_bit s u hs i, Nat.zero_testBit]
    have : (s &&& u).testBit i = s.testBit i := by rw [h]
    rw [Nat.testBit_and] at this
    cases a1 : s.testBit i <;> cases a2 : u.testBit i <;> simp_all
def dN (a b : Nat) : Nat := if a < b then b - a else a - b
theorem absN {a b : Nat} (ha : a < 2 ^ 30) (hb : b < 2 ^ 30) : (if 0 ≤ nI a - nI b then nI a - nI b else 0 - (nI a - nI b)) = nI (dN a b) := by
  have h1 := subN ha hb
  unfold dN
  by_cases h : a < b
  · rw [if_pos h, if_neg (by rw [fa_le, h1, show (0 : Int32).toInt = 0 from rfl]; omega)]
    apply ofI
    rw [fb_subI (by rw [h1, show (0 : Int32).toInt = 0 from rfl]; omega) (by rw [h1, show (0 : Int32).toInt = 0 from rfl]; omega), h1, show (0 : Int32).toInt = 0 from rfl]
    omega
  · rw [if_neg h, if_pos (by rw [fa_le, h1, show (0 : Int32).toInt = 0 from rfl]; omega)]
    apply ofI
    rw [h1]
    omega
theorem dN_comm (a b : Nat) : dN a b = dN b a := by
  unfold dN
  split <;> split <;> omega
section OPS7
variable {k n Pm : Nat} {B : Nat → Nat} {V : Nat → Nat → Nat → Nat} {T a q : Nat} {c m : HI}
theorem op_split (h : RLt k n Pm B V c m) (hk : k ≤ 600) (rd : Option Nat) (p v : Int32) : RO (f_La_split c p v) (f_Mo_split m rd p v) (FIN k n Pm B V) := by
  obtain ⟨T, a, q, A⟩ := h.la hk
  have hT := A.T30
  have hn := A.n9
  have hp9 := pow9 hn
  unfold f_La_split f_Mo_split
  rw [A.hold, la_isBell, mo_isBell, Option.bind_some, Option.bind_some, Option.bind_some]
  refine RO.ii Iff.rfl (fun _ => RO.ret ⟨rfl, A.fin⟩) (fun h1 => RO.ii Iff.rfl (fun _ => RO.ret ⟨rfl, A.fin⟩) (fun h2 => ?_))
  obtain ⟨u, hu, rfl⟩ := hold_1 A.n9 A.cn h1
  obtain ⟨j, hj, rfl⟩ := bell_1 h2
  rw [A.dc, A.dm, nI_add]
  have hS : ∀ s, WS n (fun i => Wt Pm B V i (9 * (T / 9) + j)) s ≤ 89991 := fun s => A.sle s (by omega)
  refine RO.bind (A.sums rd (by omega)) ?_
  rintro hc ⟨hm, rd⟩ ⟨A, tc, tm, x1, x2⟩
  dsimp only at A tm x2 ⊢
  generalize hW : (fun i => Wt Pm B V i (9 * (T / 9) + j)) = W at tc tm hS
  have gu := gd512 hn hu
  have eA : ∀ s, s < 2 ^ n → s &&& u < 2 ^ n := fun s hs => Nat.lt_of_le_of_lt Nat.and_le_left hs
  have eC : ∀ s, s < 2 ^ n → (if 0 ≤ hc 12 u - (2 : Int32) * hc 12 s then hc 12 u - (2 : Int32) * hc 12 s else 0 - (hc 12 u - (2 : Int32) * hc 12 s)) = nI (dN (WS n W u) (2 * WS n W s)) := fun s hs => by
    have := hS u; have := hS s
    rw [tc u hu, tc s hs, show (2 : Int32) * nI (WS n W s) = nI (2 * WS n W s) from pk_mul 2 _, absN (by omega) (by omega)]
  have eM : ∀ s, s < 2 ^ n → (if 0 ≤ (2 : Int32) * hm 9 s - hm 9 u then (2 : Int32) * hm 9 s - hm 9 u else 0 - ((2 : Int32) * hm 9 s - hm 9 u)) = nI (dN (WS n W u) (2 * WS n W s)) := fun s hs => by
    have := hS u; have := hS s
    rw [tm.1 u hu, tm.1 s hs, show (2 : Int32) * nI (WS n W s) = nI (2 * WS n W s) from pk_mul 2 _, absN (by omega) (by omega), dN_comm]
  have dle : ∀ s, dN (WS n W u) (2 * WS n W s) ≤ 200000 := fun s => by
    have := hS u; have := hS s
    unfold dN; split <;> omega
  refine RO.bind (P := fun x y => ∃ b, b < 2 ^ n ∧ x.1 = nI b ∧ y = nI b ∧ x.2 = nI (dN (WS n W u) (2 * WS n W b))) ?_ ?_
  · obtain ⟨f, hf⟩ := rh_N_eq 1 (by omega)
    have first : b_La_split_42 (nI u) hc (0, 1000000000, 0) = some (.inl (nI 0, nI (dN (WS n W u) (2 * WS n W 0)), nI 1)) := by
      unfold b_La_split_42
      dsimp only
      rw [if_neg (nI_pos (by omega)), rg_t gu]
      simp only [show (0 : Int32) &&& nI u = nI 0 from (fa_and 0 u).trans (by rw [Nat.zero_and]), show (0 : Int32) &&& (nI u ^^^ (-1 : Int32)) = 0 from (andn' 0 u).trans (by unfold nand; rw [Nat.zero_and]; rfl)]
      have g0 := gd512 hn (show 0 < 2 ^ n by omega)
      rw [rg_t g0]
      rw [nI_clamp (n := 0) (by omega), nI_clamp (by omega), eC 0 (by omega)]
      have := dle 0
      rw [if_pos trivial, if_neg (show ¬ (1000000000 : Int32) ≤ nI (dN (WS n W u) (2 * WS n W 0)) from nI_ge (b := 1000000000) (by omega) (by omega))]
      rfl
    have hl : RO (rh_loop (b_La_split_42 (nI u) hc) f (nI 0, nI (dN (WS n W u) (2 * WS n W 0)), nI 1)) (rh_loop (b_Mo_split_37 (nI u) hm rd) rh_N (0, 1)) (fun x y => ∃ b, b < 2 ^ n ∧ x.1 = nI b ∧ y = nI b ∧ x.2 = nI (dN (WS n W u) (2 * WS n W b))) := by
      refine RO.loopN _ _ (fun i s t => s.2.2 = nI (i + 1) ∧ t.2 = nI (i + 1) ∧ ∃ b, b < 2 ^ n ∧ s.1 = nI b ∧ t.1 = nI b ∧ s.2.1 = nI (dN (WS n W u) (2 * WS n W b))) _ u f rh_N (by unfold rh_N at hf; omega) (by unfold rh_N; omega) ?_ ⟨rfl, rfl, 0, by omega, rfl, rfl, rfl⟩
      rintro i ⟨x1, x2, x3⟩ ⟨y1, y2⟩ hi ⟨rfl, rfl, b, hb, rfl, rfl, hf⟩
      dsimp only at hf
      subst hf
      unfold b_La_split_42 b_Mo_split_37
      dsimp only
      refine RO.ii Iff.rfl (fun _ => RO.ret ⟨b, hb, rfl, rfl, rfl⟩) (fun h1 => ?_)
      have hi2 : i + 1 ≤ u := nlt h1 (by omega) (by omega)
      have hi3 : i + 1 < 2 ^ n := by omega
      rw [fa_and, andn', nI_1]
      have hsu := eA _ hi3
      rw [nI_clamp (n := u) (by omega), nI_clamp (n := i + 1 &&& u) (by omega), nI_clamp (n := i + 1) (by omega), nI_clamp (n := b) (by omega)]
      refine RO.gl gu (RO.gl (gd512 hn hsu) (RO.ii Iff.rfl (fun h0 => ?_) (fun _ => RO.ret ⟨by omega, rfl, rfl, b, hb, rfl, rfl, rfl⟩)))
      have h0' : (i + 1) &&& u = i + 1 := by
        rw [show (0 : Int32) = nI 0 from rfl, nI_eq (Nat.lt_of_le_of_lt (nand_le _ _) (by omega)) (by omega)] at h0
        exact (nand_0 (by omega)).mp h0
      rw [h0', eC _ hi3, eM _ hi3, eM _ hb]
      refine RO.gr (gd512 hn hi3) (RO.gr gu (RO.gr (gd512 hn hb) (RO.gr gu (RO.ii Iff.rfl (fun _ => RO.ret ⟨by omega, rfl, rfl, b, hb, rfl, rfl, rfl⟩) (fun _ => RO.ret ⟨by omega, rfl, rfl, i + 1, hi3, rfl, rfl, rfl⟩)))))
    have e0 : rh_loop (b_La_split_42 (nI u) hc) rh_N (0, 1000000000, 0) = rh_loop (b_La_split_42 (nI u) hc) f (nI 0, nI (dN (WS n W u) (2 * WS n W 0)), nI 1) := by
      rw [hf]
      exact lp_go first f
    rw [e0]
    exact hl
  · rintro ⟨x1, x2⟩ y ⟨b, hb, rfl, rfl, hx⟩
    dsimp only at hx ⊢
    subst hx
    obtain ⟨x, y, ex, ey, A'⟩ := A.tell (nI b)
    have fy : y = rh_up (rh_up (rh_up hm 0 8 0) 5 0 (nI b)) 0 8 1 := (Option.some.inj ey).symm
    rw [ex, ey, Option.bind_some, Option.bind_some, nI_clamp (by omega), nI_clamp (by omega)]
    refine RO.gr (gd512 hn hb) (RO.gr gu (RO.ret ⟨?_, A'.fin⟩))
    dsimp only
    rw [show y 9 b = hm 9 b by rw [fy]; rfl, show y 9 u = hm 9 u by rw [fy]; rfl]
    exact (eM b hb).symm
theorem op_makeup (h : RLt k n Pm B V c m) (hk : k ≤ 600) (rd : Option Nat) (p v w : Int32) : RO (f_La_makeup c p v w) (f_Mo_makeup m rd p v w) (FIN k n Pm B V) := by
  obtain ⟨T, a, q, A⟩ := h.la hk
  have hT := A.T30
  have hn := A.n9
  have hp9 := pow9 hn
  unfold f_La_makeup f_Mo_makeup
  rw [A.apart, la_isBell, mo_isBell, Option.bind_some, Option.bind_some, Option.bind_some]
  refine RO.ii Iff.rfl (fun _ => RO.ret ⟨rfl, A.fin⟩) (fun h1 => RO.ii Iff.rfl (fun _ => RO.ret ⟨rfl, A.fin⟩) (fun h2 => ?_))
  obtain ⟨s, r, hs, hr, rfl, rfl, hsr⟩ := apart_1 A h1
  obtain ⟨j, hj, rfl⟩ := bell_1 h2
  rw [A.dc, A.dm, nI_add]
  have hS : ∀ s, WS n (fun i => Wt Pm B V i (9 * (T / 9) + j)) s ≤ 89991 := fun s => A.sle s (by omega)
  obtain ⟨x4, y4, ex4, -, d1, d2, d3, -, A4⟩ := A.over rd hs hr (t := 9 * (T / 9) + j) (by omega)
  have A := (show RLa k n Pm B V T a q x4.2 (rh_up m 0 9 0) from by
    obtain ⟨h1, e1, g1⟩ := to_c A.qc (p31 hn hs) (t := 9 * (T / 9) + j) (by omega)
    obtain ⟨h2, e2, g2⟩ := to_c (A.l g1.x).qc (p31 hn hr) (t := 9 * (T / 9) + j) (by omega)
    unfold f_La_overweight at ex4
    rw [e1, Option.bind_some, e2, Option.bind_some] at ex4
    rw [← Option.some.inj ex4]
    exact (A.l g1.x).l g2.x)
  rw [ex4, Option.bind_some, A.dc, nI_add]
  refine RO.bind (A.sums rd (by omega)) ?_
  rintro hc ⟨hm, rd⟩ ⟨A, tc, tm, x1, x2⟩
  dsimp only at A tm x2 ⊢
  generalize hW : (fun i => Wt Pm B V i (9 * (T / 9) + j)) = W at tc tm hS d1
  have hsr2 : s ||| r < 2 ^ n := Nat.or_lt_two_pow hs hr
  refine RO.bind (P := fun x y => (x.1 = -1 ∧ y = -1) ∨ ∃ b, b < 2 ^ n ∧ x.1 = nI b ∧ y = nI b ∧ x.2 = f_In_bitCount (nI b)) (RO.loop _ _ (fun i x y => i ≤ 2 ^ n ∧ x.2.2 = nI i ∧ y.2 = nI i ∧ ((x.1 = -1 ∧ x.2.1 = 1000000000 ∧ y.1 = -1) ∨ ∃ b, b < 2 ^ n ∧ x.1 = nI b ∧ y.1 = nI b ∧ x.2.1 = f_In_bitCount (nI b))) _ (2 ^ n) (by omega) ?_ ⟨by omega, rfl, rfl, Or.inl ⟨rfl, rfl, rfl⟩⟩) ?_
  · rintro i ⟨x1, x2, x3⟩ ⟨y1, y2⟩ - ⟨hi, rfl, rfl, hb⟩
    dsimp only at hb
    unfold b_La_makeup_55 b_Mo_makeup_39 j_La_makeup_95 j_La_makeup_96 j_Mo_makeup_79
    dsimp only
    rw [A.cs, A.me]
    refine RO.ii (sets_iff hn (by omega)) (fun _ => RO.ret ?_) (fun h1 => ?_)
    · rcases hb with ⟨b1, b2, b3⟩ | ⟨b, b1, b2, b3, b4⟩
      · exact Or.inl ⟨b1, b3⟩
      · exact Or.inr ⟨b, b1, b2, b3, b4⟩
    have hi2 : i < 2 ^ n := nle h1 (by omega) (by omega)
    have hb' : (i + 1 ≤ 2 ^ n ∧ nI i + 1 = nI (i + 1) ∧ nI i + 1 = nI (i + 1) ∧ ((x1 = -1 ∧ x2 = 1000000000 ∧ y1 = -1) ∨ ∃ b, b < 2 ^ n ∧ x1 = nI b ∧ y1 = nI b ∧ x2 = f_In_bitCount (nI b))) := ⟨hi2, nI_1 i, nI_1 i, hb⟩
    have hb2 : (i + 1 ≤ 2 ^ n ∧ nI i + 1 = nI (i + 1) ∧ nI i + 1 = nI (i + 1) ∧ ((nI i = -1 ∧ f_In_bitCount (nI i) = 1000000000 ∧ nI i = -1) ∨ ∃ b, b < 2 ^ n ∧ nI i = nI b ∧ nI i = nI b ∧ f_In_bitCount (nI i) = f_In_bitCount (nI b))) := ⟨hi2, nI_1 i, nI_1 i, Or.inr ⟨i, hi2, rfl, rfl, rfl⟩⟩
    refine RO.ii Iff.rfl (fun hd => ?_) (fun _ => ?_)
    · rw [fa_or, fa_and, show (0 : Int32) = nI 0 from rfl, nI_eq (Nat.lt_of_le_of_lt Nat.and_le_left (by omega)) (by omega)] at hd
      have hri : r &&& i = 0 := by
        apply Nat.eq_of_testBit_eq
        intro z
        have h5 : (i &&& (s ||| r)).testBit z = false := by rw [hd]; simp
        rw [Nat.testBit_and, Nat.testBit_or] at h5
        rw [Nat.testBit_and, Nat.zero_testBit]
        cases a1 : i.testBit z <;> cases a2 : r.testBit z <;> simp_all
      have hri2 : r ||| i < 2 ^ n := Nat.or_lt_two_pow hr hi2
      have e1 := hS s
      have e2 := hS (r ||| i)
      have e3 := WS_or (n := n) W hri
      have e4 := hS r
      have e5 := hS i
      have key : (hc 12 i = x4.1) ↔ (hm 9 s = hm 9 (r ||| i)) := by
        rw [tc i hi2, tm.1 s hs, tm.1 _ hri2, nI_eq (by omega) (by omega), fa_eq, d1, nI_toInt (by omega)]
        omega
      rw [nI_clamp (by omega), nI_clamp (by omega), fa_or, nI_clamp (by omega), rg_t (gd512 hn hi2), rg_t (gd512 hn hs), rg_t (gd512 hn hri2), if_neg (show ¬ (1 : Int32) = 0 by decide), if_pos (show (0 : Int32) = 0 from rfl)]
      obtain ⟨p1, p2, -⟩ := pc_all i (by omega)
      rcases hb with ⟨b1, b2, b3⟩ | ⟨b, b1, b2, b3, b4⟩
      · rw [b2, if_neg (show ¬ (1000000000 : Int32) ≤ f_In_bitCount (nI i) by rw [p1]; exact nI_ge (b := 1000000000) (by omega) (by omega)), if_pos b3]
        refine RO.ii key (fun _ => RO.ret ⟨hi2, hb2⟩) (fun _ => RO.ret ⟨hi2, ?_⟩)
        exact ⟨hi2, nI_1 i, nI_1 i, Or.inl ⟨b1, rfl, b3⟩⟩
      · have hne : ¬ y1 = -1 := by
          rw [b3]
          intro z
          have := congrArg Int32.toInt z
          rw [nI_toInt (by omega), show (-1 : Int32).toInt = -1 from rfl] at this
          omega
        rw [if_neg hne, b3, b4]
        by_cases hcmp : f_In_bitCount (nI i) < f_In_bitCount (nI b)
        · rw [if_pos hcmp, if_neg (fa_nlt_le.mp hcmp)]
          refine RO.ii key (fun _ => RO.ret ⟨hi2, hb2⟩) (fun _ => RO.ret ⟨hi2, ?_⟩)
          exact ⟨hi2, nI_1 i, nI_1 i, Or.inr ⟨b, b1, b2, rfl, rfl⟩⟩
        · rw [if_neg hcmp, if_pos (Decidable.not_not.mp (fun z => hcmp (fa_nlt_le.mpr z)))]
          refine RO.il (fun _ => RO.ret ⟨hi2, ?_⟩) (fun _ => RO.ret ⟨hi2, ?_⟩)
          · exact ⟨hi2, nI_1 i, nI_1 i, Or.inr ⟨b, b1, b2, rfl, rfl⟩⟩
          · exact ⟨hi2, nI_1 i, nI_1 i, Or.inr ⟨b, b1, b2, rfl, rfl⟩⟩
    · rw [if_pos (show (0 : Int32) = 0 from rfl)]
      exact RO.ret ⟨hi2, hb'⟩
  · rintro ⟨x1, x2⟩ y hb
    dsimp only at hb ⊢
    rcases hb with ⟨b1, b3⟩ | ⟨b, b1, b2, b3, b4⟩
    · rw [if_pos b1, if_pos b3]
      exact RO.ret ⟨rfl, A.fin⟩
    · subst b2; subst b3; subst b4
      have hne : ¬ nI b = -1 := by
        intro z
        have := congrArg Int32.toInt z
        rw [nI_toInt (by omega), show (-1 : Int32).toInt = -1 from rfl] at this
        omega
      rw [if_neg hne, if_neg hne]
      exact RO.bind (A.tell _) (fun x y A => RO.ret ⟨rfl, A.fin⟩)
end OPS7
