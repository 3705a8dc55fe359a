/-! floor, heaviest, crew -/
theorem nz0 {s : Nat} (h : s ≠ 0) (h2 : s < 2 ^ 31) : ¬ nI s = 0 := fun z => h ((nI_eq (b := 0) h2 (by omega)).mp z)
theorem fa_nlt_le {x y : Int32} : x < y ↔ ¬ y ≤ x := by rw [fa_lt, fa_le]; omega
theorem gd512 {n i : Nat} (hn : n ≤ 9) (hi : i < 2 ^ n) : 0 ≤ (nI i).toInt ∧ (nI i).toInt < ((512 : Nat) : Int) := gd_nI (N := 512) (by have := pow9 hn; omega) (by omega)
section OPS6
variable {k n Pm : Nat} {B : Nat → Nat} {V : Nat → Nat → Nat → Nat} {T a q : Nat} {c m : HI}
theorem bell_1 {p : Int32} (h : ¬ f_La_within p 0 8 = 0) : ∃ j, j ≤ 8 ∧ p = nI j := by
  obtain ⟨j, -, hj, e⟩ := wi_n (lo := 0) (hi := 8) h (by omega) (by omega)
  exact ⟨j, hj, e⟩
theorem op_floor (h : RLt k n Pm B V c m) (hk : k ≤ 600) (rd : Option Nat) (p : Int32) : RO (f_La_floor c p) (f_Mo_floor m rd p) (FIN k n Pm B V) := by
  obtain ⟨T, a, q, A⟩ := h.la hk
  have hT := A.T30
  have hn := A.n9
  have hp9 := pow9 hn
  unfold f_La_floor f_Mo_floor
  rw [la_isBell, mo_isBell, Option.bind_some, Option.bind_some]
  refine RO.ii Iff.rfl (fun _ => RO.ret ⟨rfl, A.fin⟩) (fun h1 => ?_)
  obtain ⟨j, hj, rfl⟩ := bell_1 h1
  rw [A.dc, A.dm, nI_add]
  refine RO.bind (A.sums rd (by omega)) ?_
  rintro hc ⟨hm, rd⟩ ⟨A, tc, tm, -⟩
  dsimp only at A tm ⊢
  generalize hW : (fun i => Wt Pm B V i (9 * (T / 9) + j)) = W at tc tm
  obtain ⟨b2, -, e1, e2⟩ := A.bear 2 (by omega)
  refine RO.bind (P := fun x y => x = y) (RO.loop _ _ (fun i s t => i + 1 ≤ 2 ^ n ∧ s = t ∧ s.2 = nI (i + 1) ∧ ∃ b, b < 2 ^ n ∧ s.1 = nI b) _ (2 ^ n) (by omega) ?_ ⟨hp9.1, rfl, rfl, 0, by omega, rfl⟩) ?_
  · rintro i ⟨x1, x2⟩ ⟨y1, y2⟩ - ⟨hi, h1, rfl, b, hb, rfl⟩
    cases h1
    unfold b_La_floor_26 b_Mo_floor_28 f_La_isFuller
    dsimp only
    rw [A.cs, A.me, show hc 40 (2 : Int32).toNatClampNeg = nI b2 from e1, show hm 3 (2 : Int32).toNatClampNeg = nI b2 from e2]
    refine RO.ii (sets_iff hn (by omega)) (fun _ => RO.ret rfl) (fun h1 => ?_)
    have hi2 : i + 1 < 2 ^ n := nle h1 (by omega) (by omega)
    rw [nI_clamp (by omega), nI_clamp (by omega), tc _ hi2, tc _ hb, tm.1 _ hi2, tm.1 _ hb, nI_1]
    have g1 := gd512 hn hi2
    have g2 := gd512 hn hb
    refine RO.gl g1 (RO.gr g1 (RO.ix fa_nlt_le (fun _ => RO.ret ⟨by omega, by omega, rfl, rfl, b, hb, rfl⟩) (fun _ => ?_)))
    by_cases c1 : 0 < f_In_bitCount (nI (i + 1)) - f_In_bitCount (nI b)
    · rw [if_pos c1, if_pos c1, Option.bind_some, if_neg (by decide)]
      exact RO.ret ⟨by omega, by omega, rfl, rfl, i + 1, hi2, rfl⟩
    · rw [if_neg c1, if_neg c1]
      by_cases c2 : f_In_bitCount (nI (i + 1)) - f_In_bitCount (nI b) = 0
      · rw [if_pos c2, if_pos c2, rg_t g1, rg_t g2, rg_t g1, rg_t g2]
        by_cases c3 : nI (WS n W b) ≤ nI (WS n W (i + 1))
        · rw [if_pos c3, if_pos c3, Option.bind_some, if_pos rfl]
          exact RO.ret ⟨by omega, by omega, rfl, rfl, b, hb, rfl⟩
        · rw [if_neg c3, if_neg c3, Option.bind_some, if_neg (by decide)]
          exact RO.ret ⟨by omega, by omega, rfl, rfl, i + 1, hi2, rfl⟩
      · rw [if_neg c2, if_neg c2, Option.bind_some, if_pos rfl]
        exact RO.ret ⟨by omega, by omega, rfl, rfl, b, hb, rfl⟩
  · rintro x _ rfl
    exact RO.bind (A.tell x) (fun x y A => RO.ret ⟨rfl, A.fin⟩)
theorem op_heaviest (h : RLt k n Pm B V c m) (hk : k ≤ 600) (rd : Option Nat) (p : Int32) : RO (f_La_heaviest c p) (f_Mo_heaviest m rd p) (FIN k n Pm B V) := by
  obtain ⟨T, a, q, A⟩ := h.la hk
  have hT := A.T30
  have hn := A.n9
  have hp9 := pow9 hn
  unfold f_La_heaviest f_Mo_heaviest
  rw [la_isBell, mo_isBell, Option.bind_some, Option.bind_some]
  refine RO.ii Iff.rfl (fun _ => RO.ret ⟨rfl, A.fin⟩) (fun h1 => ?_)
  obtain ⟨j, hj, rfl⟩ := bell_1 h1
  rw [A.dc, A.dm, nI_add]
  refine RO.bind (A.sums rd (by omega)) ?_
  rintro hc ⟨hm, rd⟩ ⟨A, tc, tm, -⟩
  dsimp only at A tm ⊢
  generalize hW : (fun i => Wt Pm B V i (9 * (T / 9) + j)) = W at tc tm
  obtain ⟨b2, -, e1, e2⟩ := A.bear 2 (by omega)
  refine RO.bind (P := fun x y => x = y ∧ ∃ b, b < 2 ^ n ∧ x = nI b) (RO.loop _ _ (fun i s t => i + 1 ≤ 2 ^ n ∧ s = t ∧ s.2 = nI (i + 1) ∧ ∃ b, b < 2 ^ n ∧ s.1 = nI b) _ (2 ^ n) (by omega) ?_ ⟨hp9.1, rfl, rfl, 0, by omega, rfl⟩) ?_
  · rintro i ⟨x1, x2⟩ ⟨y1, y2⟩ - ⟨hi, h1, rfl, b, hb, rfl⟩
    cases h1
    unfold b_La_heaviest_26 b_Mo_heaviest_28
    dsimp only
    rw [A.cs, A.me, show hc 40 (2 : Int32).toNatClampNeg = nI b2 from e1, show hm 3 (2 : Int32).toNatClampNeg = nI b2 from e2]
    refine RO.ii (sets_iff hn (by omega)) (fun _ => RO.ret ⟨rfl, b, hb, rfl⟩) (fun h1 => ?_)
    have hi2 : i + 1 < 2 ^ n := nle h1 (by omega) (by omega)
    rw [nI_clamp (by omega), nI_clamp (by omega), tc _ hi2, tc _ hb, tm.1 _ hi2, tm.1 _ hb, nI_1]
    have g1 := gd512 hn hi2
    have g2 := gd512 hn hb
    refine RO.gl g1 (RO.gr g1 (RO.ii Iff.rfl (fun _ => RO.ret ⟨by omega, by omega, rfl, rfl, b, hb, rfl⟩) (fun _ => ?_)))
    exact RO.gl g1 (RO.gl g2 (RO.gr g1 (RO.gr g2 (RO.ii Iff.rfl (fun _ => RO.ret ⟨by omega, by omega, rfl, rfl, b, hb, rfl⟩) (fun _ => RO.ret ⟨by omega, by omega, rfl, rfl, i + 1, hi2, rfl⟩)))))
  · rintro x _ ⟨rfl, b, hb, rfl⟩
    have e3 : rh_up (rh_up (rh_up hc 2 1 0) 3 0 (nI b)) 2 1 1 12 b = nI (WS n W b) := tc b hb
    have e4 : rh_up (rh_up (rh_up hm 0 8 0) 5 0 (nI b)) 0 8 1 9 b = nI (WS n W b) := tm.1 b hb
    obtain ⟨x, y, ex, ey, A'⟩ := A.tell (nI b)
    have fx : x = rh_up (rh_up (rh_up hc 2 1 0) 3 0 (nI b)) 2 1 1 := (Option.some.inj ex).symm
    have fy : y = rh_up (rh_up (rh_up hm 0 8 0) 5 0 (nI b)) 0 8 1 := (Option.some.inj ey).symm
    rw [ex, ey, Option.bind_some, Option.bind_some, nI_clamp (by omega)]
    refine RO.gl (gd512 hn hb) (RO.gr (gd512 hn hb) (RO.ret ⟨?_, A'.fin⟩))
    show x 12 b = y 9 b
    rw [fx, fy, e3, e4]
/-- the TASKS -/
def TK (r : Nat) (lo hi : Nat → Nat) (c m : HI) : Prop := r ≤ 6 ∧ c 25 0 = nI r ∧ m 0 29 = nI r ∧ ∀ i, i < r → lo i ≤ hi i ∧ hi i ≤ 9999 ∧ c 26 i = nI (lo i) ∧ c 27 i = nI (hi i) ∧ m 14 (2 * i) = nI (lo i) ∧ m 14 (2 * i + 1) = nI (hi i)
theorem RLa.tk (A : RLa k n Pm B V T a q c m) : ∃ r lo hi, TK r lo hi c m := by
  obtain ⟨r, h1, h2, h3, h4⟩ := A.1.2.2.2.1
  refine ⟨r, fun i => (c 26 i).toInt.toNat, fun i => (c 27 i).toInt.toNat, h1, h2, h3, fun i hi => ?_⟩
  obtain ⟨x, y, g1, g2, g3, g4, g5, g6⟩ := h4 i hi
  have g3 : c 26 i = nI x := g3
  have g4 : c 27 i = nI y := g4
  have e1 : (c 26 i).toInt.toNat = x := by rw [g3, nI_toInt (by omega)]; omega
  have e2 : (c 27 i).toInt.toNat = y := by rw [g4, nI_toInt (by omega)]; omega
  dsimp only
  rw [e1, e2]
  exact ⟨g1, g2, g3, g4, g5, g6⟩
theorem TK.fr {r : Nat} {lo hi : Nat → Nat} {c' m' : HI} (t : TK r lo hi c m) (x : XC c c') (y : XM m m') : TK r lo hi c' m' := by
  obtain ⟨t1, t2, t3, t4⟩ := t
  refine ⟨t1, (x 25 0 (Or.inl rfl)).trans t2, (y 0 29 (Or.inl rfl)).trans t3, fun i hi => ?_⟩
  rw [x 26 i (Or.inl rfl), x 27 i (Or.inl rfl), y 14 _ (Or.inl rfl), y 14 _ (Or.inl rfl)]
  exact t4 i hi
theorem ta_has {r : Nat} {lo hi : Nat → Nat} (t : TK r lo hi c m) (p : Int32) : f_Mo_in p 0 (m 0 29 - 1) = f_Ta_has c p := by
  obtain ⟨t1, t2, t3, -⟩ := t
  rw [in_wi]
  unfold f_La_within f_Ta_has
  rw [t2, t3]
  by_cases q1 : p < 0
  · rw [if_pos q1, if_pos q1]
  · rw [if_neg q1, if_neg q1]
    have h3 : nI r ≤ p ↔ nI r - 1 < p := by
      rw [fa_lt] at q1
      rw [fa_le, fa_lt, fb_subI (by rw [nI_toInt (by omega)]; simp; omega) (by rw [nI_toInt (by omega)]; simp; omega), nI_toInt (by omega)]
      have : (1 : Int32).toInt = 1 := rfl
      have : (0 : Int32).toInt = 0 := rfl
      omega
    by_cases q2 : nI r ≤ p
    · rw [if_pos q2, if_pos (h3.mp q2)]
    · rw [if_neg q2, if_neg (fun z => q2 (h3.mpr z))]
theorem ta_1 {r : Nat} {lo hi : Nat → Nat} (t : TK r lo hi c m) {p : Int32} (h : ¬ f_Ta_has c p = 0) : ∃ i, i < r ∧ p = nI i := by
  obtain ⟨t1, t2, t3, -⟩ := t
  unfold f_Ta_has at h
  rw [t2] at h
  split at h
  · exact absurd rfl h
  · next q1 =>
    split at h
    · exact absurd rfl h
    · next q2 =>
      obtain ⟨j, -, hj, e⟩ := nI_rng (lo := 0) (hi := r) (x := p) q1 (by rw [fa_lt]; rw [fa_le] at q2; omega) (by omega) (by omega)
      subst e
      rw [nI_leI (by omega) (by omega)] at q2
      exact ⟨j, by omega, rfl⟩
theorem ta_suits {r : Nat} {lo hi : Nat → Nat} (t : TK r lo hi c m) {i v : Nat} (hi' : i < r) (hv : v < 2 ^ 31) : f_Ta_suits c (nI i) (nI v) = some (if lo i ≤ v ∧ v ≤ hi i then 1 else 0) := by
  obtain ⟨t1, t2, t3, t4⟩ := t
  obtain ⟨g1, g2, g3, g4, -⟩ := t4 i hi'
  unfold f_Ta_suits
  have g := gd_nI (i := i) (N := 6) (by omega) (by omega)
  rw [rg_t g, rg_t g, nI_clamp (by omega), g3, g4]
  by_cases q1 : nI v < nI (lo i)
  · rw [if_pos q1]
    rw [nI_ltI (by omega) (by omega)] at q1
    rw [if_neg (by omega)]
  · rw [if_neg q1]
    rw [nI_ltI (by omega) (by omega)] at q1
    by_cases q2 : nI (hi i) < nI v
    · rw [if_pos q2]
      rw [nI_ltI (by omega) (by omega)] at q2
      rw [if_neg (by omega)]
    · rw [if_neg q2]
      rw [nI_ltI (by omega) (by omega)] at q2
      rw [if_pos (by omega)]
theorem mo_does {r : Nat} {lo hi : Nat → Nat} {W : Nat → Nat} (t : TK r lo hi c m) (hn : n ≤ 9) (tm : TM n W m) (hW : ∀ s, WS n W s ≤ 89991) {i s : Nat} (hi' : i < r) (hs : s < 2 ^ n) (hs0 : s ≠ 0) : f_Mo_does m (nI i) (nI s) = some (if lo i ≤ WS n W s ∧ WS n W s ≤ hi i then 1 else 0) := by
  obtain ⟨t1, t2, t3, t4⟩ := t
  obtain ⟨g1, g2, -, -, g3, g4⟩ := t4 i hi'
  have hp9 := pow9 hn
  unfold f_Mo_does
  rw [if_neg (nz0 hs0 (by omega)), show (2 : Int32) * nI i = nI (2 * i) from pk_mul 2 i, nI_1, rg_t (gd512 hn hs), rg_t (gd_nI (N := 12) (by omega) (by omega)), rg_t (gd_nI (N := 12) (by omega) (by omega)), nI_clamp (by omega), nI_clamp (by omega), nI_clamp (by omega), tm.1 s hs, g3, g4, in_wi]
  unfold f_La_within
  have := hW s
  by_cases q1 : nI (WS n W s) < nI (lo i)
  · rw [if_pos q1, if_pos rfl]
    rw [nI_ltI (by omega) (by omega)] at q1
    rw [if_neg (by omega)]
  · rw [if_neg q1]
    rw [nI_ltI (by omega) (by omega)] at q1
    by_cases q2 : nI (hi i) < nI (WS n W s)
    · rw [if_pos q2, if_pos rfl]
      rw [nI_ltI (by omega) (by omega)] at q2
      rw [if_neg (by omega)]
    · rw [if_neg q2, if_neg (by decide)]
      rw [nI_ltI (by omega) (by omega)] at q2
      rw [if_pos (by omega)]
theorem op_crew (h : RLt k n Pm B V c m) (hk : k ≤ 600) (rd : Option Nat) (p v : Int32) : RO (f_La_crew c p v) (f_Mo_crew m rd p v) (FIN k n Pm B V) := by
  obtain ⟨T, a, q, A⟩ := h.la hk
  have hT := A.T30
  have hn := A.n9
  have hp9 := pow9 hn
  obtain ⟨r, lo, hi, tk⟩ := A.tk
  unfold f_La_crew f_Mo_crew
  rw [la_isBell, mo_isBell, Option.bind_some, Option.bind_some, show f_Mo_in p 0 (m 0 29 - 1) = f_Ta_has c p from ta_has tk p]
  refine RO.ii Iff.rfl (fun _ => RO.ret ⟨rfl, A.fin⟩) (fun h1 => RO.ii Iff.rfl (fun _ => RO.ret ⟨rfl, A.fin⟩) (fun h2 => ?_))
  obtain ⟨u, hu, rfl⟩ := ta_1 tk h1
  obtain ⟨j, hj, rfl⟩ := bell_1 h2
  rw [A.dc, A.dm, nI_add]
  have hS : ∀ s, WS n (fun i => Wt Pm B V i (9 * (T / 9) + j)) s ≤ 89991 := fun s => A.sle s (by omega)
  refine RO.bind (A.sums rd (by omega)) ?_
  rintro hc ⟨hm, rd⟩ ⟨A, tc, tm, x1, x2⟩
  dsimp only at A tm x2 ⊢
  have tk := tk.fr x1.x x2.x
  generalize hW : (fun i => Wt Pm B V i (9 * (T / 9) + j)) = W at tc tm hS
  unfold f_Mo_crewOf
  refine RO.bind (P := fun x y => ∃ b, b < 2 ^ n ∧ x.1 = nI b ∧ y = nI b ∧ (b ≠ 0 → x.2 = f_In_bitCount (nI b))) ?_ ?_
  · obtain ⟨x, y, e1, e2, hp⟩ := RO.loop (b_La_crew_42 (nI u) hc) (b_Mo_crewOf_4 (nI u) hm) (fun i s t => i + 1 ≤ 2 ^ n ∧ s.2.2 = nI (i + 1) ∧ t.2 = nI (i + 1) ∧ ∃ b, b < 2 ^ n ∧ s.1 = nI b ∧ t.1 = nI b ∧ s.2.1 = if b = 0 then 1000000000 else f_In_bitCount (nI b)) (fun x y => ∃ b, b < 2 ^ n ∧ x.1 = nI b ∧ y = nI b ∧ (b ≠ 0 → x.2 = f_In_bitCount (nI b))) (2 ^ n) (by omega) (by
      rintro i ⟨x1, x2, x3⟩ ⟨y1, y2⟩ - ⟨hi', rfl, rfl, b, hb, rfl, rfl, hf⟩
      dsimp only at hf
      subst hf
      unfold b_La_crew_42 b_Mo_crewOf_4
      dsimp only
      rw [A.cs, A.me]
      refine RO.ii (sets_iff hn (by omega)) (fun _ => RO.ret ⟨b, hb, rfl, rfl, fun z => if_neg z⟩) (fun h1 => ?_)
      have hi2 : i + 1 < 2 ^ n := nle h1 (by omega) (by omega)
      have := hS (i + 1)
      rw [nI_clamp (by omega), tc _ hi2, ta_suits tk hu (by omega), mo_does tk hn tm hS hu hi2 (by omega), nI_1, Option.bind_some, Option.bind_some]
      refine RO.gl (gd512 hn hi2) (RO.ii Iff.rfl (fun _ => RO.ret ⟨by omega, by omega, rfl, rfl, b, hb, rfl, rfl, rfl⟩) (fun _ => ?_))
      by_cases hb0 : b = 0
      · subst hb0
        obtain ⟨p1, p2, -⟩ := pc_all (i + 1) (by omega)
        rw [if_pos (show nI 0 = 0 from rfl), if_pos rfl, if_neg (by rw [p1]; exact nI_ge (b := 1000000000) (by omega) (by omega))]
        exact RO.ret ⟨by omega, by omega, rfl, rfl, i + 1, hi2, rfl, rfl, (if_neg (by omega)).symm⟩
      · rw [if_neg (nz0 hb0 (by omega)), if_neg hb0]
        exact RO.ii Iff.rfl (fun _ => RO.ret ⟨by omega, by omega, rfl, rfl, b, hb, rfl, rfl, (if_neg hb0).symm⟩) (fun _ => RO.ret ⟨by omega, by omega, rfl, rfl, i + 1, hi2, rfl, rfl, (if_neg (by omega)).symm⟩)) (s := (0, 1000000000, 1)) (t := (0, 1)) ⟨hp9.1, rfl, rfl, 0, by omega, rfl, rfl, rfl⟩
    rw [e1, e2]
    exact RO.ret hp
  · rintro ⟨x1, x2⟩ y ⟨b, hb, rfl, rfl, hx⟩
    dsimp only at hx ⊢
    refine RO.ii Iff.rfl (fun _ => RO.ret ⟨rfl, A.fin⟩) (fun h0 => ?_)
    rw [hx (fun z => h0 (by rw [z]; rfl))]
    exact RO.bind (A.tell _) (fun x y A => RO.ret ⟨rfl, A.fin⟩)
end OPS6
