/-! ballast, pair, print -/
section OPS8
variable {k n Pm : Nat} {B : Nat → Nat} {V : Nat → Nat → Nat → Nat} {T a q : Nat} {c m : HI}
theorem nI_ne1 {b : Nat} (hb : b < 2 ^ 31) : ¬ nI b = -1 := by
  intro z
  have := congrArg Int32.toInt z
  rw [nI_toInt hb, show (-1 : Int32).toInt = -1 from rfl] at this
  omega
theorem op_ballast (h : RLt k n Pm B V c m) (hk : k ≤ 600) (rd : Option Nat) (p v : Int32) : RO (f_La_ballast c p v) (f_Mo_ballast m rd p v) (FIN k n Pm B V) := by
  obtain ⟨T, a, q, A⟩ := h.la hk
  have hT := A.T30
  have hn := A.n9
  have hp9 := pow9 hn
  unfold f_La_ballast f_Mo_ballast
  rw [A.hold, mo_isHeavy, Option.bind_some, Option.bind_some]
  refine RO.ii Iff.rfl (fun _ => RO.ret ⟨rfl, A.fin⟩) (fun h1 => RO.ii Iff.rfl (fun _ => RO.ret ⟨rfl, A.fin⟩) (fun h2 => ?_))
  obtain ⟨s, hs, rfl⟩ := hold_1 A.n9 A.cn h1
  obtain ⟨w, -, hw, rfl⟩ := wi_n (lo := 0) (hi := 9999) h2 (by omega) (by omega)
  refine RO.bind (P := fun x y => (∃ l, l ≤ 89991 ∧ x.1 = nI l ∧ y.1 = nI l) ∧ RLa k n Pm B V T a q x.2 y.2.1) (RO.loop _ _ (fun i x y => i ≤ 9 ∧ x.2.1 = nI i ∧ y.2.1 = nI i ∧ RLa k n Pm B V T a q x.2.2 y.2.2.1 ∧ ((i = 0 ∧ x.1 = nI 1000000000 ∧ y.1 = nI 1000000) ∨ ∃ l, l ≤ 89991 ∧ x.1 = nI l ∧ y.1 = nI l)) _ 9 (by omega) ?_ ⟨by omega, rfl, rfl, A, Or.inl ⟨rfl, rfl, rfl⟩⟩) ?_
  · rintro i ⟨x1, x2, hc⟩ ⟨y1, y2, hm, rd⟩ - ⟨hi, rfl, rfl, A, hl⟩
    dsimp only at A hl
    unfold b_La_ballast_30 b_Mo_ballast_29
    dsimp only
    refine RO.ii Iff.rfl (fun h9 => RO.ret ⟨?_, A⟩) (fun h9 => ?_)
    · have := ple (b := 9) h9 (by omega) (by omega)
      rcases hl with ⟨z, -⟩ | z
      · omega
      · exact z
    have hi2 : i < 9 := nle (b := 9) h9 (by omega) (by omega)
    rw [A.dc, A.dm, nI_add]
    refine RO.bind (A.tog rd (p31 hn hs) (by omega)) ?_
    rintro ⟨z1, hc'⟩ ⟨z2, hm', rd'⟩ ⟨e1, e2, A'⟩
    dsimp only at e1 e2 A' ⊢
    subst e1; subst e2
    have := A.sle s (t := 9 * (T / 9) + i) (by omega)
    generalize WS n (fun i_1 => Wt Pm B V i_1 (9 * (T / 9) + i)) s = z at this
    refine RO.ret ⟨hi2, hi2, nI_1 i, nI_1 i, A', Or.inr ?_⟩
    show ∃ l, l ≤ 89991 ∧ (if nI z < x1 then nI z else x1) = nI l ∧ (if nI z < y1 then nI z else y1) = nI l
    rcases hl with ⟨-, rfl, rfl⟩ | ⟨l, hl, rfl, rfl⟩
    · rw [if_pos (nI_lt (by omega) (by omega)), if_pos (nI_lt (by omega) (by omega))]
      exact ⟨z, this, rfl, rfl⟩
    · by_cases hz : nI z < nI l
      · rw [if_pos hz]; exact ⟨z, this, rfl, rfl⟩
      · rw [if_neg hz]; exact ⟨l, hl, rfl, rfl⟩
  rintro ⟨x1, hc⟩ ⟨y1, hm, rd⟩ ⟨⟨l, hl, rfl, rfl⟩, A⟩
  dsimp only at A ⊢
  rw [A.dc, A.dm]
  have hS : ∀ s, WS n (fun i => Wt Pm B V i (9 * (T / 9))) s ≤ 89991 := fun s => A.sle s (by omega)
  refine RO.bind (A.sums rd (by omega)) ?_
  rintro hc ⟨hm, rd⟩ ⟨A, tc, tm, -⟩
  dsimp only at A tm ⊢
  generalize hW : (fun i => Wt Pm B V i (9 * (T / 9))) = W at tc tm hS
  refine RO.bind (P := fun x y => (x = -1 ∧ y = -1) ∨ ∃ b, b < 2 ^ n ∧ x = nI b ∧ y = nI b) (RO.loop _ _ (fun i x y => i ≤ 2 ^ n ∧ x.2 = nI i ∧ y.2 = nI i ∧ ((x.1 = -1 ∧ y.1 = -1) ∨ ∃ b, b < 2 ^ n ∧ x.1 = nI b ∧ y.1 = nI b)) _ (2 ^ n) (by omega) ?_ ⟨by omega, rfl, rfl, Or.inl ⟨rfl, rfl⟩⟩) ?_
  · rintro i ⟨x1, x2⟩ ⟨y1, y2⟩ - ⟨hi, rfl, rfl, hb⟩
    dsimp only at hb
    unfold b_La_ballast_80 b_Mo_ballast_73 j_La_ballast_112 f_La_isSlighter
    dsimp only
    rw [A.cs, A.me, A.cp, A.mp]
    refine RO.ii (sets_iff hn (by omega)) (fun _ => RO.ret hb) (fun h1 => ?_)
    have hi2 : i < 2 ^ n := nle h1 (by omega) (by omega)
    have stay : LQ (fun s' t' => i < 2 ^ n ∧ (i + 1 ≤ 2 ^ n ∧ s'.2 = nI (i + 1) ∧ t'.2 = nI (i + 1) ∧ ((s'.1 = -1 ∧ t'.1 = -1) ∨ ∃ b, b < 2 ^ n ∧ s'.1 = nI b ∧ t'.1 = nI b))) (fun x y => (x = -1 ∧ y = -1) ∨ ∃ b, b < 2 ^ n ∧ x = nI b ∧ y = nI b) (.inl (x1, nI i + 1)) (.inl (y1, nI i + 1)) := ⟨hi2, hi2, nI_1 i, nI_1 i, hb⟩
    have take : LQ (fun s' t' => i < 2 ^ n ∧ (i + 1 ≤ 2 ^ n ∧ s'.2 = nI (i + 1) ∧ t'.2 = nI (i + 1) ∧ ((s'.1 = -1 ∧ t'.1 = -1) ∨ ∃ b, b < 2 ^ n ∧ s'.1 = nI b ∧ t'.1 = nI b))) (fun x y => (x = -1 ∧ y = -1) ∨ ∃ b, b < 2 ^ n ∧ x = nI b ∧ y = nI b) (.inl (nI i, nI i + 1)) (.inl (nI i, nI i + 1)) := ⟨hi2, hi2, nI_1 i, nI_1 i, Or.inr ⟨i, hi2, rfl, rfl⟩⟩
    rw [if_neg (show ¬ (1 : Int32) = 0 by decide), if_pos (show (0 : Int32) = 0 from rfl), if_neg (show ¬ (1 : Int32) = 0 by decide), if_pos (show (0 : Int32) = 0 from rfl)]
    have g1 := gd512 hn hi2
    refine RO.ii Iff.rfl (fun _ => RO.gl g1 (RO.gr g1 ?_)) (fun _ => RO.ret stay)
    rw [nI_clamp (n := i) (by omega), tc i hi2, tm.1 i hi2]
    refine RO.ix fa_nlt_le (fun _ => RO.ret stay) (fun _ => ?_)
    rcases hb with ⟨rfl, rfl⟩ | ⟨b, hb, rfl, rfl⟩
    · rw [if_pos rfl, if_pos rfl]; exact RO.ret take
    · have g2 := gd512 hn hb
      rw [if_neg (nI_ne1 (by omega)), if_neg (nI_ne1 (by omega))]
      simp only [rg_t g1, rg_t g2]
      rw [nI_clamp (n := b) (by omega), tc b hb, tm.1 b hb]
      have s1 := hS i
      have s2 := hS b
      have e := subN (a := WS n W i) (b := WS n W b) (by omega) (by omega)
      by_cases c1 : WS n W i < WS n W b
      · rw [if_pos (show nI (WS n W i) - nI (WS n W b) < 0 by rw [fa_lt, e, show (0 : Int32).toInt = 0 from rfl]; omega), if_pos (nI_lt c1 (by omega)), Option.bind_some, if_neg (by decide)]
        exact RO.ret take
      · rw [if_neg (show ¬ nI (WS n W i) - nI (WS n W b) < 0 by rw [fa_lt, e, show (0 : Int32).toInt = 0 from rfl]; omega), if_neg (show ¬ nI (WS n W i) < nI (WS n W b) by rw [nI_ltI (by omega) (by omega)]; omega)]
        by_cases c2 : WS n W i = WS n W b
        · rw [if_pos (show nI (WS n W i) - nI (WS n W b) = 0 by rw [fa_eq, e, show (0 : Int32).toInt = 0 from rfl]; omega), if_pos (show nI (WS n W i) = nI (WS n W b) by rw [c2])]
          by_cases c3 : f_In_bitCount (nI b) ≤ f_In_bitCount (nI i)
          · rw [if_pos c3, if_pos c3, Option.bind_some, if_pos rfl]; exact RO.ret stay
          · rw [if_neg c3, if_neg c3, Option.bind_some, if_neg (by decide)]; exact RO.ret take
        · rw [if_neg (show ¬ nI (WS n W i) - nI (WS n W b) = 0 by rw [fa_eq, e, show (0 : Int32).toInt = 0 from rfl]; omega), if_neg (show ¬ nI (WS n W i) = nI (WS n W b) by rw [nI_eq (by omega) (by omega)]; exact c2), Option.bind_some, if_pos rfl]
          exact RO.ret stay
  · rintro x y (⟨rfl, rfl⟩ | ⟨b, hb, rfl, rfl⟩)
    · rw [if_pos rfl, if_pos rfl]; exact RO.ret ⟨rfl, A.fin⟩
    · rw [if_neg (nI_ne1 (by omega)), if_neg (nI_ne1 (by omega))]
      obtain ⟨x, y, ex, ey, A'⟩ := A.tell (nI b)
      have fx : x = rh_up (rh_up (rh_up hc 2 1 0) 3 0 (nI b)) 2 1 1 := (Option.some.inj ex).symm
      have fy : y = rh_up (rh_up (rh_up hm 0 8 0) 5 0 (nI b)) 0 8 1 := (Option.some.inj ey).symm
      rw [ex, ey, Option.bind_some, Option.bind_some, nI_clamp (by omega)]
      refine RO.gl (gd512 hn hb) (RO.gr (gd512 hn hb) (RO.ret ⟨?_, A'.fin⟩))
      show x 12 b = y 9 b
      rw [show x 12 b = hc 12 b by rw [fx]; rfl, show y 9 b = hm 9 b by rw [fy]; rfl, tc b hb, tm.1 b hb]
def told2 (m : HI) (f s : Int32) : HI := rh_up (rh_up (rh_up (rh_up (rh_up m 0 8 0) 5 0 f) 0 8 1) 5 1 s) 0 8 2
theorem told2_twice (m : HI) (f s f' s' : Int32) : told2 (told2 m f s) f' s' = told2 m f' s' := by
  funext o j
  unfold told2
  simp only [up_f]
  by_cases h1 : o = 0 ∧ j = 8
  · simp [h1]
  · by_cases h2 : o = 5 ∧ j = 1
    · simp [h2]
    · by_cases h3 : o = 5 ∧ j = 0
      · simp [h3]
      · simp only [if_neg h1, if_neg h2, if_neg h3]
theorem mo_told2 (m : HI) (f s : Int32) : (f_Mo_tell (rh_up m 0 8 0) f).bind (fun x => f_Mo_tell x s) = some (told2 m f s) := rfl
theorem RLa.two (A : RLa k n Pm B V T a q c m) (f s : Int32) : ∃ c1 c2, f_Ro_tell c f = some c1 ∧ f_Ro_add c1 s = some c2 ∧ RLa k n Pm B V T a 2 c2 (told2 m f s) ∧ ∀ i, c2 12 i = c 12 i := by
  obtain ⟨c1, m1, e1, e2, A1⟩ := A.tell f
  obtain ⟨c2, m2, e3, e4, A2⟩ := A1.add (by omega) s
  have f1 : c1 = rh_up (rh_up (rh_up c 2 1 0) 3 0 f) 2 1 1 := (Option.some.inj e1).symm
  refine ⟨c1, c2, e1, e3, ?_, fun i => ?_⟩
  · have := mo_told2 m f s
    rw [e2, Option.bind_some, e4] at this
    rw [← Option.some.inj this]
    exact A2
  · subst f1
    have f2 : c2 = rh_up (rh_up (rh_up (rh_up (rh_up c 2 1 0) 3 0 f) 2 1 1) 3 1 s) 2 1 2 := (Option.some.inj e3).symm
    subst f2
    rfl
theorem op_pair (h : RLt k n Pm B V c m) (hk : k ≤ 600) (rd : Option Nat) (v p : Int32) : ((f_La_within v 0 9999 = 0 ∨ f_La_within p 0 8 = 0) ∧ OK (f_Mo_pair m rd v p) (LOST k n Pm B V c)) ∨ (¬ f_La_within v 0 9999 = 0 ∧ ¬ f_La_within p 0 8 = 0 ∧ RO (f_La_pair c v p) (f_Mo_pair m rd v p) (FIT k n Pm B V)) := by
  obtain ⟨T, a, q, A⟩ := h.la hk
  have hT := A.T30
  have hn := A.n9
  have hp9 := pow9 hn
  unfold f_La_pair f_Mo_pair
  rw [mo_isHeavy, la_isBell, mo_isBell, Option.bind_some, Option.bind_some, Option.bind_some]
  by_cases h1 : f_La_within v 0 9999 = 0
  · rw [if_pos h1]
    exact Or.inl ⟨Or.inl h1, OK.ret ⟨rfl, A.lost⟩⟩
  · rw [if_neg h1, if_neg h1]
    by_cases h2 : f_La_within p 0 8 = 0
    · rw [if_pos h2]
      exact Or.inl ⟨Or.inr h2, OK.ret ⟨rfl, A.lost⟩⟩
    · rw [if_neg h2, if_neg h2]
      refine Or.inr ⟨h1, h2, ?_⟩
      obtain ⟨w, -, hw, rfl⟩ := wi_n (lo := 0) (hi := 9999) h1 (by omega) (by omega)
      obtain ⟨j, hj, rfl⟩ := bell_1 h2
      rw [A.dc, A.dm, nI_add]
      rw [show m 0 1 = nI n from A.mn]
      have hS : ∀ s, WS n (fun i => Wt Pm B V i (9 * (T / 9) + j)) s ≤ 89991 := fun s => A.sle s (by omega)
      by_cases hn2 : 2 ≤ n
      · rw [if_pos (show (2 : Int32) ≤ nI n from nI_le (a := 2) hn2 (by omega))]
        refine RO.bind (A.sums rd (by omega)) ?_
        rintro hc ⟨hm, rd⟩ ⟨A, tc, tm, -⟩
        dsimp only at A tm ⊢
        generalize hW : (fun i => Wt Pm B V i (9 * (T / 9) + j)) = W at tc tm hS
        refine RO.bind (P := fun x y => RLa k n Pm B V T a 2 x.2 (told2 hm y.1 y.2.1) ∧ x.1 = y.2.2 ∧ -200000 ≤ x.1.toInt ∧ x.1.toInt ≤ 200000) (RO.loop _ _ (fun i x y => i ≤ n ∧ x.2.1 = nI i ∧ y.2.2.2 = nI i ∧ ((i = 0 ∧ x.1 = 1000000000 ∧ y.1 = -1 ∧ x.2.2 = hc) ∨ (x.1 = y.2.2.1 ∧ -200000 ≤ x.1.toInt ∧ x.1.toInt ≤ 200000 ∧ (¬ y.1 = -1) ∧ RLa k n Pm B V T a 2 x.2.2 (told2 hm y.1 y.2.1) ∧ TC n W x.2.2))) _ n (by omega) ?_ ⟨by omega, rfl, rfl, Or.inl ⟨rfl, rfl, rfl, rfl⟩⟩) ?_
        · rintro i ⟨x1, x2, x3⟩ ⟨y1, y2, y3, y4⟩ - ⟨hi, rfl, rfl, hinv⟩
          dsimp only at hinv
          have cn3 : x3 4 0 = nI n := by
            rcases hinv with ⟨-, -, -, rfl⟩ | ⟨-, -, -, -, A2, -⟩
            · exact A.cn
            · exact A2.cn
          unfold b_La_pair_45 b_Mo_pair_57
          dsimp only
          simp only [cn3, A.mn]
          refine RO.ii Iff.rfl (fun hx => RO.ret ?_) (fun hx => ?_)
          · have := ple hx (by omega) (by omega)
            rcases hinv with ⟨z, -⟩ | ⟨z1, z2, z3, -, z4, -⟩
            · omega
            · exact ⟨z4, z1, z2, z3⟩
          have hi2 : i < n := nle hx (by omega) (by omega)
          rw [nI_1]
          refine RO.bind (P := fun x y => x.1 = y.2.2 ∧ -200000 ≤ x.1.toInt ∧ x.1.toInt ≤ 200000 ∧ (¬ y.1 = -1) ∧ RLa k n Pm B V T a 2 x.2 (told2 hm y.1 y.2.1) ∧ TC n W x.2) (RO.loop _ _ (fun l x y => i + 1 + l ≤ n ∧ x.2.1 = nI (i + 1 + l) ∧ y.2.2.2 = nI (i + 1 + l) ∧ ((i = 0 ∧ l = 0 ∧ x.1 = 1000000000 ∧ y.1 = -1 ∧ x.2.2 = hc) ∨ (x.1 = y.2.2.1 ∧ -200000 ≤ x.1.toInt ∧ x.1.toInt ≤ 200000 ∧ (¬ y.1 = -1) ∧ RLa k n Pm B V T a 2 x.2.2 (told2 hm y.1 y.2.1) ∧ TC n W x.2.2))) _ n (by omega) ?_ ⟨by omega, rfl, rfl, ?_⟩) ?_
          · rintro l ⟨x1, x2, x3⟩ ⟨y1, y2, y3, y4⟩ - ⟨hl, rfl, rfl, hinv⟩
            dsimp only at hinv
            have cn3 : x3 4 0 = nI n := by
              rcases hinv with ⟨-, -, -, -, rfl⟩ | ⟨-, -, -, -, A2, -⟩
              · exact A.cn
              · exact A2.cn
            have tc3 : TC n W x3 := by
              rcases hinv with ⟨-, -, -, -, rfl⟩ | ⟨-, -, -, -, -, t2⟩
              · exact tc
              · exact t2
            unfold b_La_pair_63 b_Mo_pair_72
            dsimp only
            simp only [cn3, A.mn]
            refine RO.ii Iff.rfl (fun hx => RO.ret ?_) (fun hx => ?_)
            · have := ple hx (by omega) (by omega)
              rcases hinv with ⟨z, z', -⟩ | ⟨z1, z2, z3, z4, z5, z6⟩
              · omega
              · exact ⟨z1, z2, z3, z4, z5, z6⟩
            have hl2 : i + 1 + l < n := nle hx (by omega) (by omega)
            generalize hjj : i + 1 + l = jj at hl2 hinv hl
            have hor : 2 ^ i ||| 2 ^ jj < 2 ^ n := Nat.or_lt_two_pow (Nat.pow_lt_pow_right (by omega) hi2) (Nat.pow_lt_pow_right (by omega) hl2)
            have hws : WS n W (2 ^ i ||| 2 ^ jj) = W i + W jj := by
              rw [WS_set W hl2 (by rw [Nat.testBit_two_pow]; simp; omega), WS_two W hi2]
            have hle := hS (2 ^ i ||| 2 ^ jj)
            rw [two_n i (by omega), two_n jj (by omega), fa_or, nI_clamp (n := 2 ^ i ||| 2 ^ jj) (by omega), nI_clamp (n := i) (by omega), nI_clamp (n := jj) (by omega)]
            simp only [tc3 _ hor, tm.2 i hi2, tm.2 jj hl2, hws, nI_add, nI_1]
            rw [hws] at hle
            generalize W i + W jj = z at hle
            have e := subN (a := z) (b := w) (by omega) (by omega)
            simp only [absN (a := z) (b := w) (by omega) (by omega)]
            have hd : dN z w ≤ 100000 := by unfold dN; split <;> omega
            refine RO.gl (gd512 hn hor) (RO.gr (gd_nI (by omega) (by omega)) (RO.gr (gd_nI (by omega) (by omega)) ?_))
            have ne1 := nI_ne1 (b := i) (by omega)
            have fin : ∀ (q' : Nat) (mm : HI), RLa k n Pm B V T a q' x3 mm → told2 mm (nI i) (nI jj) = told2 hm (nI i) (nI jj) → RO ((f_Ro_tell x3 (nI i)).bind (fun x11 => (f_Ro_add x11 (nI jj)).bind (fun x12 => some (Sum.inl (α := Int32 × Int32 × HI) (β := Int32 × HI) (nI z - nI w, nI (jj + 1), x12))))) (some (Sum.inl (α := Int32 × Int32 × Int32 × Int32) (β := Int32 × Int32 × Int32) (nI i, nI jj, nI z - nI w, nI (jj + 1)))) (LQ (fun x y => l < n ∧ (i + 1 + (l + 1) ≤ n ∧ x.2.1 = nI (i + 1 + (l + 1)) ∧ y.2.2.2 = nI (i + 1 + (l + 1)) ∧ ((i = 0 ∧ l + 1 = 0 ∧ x.1 = 1000000000 ∧ y.1 = -1 ∧ x.2.2 = hc) ∨ (x.1 = y.2.2.1 ∧ -200000 ≤ x.1.toInt ∧ x.1.toInt ≤ 200000 ∧ (¬ y.1 = -1) ∧ RLa k n Pm B V T a 2 x.2.2 (told2 hm y.1 y.2.1) ∧ TC n W x.2.2)))) (fun x y => x.1 = y.2.2 ∧ -200000 ≤ x.1.toInt ∧ x.1.toInt ≤ 200000 ∧ (¬ y.1 = -1) ∧ RLa k n Pm B V T a 2 x.2 (told2 hm y.1 y.2.1) ∧ TC n W x.2)) := by
              intro q' mm A3 et
              obtain ⟨c1, c2, e1, e2, A4, e3⟩ := A3.two (nI i) (nI jj)
              rw [e1, Option.bind_some, e2, Option.bind_some]
              rw [et] at A4
              exact RO.ret ⟨by omega, by omega, by rw [← hjj]; rfl, by rw [← hjj]; rfl, Or.inr ⟨rfl, by show _ ≤ (nI z - nI w).toInt; rw [e]; omega, by show (nI z - nI w).toInt ≤ _; rw [e]; omega, ne1, A4, fun s hs => (e3 s).trans (tc3 s hs)⟩⟩
            rcases hinv with ⟨rfl, rfl, rfl, rfl, rfl⟩ | ⟨rfl, z2, z3, z4, A3, t3⟩
            · rw [if_pos rfl, if_neg (show ¬ (if (0 : Int32) ≤ 1000000000 then (1000000000 : Int32) else 0 - 1000000000) ≤ nI (dN z w) from by rw [if_pos (by decide)]; exact nI_ge (b := 1000000000) (by omega) (by omega))]
              exact fin q hm A rfl
            · rw [if_neg z4]
              refine RO.ix (by rw [fa_lt, fa_le]; omega) (fun _ => RO.ret ⟨by omega, by omega, by rw [← hjj]; rfl, by rw [← hjj]; rfl, Or.inr ⟨rfl, z2, z3, z4, A3, t3⟩⟩) (fun _ => fin 2 _ A3 (told2_twice _ _ _ _ _))
          · rcases hinv with ⟨z1, z2, z3, z4⟩ | z
            · exact Or.inl ⟨z1, rfl, z2, z3, z4⟩
            · exact Or.inr z
          · rintro ⟨x1, x2⟩ ⟨y1, y2, y3⟩ hp
            exact RO.ret ⟨hi2, hi2, rfl, rfl, Or.inr hp⟩
        · rintro ⟨x1, x2⟩ ⟨y1, y2, y3⟩ ⟨A2, rfl, b1, b2⟩
          dsimp only at A2 b1 b2 ⊢
          have e := mo_told2 hm y1 y2
          obtain ⟨m1, em1, em2⟩ := Option.bind_eq_some_iff.mp e
          rw [em1, Option.bind_some, em2, Option.bind_some, if_neg (fun z => by rw [z] at b2; exact absurd b2 (by decide))]
          exact RO.ret ⟨rfl, A2.th, A2.fin⟩
      · rw [if_neg (show ¬ (2 : Int32) ≤ nI n from nI_ge (a := n) (b := 2) (by omega) (by omega))]
        refine RO.bl (su_c A.qc (by omega)) (fun hc hx => ?_)
        have A := A.l hx.1.x
        have : OK (rh_loop (b_La_pair_45 (nI w)) rh_N ((1000000000 : Int32), (0 : Int32), hc)) (fun x => x = (1000000000, hc)) := by
          refine OK.loop _ (fun i x => i ≤ n ∧ x = (1000000000, nI i, hc)) _ n (by omega) ?_ ⟨by omega, rfl⟩
          rintro i _ - ⟨hi, rfl⟩
          unfold b_La_pair_45
          dsimp only
          simp only [A.cn]
          refine OK.ite (fun _ => OK.ret rfl) (fun hx => ?_)
          have hi2 : i < n := nle hx (by omega) (by omega)
          obtain ⟨f, hf⟩ := rh_N_eq 1 (by omega)
          have : b_La_pair_63 (nI w) (nI i) (1000000000, nI i + 1, hc) = some (.inr (1000000000, hc)) := by
            unfold b_La_pair_63
            dsimp only
            simp only [A.cn]
            rw [if_pos (by rw [nI_1]; exact nI_le (by omega) (by omega))]
          rw [hf, lp_end this]
          exact OK.ret ⟨hi2, hi2, by rw [nI_1]⟩
        refine RO.bl this ?_
        rintro _ rfl
        rw [if_pos rfl]
        exact RO.ret ⟨rfl, A.th, A.fin⟩
end OPS8
