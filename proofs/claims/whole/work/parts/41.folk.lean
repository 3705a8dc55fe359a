/-! folk: the class's reader sign by sign, the reference's line by line -/
def RF (C0 C : HI) (n P d : Nat) (il : Int32) (b : Nat → Nat) : Prop := (∀ o j, o ≠ 19 → o ≠ 20 → C o j = C0 o j) ∧ C 19 1 = C0 19 1 ∧ C 19 2 = nI n ∧ C 19 3 = nI P ∧ C 19 4 = nI d ∧ C 19 5 = il ∧ ∀ j, j < n → C 20 j = nI (b j)
theorem neI {x s : Nat} (hx : x < 2 ^ 31) (hs : s < 2 ^ 31) (h : x ≠ s) : ¬ nI x = nI s := fun z => h ((nI_eq hx hs).mp z)
theorem ltI {x s : Nat} (hs : s < 2 ^ 31) (h : x < s) : nI x < nI s := (nI_ltI (by omega) hs).mpr h
theorem nltI {x s : Nat} (hx : x < 2 ^ 31) (h : ¬ x < s) : ¬ nI x < nI s := fun z => by
  rw [fa_lt, nI_toInt hx, nI_toInt] at z
  all_goals omega
section FRD
variable {C0 C : HI} {n P d R : Nat} {b : Nat → Nat}
theorem ft_kind (r : RF C0 C n P 0 0 b) (hn : n < 9) (hR0 : C0 19 1 = nI R) (hR : n < R) (hR9 : R ≤ 9) {x : Nat} (hx : x = 112 ∨ x = 116) : ∃ C', f_Fr_takes C (nI x) = some (1, C') ∧ RF C0 C' (n + 1) (if x = 112 then P ||| 2 ^ n else P) 0 1 (fun j => if j = n then 0 else b j) := by
  obtain ⟨f, e1, e2, e3, e4, e5, e6⟩ := r
  have e1 := e1.trans hR0
  have g9 := gd_nI (i := n) (N := 9) hn (by omega)
  have jk : ∃ C', j_Fr_takesKind_12 C (nI x) = some (1, C') ∧ RF C0 C' (n + 1) (if x = 112 then P ||| 2 ^ n else P) 0 1 (fun j => if j = n then 0 else b j) := by
    unfold j_Fr_takesKind_12
    rw [e1, e2, if_neg (nI_ge hR (by omega)), if_pos (show nI n < 9 from (nI_ltI (b := 9) (by omega) (by omega)).mpr hn), nI_clamp (by omega), two_n n (by omega), nI_1]
    rcases hx with rfl | rfl
    · rw [if_pos (show nI 112 = 112 from rfl), rg_t g9, if_pos rfl, e3, fa_or]
      refine ⟨_, rfl, fun o j h19 h20 => ?_, ?_, ?_, ?_, ?_, ?_, fun j hj => ?_⟩
      · simp only [up_f]
        rw [if_neg (by omega), if_neg (by omega), if_neg (by omega), if_neg (by omega)]; exact f o j h19 h20
      · exact e1.trans hR0.symm
      · rfl
      · rfl
      · exact e4
      · rfl
      · show rh_up (rh_up (rh_up (rh_up C 19 3 _) 20 n 0) 19 2 _) 19 5 1 20 j = _
        simp only [up_f]
        rw [if_neg (by omega), if_neg (by omega)]
        by_cases z : j = n
        · rw [if_pos ⟨trivial, z⟩, if_pos z]; rfl
        · rw [if_neg (by omega), if_neg (by omega), if_neg z]; exact e6 j (by omega)
    · rw [if_neg (show ¬ nI 116 = 112 by decide), rg_t g9, if_neg (by omega)]
      refine ⟨_, rfl, fun o j h19 h20 => ?_, ?_, ?_, ?_, ?_, ?_, fun j hj => ?_⟩
      · simp only [up_f]
        rw [if_neg (by omega), if_neg (by omega), if_neg (by omega)]; exact f o j h19 h20
      · exact e1.trans hR0.symm
      · rfl
      · exact e3
      · exact e4
      · rfl
      · show rh_up (rh_up (rh_up C 20 n 0) 19 2 _) 19 5 1 20 j = _
        simp only [up_f]
        rw [if_neg (by omega), if_neg (by omega)]
        by_cases z : j = n
        · rw [if_pos ⟨trivial, z⟩, if_pos z]; rfl
        · rw [if_neg (by omega), if_neg z]; exact e6 j (by omega)
  obtain ⟨C', h1, h2⟩ := jk
  refine ⟨C', ?_, h2⟩
  unfold f_Fr_takes f_Fr_takesKind
  rw [if_pos e5, h1]
  rcases hx with rfl | rfl
  · rw [if_pos (show nI 112 = 112 from rfl), Option.bind_some, rg_t (Or.inr rfl)]
  · rw [if_neg (show ¬ nI 116 = 112 by decide), if_pos (show nI 116 = 116 from rfl), Option.bind_some, rg_t (Or.inr rfl)]
theorem ft_kno (r : RF C0 C n P 0 0 b) (hR0 : C0 19 1 = nI R) (hR9 : R ≤ 9) (hn : n ≤ 9) {x : Nat} (hx2 : x < 256) (hx : (¬ (x = 112 ∨ x = 116)) ∨ R ≤ n) : f_Fr_takes C (nI x) = some (0, C) := by
  obtain ⟨f, e1, e2, e3, e4, e5, e6⟩ := r
  have e1 := e1.trans hR0
  unfold f_Fr_takes f_Fr_takesKind
  rw [if_pos e5]
  have jk : R ≤ n → j_Fr_takesKind_12 C (nI x) = some (0, C) := fun h => by
    unfold j_Fr_takesKind_12
    rw [e1, e2, if_pos (nI_le h (by omega))]
  by_cases h1 : x = 112
  · subst h1
    rw [if_pos (show nI 112 = 112 from rfl), jk (hx.resolve_left (fun z => z (Or.inl rfl))), Option.bind_some, rg_t (Or.inl rfl)]
  · rw [if_neg (show ¬ nI x = 112 from neI (s := 112) (by omega) (by omega) h1)]
    by_cases h2 : x = 116
    · subst h2
      rw [if_pos (show nI 116 = 116 from rfl), jk (hx.resolve_left (fun z => z (Or.inr rfl))), Option.bind_some, rg_t (Or.inl rfl)]
    · rw [if_neg (show ¬ nI x = 116 from neI (s := 116) (by omega) (by omega) h2), Option.bind_some, rg_t (Or.inl rfl)]
theorem isd {x : Nat} (hx : x < 256) : f_Re_isDigit (nI x) = 0 ↔ ¬ (48 ≤ x ∧ x ≤ 57) := by
  unfold f_Re_isDigit
  by_cases h1 : x < 48
  · rw [if_pos (show nI x < 48 from ltI (s := 48) (by omega) h1)]
    exact ⟨fun _ => by omega, fun _ => rfl⟩
  · rw [if_neg (show ¬ nI x < 48 from nltI (s := 48) (by omega) h1)]
    by_cases h2 : 57 < x
    · rw [if_pos (show 57 < nI x from ltI (x := 57) (by omega) h2)]
      exact ⟨fun _ => by omega, fun _ => rfl⟩
    · rw [if_neg (show ¬ 57 < nI x from nltI (x := 57) (by omega) h2)]
      exact ⟨fun z => absurd z (by decide), fun z => absurd ⟨by omega, by omega⟩ z⟩
theorem ft_dig (r : RF C0 C (n + 1) P d 1 b) (hn : n < 9) (hd : d < 3) {x : Nat} (hx1 : 48 ≤ x) (hx2 : x ≤ 57) : ∃ C', f_Fr_takes C (nI x) = some (1, C') ∧ RF C0 C' (n + 1) P (d + 1) 1 (fun j => if j = n then 10 * b n + (x - 48) else b j) := by
  obtain ⟨f, e1, e2, e3, e4, e5, e6⟩ := r
  have g9 := gd_nI (i := n) (N := 9) hn (by omega)
  unfold f_Fr_takes
  rw [e5, if_neg (by decide), if_neg (fun z => (isd (by omega)).mp z ⟨hx1, hx2⟩), e4, if_neg (show ¬ (3 : Int32) ≤ nI d from nI_ge (b := 3) hd (by omega)), e2, show nI (n + 1) - 1 = nI n from pk_sub (a := n + 1) (b := 1) (by omega), rg_t g9, rg_t g9, nI_clamp (by omega), e6 n (by omega), nI_1]
  refine ⟨_, rfl, fun o j h19 h20 => ?_, e1, e2, e3, rfl, e5, fun j hj => ?_⟩
  · simp only [up_f]
    rw [if_neg (by omega), if_neg (by omega)]; exact f o j h19 h20
  · show rh_up (rh_up C 20 n _) 19 4 _ 20 j = _
    simp only [up_f]
    rw [if_neg (by omega)]
    by_cases z : j = n
    · rw [if_pos ⟨trivial, z⟩, if_pos z, show nI (b n) * 10 = nI (b n * 10) from pk_mul _ 10, nI_add, show nI (b n * 10 + x) - 48 = nI (b n * 10 + x - 48) from pk_sub (b := 48) (by omega)]
      congr 1; omega
    · rw [if_neg (by omega), if_neg z]; exact e6 j hj
theorem ce_1 (r : RF C0 C (n + 1) P d 1 b) (hn : n < 9) (hd : d < 2 ^ 31) (hb : b n < 2 ^ 31) : f_Fr_canEnd C = some (if 0 < d ∧ 0 < b n then 1 else 0) := by
  obtain ⟨f, e1, e2, e3, e4, e5, e6⟩ := r
  have g9 := gd_nI (i := n) (N := 9) hn (by omega)
  unfold f_Fr_canEnd
  rw [e5, if_neg (by decide), e4, e2, show nI (n + 1) - 1 = nI n from pk_sub (a := n + 1) (b := 1) (by omega), rg_t g9, nI_clamp (by omega), e6 n (by omega)]
  by_cases h1 : 0 < d
  · rw [if_neg (show ¬ nI d ≤ 0 from nI_ge (b := d) (a := 0) h1 hd)]
    by_cases h2 : 0 < b n
    · rw [if_neg (show ¬ nI (b n) ≤ 0 from nI_ge (b := b n) (a := 0) h2 hb), if_pos ⟨h1, h2⟩]
    · rw [if_pos (show nI (b n) ≤ 0 by rw [show b n = 0 by omega]; decide), if_neg (fun z => h2 z.2)]
  · rw [if_pos (show nI d ≤ 0 by rw [show d = 0 by omega]; decide), if_neg (fun z => h1 z.1)]
theorem ce_0 (r : RF C0 C n P d 0 b) : f_Fr_canEnd C = some 0 := by
  unfold f_Fr_canEnd
  rw [r.2.2.2.2.2.1, if_pos rfl]
theorem fl_1 (r : RF C0 C (n + 1) P d 1 b) (hn : n < 9) (hd : d < 2 ^ 31) (hb : b n < 2 ^ 31) (p : Int32) : f_Fr_faultAt C p = some (if 0 < d ∧ b n = 0 then p - 1 else p) := by
  obtain ⟨f, e1, e2, e3, e4, e5, e6⟩ := r
  have g9 := gd_nI (i := n) (N := 9) hn (by omega)
  unfold f_Fr_faultAt
  rw [e5, if_neg (by decide), e4, e2, show nI (n + 1) - 1 = nI n from pk_sub (a := n + 1) (b := 1) (by omega), rg_t g9, nI_clamp (by omega), e6 n (by omega)]
  by_cases h1 : 0 < d
  · rw [if_neg (show ¬ nI d ≤ 0 from nI_ge (b := d) (a := 0) h1 hd)]
    by_cases h2 : b n = 0
    · rw [if_pos (show nI (b n) = 0 by rw [h2]; rfl), if_pos ⟨h1, h2⟩]
    · rw [if_neg (nz0 h2 hb), if_neg (fun z => h2 z.2)]
  · rw [if_pos (show nI d ≤ 0 by rw [show d = 0 by omega]; decide), if_neg (fun z => h1 z.1)]
theorem fl_0 (r : RF C0 C n P d 0 b) (p : Int32) : f_Fr_faultAt C p = some p := by
  unfold f_Fr_faultAt
  rw [r.2.2.2.2.2.1, if_pos rfl]
theorem ft_sep (r : RF C0 C (n + 1) P d 1 b) (hn : n < 9) (hd0 : 0 < d) (hd : d < 2 ^ 31) (hb0 : 0 < b n) (hb : b n < 2 ^ 31) : ∃ C', f_Fr_takes C (nI 59) = some (1, C') ∧ RF C0 C' (n + 1) P 0 0 b := by
  have hce := ce_1 r hn hd hb
  obtain ⟨f, e1, e2, e3, e4, e5, e6⟩ := r
  unfold f_Fr_takes j_Fr_takes_70
  rw [e5, if_neg (by decide), if_pos ((isd (x := 59) (by omega)).mpr (by omega)), if_pos (show nI 59 = 59 from rfl), hce, if_pos ⟨hd0, hb0⟩, Option.bind_some, if_neg (by decide)]
  refine ⟨_, rfl, fun o j h19 h20 => ?_, e1, e2, e3, rfl, rfl, fun j hj => ?_⟩
  · simp only [up_f]
    rw [if_neg (by omega), if_neg (by omega)]; exact f o j h19 h20
  · exact e6 j hj
theorem ft_no (r : RF C0 C (n + 1) P d 1 b) (hn : n < 9) (hd : d ≤ 3) (hb : b n < 2 ^ 31) {x : Nat} (hx : x < 256) (h1 : d = 3 ∨ ¬ (48 ≤ x ∧ x ≤ 57)) (h2 : ¬ (x = 59 ∧ 0 < d ∧ 0 < b n)) : f_Fr_takes C (nI x) = some (0, C) := by
  have hce := ce_1 r hn (by omega) hb
  obtain ⟨f, e1, e2, e3, e4, e5, e6⟩ := r
  have j7 : j_Fr_takes_70 C (nI x) = some (0, C) := by
    unfold j_Fr_takes_70
    by_cases h3 : x = 59
    · rw [if_pos (show nI x = 59 by rw [h3]; rfl), hce, if_neg (fun z => h2 ⟨h3, z⟩), Option.bind_some, if_pos rfl]
    · rw [if_neg (show ¬ nI x = 59 from neI (s := 59) (by omega) (by omega) h3)]
  unfold f_Fr_takes
  rw [e5, if_neg (by decide), j7]
  by_cases h3 : 48 ≤ x ∧ x ≤ 57
  · rw [if_neg (fun z => (isd hx).mp z h3), e4, if_pos (show (3 : Int32) ≤ nI d from nI_le (a := 3) (by omega) (by omega))]
  · rw [if_pos ((isd hx).mpr h3)]
end FRD
def foPost (t : Int32) : (HI ⊕ (Int32 × HI)) → Option (Int32 × HI) := fun r7 => match r7 with
  | .inl e8 => if t ≤ (76 : Int32) then (f_Fr_canEnd e8).bind (fun x11 => if x11 = 0 then (f_Fr_faultAt e8 t).bind (fun x13 => some (((-1 : Int32) - x13, e8))) else some (((0 : Int32), e8))) else some (((-1 : Int32) - (76 : Int32), e8))
  | .inr t9 => some t9
def foFin : (Int32 × HI) → Option (Int32 × HI) := fun r => some (r.1, if (r.2 0 11) ≤ (r.2 0 13) then r.2 else f_Mo_fault r.2 (r.2 0 13))
/-- the reference's lines so far -/
def RO6 (M0 M : HI) (n P : Nat) (b : Nat → Nat) : Prop := (∀ o j, o ≠ 6 → (o = 0 → j ≠ 13 ∧ j ≠ 14) → M o j = M0 o j) ∧ ∀ j, j < n → M 6 (2 * j) = bI (P.testBit j) ∧ M 6 (2 * j + 1) = nI (b j)
def foQ (C0 M0 : HI) (R : Nat) (x y : Int32 × HI) : Prop := (x.1 = 0 ∧ y.2 0 14 = -1 ∧ ∃ n P b, 1 ≤ n ∧ n ≤ R ∧ y.1 = nI n ∧ P < 2 ^ n ∧ (∀ j, j < n → 1 ≤ b j ∧ b j ≤ 999) ∧ x.2 19 2 = nI n ∧ x.2 19 3 = nI P ∧ (∀ o j, o ≠ 19 → o ≠ 20 → x.2 o j = C0 o j) ∧ (∀ j, j < n → x.2 20 j = nI (b j)) ∧ RO6 M0 y.2 n P b) ∨ (∃ w, w < 200 ∧ x.1 = -1 - nI w ∧ y.2 0 14 = nI w ∧ (∀ o j, o ≠ 19 → o ≠ 20 → x.2 o j = C0 o j) ∧ ∀ o j, o ≠ 6 → (o = 0 → j ≠ 13 ∧ j ≠ 14) → y.2 o j = M0 o j)
theorem fo_bM (x y : Int32) (M : HI) : b_Mo_folk_37 (x, y, M) = if y = 0 then some (.inr (x, M)) else if f_Mo_fine M = 0 then some (.inr (x, M)) else if (M 0 1) + x = (9 : Int32) then (f_Mo_passes_r4 (f_Mo_fault M (M 0 13)) (59 : Int32)).bind (fun x6 => some (.inl (x + (1 : Int32), x6.1, x6.2))) else (f_Mo_readOne_r4 M ((2 : Int32) * x)).bind (fun x7 => (f_Mo_passes_r4 x7 (59 : Int32)).bind (fun x8 => some (.inl (x + (1 : Int32), x8.1, x8.2)))) := rfl
theorem fo_bL (u e x : Int32) (C : HI) : b_Re_readThrough_Fr_19_1_19 u 76 e (x, C) = if e ≤ x then some (.inr (.inl C)) else rh_g (0 ≤ x.toInt ∧ x.toInt < ((80 : Nat) : Int)) ((f_Fr_takes C (C 1 x.toNatClampNeg)).bind (fun x4 => if x4.1 = 0 then (f_Fr_faultAt x4.2 x).bind (fun x6 => some (.inr (.inr ((-1 : Int32) - x6, x4.2)))) else some (.inl (x + (1 : Int32), x4.2)))) := rfl
section FOL
variable {C0 M0 : HI} {t sz : Nat} {tx : Nat → Nat}
theorem fo_bC (hC1 : ∀ i, i < t → C0 1 i = nI (tx i)) (ht : t ≤ 80) {C : HI} {n P d p e : Nat} {il : Int32} {b : Nat → Nat} (r : RF C0 C n P d il b) (hp : p < t) (he : e ≤ 80) (hpe : p < e) {z : Int32} {C' : HI} (hz : f_Fr_takes C (nI (tx p)) = some (z, C')) (u : Int32) : b_Re_readThrough_Fr_19_1_19 u 76 (nI e) (nI p, C) = if z = 0 then (f_Fr_faultAt C' (nI p)).bind (fun x6 => some (.inr (.inr ((-1 : Int32) - x6, C')))) else some (.inl (nI (p + 1), C')) := by
  rw [fo_bL, if_neg (nI_ge hpe (by omega)), rg_t (gd_nI (by omega) (by omega)), nI_clamp (by omega), r.1 1 p (by omega) (by omega), hC1 p hp, hz, Option.bind_some, nI_1]
theorem fo_ind (hC1 : ∀ i, i < t → C0 1 i = nI (tx i)) (ht : t ≤ 80) (hsz : sz ≤ 9) (hR0 : C0 19 1 = nI (9 - sz)) (hM1 : M0 0 1 = nI sz) : ∀ (r n p P : Nat) (b : Nat → Nat) (C M : HI), n + r = 9 - sz → p ≤ t → p ≤ 5 * n → P < 2 ^ n → (∀ j, j < n → 1 ≤ b j ∧ b j ≤ 999) → RF C0 C n P 0 0 b → RO6 M0 M n P b → RS t 76 tx p M → ∀ N N', 100 ≤ N + p → 15 ≤ N' + n → RO ((rh_loop (b_Re_readThrough_Fr_19_1_19 (nI t) 76 (nI (min t 76))) N (nI p, C)).bind (foPost (nI t))) ((rh_loop b_Mo_folk_37 N' (nI n, (1 : Int32), M)).bind foFin) (foQ C0 M0 (9 - sz)) := by
  intro r
  induction r with
  | zero =>
    intro n p P b C M hr hpt hp5 hP hb rc rm rs N N' hN hN'
    -- no room
    have r14 := rs.2.2.2.2.2.2.1
    have hM : rh_loop b_Mo_folk_37 N' (nI n, (1 : Int32), M) = some (nI (n + 1), rh_up M 0 14 (nI p)) := by
      have e14 : rh_up M 0 14 (nI p) 0 14 = nI p := rfl
      rw [st_l (s' := (nI (n + 1), 0, rh_up M 0 14 (nI p))) ?_ (by omega), st_e (r := (nI (n + 1), rh_up M 0 14 (nI p))) ?_ (by omega)]
      · rw [fo_bM, if_pos rfl]
      · rw [fo_bM, if_neg (by decide), fine1 r14, if_neg (by decide), rm.1 0 1 (by omega) (by omega), hM1, nI_add, if_pos (show nI (sz + n) = 9 by rw [show sz + n = 9 by omega]; rfl), fault1 r14, rs.2.2.2.2.2.1, ps4n (w := p) (by omega) e14, Option.bind_some, nI_1]
    have hF : foFin (nI (n + 1), rh_up M 0 14 (nI p)) = some (nI (n + 1), rh_up M 0 14 (nI p)) := by
      unfold foFin
      dsimp only
      split
      · rfl
      · rw [fault0 (w := p) (by omega) rfl]
    rw [hM, Option.bind_some, hF]
    have fr : ∀ o j, o ≠ 6 → (o = 0 → j ≠ 13 ∧ j ≠ 14) → rh_up M 0 14 (nI p) o j = M0 o j := fun o j h6 h0 => by
      rw [up_f, if_neg (fun z => (h0 z.1).2 z.2)]; exact rm.1 o j h6 h0
    by_cases hpt2 : p < t
    · have hx := (rs.2.2.2.2.2.2.2 p hpt2).1
      rw [st_e (r := .inr (-1 - nI p, C)) ?_ (by omega)]
      · exact RO.ret (Or.inr ⟨p, by omega, rfl, rfl, rc.1, fr⟩)
      · rw [fo_bC hC1 ht rc hpt2 (by omega) (by omega) (ft_kno rc hR0 (by omega) (by omega) hx (Or.inr (by omega))), if_pos rfl, fl_0 rc, Option.bind_some]
    · have : p = t := by omega
      subst this
      rw [st_e (r := .inl C) ?_ (by omega)]
      · show RO (foPost (nI p) (.inl C)) _ _
        unfold foPost
        dsimp only
        rw [if_pos (show nI p ≤ 76 from nI_le (b := 76) (by omega) (by omega)), ce_0 rc, Option.bind_some, if_pos rfl, fl_0 rc, Option.bind_some]
        exact RO.ret (Or.inr ⟨p, by omega, rfl, rfl, rc.1, fr⟩)
      · rw [fo_bL, if_pos (nI_le (by omega) (by omega))]
  | succ r ih =>
    intro n p P b C M hr hpt hp5 hP hb rc rm rs N N' hN hN'
    have r13 := rs.2.2.2.2.2.1
    have r14 := rs.2.2.2.2.2.2.1
    have hmin : ∀ j, j < t → j < 76 → j < min t 76 := fun j h1 h2 => by omega
    -- the class at a place, when the text ends there
    have cEnd : ∀ (N p' n' P' d' : Nat) (il' : Int32) (b' : Nat → Nat) (C' : HI), p' = t → t ≤ 76 → 1 ≤ N → RF C0 C' n' P' d' il' b' → (rh_loop (b_Re_readThrough_Fr_19_1_19 (nI t) 76 (nI (min t 76))) N (nI p', C')).bind (foPost (nI t)) = (f_Fr_canEnd C').bind (fun x11 => if x11 = 0 then (f_Fr_faultAt C' (nI t)).bind (fun x13 => some (((-1 : Int32) - x13, C'))) else some (((0 : Int32), C'))) := by
      intro N p' n' P' d' il' b' C' h1 h2 h3 h4
      rw [st_e (r := .inl C') ?_ h3]
      · show foPost (nI t) (.inl C') = _
        unfold foPost
        dsimp only
        rw [if_pos (show nI t ≤ 76 from nI_le (b := 76) h2 (by omega))]
      · rw [fo_bL, if_pos (nI_le (by omega) (by omega))]
    -- the class refuses a sign
    have cNo : ∀ (N p' n' P' d' f : Nat) (il' : Int32) (b' : Nat → Nat) (C' : HI), p' < t → p' < 76 → 1 ≤ N → RF C0 C' n' P' d' il' b' → f_Fr_takes C' (nI (tx p')) = some (0, C') → f_Fr_faultAt C' (nI p') = some (nI f) → (rh_loop (b_Re_readThrough_Fr_19_1_19 (nI t) 76 (nI (min t 76))) N (nI p', C')).bind (foPost (nI t)) = some (-1 - nI f, C') := by
      intro N p' n' P' d' f il' b' C' h1 h2 h3 h4 h5 h6
      rw [st_e (r := .inr (-1 - nI f, C')) ?_ h3]
      · rfl
      · rw [fo_bC hC1 ht h4 h1 (by omega) (hmin p' h1 h2) h5, if_pos rfl, h6, Option.bind_some]
    -- the class takes a sign
    have cYes : ∀ (N p' n' P' d' : Nat) (il' : Int32) (b' : Nat → Nat) (C' C'' : HI), p' < t → p' < 76 → 1 ≤ N → RF C0 C' n' P' d' il' b' → f_Fr_takes C' (nI (tx p')) = some (1, C'') → rh_loop (b_Re_readThrough_Fr_19_1_19 (nI t) 76 (nI (min t 76))) N (nI p', C') = rh_loop (b_Re_readThrough_Fr_19_1_19 (nI t) 76 (nI (min t 76))) (N - 1) (nI (p' + 1), C'') := by
      intro N p' n' P' d' il' b' C' C'' h1 h2 h3 h4 h5
      exact st_l (by rw [fo_bC hC1 ht h4 h1 (by omega) (hmin p' h1 h2) h5, if_neg (by decide)]) h3
    -- the reference finds a fault in this line
    have mNo : ∀ (w : Nat) (M' : HI), w < 200 → f_Mo_readOne_r4 M ((2 : Int32) * nI n) = some M' → M' 0 14 = nI w → (∀ o j, o ≠ 6 → (o = 0 → j ≠ 13 ∧ j ≠ 14) → M' o j = M0 o j) → (rh_loop b_Mo_folk_37 N' (nI n, (1 : Int32), M)).bind foFin = some (nI (n + 1), M') := by
      intro w M' hw h1 h2 h3
      rw [st_l (s' := (nI (n + 1), 0, M')) ?_ (by omega), st_e (r := (nI (n + 1), M')) ?_ (by omega)]
      · show foFin _ = _
        unfold foFin
        dsimp only
        split
        · rfl
        · rw [fault0 (w := w) (by omega) h2]
      · rw [fo_bM, if_pos rfl]
      · rw [fo_bM, if_neg (by decide), fine1 r14, if_neg (by decide), rm.1 0 1 (by omega) (by omega), hM1, nI_add, if_neg (show ¬ nI (sz + n) = 9 from fun z => by have := (nI_eq (b := 9) (by omega) (by omega)).mp z; omega), h1, Option.bind_some, ps4n (w := w) (by omega) h2, Option.bind_some, nI_1]
    -- what readOne does
    have g18 := gd_nI (i := 2 * n) (N := 18) (by omega) (by omega)
    have g18' := gd_nI (i := 2 * n + 1) (N := 18) (by omega) (by omega)
    have e2n : (2 : Int32) * nI n = nI (2 * n) := pk_mul 2 n
    have up6 : ∀ (k : Nat) (v : Int32) (M1 : HI), (∀ o j, o ≠ 6 → (o = 0 → j ≠ 13 ∧ j ≠ 14) → M1 o j = M0 o j) → ∀ o j, o ≠ 6 → (o = 0 → j ≠ 13 ∧ j ≠ 14) → rh_up M1 6 k v o j = M0 o j := fun k v M1 h o j h6 h0 => by
      rw [up_f, if_neg (by omega)]; exact h o j h6 h0
    have j46n : ∀ (w : Nat) (M1 : HI), w < 200 → M1 0 14 = nI w → (∀ o j, o ≠ 6 → (o = 0 → j ≠ 13 ∧ j ≠ 14) → M1 o j = M0 o j) → ∃ M', j_Mo_readOne_r4_46 M1 (nI (2 * n)) = some M' ∧ M' 0 14 = nI w ∧ ∀ o j, o ≠ 6 → (o = 0 → j ≠ 13 ∧ j ≠ 14) → M' o j = M0 o j := by
      intro w M1 hw h1 h2
      unfold j_Mo_readOne_r4_46
      rw [nm4n (w := w) (by omega) (show rh_up M1 0 13 _ 0 14 = nI w from h1), Option.bind_some, nI_1 (2 * n), rg_t g18']
      dsimp only
      rw [fine0 (w := w) (by omega) (show rh_up (rh_up M1 0 13 _) 6 _ _ 0 14 = nI w from h1), if_pos rfl]
      refine ⟨_, rfl, h1, up6 _ _ _ (fun o j h6 h0 => ?_)⟩
      rw [up_f, if_neg (fun z => (h0 z.1).1 z.2)]; exact h2 o j h6 h0
    by_cases hk : p < t ∧ (tx p = 112 ∨ tx p = 116)
    · obtain ⟨hpt2, hx⟩ := hk
      have hp76 : p < 76 := by omega
      obtain ⟨C1, hc1, rc1⟩ := ft_kind rc (by omega) hR0 (by omega) (by omega) hx
      rw [cYes N p n P 0 0 b C C1 hpt2 hp76 (by omega) rc hc1]
      -- the reference's line
      have hb112 : HR t 76 tx p = 112 ↔ tx p = 112 := by
        rw [show (112 : Int32) = nI 112 from rfl, HR_is rs (by omega)]
        exact ⟨fun z => z.2.2, fun z => ⟨hpt2, hp76, z⟩⟩
      have hb116 : HR t 76 tx p = 116 ↔ tx p = 116 := by
        rw [show (116 : Int32) = nI 116 from rfl, HR_is rs (by omega)]
        exact ⟨fun z => z.2.2, fun z => ⟨hpt2, hp76, z⟩⟩
      generalize hbit : decide (tx p = 112) = bit
      have hone : f_Mo_readOne_r4 M (nI (2 * n)) = j_Mo_readOne_r4_46 (rh_up M 6 (2 * n) (bI bit)) (nI (2 * n)) := by
        unfold f_Mo_readOne_r4 j_Mo_readOne_r4_19
        have rs6 : ∀ v, RS t 76 tx p (rh_up M 6 (2 * n) v) := fun v => rs.u6 _ v (by omega) (by omega)
        rw [he4 rs, Option.bind_some, nI_clamp (by omega), rg_t g18, rg_t g18, he4 (rs6 _), he4 (rs6 _)]
        simp only [Option.bind_some]
        rcases hx with z | z
        · rw [if_pos (hb112.mpr z), if_pos (hb112.mpr z), ← hbit, decide_eq_true z]; rfl
        · have z' : ¬ tx p = 112 := by omega
          rw [if_neg (fun w => z' (hb112.mp w)), if_neg (fun w => z' (hb112.mp w)), if_pos (hb116.mpr z), ← hbit, decide_eq_false z']; rfl
      have rs1 : RS t 76 tx (p + 1) (rh_up (rh_up M 6 (2 * n) (bI bit)) 0 13 (nI (p + 1))) := (rs.u6 _ _ (by omega) (by omega)).mv (E34.rf.u13 _) rfl (by omega) r14
      obtain ⟨⟨v, M2⟩, hnum, d, hd3, hdg, hdx, hv, e34, e13, e14⟩ := nm4 rs1 (D := 3) (by omega) (by omega)
      dsimp only at hv e34 e13 e14
      subst hv
      have hv9 := vl_999 hd3 hdg
      have hone2 : f_Mo_readOne_r4 M ((2 : Int32) * nI n) = (if f_Mo_fine (rh_up M2 6 (2 * n + 1) (nI (vl tx (p + 1) d))) = 0 then some (rh_up M2 6 (2 * n + 1) (nI (vl tx (p + 1) d))) else if nI (vl tx (p + 1) d) = 0 then some (f_Mo_fault (rh_up M2 6 (2 * n + 1) (nI (vl tx (p + 1) d))) (nI (p + 1 + d) - 1)) else some (rh_up M2 6 (2 * n + 1) (nI (vl tx (p + 1) d)))) := by
        rw [e2n, hone]
        unfold j_Mo_readOne_r4_46
        rw [show rh_up M 6 (2 * n) (bI bit) 0 13 + 1 = nI (p + 1) by rw [up_f, if_neg (by omega), r13, nI_1], show (3 : Int32) = nI 3 from rfl, hnum, Option.bind_some, nI_1 (2 * n), rg_t g18']
        dsimp only
        rw [rg_t g18', nI_clamp (by omega), rh_up_s, e13]
      have fr2 : ∀ o j, o ≠ 6 → (o = 0 → j ≠ 13 ∧ j ≠ 14) → rh_up M2 6 (2 * n + 1) (nI (vl tx (p + 1) d)) o j = M0 o j := up6 _ _ _ (fun o j h6 h0 => by
        rw [e34 o j h0, up_f, if_neg (fun z => (h0 z.1).1 z.2), up_f, if_neg (by omega)]; exact rm.1 o j h6 h0)
      -- the class reads the same digits
      have cdig : ∀ e, e ≤ d → ∃ C2 b2, (∀ N, 1 + e ≤ N → rh_loop (b_Re_readThrough_Fr_19_1_19 (nI t) 76 (nI (min t 76))) N (nI (p + 1), C1) = rh_loop (b_Re_readThrough_Fr_19_1_19 (nI t) 76 (nI (min t 76))) (N - e) (nI (p + 1 + e), C2)) ∧ RF C0 C2 (n + 1) (if tx p = 112 then P ||| 2 ^ n else P) e 1 b2 ∧ b2 n = vl tx (p + 1) e ∧ ∀ j, j ≠ n → b2 j = b j := by
        intro e
        induction e with
        | zero =>
          intro _
          exact ⟨C1, _, fun N _ => rfl, rc1, if_pos rfl, fun j hj => if_neg hj⟩
        | succ e ihe =>
          intro he
          obtain ⟨C2, b2, h1, h2, h2n, h2o⟩ := ihe (by omega)
          have dg := hdg e (by omega)
          obtain ⟨C3, h3, h4⟩ := ft_dig h2 (by omega) (by omega) dg.2.2.1 dg.2.2.2
          refine ⟨C3, _, fun N hN => ?_, h4, ?_, fun j hj => (if_neg hj).trans (h2o j hj)⟩
          · rw [h1 N (by omega), cYes (N - e) (p + 1 + e) _ _ _ _ _ C2 C3 dg.1 dg.2.1 (by omega) h2 h3, show N - e - 1 = N - (e + 1) by omega]; rfl
          · rw [if_pos rfl, h2n]; rfl
      obtain ⟨C2, b2, hc2, rc2, hbn, hbo⟩ := cdig d (by omega)
      rw [hc2 (N - 1) (by omega)]
      have hq76 : p + 1 + d < 76 := by omega
      have hqt : p + 1 + d ≤ t := by
        rcases Nat.eq_zero_or_pos d with z | z
        · omega
        · have := (hdg (d - 1) (by omega)).1; omega
      by_cases hd0 : d = 0
      · -- no digit
        subst hd0
        rw [if_pos rfl] at e14
        have hfine : f_Mo_fine (rh_up M2 6 (2 * n + 1) (nI (vl tx (p + 1) 0))) = 0 := fine0 (w := p + 1) (by omega) e14
        rw [mNo (p + 1) (rh_up M2 6 (2 * n + 1) (nI (vl tx (p + 1) 0))) (by omega) (by rw [hone2, hfine, if_pos rfl]) e14 fr2]
        by_cases hq : p + 1 + 0 < t
        · have hx2 := (rs.2.2.2.2.2.2.2 _ hq).1
          have hnd : ¬ (48 ≤ tx (p + 1 + 0) ∧ tx (p + 1 + 0) ≤ 57) := fun z => (hdx.resolve_left (by omega)) ⟨hq, hq76, z.1, z.2⟩
          rw [cNo (N - 1 - 0) (p + 1 + 0) _ _ _ (p + 1) _ _ C2 hq hq76 (by omega) rc2 (ft_no rc2 (by omega) (by omega) (by rw [hbn]; omega) hx2 (Or.inr hnd) (fun z => by omega)) (by rw [fl_1 rc2 (by omega) (by omega) (by rw [hbn]; omega), if_neg (fun z => by omega)])]
          exact RO.ret (Or.inr ⟨p + 1, by omega, rfl, e14, rc2.1, fr2⟩)
        · rw [cEnd (N - 1 - 0) (p + 1 + 0) _ _ _ _ _ C2 (by omega) (by omega) (by omega) rc2, ce_1 rc2 (by omega) (by omega) (by rw [hbn]; omega), if_neg (fun z => by omega), Option.bind_some, if_pos rfl, fl_1 rc2 (by omega) (by omega) (by rw [hbn]; omega), if_neg (fun z => by omega), Option.bind_some]
          exact RO.ret (Or.inr ⟨p + 1, by omega, by rw [show p + 1 = t by omega], e14, rc2.1, fr2⟩)
      · rw [if_neg hd0] at e14
        have e14' : rh_up M2 6 (2 * n + 1) (nI (vl tx (p + 1) d)) 0 14 = -1 := e14
        rw [fine1 e14', if_neg (by decide), fault1 e14'] at hone2
        by_cases hv0 : vl tx (p + 1) d = 0
        · -- a BASE of 0
          rw [if_pos (show nI (vl tx (p + 1) d) = 0 by rw [hv0]; rfl), show nI (p + 1 + d) - 1 = nI (p + d) by rw [show nI (p + 1 + d) - 1 = nI (p + 1 + d - 1) from pk_sub (b := 1) (by omega), show p + 1 + d - 1 = p + d by omega]] at hone2
          have fr3 : ∀ o j, o ≠ 6 → (o = 0 → j ≠ 13 ∧ j ≠ 14) → rh_up (rh_up M2 6 (2 * n + 1) (nI (vl tx (p + 1) d))) 0 14 (nI (p + d)) o j = M0 o j := fun o j h6 h0 => by
            rw [up_f, if_neg (fun z => (h0 z.1).2 z.2)]; exact fr2 o j h6 h0
          rw [mNo (p + d) _ (by omega) hone2 rfl fr3]
          have hfl : ∀ p' : Nat, p' = p + 1 + d → f_Fr_faultAt C2 (nI p') = some (nI (p + d)) := fun p' hp' => by
            rw [fl_1 rc2 (by omega) (by omega) (by rw [hbn]; omega), if_pos ⟨by omega, by rw [hbn]; exact hv0⟩, hp', show nI (p + 1 + d) - 1 = nI (p + 1 + d - 1) from pk_sub (b := 1) (by omega), show p + 1 + d - 1 = p + d by omega]
          by_cases hq : p + 1 + d < t
          · have hx2 := (rs.2.2.2.2.2.2.2 _ hq).1
            rw [cNo (N - 1 - d) (p + 1 + d) _ _ _ (p + d) _ _ C2 hq hq76 (by omega) rc2 (ft_no rc2 (by omega) (by omega) (by rw [hbn]; omega) hx2 (by rcases hdx with z | z; exact Or.inl z; exact Or.inr (fun w => z ⟨hq, hq76, w.1, w.2⟩)) (fun z => by have := z.2.2; rw [hbn] at this; omega)) (hfl _ rfl)]
            exact RO.ret (Or.inr ⟨p + d, by omega, rfl, rfl, rc2.1, fr3⟩)
          · rw [cEnd (N - 1 - d) (p + 1 + d) _ _ _ _ _ C2 (by omega) (by omega) (by omega) rc2, ce_1 rc2 (by omega) (by omega) (by rw [hbn]; omega), if_neg (fun z => by have := z.2; rw [hbn] at this; omega), Option.bind_some, if_pos rfl, hfl t (by omega), Option.bind_some]
            exact RO.ret (Or.inr ⟨p + d, by omega, rfl, rfl, rc2.1, fr3⟩)
        · rw [if_neg (nz0 hv0 (by omega))] at hone2
          generalize hM3 : rh_up M2 6 (2 * n + 1) (nI (vl tx (p + 1) d)) = M3 at hone2 fr2 e14'
          have rs3 : RS t 76 tx (p + 1 + d) M3 := by
            rw [← hM3]
            exact (rs1.mv e34 e13 (by omega) e14).u6 _ _ (by omega) (by omega)
          generalize hP' : (if tx p = 112 then P ||| 2 ^ n else P) = P' at rc2
          have hP'lt : P' < 2 ^ (n + 1) := by
            have h2 : 2 ^ (n + 1) = 2 * 2 ^ n := by rw [Nat.pow_succ]; omega
            rw [← hP']
            split
            · exact Nat.or_lt_two_pow (by omega) (by omega)
            · omega
          have hP'b : ∀ j, j < n → P'.testBit j = P.testBit j := fun j hj => by
            rw [← hP']
            split
            · rw [fb_bit_set, show decide (j = n) = false from decide_eq_false (by omega), Bool.or_false]
            · rfl
          have hP'n : P'.testBit n = bit := by
            rw [← hP', ← hbit]
            by_cases z : tx p = 112
            · rw [if_pos z, fb_bit_set, decide_eq_true z]; simp
            · rw [if_neg z, decide_eq_false z, Nat.testBit_lt_two_pow hP]
          have rm3 : RO6 M0 M3 (n + 1) P' b2 := by
            refine ⟨fr2, fun j hj => ?_⟩
            have k6 : ∀ k, k ≠ 2 * n → k ≠ 2 * n + 1 → M3 6 k = M 6 k := fun k h1 h2 => by
              rw [← hM3, up_f, if_neg (by omega), e34 6 k (by omega), up_f, if_neg (by omega), up_f, if_neg (by omega)]
            by_cases z : j = n
            · subst z
              rw [hbn, hP'n]
              refine ⟨?_, by rw [← hM3, rh_up_s]⟩
              rw [← hM3, up_f, if_neg (by omega), e34 6 _ (by omega), up_f, if_neg (by omega), rh_up_s]
            · rw [hbo j z, hP'b j (by omega), k6 _ (by omega) (by omega), k6 _ (by omega) (by omega)]
              exact rm.2 j (by omega)
          have hb3 : ∀ j, j < n + 1 → 1 ≤ b2 j ∧ b2 j ≤ 999 := fun j hj => by
            by_cases z : j = n
            · rw [z, hbn]; omega
            · rw [hbo j z]; exact hb j (by omega)
          have mGo : ∀ (z : Int32) (M4 : HI), f_Mo_passes_r4 M3 59 = some (z, M4) → rh_loop b_Mo_folk_37 N' (nI n, (1 : Int32), M) = rh_loop b_Mo_folk_37 (N' - 1) (nI (n + 1), z, M4) := fun z M4 h1 => by
            refine st_l ?_ (by omega)
            rw [fo_bM, if_neg (by decide), fine1 r14, if_neg (by decide), rm.1 0 1 (by omega) (by omega), hM1, nI_add, if_neg (show ¬ nI (sz + n) = 9 from fun z => by have := (nI_eq (b := 9) (by omega) (by omega)).mp z; omega), hone2, Option.bind_some, h1, Option.bind_some, nI_1]
          have hps := ps4 rs3 (s := 59) (by omega)
          by_cases hsep : p + 1 + d < t ∧ tx (p + 1 + d) = 59
          · rw [if_pos ⟨hsep.1, hq76, hsep.2⟩] at hps
            rw [mGo _ _ hps]
            obtain ⟨C4, h5, h6⟩ := ft_sep rc2 (by omega) (by omega) (by omega) (by rw [hbn]; omega) (by rw [hbn]; omega)
            rw [cYes (N - 1 - d) (p + 1 + d) _ _ _ _ _ C2 C4 hsep.1 hq76 (by omega) rc2 (by rw [hsep.2]; exact h5)]
            refine ih (n + 1) (p + 1 + d + 1) P' _ C4 _ (by omega) (by omega) (by omega) hP'lt hb3 h6 ⟨fun o j h6 h0 => ?_, fun j hj => ?_⟩ (rs3.mv (E34.rf.u13 _) rfl (by omega) e14') _ _ (by omega) (by omega)
            · rw [up_f, if_neg (fun z => (h0 z.1).1 z.2)]; exact fr2 o j h6 h0
            · rw [up_f, if_neg (by omega), up_f, if_neg (by omega)]; exact rm3.2 j hj
          · rw [if_neg (fun z => hsep ⟨z.1, z.2.2⟩)] at hps
            rw [mGo _ _ hps, st_e (r := (nI (n + 1), M3)) (by rw [fo_bM, if_pos rfl]) (by omega)]
            show RO _ (some (nI (n + 1), if M3 0 11 ≤ M3 0 13 then M3 else f_Mo_fault M3 (M3 0 13))) _
            rw [rs3.2.2.2.1, rs3.2.2.2.2.2.1]
            by_cases hq : p + 1 + d < t
            · have hx2 := (rs.2.2.2.2.2.2.2 _ hq).1
              rw [if_neg (nI_ge hq (by omega)), fault1 e14']
              have hdx2 : d = 3 ∨ ¬ (48 ≤ tx (p + 1 + d) ∧ tx (p + 1 + d) ≤ 57) := by
                rcases hdx with z | z
                · exact Or.inl z
                · exact Or.inr (fun w => z ⟨hq, hq76, w.1, w.2⟩)
              rw [cNo (N - 1 - d) (p + 1 + d) _ _ _ (p + 1 + d) _ _ C2 hq hq76 (by omega) rc2 (ft_no rc2 (by omega) (by omega) (by rw [hbn]; omega) hx2 hdx2 (fun z => hsep ⟨hq, z.1⟩)) (by rw [fl_1 rc2 (by omega) (by omega) (by rw [hbn]; omega), if_neg (fun z => by have := z.2; rw [hbn] at this; omega)])]
              refine RO.ret (Or.inr ⟨p + 1 + d, by omega, rfl, rfl, rc2.1, fun o j h6 h0 => ?_⟩)
              show rh_up M3 0 14 _ o j = _
              rw [up_f, if_neg (fun z => (h0 z.1).2 z.2)]; exact fr2 o j h6 h0
            · rw [if_pos (nI_le (by omega) (by omega)), cEnd (N - 1 - d) (p + 1 + d) _ _ _ _ _ C2 (by omega) (by omega) (by omega) rc2, ce_1 rc2 (by omega) (by omega) (by rw [hbn]; omega), if_pos ⟨by omega, by rw [hbn]; omega⟩, Option.bind_some, if_neg (by decide)]
              exact RO.ret (Or.inl ⟨rfl, e14', n + 1, P', _, by omega, by omega, rfl, hP'lt, hb3, rc2.2.2.1, rc2.2.2.2.1, rc2.1, rc2.2.2.2.2.2.2, rm3⟩)
    · -- no kind of folk
      have hcls : (rh_loop (b_Re_readThrough_Fr_19_1_19 (nI t) 76 (nI (min t 76))) N (nI p, C)).bind (foPost (nI t)) = some (-1 - nI p, C) := by
        by_cases hpt2 : p < t
        · have hx2 := (rs.2.2.2.2.2.2.2 _ hpt2).1
          exact cNo N p n P 0 p 0 b C hpt2 (by omega) (by omega) rc (ft_kno rc hR0 (by omega) (by omega) hx2 (Or.inl (fun z => hk ⟨hpt2, z⟩))) (fl_0 rc _)
        · have : p = t := by omega
          subst this
          rw [cEnd N p n P 0 0 b C rfl (by omega) (by omega) rc, ce_0 rc, Option.bind_some, if_pos rfl, fl_0 rc, Option.bind_some]
      rw [hcls]
      have hb112 : ¬ HR t 76 tx p = 112 := fun z => by
        have := (HR_is rs (s := 112) (by omega)).mp z
        exact hk ⟨this.1, Or.inl this.2.2⟩
      have hb116 : ¬ HR t 76 tx p = 116 := fun z => by
        have := (HR_is rs (s := 116) (by omega)).mp z
        exact hk ⟨this.1, Or.inr this.2.2⟩
      have rs6 : ∀ v, RS t 76 tx p (rh_up M 6 (2 * n) v) := fun v => rs.u6 _ v (by omega) (by omega)
      obtain ⟨M', h1, h2, h3⟩ := j46n p (rh_up (rh_up M 6 (2 * n) 0) 0 14 (nI p)) (by omega) rfl (fun o j h6 h0 => by
        rw [up_f, if_neg (fun z => (h0 z.1).2 z.2), up_f, if_neg (by omega)]; exact rm.1 o j h6 h0)
      rw [mNo p M' (by omega) ?_ h2 h3]
      · exact RO.ret (Or.inr ⟨p, by omega, rfl, h2, rc.1, h3⟩)
      · rw [e2n]
        unfold f_Mo_readOne_r4 j_Mo_readOne_r4_19
        rw [he4 rs, Option.bind_some, if_neg hb112, nI_clamp (by omega), rg_t g18, he4 (rs6 _), Option.bind_some, Option.bind_some, if_neg hb112, if_neg hb116, fault1 (show rh_up M 6 (2 * n) 0 0 14 = -1 from r14), r13]
        exact h1
end FOL
