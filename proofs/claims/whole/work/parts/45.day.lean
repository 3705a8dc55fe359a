/-! day, the call -/
section REM11
theorem lay10b {p : Nat} (hp : p ≤ 121) (h : HI) : OK (f_Mo_lay_11_10 h (nI p)) (fun x => (∀ o j, o ≠ 10 → x o j = h o j) ∧ (∀ j, j < p → x 10 j = h 10 j) ∧ ∀ i, i < 11 → x 10 (p + i) = h 11 i) := by
  unfold f_Mo_lay_11_10
  refine OK.bind (OK.loop _ (fun i x => i ≤ 11 ∧ x.1 = nI i ∧ (∀ o j, o ≠ 10 → x.2 o j = h o j) ∧ (∀ j, j < p → x.2 10 j = h 10 j) ∧ ∀ j, j < i → x.2 10 (p + j) = h 11 j) (fun x => (∀ o j, o ≠ 10 → x o j = h o j) ∧ (∀ j, j < p → x 10 j = h 10 j) ∧ ∀ i, i < 11 → x 10 (p + i) = h 11 i) 11 (by omega) ?_ ⟨by omega, rfl, fun _ _ _ => rfl, fun _ _ => rfl, fun j hj => by omega⟩) (fun x hx => OK.ret hx)
  rintro i ⟨x1, g⟩ - ⟨hi, rfl, f, e0, e1⟩
  dsimp only at f e0 e1
  unfold b_Mo_lay_11_10_2
  dsimp only
  refine OK.ite (fun h9 => OK.ret ?_) (fun h9 => ?_)
  · have : i = 11 := by have := ple (b := 11) h9 (by omega) (by omega); omega
    subst this
    exact ⟨f, e0, e1⟩
  have hi2 : i < 11 := nle (b := 11) h9 (by omega) (by omega)
  rw [nI_add, nI_clamp (n := i) (by omega), nI_clamp (n := p + i) (by omega), nI_1]
  refine OK.g (gd_nI (by omega) (by omega)) (OK.g (gd_nI (by omega) (by omega)) (OK.ret ⟨hi2, hi2, rfl, fun o j ho => ?_, fun j hj => ?_, fun j hj => ?_⟩))
  · show rh_up g 10 _ _ o j = _; rw [up_f, if_neg (by omega)]; exact f o j ho
  · show rh_up g 10 _ _ 10 j = _; rw [up_f, if_neg (by omega)]; exact e0 j hj
  · show rh_up g 10 (p + i) _ 10 (p + j) = _
    rw [up_f]
    by_cases e : j = i
    · subst e; rw [if_pos ⟨rfl, rfl⟩]; exact f 11 j (by omega)
    · rw [if_neg (by omega)]; exact e1 j (by omega)
theorem shift10b (b : (Int32 × HI) → Option ((Int32 × HI) ⊕ HI)) (hb : b = b_Mo_remember_11_11) (h : HI) : OK (rh_loop b rh_N ((0 : Int32), h)) (fun x => (∀ o j, o ≠ 10 → x o j = h o j) ∧ ∀ j, j < 121 → x 10 j = h 10 (j + 11)) := by
  subst hb
  refine OK.loop _ (fun i x => i ≤ 121 ∧ x.1 = nI i ∧ (∀ o j, o ≠ 10 → x.2 o j = h o j) ∧ (∀ j, j < i → x.2 10 j = h 10 (j + 11)) ∧ ∀ j, i ≤ j → x.2 10 j = h 10 j) _ 121 (by omega) ?_ ⟨by omega, rfl, fun _ _ _ => rfl, fun j hj => by omega, fun _ _ => rfl⟩
  rintro i ⟨x1, g⟩ - ⟨hi, rfl, f, e0, e1⟩
  dsimp only at f e0 e1
  unfold b_Mo_remember_11_11
  dsimp only
  refine OK.ite (fun h9 => OK.ret ?_) (fun h9 => ?_)
  · have : i = 121 := by have := ple (b := 121) h9 (by omega) (by omega); omega
    subst this
    exact ⟨f, e0⟩
  have hi2 : i < 121 := nle (b := 121) h9 (by omega) (by omega)
  rw [show nI i + 11 = nI (i + 11) from nI_add i 11, nI_clamp (n := i) (by omega), nI_clamp (n := i + 11) (by omega), nI_1]
  refine OK.g (gd_nI (by omega) (by omega)) (OK.g (gd_nI (by omega) (by omega)) (OK.ret ⟨hi2, hi2, rfl, fun o j ho => ?_, fun j hj => ?_, fun j hj => ?_⟩))
  · show rh_up g 10 _ _ o j = _; rw [up_f, if_neg (by omega)]; exact f o j ho
  · show rh_up g 10 i _ 10 j = _
    rw [up_f]
    by_cases e : j = i
    · subst e; rw [if_pos ⟨rfl, rfl⟩]; exact e1 _ (by omega)
    · rw [if_neg (by omega)]; exact e0 j (by omega)
  · show rh_up g 10 i _ 10 j = _
    rw [up_f, if_neg (by omega)]; exact e1 j (by omega)
theorem rem_m11 {q0 : Nat} (hq : q0 ≤ 12) {h : HI} (hh : h 0 24 = nI q0) : OK (f_Mo_remember_11 h) (fun x => (∀ o j, o ≠ 10 → (o = 0 → j ≠ 24) → x o j = h o j) ∧ x 0 24 = nI (q0 - q0 / 12 + 1) ∧ PU q0 (h 10) (h 11) (x 10)) := by
  unfold f_Mo_remember_11
  rw [hh]
  by_cases h12 : q0 = 12
  · subst h12
    rw [if_pos (show nI 12 = 12 from rfl)]
    refine OK.bind (shift10b _ rfl h) ?_
    rintro x ⟨f, e⟩
    have e24 : x 0 24 = nI 12 := (f 0 24 (by omega)).trans hh
    rw [e24, show nI 12 - 1 = nI 11 from pk_sub (a := 12) (b := 1) (by omega), show (11 : Int32) * nI 11 = nI 121 from pk_mul 11 11]
    refine OK.bind (lay10b (by omega) (rh_up x 0 24 (nI 11))) ?_
    rintro y ⟨f2, e2, e3⟩
    have e25 : y 0 24 = nI 11 := f2 0 24 (by omega)
    rw [e25]
    refine OK.ret ⟨fun o j ho hj => ?_, rfl, fun j hj => ?_, fun i hi => ?_⟩
    · rw [up_f, if_neg (by omega), f2 o j ho, up_f, if_neg (by omega), f o j ho]
    · show y 10 j = _
      rw [e2 j (by omega)]
      show x 10 j = _
      exact e j (by omega)
    · show y 10 (121 + i) = _
      rw [e3 i hi]
      show x 11 i = _
      exact f 11 i (by omega)
  · rw [if_neg (show ¬ nI q0 = (12 : Int32) from fun z => h12 ((nI_eq (b := 12) (by omega) (by omega)).mp z)), show (11 : Int32) * nI q0 = nI (11 * q0) from pk_mul 11 q0]
    refine OK.bind (lay10b (by omega) h) ?_
    rintro y ⟨f2, e2, e3⟩
    have e25 : y 0 24 = nI q0 := (f2 0 24 (by omega)).trans hh
    rw [e25, nI_1]
    have hd : q0 / 12 = 0 := by omega
    unfold PU
    rw [hd]
    refine OK.ret ⟨fun o j ho hj => ?_, rfl, fun j hj => ?_, fun i hi => ?_⟩
    · rw [up_f, if_neg (by omega), f2 o j ho]
    · show y 10 j = _
      rw [e2 j (by omega)]; rfl
    · show y 10 (11 * q0 + i) = _
      exact e3 i hi
end REM11
theorem lay11 (h : HI) : OK (f_Mo_lay_1_11 h 0) (fun x => (∀ o j, o ≠ 11 → x o j = h o j) ∧ ∀ i, i < 11 → x 11 i = h 1 i) := by
  unfold f_Mo_lay_1_11
  refine OK.bind (OK.loop _ (fun i x => i ≤ 11 ∧ x.1 = nI i ∧ (∀ o j, o ≠ 11 → x.2 o j = h o j) ∧ ∀ j, j < i → x.2 11 j = h 1 j) (fun x => (∀ o j, o ≠ 11 → x o j = h o j) ∧ ∀ i, i < 11 → x 11 i = h 1 i) 11 (by omega) ?_ ⟨by omega, rfl, fun _ _ _ => rfl, fun j hj => by omega⟩) (fun x hx => OK.ret hx)
  rintro i ⟨x1, g⟩ - ⟨hi, rfl, f, e1⟩
  dsimp only at f e1
  unfold b_Mo_lay_1_11_2
  dsimp only
  refine OK.ite (fun h9 => OK.ret ?_) (fun h9 => ?_)
  · have : i = 11 := by have := ple (b := 11) h9 (by omega) (by omega); omega
    subst this
    exact ⟨f, e1⟩
  have hi2 : i < 11 := nle (b := 11) h9 (by omega) (by omega)
  rw [show (0 : Int32) + nI i = nI i from (nI_add 0 i).trans (by rw [Nat.zero_add]), nI_clamp (n := i) (by omega), nI_1]
  refine OK.g (gd_nI (by omega) (by omega)) (OK.g (gd_nI (by omega) (by omega)) (OK.ret ⟨hi2, hi2, rfl, fun o j ho => ?_, fun j hj => ?_⟩))
  · show rh_up g 11 _ _ o j = _; rw [up_f, if_neg (by omega)]; exact f o j ho
  · show rh_up g 11 i _ 11 j = _
    rw [up_f]
    by_cases e : j = i
    · subst e; rw [if_pos ⟨rfl, rfl⟩]; exact f 1 j (by omega)
    · rw [if_neg (by omega)]; exact e1 j (by omega)
def dFin : (Int32 × HI) → Option (Int32 × HI) := fun r => some (r.1, if (r.2 0 11) ≤ (r.2 0 13) then r.2 else f_Mo_fault r.2 (r.2 0 13))
def dQ (C0 M0 : HI) (x y : Int32 × HI) : Prop := (x.1 = 0 ∧ y.2 0 14 = -1 ∧ ∃ n, n ≤ 20 ∧ y.1 = nI n ∧ x.2 21 3 = nI n ∧ FD C0 x.2 ∧ FM M0 y.2 ∧ ∀ j, j < n → AC x.2 y.2 j) ∨ (∃ w, w < 200 ∧ x.1 = -1 - nI w ∧ y.2 0 14 = nI w ∧ FD C0 x.2 ∧ FM M0 y.2)
theorem da_bM (x y : Int32) (M : HI) : b_Mo_day_39 (x, y, M) = if y = 0 then some (.inr (x, M)) else if f_Mo_fine M = 0 then some (.inr (x, M)) else (f_Mo_readAct_r4 M ((3 : Int32) * x)).bind (fun x5 => (f_Mo_passes_r4 x5 (59 : Int32)).bind (fun x6 => some (.inl (x + (1 : Int32), x6.1, x6.2)))) := rfl
theorem da_ind {C0 M0 : HI} {t : Nat} {tx : Nat → Nat} (hC1 : ∀ i, i < t → C0 1 i = nI (tx i)) (ht : t ≤ 80) (hB : ∀ i, i < t → (M0 4 i).toInt8.toInt32 = M0 4 i) : ∀ (r n p : Nat) (C M : HI), 62 ≤ r + p → 3 * n ≤ p → p ≤ min t 60 → FD C0 C → C 21 4 = 0 → C 21 3 = nI n → FM M0 M → RS t 60 tx p M → (∀ j, j < n → AC C M j) → ∀ N N', 100 ≤ N + p → 40 ≤ N' + n → RO ((rh_loop (b_Re_readThrough_Dr_21_1_19 (nI t) 60 (nI (min t 60))) N (nI p, C)).bind (dPost (nI t))) ((rh_loop b_Mo_day_39 N' (nI n, (1 : Int32), M)).bind dFin) (dQ C0 M0) := by
  intro r
  induction r with
  | zero => intro n p C M hr hn hp; omega
  | succ r ih =>
    intro n p C M hr hn hp fC s0 n0 fM rs ac N N' hN hN'
    have r14 := rs.2.2.2.2.2.2.1
    have e3 : (3 : Int32) * nI n = nI (3 * n) := pk_mul 3 n
    rcases da_act hC1 ht hB hn hp fC s0 n0 fM rs with ⟨w, M', C', hw, h1, h2, h3, h4, h5⟩ | ⟨q, M', C', s, d, hq1, hq5, hq2, h1, h3, rs', h4, n1, s1, d1, hs5, hd, hsd, hrej, hac, hCo, hMo, hgo⟩
    · rw [h5 N (by omega), st_l (s' := (nI (n + 1), 0, M')) ?_ (by omega), st_e (r := (nI (n + 1), M')) (by rw [da_bM, if_pos rfl]) (by omega)]
      · have hF : dFin (nI (n + 1), M') = some (nI (n + 1), M') := by
          unfold dFin
          dsimp only
          split
          · rfl
          · rw [fault0 (w := w) (by omega) h2]
        show RO _ (dFin (nI (n + 1), M')) _
        rw [hF]
        exact RO.ret (Or.inr ⟨w, hw, rfl, h2, h4, h3⟩)
      · rw [da_bM, if_neg (by decide), fine1 r14, if_neg (by decide), e3, h1, Option.bind_some, ps4n (w := w) (by omega) h2, Option.bind_some, nI_1]
    · rw [hgo N (by omega)]
      have mGo : ∀ (z : Int32) (M4 : HI), f_Mo_passes_r4 M' 59 = some (z, M4) → rh_loop b_Mo_day_39 N' (nI n, (1 : Int32), M) = rh_loop b_Mo_day_39 (N' - 1) (nI (n + 1), z, M4) := fun z M4 hz => by
        refine st_l ?_ (by omega)
        rw [da_bM, if_neg (by decide), fine1 r14, if_neg (by decide), e3, h1, Option.bind_some, hz, Option.bind_some, nI_1]
      have hps := ps4 rs' (s := 59) (by omega)
      have acs : ∀ j, j < n + 1 → AC C' M' j := fun j hj => by
        rcases (show j < n ∨ j = n by omega) with z | z
        · exact (ac j z).fr z hCo hMo
        · subst z; exact hac
      have r14' := rs'.2.2.2.2.2.2.1
      have hce : ¬ f_Dr_canEnd C' = 0 := by rw [ce_s hs5 hd s1 d1, if_pos hsd]; decide
      by_cases hsep : q < t ∧ q < 60 ∧ tx q = 59
      · rw [if_pos hsep] at hps
        rw [mGo _ _ hps, da_go hC1 ht h4 (by omega) (by rw [hsep.2.2]; exact de_1 hs5 hd s1 d1 hsd) (by omega)]
        refine ih (n + 1) (q + 1) _ _ (by omega) (by omega) (by omega) (h4.u 21 4 _ (by omega)) rfl n1 (h3.e (E34.rf.u13 _)) (rs'.mv (E34.rf.u13 _) rfl (by omega) r14') (fun j hj => ?_) _ _ (by omega) (by omega)
        exact (acs j hj).fr hj (fun _ _ => ⟨rfl, rfl, rfl⟩) (fun i _ => by rw [up_f, if_neg (by omega)])
      · rw [if_neg hsep] at hps
        rw [mGo _ _ hps, st_e (r := (nI (n + 1), M')) (by rw [da_bM, if_pos rfl]) (by omega)]
        show RO _ (some (nI (n + 1), if M' 0 11 ≤ M' 0 13 then M' else f_Mo_fault M' (M' 0 13))) _
        rw [rs'.2.2.2.1, rs'.2.2.2.2.2.1]
        by_cases hqt : q < t
        · rw [if_neg (nI_ge hqt (by omega)), fault1 r14', da_stop hC1 ht h4 hq2 (fun hqe => hrej hqe (fun z => hsep ⟨hqt, by omega, z⟩)) (Or.inr hqt) (by omega)]
          exact RO.ret (Or.inr ⟨q, by omega, rfl, rfl, h4, h3.e (E34.rf.u14 _)⟩)
        · rw [if_pos (nI_le (by omega) (by omega)), da_fin (by omega) (by omega) hce (by omega)]
          exact RO.ret (Or.inl ⟨rfl, r14', n + 1, by omega, rfl, n1, h4, h3, acs⟩)
def KC (c c' : HI) : Prop := ∀ o j, o ≠ 8 → o ≠ 14 → (o = 13 → j ≠ 1 ∧ j ≠ 2) → c' o j = c o j
def KM (m m' : HI) : Prop := ∀ o j, sM o j = false → o ≠ 1 → o ≠ 12 → m' o j = m o j
section DCALL
variable {k n Pm : Nat} {B : Nat → Nat} {V : Nat → Nat → Nat → Nat} {T a q : Nat} {c m : HI}
theorem RLa.mv {T' a' : Nat} {c' m' : HI} (A : RLa k n Pm B V T a q c m) (hT : T' ≤ 2400 * k) (ha : a' < 2 ^ n) (x : KC c c') (y : KM m m') (c1 : c' 13 1 = nI T') (m1 : m' 1 10 = nI T') (c2 : c' 13 2 = nI a') (m2 : m' 1 9 = nI a') (P : ∀ i, i < 9 → c' 14 i = m' 1 i ∧ -4 ≤ (c' 14 i).toInt ∧ (c' 14 i).toInt ≤ 4 ∧ (n ≤ i → c' 14 i = 0)) : RLa k n Pm B V T' a' q c' m' := by
  obtain ⟨q0, g1, g2, g3, g4⟩ := A.1.2.2.2.2.2.2.1
  have g2 : c 13 6 = nI q0 := g2
  have g3 : m 0 24 = nI q0 := g3
  have g4 : ∀ j, j < q0 → SN k n (c 16 (11 * j)) (c 16 (11 * j + 1)) (fun i => c 16 (11 * j + 2 + i)) (fun i => m 10 (11 * j + i)) := g4
  refine A.deck (Nat.le_refl k) A.k6 (fun o j h8 h13 h14 h15 h16 => x o j h8 h14 (fun z => absurd z h13)) (fun o j hs h1 h10 h11 h12 h24 => y o j hs h1 h12) hT ha c1 m1 c2 m2 P ⟨q0, g1, (x 13 6 (by omega) (by omega) (by omega)).trans g2, (y 0 24 rfl (by omega) (by omega)).trans g3, fun j hj => ?_⟩
  rw [show c' 16 = c 16 from funext (fun u => x 16 u (by omega) (by omega) (by omega)), show m' 10 = m 10 from funext (fun u => y 10 u rfl (by omega) (by omega))]
  exact g4 j hj
theorem at_dt (A : RLa k n Pm B V T a q c m) {c2 m2 : HI} {a' : Nat} {P' : Nat → Int32} (h : ATok n T c m c2 m2 a' P') : OK (f_Mo_doTried m2) (fun y => RLa k n Pm B V T a' q c2 y ∧ KC c c2 ∧ KM m y) := by
  obtain ⟨ha', hP, f1, e1, e2, f2, e3, e4, e5⟩ := h
  refine (dt_m m2).mono (fun y hy => ?_)
  obtain ⟨w1, w2⟩ := hy
  have kc : KC c c2 := fun o j h8 h14 h13 => f1 o j h8 (fun z => (h13 z).2) h14
  have km : KM m y := fun o j hs h1 h12 => (w1 o j h1).trans (f2 o j hs h12)
  refine ⟨A.mv A.Tk ha' kc km ?_ ((w2 10 (by omega)).trans e5) e1 ((w2 9 (by omega)).trans e4) (fun i hi => ?_), kc, km⟩
  · exact (f1 13 1 (by omega) (by omega) (by omega)).trans A.ct
  · rw [e2 i hi, w2 i (by omega), e3 i hi]; exact ⟨rfl, hP i hi⟩
theorem act_1 (A : RLa k n Pm B V T a q c m) (rd : Option Nat) {j : Nat} (hj : j < 24) (hT : T + 99 ≤ 2400 * k) (ac : AC c m j) : RO (f_La_act c (nI j)) (f_Mo_act m rd (nI (3 * j))) (fun x y => x.1 = y.1 ∧ ∃ T' a', T' ≤ T + 99 ∧ RLa k n Pm B V T' a' q x.2 y.2.1 ∧ KC c x.2 ∧ KM m y.2.1) := by
  have g := gd_nI (i := j) (N := 24) hj (by omega)
  have g0 := gd_nI (i := 3 * j) (N := 240) (by omega) (by omega)
  have g1 := gd_nI (i := 3 * j + 1) (N := 240) (by omega) (by omega)
  have g2 := gd_nI (i := 3 * j + 2) (N := 240) (by omega) (by omega)
  have no : ∀ {c' m' : HI} (rd' : Option Nat), ATno c m c' m' → RO (some ((0 : Int32), c')) (some ((0 : Int32), m', rd')) (fun x y => x.1 = y.1 ∧ ∃ T' a', T' ≤ T + 99 ∧ RLa k n Pm B V T' a' q x.2 y.2.1 ∧ KC c x.2 ∧ KM m y.2.1) := fun rd' h => RO.ret ⟨rfl, T, a, by omega, A.fr h.1.x h.xm, fun o i h8 _ _ => h.1 o i h8, fun o i hs _ h12 => h.2 o i hs h12⟩
  unfold f_La_act f_Mo_act
  rw [nI_clamp (n := j) (by omega), show nI (3 * j) + 1 = nI (3 * j + 1) from nI_1 _, show nI (3 * j) + 2 = nI (3 * j + 2) from nI_add _ 2, nI_clamp (n := 3 * j) (by omega), nI_clamp (n := 3 * j + 1) (by omega), nI_clamp (n := 3 * j + 2) (by omega), ← ac.1]
  refine RO.gl g (RO.gl g (RO.gl g (RO.gr g1 (RO.gr g0 ?_))))
  rcases ac.2 with ⟨h1, v, hv, h2, h3⟩ | ⟨h1, h2, h3⟩ | ⟨h1, h2⟩ | ⟨h1, h2, h3⟩
  · simp only [h1]
    rw [if_neg (show ¬ (98 : Int) = (114 : Int32).toInt by decide), if_neg (show ¬ (111 : Int) = (114 : Int32).toInt by decide), if_pos (show (114 : Int) = (114 : Int32).toInt by decide), if_pos trivial, h2, h3, A.ct, A.mt', nI_add]
    have kc : KC c (rh_up c 13 1 (nI (T + v))) := fun o i h8 h14 h13 => by rw [up_f, if_neg (fun z => (h13 z.1).1 z.2)]
    have km : KM m (rh_up m 1 (10 : Int32).toNatClampNeg (nI (T + v))) := fun o i hs h1 h12 => by rw [up_f, if_neg (fun z => h1 z.1)]
    refine RO.ret ⟨rfl, T + v, a, by omega, A.mv (by omega) A.an kc km rfl rfl A.ca A.ma (fun i hi => ?_), kc, km⟩
    show c 14 i = rh_up m 1 10 (nI (T + v)) 1 i ∧ _
    rw [up_f, if_neg (by omega)]
    exact A.pl i hi
  · simp only [h1]
    rw [if_pos (show (98 : Int) = (98 : Int32).toInt by decide), if_neg (show ¬ (98 : Int32) = 114 by decide), rg_t g0, if_pos trivial, h2, h3]
    refine RO.gr g2 (RO.bind (tb A rd _ _) ?_)
    rintro ⟨x1, c2⟩ ⟨y1, m2, rd2⟩ ⟨e, H⟩
    dsimp only at e H ⊢
    rcases H with ⟨e0, a', P', hat⟩ | ⟨n0, n1, hno⟩
    · rw [if_pos e0, if_pos (show 0 ≤ y1 by rw [← e, e0]; decide)]
      exact RO.br (at_dt A hat) (fun y hy => RO.ret ⟨rfl, T, a', by omega, hy.1, hy.2⟩)
    · rw [if_neg n0, if_neg n1]
      exact no rd2 hno
  · simp only [h1]
    rw [if_neg (show ¬ (98 : Int) = (111 : Int32).toInt by decide), if_pos (show (111 : Int) = (111 : Int32).toInt by decide), if_neg (show ¬ (111 : Int32) = 114 by decide), rg_t g0, if_neg (show ¬ (111 : Int32) = 98 by decide), rg_t g0, if_pos trivial, h2]
    refine RO.bind (toff A rd _) ?_
    rintro ⟨x1, c2⟩ ⟨y1, m2, rd2⟩ ⟨e, H⟩
    dsimp only at e H ⊢
    rcases H with ⟨e0, a', P', hat⟩ | ⟨n0, n1, hno⟩
    · rw [if_pos e0, if_pos (show 0 ≤ y1 by rw [← e, e0]; decide)]
      exact RO.br (at_dt A hat) (fun y hy => RO.ret ⟨rfl, T, a', by omega, hy.1, hy.2⟩)
    · rw [if_neg n0, if_neg n1]
      exact no rd2 hno
  · simp only [h1]
    rw [if_neg (show ¬ (98 : Int) = (115 : Int32).toInt by decide), if_neg (show ¬ (111 : Int) = (115 : Int32).toInt by decide), if_neg (show ¬ (114 : Int) = (115 : Int32).toInt by decide), if_neg (show ¬ (115 : Int32) = 114 by decide), rg_t g0, if_neg (show ¬ (115 : Int32) = 98 by decide), rg_t g0, if_neg (show ¬ (115 : Int32) = 111 by decide), h2, h3]
    refine RO.gr g2 (RO.bind (ts A rd _ _) ?_)
    rintro ⟨x1, c2⟩ ⟨y1, m2, rd2⟩ H
    dsimp only at H ⊢
    rcases H with ⟨rfl, i, a', P', hi, -, hat, e1, e2⟩ | ⟨hh, hno⟩
    · rw [if_neg e2, if_pos (show (0 : Int32) ≤ 0 by decide)]
      exact RO.br (at_dt A hat) (fun y hy => RO.ret ⟨rfl, T, a', by omega, hy.1, hy.2⟩)
    · rcases hh with ⟨rfl, rfl⟩ | ⟨rfl, rfl⟩
      · rw [if_pos (by decide), if_neg (by decide)]; exact no rd2 hno
      · rw [if_pos (by decide), if_neg (by decide)]; exact no rd2 hno
end DCALL
