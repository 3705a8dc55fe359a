/-! day, the call: the acts are done -/
/-- the text is emptied; nothing else that lasts has changed -/
theorem RLt.text0 {k n Pm : Nat} {B : Nat → Nat} {V : Nat → Nat → Nat → Nat} {c m c' m' : HI} (h : RLt k n Pm B V c m) (x : ∀ o j, pC o j = true → (o = 0 → j ≠ 1) → c' o j = c o j) (x0 : c' 0 1 = 0) (y : ∀ o j, pM o j = true → (o = 0 → j ≠ 6) → m' o j = m o j) (y0 : m' 0 6 = 0) (g1 : c' 2 1 = c 2 1) (g2 : ∀ i, c' 3 i = c 3 i) (g3 : m' 0 8 = m 0 8) (g4 : ∀ i, m' 5 i = m 5 i) : RLt k n Pm B V c' m' := by
  refine ⟨?_, h.2.kept g1 g2 g3 g4⟩
  have h2 := h.1
  rw [← rC_eq (SC.mx (S := fun o j => o == 0 && j == 1) (c := c) (c' := c') (fun o j hp hS => by simp only [Bool.and_eq_false_iff, beq_eq_false_iff_ne] at hS; exact x o j hp (fun z => by omega))), ← rM_eq (SM.mx (S := fun o j => o == 0 && j == 6) (c := m) (c' := m') (fun o j hp hS => by simp only [Bool.and_eq_false_iff, beq_eq_false_iff_ne] at hS; exact y o j hp (fun z => by omega)))] at h2
  obtain ⟨a1, a2, a3, a4, a5, a6, a7, a8, a9⟩ := h2
  exact ⟨⟨0, by omega, x0, y0, fun i hi => by omega⟩, a2, a3, a4, a5, a6, a7, a8, a9⟩
section DAY2
variable {k n Pm : Nat} {B : Nat → Nat} {V : Nat → Nat → Nat → Nat} {T a q : Nat} {c m : HI}
theorem MK.y {c x : HI} (h : MK c x) : XC c x := h.x
/-- the ROW of two, behind a day -/
theorem da_tell (A : RLa k n Pm B V T a q c m) (rd : Option Nat) (N i : Int32) (h21 : c 21 3 = N) : RO (j_La_day_87 c i) (j_Mo_day_150 m rd N i) (fun x y => x.1 = y.1 ∧ RLt k n Pm B V x.2 y.2.1) := by
  unfold j_La_day_87 j_Mo_day_150
  rw [show (f_Ro_begin c) 21 3 = N from h21]
  have A0 := A.beg
  have fin : ∀ v : Int32, RO (j_La_day_114 (f_Ro_begin c) i v) (j_Mo_day_166 (rh_up m 0 8 0) rd i v) (fun x y => x.1 = y.1 ∧ RLt k n Pm B V x.2 y.2.1) := by
    intro v
    unfold j_La_day_114 j_Mo_day_166
    refine RO.bind (A0.add (by omega) v) (fun c1 m1 A1 => ?_)
    rw [A1.ma', A1.mt']
    refine RO.bind (A1.load rd) ?_
    rintro ⟨x1, c2⟩ ⟨y1, m2, rd2⟩ ⟨e, A2⟩
    dsimp only at e A2 ⊢
    subst e
    exact RO.bind (A2.add (by omega) _) (fun c3 m3 A3 => RO.ret ⟨rfl, A3.t0⟩)
  exact RO.ii Iff.rfl (fun _ => fin 0) (fun _ => fin 1)
theorem da_do (A : RLa k n Pm B V T a q c m) (hk : k ≤ 599) {N : Nat} (hN : N ≤ 20) (h21 : c 21 3 = nI N) (ac : ∀ j, j < N → AC c m j) : RO (j_La_day_35 c 0) ((f_Mo_lay_1_11 m (0 : Int32)).bind (fun x10 => (rh_loop (b_Mo_day_117 (nI N)) rh_N ((0 : Int32), x10, (some 4))).bind (fun r15 => j_Mo_day_138 r15.2.1 r15.2.2 (nI N) r15.1))) (fun x y => x.1 = y.1 ∧ RLt (k + 1) n Pm B V x.2 y.2.1) := by
  have hTk := A.Tk
  have A1 : RLa (k + 1) n Pm B V T a q c m := ⟨A.1.mono (Nat.le_succ k), by omega, by omega, A.2.2.2⟩
  unfold j_La_day_35
  rw [if_pos rfl]
  refine RO.bl (mk_c c) (fun c1 hm => ?_)
  refine RO.br (lay11 m) ?_
  rintro m1 ⟨f1, e1⟩
  have xm1 : XM m m1 := fun o j hq => f1 o j (fun z => by subst z; rcases hq with q | q | q; exact absurd (show false = true from q) (by decide); omega; omega)
  have A2 : RLa (k + 1) n Pm B V T a q c1 m1 := A1.fr hm.x xm1
  have hs : SN (k + 1) n (c1 15 0) (c1 15 1) (fun i => c1 15 (2 + i)) (m1 11) := by
    refine ⟨⟨T, by omega, hm.2.1.trans A.ct, (e1 10 (by omega)).trans A.mt⟩, ⟨a, A.an, hm.2.2.1.trans A.ca, (e1 9 (by omega)).trans A.ma⟩, fun i hi => ?_⟩
    dsimp only
    rw [hm.2.2.2 i hi, e1 i (by omega)]
    exact A.pl i hi
  refine RO.bind (P := fun x y => ∃ i T' a', i ≤ N ∧ x.1 = nI i ∧ y.1 = nI i ∧ RLa (k + 1) n Pm B V T' a' q x.2 y.2.1 ∧ KC c1 x.2 ∧ KM m1 y.2.1) (RO.loop _ _ (fun i x y => i ≤ N ∧ x.1 = nI i ∧ y.1 = nI i ∧ ∃ T' a', T' ≤ T + 99 * i ∧ RLa (k + 1) n Pm B V T' a' q x.2 y.2.1 ∧ KC c1 x.2 ∧ KM m1 y.2.1) _ N (by omega) ?_ ⟨by omega, rfl, rfl, T, a, by omega, A2, fun _ _ _ _ _ => rfl, fun _ _ _ _ _ => rfl⟩) ?_
  · rintro i ⟨x1, x⟩ ⟨y1, y, rd⟩ - ⟨hi, rfl, rfl, T', a', hT', A', kc, km⟩
    dsimp only at A' kc km
    have x213 : x 21 3 = nI N := (kc 21 3 (by omega) (by omega) (by omega)).trans ((hm.1 21 3 (by omega)).trans h21)
    unfold b_La_day_51 b_Mo_day_117
    dsimp only
    simp only [x213]
    refine RO.ii Iff.rfl (fun h9 => RO.ret ⟨i, T', a', hi, rfl, rfl, A', kc, km⟩) (fun h9 => ?_)
    have hi2 : i < N := nle h9 (by omega) (by omega)
    rw [show (3 : Int32) * nI i = nI (3 * i) from pk_mul 3 i]
    have acx : AC x y i := (ac i hi2).fr hi2 (fun j _ => ⟨(kc 22 j (by omega) (by omega) (by omega)).trans (hm.1 22 j (by omega)), (kc 23 j (by omega) (by omega) (by omega)).trans (hm.1 23 j (by omega)), (kc 24 j (by omega) (by omega) (by omega)).trans (hm.1 24 j (by omega))⟩) (fun j _ => (km 13 j rfl (by omega) (by omega)).trans (f1 13 j (by omega)))
    refine RO.bind (act_1 A' rd (by omega) (by omega) acx) ?_
    rintro ⟨u1, u⟩ ⟨w1, w, rd'⟩ ⟨e, T2, a2, hT2, A2, kc2, km2⟩
    dsimp only at e A2 kc2 km2 ⊢
    subst e
    have kc' : KC c1 u := fun o j h1 h2 h3 => (kc2 o j h1 h2 h3).trans (kc o j h1 h2 h3)
    have km' : KM m1 w := fun o j h1 h2 h3 => (km2 o j h1 h2 h3).trans (km o j h1 h2 h3)
    refine RO.ii Iff.rfl (fun _ => RO.ret ⟨i, T2, a2, by omega, rfl, rfl, A2, kc', km'⟩) (fun _ => RO.ret ⟨hi2, hi2, nI_1 i, nI_1 i, T2, a2, by omega, A2, kc', km'⟩)
  · rintro ⟨x1, x⟩ ⟨y1, y, rd⟩ ⟨i, T', a', hi, h1, h2, A', kc, km⟩
    dsimp only at h1 h2 A' kc km ⊢
    subst h1 h2
    have x213 : x 21 3 = nI N := (kc 21 3 (by omega) (by omega) (by omega)).trans ((hm.1 21 3 (by omega)).trans h21)
    unfold j_La_day_76 j_Mo_day_138
    refine RO.ii Iff.rfl (fun _ => da_tell A' rd (nI N) (nI i) x213) (fun _ => ?_)
    obtain ⟨q0, g1, g2, g3, g4⟩ := A'.1.2.2.2.2.2.2.1
    have g2 : x 13 6 = nI q0 := g2
    have g3 : y 0 24 = nI q0 := g3
    have g4 : ∀ j, j < q0 → SN (k + 1) n (x 16 (11 * j)) (x 16 (11 * j + 1)) (fun i => x 16 (11 * j + 2 + i)) (fun i => y 10 (11 * j + i)) := g4
    refine RO.bl (rem_c (c := x) g1 g2) ?_
    rintro x' ⟨x1, x2, x3⟩
    refine RO.br (rem_m11 (h := y) g1 g3) ?_
    rintro y' ⟨z1, z2, z3⟩
    have A3 : RLa (k + 1) n Pm B V T' a' q x' y' := by
      refine A'.deck (Nat.le_refl _) A'.k6 (fun o j h8 h13 h14 h15 h16 => x1 o j h16 (fun z => absurd z h13)) (fun o j hs h1 h10 h11 h12 h24 => z1 o j h10 h24) A'.Tk A'.an ((x1 13 1 (by omega) (by omega)).trans A'.ct) ((z1 1 10 (by omega) (by omega)).trans A'.mt) ((x1 13 2 (by omega) (by omega)).trans A'.ca) ((z1 1 9 (by omega) (by omega)).trans A'.ma) (fun i hi => ?_) ?_
      · rw [x1 14 i (by omega) (by omega), z1 1 i (by omega) (by omega)]
        exact A'.pl i hi
      · refine RPast.push (k := k + 1) (n := n) (c := x) (m := y) (s := x 15) (t := y 11) g1 g4 (Nat.le_refl _) ?_ x2 z2 x3 z3
        rw [show x 15 = c1 15 from funext (fun u => kc 15 u (by omega) (by omega) (by omega)), show y 11 = m1 11 from funext (fun u => km 11 u rfl (by omega) (by omega))]
        exact hs
    exact da_tell A3 rd (nI N) (nI i) ((x1 21 3 (by omega) (by omega)).trans x213)
theorem op_day (h : RLt k n Pm B V c m) (hk : k ≤ 599) (rd : Option Nat) : RO (f_La_day c) (f_Mo_day m rd) (fun x y => x.1 = y.1 ∧ RLt (k + 1) n Pm B V x.2 y.2.1) := by
  obtain ⟨T, a, q, A⟩ := h.la (by omega)
  obtain ⟨t, tx, ht, t1, t2, t3⟩ := A.txt
  have t2 : m 0 6 = nI t := t2
  generalize hC0 : rh_up (rh_up c 0 1 (0 : Int32)) 21 3 (0 : Int32) = C0
  generalize hM0 : rh_up (f_Mo_begin_4 (rh_up m 0 9 (0 : Int32)) (nI t) (60 : Int32)) 0 6 (0 : Int32) = M0
  have C0f : ∀ o j, o ≠ 21 → (o = 0 → j ≠ 1) → C0 o j = c o j := fun o j h21 h01 => by
    rw [← hC0, up_f, if_neg (by omega), up_f, if_neg (fun z => h01 z.1 z.2)]
  have M0f : ∀ o j, (o = 0 → j ≠ 6 ∧ j ≠ 9 ∧ j ≠ 11 ∧ j ≠ 12 ∧ j ≠ 13 ∧ j ≠ 14) → M0 o j = m o j := fun o j hh => by
    rw [← hM0]
    unfold f_Mo_begin_4
    simp only [up_f]
    rw [if_neg (by omega), if_neg (by omega), if_neg (by omega), if_neg (by omega), if_neg (by omega), if_neg (by omega)]
  have rs0 : RS t 60 tx 0 M0 := by
    refine ⟨ht, by omega, by omega, ?_, ?_, ?_, ?_, fun i hi => ⟨(t3 i hi).1, ?_⟩⟩
    · rw [← hM0]; rfl
    · rw [← hM0]; rfl
    · rw [← hM0]; rfl
    · rw [← hM0]; rfl
    · rw [M0f 4 i (by omega)]; exact (t3 i hi).2.2.1
  -- behind the reading, the heaps differ in the readers' cells alone
  have frame : ∀ x y : HI, FD C0 x → FM M0 y → RLt k n Pm B V x y := by
    intro x y fx fy
    refine h.text0 (fun o j hp h01 => ?_) ?_ (fun o j hp h06 => ?_) ?_ ?_ (fun i => ?_) ?_ (fun i => ?_)
    · have n21 : o ≠ 21 := fun z => by subst z; exact absurd (show false = true from hp) (by decide)
      rw [fx o j n21 (fun z => by subst z; exact absurd (show false = true from hp) (by decide)) (fun z => by subst z; exact absurd (show false = true from hp) (by decide)) (fun z => by subst z; exact absurd (show false = true from hp) (by decide))]
      exact C0f o j n21 h01
    · rw [fx 0 1 (by omega) (by omega) (by omega) (by omega), ← hC0]; rfl
    · have hh : o = 0 → j ≠ 9 ∧ j ≠ 11 ∧ j ≠ 12 ∧ j ≠ 13 ∧ j ≠ 14 := by
        rintro rfl
        refine ⟨?_, ?_, ?_, ?_, ?_⟩ <;> (rintro rfl; exact absurd hp (by decide))
      refine (fy o j (fun z => by subst z; exact absurd (show false = true from hp) (by decide)) (fun z => by have := hh z; omega)).trans ?_
      exact M0f o j (fun z => by have := hh z; have := h06 z; omega)
    · rw [fy 0 6 (by omega) (by omega), ← hM0]; rfl
    · exact (fx 2 1 (by omega) (by omega) (by omega) (by omega)).trans (C0f 2 1 (by omega) (by omega))
    · exact (fx 3 i (by omega) (by omega) (by omega) (by omega)).trans (C0f 3 i (by omega) (by omega))
    · exact (fy 0 8 (by omega) (by omega)).trans (M0f 0 8 (by omega))
    · exact (fy 5 i (by omega) (by omega)).trans (M0f 5 i (by omega))
  have frameA : ∀ x y : HI, FD C0 x → FM M0 y → ∃ T a q, RLa k n Pm B V T a q x y := by
    intro x y fx fy
    obtain ⟨T, a, q, A'⟩ := (frame x y fx fy).la (by omega)
    have e9 : rh_up y 0 9 0 = y := by
      have y9 : y 0 9 = 0 := by rw [fy 0 9 (by omega) (by omega), ← hM0]; rfl
      funext o j
      rw [up_f]
      by_cases z : o = 0 ∧ j = 9
      · rw [if_pos z, z.1, z.2, y9]
      · rw [if_neg z]
    rw [e9] at A'
    exact ⟨T, a, q, A'⟩
  unfold f_La_day f_Mo_day f_La_takeText
  dsimp only
  simp only [t1, t2]
  rw [hC0, show f_Mo_begin_4 (rh_up m 0 9 0) (nI t) 60 0 11 = nI t from rfl, hM0]
  by_cases h0 : t = 0
  · subst h0
    rw [if_pos (show nI 0 = 0 from rfl), if_pos (show nI 0 ≤ 0 by decide)]
    unfold j_Mo_day_38
    rw [show rh_loop b_Mo_day_39 rh_N ((0 : Int32), (0 : Int32), M0) = some (0, M0) from st_e (by rw [da_bM, if_pos rfl]) (by unfold rh_N; omega), Option.bind_some]
    show RO _ (j_Mo_day_70 M0 0) _
    unfold j_Mo_day_70 j_Mo_day_89
    rw [show M0 0 11 = nI 0 from rs0.2.2.2.1, show M0 0 13 = nI 0 from rs0.2.2.2.2.2.1, if_pos (by decide), fine1 rs0.2.2.2.2.2.2.1, if_neg (by decide)]
    obtain ⟨T', a', q', A'⟩ := frameA C0 M0 (fun _ _ _ _ _ _ => rfl) (fun _ _ _ _ => rfl)
    exact da_do A' (by omega) (N := 0) (by omega) (by rw [← hC0]; rfl) (fun j hj => by omega)
  · rw [if_neg (nz0 h0 (by omega)), if_neg (show ¬ nI t ≤ 0 from nI_ge (b := t) (a := 0) (by omega) (by omega))]
    have hseen : (if (80 : Int32) < (if (60 : Int32) < nI t then (60 : Int32) else nI t) then (80 : Int32) else (if (60 : Int32) < nI t then (60 : Int32) else nI t)) = nI (min t 60) := by
      by_cases z : 60 < t
      · rw [if_pos (show (60 : Int32) < nI t from ltI (x := 60) (by omega) z), if_neg (by decide), show min t 60 = 60 by omega]; rfl
      · rw [if_neg (show ¬ (60 : Int32) < nI t from nltI (x := 60) (by omega) z), if_neg (show ¬ (80 : Int32) < nI t from nltI (x := 80) (by omega) (by omega)), show min t 60 = t by omega]
    have rd1 : f_Re_readThrough_Dr_21_1 C0 (nI t) 60 = (rh_loop (b_Re_readThrough_Dr_21_1_19 (nI t) 60 (nI (min t 60))) rh_N ((0 : Int32), f_Dr_begin C0)).bind (dPost (nI t)) := by
      rw [← hseen]; rfl
    rw [rd1]
    have f0 : FD C0 (f_Dr_begin C0) := fun o j h1 h2 h3 h4 => by
      unfold f_Dr_begin
      rw [up_f, if_neg (by omega), up_f, if_neg (by omega)]
    obtain ⟨x, y, ex, ey, hq⟩ := da_ind (C0 := C0) (M0 := M0) (t := t) (tx := tx) (fun i hi => (C0f 1 i (by omega) (by omega)).trans (t3 i hi).2.1) ht (fun i hi => by rw [M0f 4 i (by omega)]; exact (t3 i hi).2.2.2) 62 0 0 (f_Dr_begin C0) M0 (by omega) (by omega) (by omega) f0 rfl rfl (fun _ _ _ _ => rfl) rs0 (fun j hj => by omega) rh_N rh_N (by unfold rh_N; omega) (by unfold rh_N; omega)
    rw [show (nI 0 : Int32) = 0 from rfl] at ex ey
    rw [ex, Option.bind_some]
    unfold j_Mo_day_38
    obtain ⟨r, er, er2⟩ := rh_bq ey
    rw [er, Option.bind_some]
    have er2 : (r.1, if (r.2 0 11) ≤ (r.2 0 13) then r.2 else f_Mo_fault r.2 (r.2 0 13)) = y := Option.some.inj er2
    have e70 : j_Mo_day_70 r.2 r.1 = j_Mo_day_89 y.2 y.1 := by
      rw [← er2]
      unfold j_Mo_day_70
      by_cases z : (r.2 0 11) ≤ (r.2 0 13)
      · rw [if_pos z, if_pos z]
      · rw [if_neg z, if_neg z]
    rw [e70]
    unfold j_Mo_day_89
    rcases hq with ⟨x0, y14, N, hN, y1, x213, fx, fy, hac⟩ | ⟨w, hw, xw, yw, fx, fy⟩
    · rw [x0, fine1 y14, if_neg (by decide), y1]
      obtain ⟨T', a', q', A'⟩ := frameA x.2 y.2 fx fy
      exact da_do A' hk hN x213 hac
    · have hne : ¬ x.1 = 0 := by
        rw [xw]
        intro z
        have : (-1 - nI w).toInt = -1 - (w : Int) := by
          rw [fb_subI, nI_toInt (by omega)]
          · rfl
          · rw [nI_toInt (by omega), show (-1 : Int32).toInt = -1 from rfl]; omega
          · rw [nI_toInt (by omega), show (-1 : Int32).toInt = -1 from rfl]; omega
        rw [z] at this
        have h0 : (0 : Int32).toInt = 0 := rfl
        omega
      unfold j_La_day_35
      rw [if_neg hne, fine0 (w := w) (by omega) yw, if_pos rfl, yw]
      exact RO.ret ⟨xw, (frame x.2 y.2 fx fy).1.mono (Nat.le_succ k), (frame x.2 y.2 fx fy).2⟩
end DAY2
