/-! folk, the call -/
theorem and255 (x : Int32) : ∃ v, v < 256 ∧ x &&& 255 = nI v := by
  refine ⟨(x &&& 255).toBitVec.toNat, ?_, ?_⟩
  · rw [Int32.toBitVec_and, BitVec.toNat_and]
    exact Nat.and_lt_two_pow (n := 8) _ (by decide)
  · apply Int32.toBitVec_inj.mp
    show _ = BitVec.ofNat 32 _
    rw [BitVec.ofNat_toNat, BitVec.setWidth_eq]
/-- THE TEXT as numbers -/
def TXT (t : Nat) (tx : Nat → Nat) (c m : HI) : Prop := t ≤ 80 ∧ c 0 1 = nI t ∧ m 0 6 = nI t ∧ ∀ i, i < t → tx i < 256 ∧ c 1 i = nI (tx i) ∧ m 4 i &&& 255 = nI (tx i) ∧ (m 4 i).toInt8.toInt32 = m 4 i
section FOLK2
variable {k n Pm : Nat} {B : Nat → Nat} {V : Nat → Nat → Nat → Nat} {T a q : Nat} {c m : HI}
theorem RLa.txt (A : RLa k n Pm B V T a q c m) : ∃ t tx, TXT t tx c m := by
  obtain ⟨t, h1, h2, h3, h4⟩ := A.1.1
  have h4 : ∀ i, i < t → c 1 i = m 4 i &&& 255 ∧ (m 4 i).toInt8.toInt32 = m 4 i := h4
  refine ⟨t, fun i => (m 4 i &&& 255).toInt.toNat, h1, h2, h3, fun i hi => ?_⟩
  obtain ⟨v, hv, e⟩ := and255 (m 4 i)
  have e2 : (m 4 i &&& 255).toInt.toNat = v := by rw [e, nI_toInt (by omega)]; rfl
  dsimp only
  rw [e2, (h4 i hi).1]
  exact ⟨hv, e, e, (h4 i hi).2⟩
/-- more FOLK -/
theorem RQ.more {k' n' Pm' : Nat} {B' : Nat → Nat} {c' m' : HI} (h : RQ k n Pm B V (rC c) (rM m)) (hk : k ≤ k') (hn : n ≤ n') (x : ∀ o j, pC o j = true → o ≠ 4 → o ≠ 5 → (o = 0 → j ≠ 1) → (o = 13 → j ≠ 6) → o ≠ 18 → c' o j = c o j) (y : ∀ o j, pM o j = true → (o = 0 → j ≠ 1 ∧ j ≠ 2 ∧ j ≠ 6 ∧ j ≠ 24 ∧ j ≠ 49) → o ≠ 1 → o ≠ 2 → m' o j = m o j)
    (ht : c' 0 1 = 0 ∧ m' 0 6 = 0) (hf : RFolk n' Pm' B' c' m') (hd : RDeck k' n' c' m') (hp : RPast k' n' c' m') (hkp : RKept k' n' c' m') : RQ k' n' Pm' B' V (rC c') (rM m') := by
  have h2 := h.mono hk
  rw [← rC_eq (SC.mx (S := fun o j => o == 4 || o == 5 || (o == 0 && j == 1) || (o == 13 && j == 6) || o == 18) (c := c) (c' := c') (fun o j hp hS => by
      simp only [Bool.or_eq_false_iff, Bool.and_eq_false_iff, beq_eq_false_iff_ne] at hS
      exact x o j hp hS.1.1.1.1 hS.1.1.1.2 (fun z => by have := hS.1.1.2; omega) (fun z => by have := hS.1.2; omega) hS.2)), ← rM_eq (SM.mx (S := fun o j => (o == 0 && (j == 1 || j == 2 || j == 6 || j == 24 || j == 49)) || o == 1 || o == 2) (c := m) (c' := m') (fun o j hp hS => by
      simp only [Bool.or_eq_false_iff, Bool.and_eq_false_iff, beq_eq_false_iff_ne] at hS
      exact y o j hp (fun z => by have := hS.1.1; omega) hS.1.2 hS.2))] at h2
  obtain ⟨a1, a2, a3, a4, ⟨s, s1, s2, s3, s4⟩, a6, a7, a8, a9⟩ := h2
  refine ⟨⟨0, by omega, ht.1, ht.2, fun i hi => by omega⟩, hf, a3, a4, ⟨s, s1, s2, s3, fun i hi => ?_⟩, hd, hp, hkp, a9⟩
  obtain ⟨z, b, v, e1, e2⟩ := s4 i hi
  exact ⟨z, b, v, Nat.lt_of_lt_of_le e1 (Nat.pow_le_pow_right (by omega) hn), e2⟩
/-- the lines join THE FOLK, on both sides -/
theorem fo_join {c1 m1 : HI} {l P : Nat} {b : Nat → Nat} (hn : n + l ≤ 9) (hPm : Pm < 2 ^ n) (hP : P < 2 ^ l) (c4 : c1 4 0 = nI n) (c41 : c1 4 1 = nI Pm) (m01 : m1 0 1 = nI n) (m02 : m1 0 2 = nI Pm) (l2 : c1 19 2 = nI l) (l3 : c1 19 3 = nI P) (l20 : ∀ j, j < l → c1 20 j = nI (b j)) (l6 : ∀ j, j < l → m1 6 (2 * j) = bI (P.testBit j) ∧ m1 6 (2 * j + 1) = nI (b j)) : RO (rh_loop b_La_folk_51 rh_N ((0 : Int32), c1)) (rh_loop (b_Mo_folk_125 (nI l)) rh_N ((0 : Int32), m1)) (fun x y => ∃ Pm', Pm' < 2 ^ (n + l) ∧ x 4 0 = nI (n + l) ∧ x 4 1 = nI Pm' ∧ y 0 1 = nI (n + l) ∧ y 0 2 = nI Pm' ∧ (∀ j, j < l → x 5 (n + j) = nI (b j) ∧ y 2 (n + j) = nI (b j) ∧ y 1 (n + j) = 0) ∧ (∀ o j, o ≠ 4 → (o = 5 → j < n ∨ n + l ≤ j) → x o j = c1 o j) ∧ (∀ o j, (o = 0 → j ≠ 1 ∧ j ≠ 2) → (o = 1 ∨ o = 2 → j < n ∨ n + l ≤ j) → y o j = m1 o j)) := by
  refine RO.loop _ _ (fun i x y => i ≤ l ∧ x.1 = nI i ∧ y.1 = nI i ∧ ∃ Pm', Pm' < 2 ^ (n + i) ∧ x.2 4 0 = nI (n + i) ∧ x.2 4 1 = nI Pm' ∧ y.2 0 1 = nI (n + i) ∧ y.2 0 2 = nI Pm' ∧ (∀ j, j < i → x.2 5 (n + j) = nI (b j) ∧ y.2 2 (n + j) = nI (b j) ∧ y.2 1 (n + j) = 0) ∧ (∀ o j, o ≠ 4 → (o = 5 → j < n ∨ n + l ≤ j) → x.2 o j = c1 o j) ∧ (∀ o j, (o = 0 → j ≠ 1 ∧ j ≠ 2) → (o = 1 ∨ o = 2 → j < n ∨ n + l ≤ j) → y.2 o j = m1 o j)) _ l (by omega) ?_ ⟨by omega, rfl, rfl, Pm, hPm, c4, c41, m01, m02, fun j hj => by omega, fun _ _ _ _ => rfl, fun _ _ _ _ => rfl⟩
  rintro i ⟨x1, x⟩ ⟨y1, y⟩ - ⟨hi, rfl, rfl, Pm', hPm', x40, x41, y01, y02, ev, fx, fy⟩
  dsimp only at x40 x41 y01 y02 ev fx fy
  have x192 : x 19 2 = nI l := (fx 19 2 (by omega) (by omega)).trans l2
  have x193 : x 19 3 = nI P := (fx 19 3 (by omega) (by omega)).trans l3
  unfold b_La_folk_51 b_Mo_folk_125
  dsimp only
  simp only [x192]
  refine RO.ii Iff.rfl (fun h9 => ?_) (fun h9 => ?_)
  · have : i = l := by have := ple h9 (by omega) (by omega); omega
    subst this
    exact RO.ret ⟨Pm', hPm', x40, x41, y01, y02, ev, fx, fy⟩
  have hi2 : i < l := nle h9 (by omega) (by omega)
  have x20 : x 20 i = nI (b i) := (fx 20 i (by omega) (by omega)).trans (l20 i hi2)
  have y60 : y 6 (2 * i) = bI (P.testBit i) := (fy 6 _ (by omega) (by omega)).trans (l6 i hi2).1
  have y61 : y 6 (2 * i + 1) = nI (b i) := (fy 6 _ (by omega) (by omega)).trans (l6 i hi2).2
  have e2i : (2 : Int32) * nI i = nI (2 * i) := pk_mul 2 i
  have hpn : 2 ^ (n + i + 1) = 2 * 2 ^ (n + i) := by rw [Nat.pow_succ]; omega
  have hip : f_Fr_isPerson x (nI i) = bI (P.testBit i) := by
    unfold f_Fr_isPerson
    rw [x193]
    have hb := bit_t (p := P) (i := i) (Nat.lt_of_lt_of_le hP (Nat.pow_le_pow_right (by omega) (by omega))) (by omega)
    cases hbt : P.testBit i with
    | false => rw [if_pos (hb.mpr hbt)]; rfl
    | true => rw [if_neg (fun z => by rw [hb.mp z] at hbt; cases hbt)]; rfl
  have g9 := gd_nI (i := n + i) (N := 9) (by omega) (by omega)
  have hj : f_Cr_join x (f_Fr_isPerson x (nI i)) (x 20 (nI i).toNatClampNeg) = some (rh_up (rh_up (rh_up x 4 1 (nI (if P.testBit i = true then Pm' ||| 2 ^ (n + i) else Pm'))) 5 (n + i) (nI (b i))) 4 0 (nI (n + i + 1))) := by
    rw [hip, nI_clamp (by omega), x20]
    unfold f_Cr_join
    rw [x40, x41, if_neg (show ¬ (9 : Int32) ≤ nI (n + i) from nI_ge (b := 9) (by omega) (by omega)), rg_t g9, rg_t g9, nI_clamp (by omega), two_n (n + i) (by omega), fa_or, nI_1, or0]
    cases hbt : P.testBit i with
    | false => rw [if_pos (show bI false = 0 from rfl), if_neg (by decide)]
    | true => rw [if_neg (show ¬ bI true = 0 by decide), if_pos rfl]
  rw [hj, Option.bind_some, nI_1]
  rw [e2i, show nI (2 * i) + 1 = nI (2 * i + 1) from nI_1 _]
  simp only [y01, y02]
  rw [nI_clamp (n := 2 * i) (by omega), nI_clamp (n := 2 * i + 1) (by omega), nI_clamp (n := n + i) (by omega), nI_1]
  have eP : nI Pm' ||| y 6 (2 * i) <<< (nI (n + i) &&& 31) = nI (if P.testBit i = true then Pm' ||| 2 ^ (n + i) else Pm') := by
    rw [y60]
    cases hbt : P.testBit i with
    | false => rw [if_neg (by decide), show bI false = 0 from rfl, show (0 : Int32) <<< (nI (n + i) &&& 31) = 0 from ?_, or0]
               apply b_ext; intro u hu; rw [b_shl (n + i) (by omega) 0 hu, b_0, b_0, Bool.and_false]
    | true => rw [if_pos rfl, show bI true = 1 from rfl, two_n (n + i) (by omega), fa_or]
  rw [show rh_up y 0 2 (nI Pm' ||| y 6 (2 * i) <<< (nI (n + i) &&& 31)) 6 (2 * i + 1) = nI (b i) from y61, eP]
  have hlt : (if P.testBit i = true then Pm' ||| 2 ^ (n + i) else Pm') < 2 ^ (n + (i + 1)) := by
    rw [show n + (i + 1) = n + i + 1 by omega]
    split
    · exact Nat.or_lt_two_pow (by omega) (by omega)
    · omega
  refine RO.gl (gd_nI (by omega) (by omega)) (RO.gr (gd_nI (by omega) (by omega)) (RO.gr (gd_nI (by omega) (by omega)) (RO.gr g9 (RO.gr (gd_nI (by omega) (by omega)) (RO.ret ⟨hi2, hi2, rfl, rfl, _, hlt, rfl, rfl, rfl, rfl, fun j hj => ?_, fun o j h4 h5 => ?_, fun o j h0 h12 => ?_⟩)))))
  · by_cases z : j = i
    · subst z
      refine ⟨?_, ?_, ?_⟩
      · exact rh_up_s (rh_up x 4 1 (nI (if P.testBit j = true then Pm' ||| 2 ^ (n + j) else Pm'))) 5 (n + j) (nI (b j))
      · exact rh_up_s (rh_up y 0 2 (nI (if P.testBit j = true then Pm' ||| 2 ^ (n + j) else Pm'))) 2 (n + j) (nI (b j))
      · exact rh_up_s (rh_up (rh_up y 0 2 (nI (if P.testBit j = true then Pm' ||| 2 ^ (n + j) else Pm'))) 2 (n + j) (nI (b j))) 1 (n + j) 0
    · obtain ⟨g1, g2, g3⟩ := ev j (by omega)
      refine ⟨?_, ?_, ?_⟩
      · show rh_up x 5 (n + i) (nI (b i)) 5 (n + j) = _
        rw [up_f, if_neg (by omega)]; exact g1
      · show rh_up y 2 (n + i) (nI (b i)) 2 (n + j) = _
        rw [up_f, if_neg (by omega)]; exact g2
      · show rh_up y 1 (n + i) 0 1 (n + j) = _
        rw [up_f, if_neg (by omega)]; exact g3
  · show rh_up (rh_up (rh_up x 4 1 _) 5 (n + i) _) 4 0 _ o j = _
    rw [up_f, if_neg (by omega), up_f, if_neg (by omega), up_f, if_neg (by omega)]; exact fx o j h4 h5
  · show rh_up (rh_up (rh_up (rh_up y 0 2 _) 2 (n + i) _) 1 (n + i) 0) 0 1 _ o j = _
    rw [up_f, if_neg (by omega), up_f, if_neg (by omega), up_f, if_neg (by omega), up_f, if_neg (by omega)]; exact fy o j h0 h12
theorem op_folk (h : RLt k n Pm B V c m) (hk : k ≤ 599) (rd : Option Nat) : RO (f_La_folk c) (f_Mo_folk m rd) (fun x y => x.1 = y.1 ∧ ∃ n' Pm' B', RLt (k + 1) n' Pm' B' V x.2 y.2.1) := by
  obtain ⟨T, a, q, A⟩ := h.la (by omega)
  obtain ⟨t, tx, ht, t1, t2, t3⟩ := A.txt
  have t2 : m 0 6 = nI t := t2
  have hn := A.n9
  unfold f_La_folk f_Mo_folk f_La_takeText
  dsimp only
  simp only [t1, t2]
  rw [show f_Mo_begin_4 (rh_up m 0 9 0) (nI t) 76 0 11 = nI t from rfl]
  refine RO.ii Iff.rfl (fun h0 => ?_) (fun h0 => ?_)
  · refine RO.ret ⟨rfl, n, Pm, B, h.text (fun o j hp h01 => ?_) rfl (fun o j hp h06 => ?_) rfl rfl (fun _ => rfl) rfl (fun _ => rfl)⟩
    · show rh_up c 0 1 0 o j = _
      rw [up_f, if_neg (fun z => h01 z.1 z.2)]
    · show rh_up (rh_up (rh_up (rh_up (rh_up (rh_up m 0 9 0) 0 11 _) 0 12 _) 0 13 _) 0 14 _) 0 6 _ o j = _
      by_cases ho : o = 0
      · subst ho
        have : j ≠ 9 ∧ j ≠ 11 ∧ j ≠ 12 ∧ j ≠ 13 ∧ j ≠ 14 := by
          refine ⟨?_, ?_, ?_, ?_, ?_⟩ <;> (rintro rfl; exact absurd hp (by decide))
        have h6 := h06 rfl
        simp only [up_f]
        rw [if_neg (by omega), if_neg (by omega), if_neg (by omega), if_neg (by omega), if_neg (by omega), if_neg (by omega)]
      · simp only [up_f]
        rw [if_neg (by omega), if_neg (by omega), if_neg (by omega), if_neg (by omega), if_neg (by omega), if_neg (by omega)]
  · have ht0 : 1 ≤ t := by
      rcases Nat.eq_zero_or_pos t with z | z
      · subst z; exact absurd rfl h0
      · exact z
    generalize hC0 : rh_up (rh_up c 0 1 (0 : Int32)) 19 1 ((9 : Int32) - rh_up c 0 1 (0 : Int32) 4 0) = C0
    generalize hM0 : rh_up (f_Mo_begin_4 (rh_up m 0 9 (0 : Int32)) (nI t) (76 : Int32)) 0 6 (0 : Int32) = M0
    have C0f : ∀ o j, o ≠ 19 → (o = 0 → j ≠ 1) → C0 o j = c o j := fun o j h19 h01 => by
      rw [← hC0, up_f, if_neg (by omega), up_f, if_neg (fun z => h01 z.1 z.2)]
    have M0f : ∀ o j, (o = 0 → j ≠ 6 ∧ j ≠ 9 ∧ j ≠ 11 ∧ j ≠ 12 ∧ j ≠ 13 ∧ j ≠ 14) → M0 o j = m o j := fun o j hh => by
      rw [← hM0]
      unfold f_Mo_begin_4
      simp only [up_f]
      rw [if_neg (by omega), if_neg (by omega), if_neg (by omega), if_neg (by omega), if_neg (by omega), if_neg (by omega)]
    have c191 : C0 19 1 = nI (9 - n) := by
      rw [← hC0]
      show (9 : Int32) - c 4 0 = _
      rw [A.cn]; exact pk_sub (a := 9) hn
    have m01 : M0 0 1 = nI n := (M0f 0 1 (by omega)).trans A.mn
    have rs0 : RS t 76 tx 0 M0 := by
      refine ⟨ht, by omega, by omega, ?_, ?_, ?_, ?_, fun i hi => ⟨(t3 i hi).1, ?_⟩⟩
      · rw [← hM0]; rfl
      · rw [← hM0]; rfl
      · rw [← hM0]; rfl
      · rw [← hM0]; rfl
      · rw [M0f 4 i (by omega)]; exact (t3 i hi).2.2.1
    have hseen : (if (80 : Int32) < (if (76 : Int32) < nI t then (76 : Int32) else nI t) then (80 : Int32) else (if (76 : Int32) < nI t then (76 : Int32) else nI t)) = nI (min t 76) := by
      by_cases z : 76 < t
      · rw [if_pos (show (76 : Int32) < nI t from ltI (x := 76) (by omega) z), if_neg (by decide), show min t 76 = 76 by omega]; rfl
      · rw [if_neg (show ¬ (76 : Int32) < nI t from nltI (x := 76) (by omega) z), if_neg (show ¬ (80 : Int32) < nI t from nltI (x := 80) (by omega) (by omega)), show min t 76 = t by omega]
    have rd1 : f_Re_readThrough_Fr_19_1 C0 (nI t) 76 = (rh_loop (b_Re_readThrough_Fr_19_1_19 (nI t) 76 (nI (min t 76))) rh_N ((0 : Int32), f_Fr_begin C0)).bind (foPost (nI t)) := by
      rw [← hseen]; rfl
    have rf0 : RF C0 (f_Fr_begin C0) 0 0 0 0 (fun _ => 0) := ⟨fun o j h19 h20 => by
        unfold f_Fr_begin
        simp only [up_f]
        rw [if_neg (by omega), if_neg (by omega), if_neg (by omega), if_neg (by omega)], rfl, rfl, rfl, rfl, rfl, fun j hj => by omega⟩
    have key := fo_ind (C0 := C0) (M0 := M0) (t := t) (sz := n) (tx := tx) (fun i hi => (C0f 1 i (by omega) (by omega)).trans (t3 i hi).2.1) ht hn c191 m01 (9 - n) 0 0 0 (fun _ => 0) (f_Fr_begin C0) M0 (by omega) (by omega) (by omega) (by decide) (fun j hj => by omega) rf0 ⟨fun _ _ _ _ => rfl, fun j hj => by omega⟩ rs0 rh_N rh_N (by unfold rh_N; omega) (by unfold rh_N; omega)
    rw [rd1]
    obtain ⟨x, y, ex, ey, hq⟩ := key
    rw [show (nI 0 : Int32) = 0 from rfl] at ex ey
    rw [ex, Option.bind_some]
    obtain ⟨r, er, er2⟩ := rh_bq ey
    rw [er, Option.bind_some]
    unfold foFin at er2
    have er2 : (r.1, if (r.2 0 11) ≤ (r.2 0 13) then r.2 else f_Mo_fault r.2 (r.2 0 13)) = y := Option.some.inj er2
    have e90 : j_Mo_folk_90 r.2 r.1 = j_Mo_folk_109 y.2 y.1 := by
      rw [← er2]
      unfold j_Mo_folk_90
      by_cases z : (r.2 0 11) ≤ (r.2 0 13)
      · rw [if_pos z, if_pos z]
      · rw [if_neg z, if_neg z]
    rw [e90]
    unfold j_Mo_folk_109
    rcases hq with ⟨x0, y14, l, P, b, l1, l2, y1, hP, hb, x192, x193, xf, x20, yf, y6⟩ | ⟨w, hw, xw, yw, xf, yf⟩
    · rw [if_pos x0, fine1 y14, if_neg (by decide), y1]
      have x40 : x.2 4 0 = nI n := (xf 4 0 (by omega) (by omega)).trans ((C0f 4 0 (by omega) (by omega)).trans A.cn)
      have x41 : x.2 4 1 = nI Pm := (xf 4 1 (by omega) (by omega)).trans ((C0f 4 1 (by omega) (by omega)).trans A.cp)
      have y01 : y.2 0 1 = nI n := (yf 0 1 (by omega) (by omega)).trans m01
      have y02 : y.2 0 2 = nI Pm := (yf 0 2 (by omega) (by omega)).trans ((M0f 0 2 (by omega)).trans A.mp)
      refine RO.bind (fo_join (n := n) (Pm := Pm) (l := l) (P := P) (b := b) (by omega) A.pn hP x40 x41 y01 y02 x192 x193 x20 y6) ?_
      rintro x' y' ⟨Pm', hPm', g1, g2, g3, g4, g5, fx, fy⟩
      have xc : ∀ o j, o ≠ 4 → o ≠ 19 → o ≠ 20 → (o = 5 → j < n) → (o = 0 → j ≠ 1) → x' o j = c o j := fun o j h4 h19 h20 h5 h01 => (fx o j h4 (fun z => Or.inl (h5 z))).trans ((xf o j h19 h20).trans (C0f o j h19 h01))
      have ym : ∀ o j, o ≠ 6 → (o = 0 → j ≠ 1 ∧ j ≠ 2 ∧ j ≠ 6 ∧ j ≠ 9 ∧ j ≠ 11 ∧ j ≠ 12 ∧ j ≠ 13 ∧ j ≠ 14) → (o = 1 ∨ o = 2 → j < n ∨ n + l ≤ j) → y' o j = m o j := fun o j h6 h0 h12 => (fy o j (fun z => ⟨(h0 z).1, (h0 z).2.1⟩) h12).trans ((yf o j h6 (fun z => by have := h0 z; omega)).trans (M0f o j (fun z => by have := h0 z; omega)))
      obtain ⟨qk, k1, k2, k3⟩ := A.1.2.2.2.2.2.2.2.1
      have k2 : m 0 49 = nI qk := k2
      have y49 : y' 0 49 = nI qk := (ym 0 49 (by omega) (by omega) (by omega)).trans k2
      refine RO.ret ⟨?_, n + l, Pm', fun i => if i < n then B i else b (i - n), ⟨RQ.more (n' := n + l) A.1 (Nat.le_succ k) (by omega) (fun o j hp h4 h5 h01 h13 h18 => ?_) (fun o j hp h0 h1 h2 => ?_) ⟨?_, ?_⟩ ⟨by omega, g1, g3, g2, g4, hPm', fun i hi => ?_⟩ ⟨⟨T, by have := A.Tk; omega, ?_, ?_⟩, ⟨a, Nat.lt_of_lt_of_le A.an (Nat.pow_le_pow_right (by omega) (by omega)), ?_, ?_⟩, fun i hi => ?_⟩ ⟨0, by omega, rfl, rfl, fun j hj => by omega⟩ ⟨qk + 1, by omega, ?_, fun j hj => ?_⟩, ?_⟩⟩
      · show x' 19 2 = nI l
        exact (fx 19 2 (by omega) (by omega)).trans x192
      · show rh_up (rh_up (rh_up x' 13 6 0) 18 0 _) 18 1 _ o j = _
        rw [up_f, if_neg (by omega), up_f, if_neg (by omega), up_f, if_neg (fun z => h13 z.1 z.2)]
        exact xc o j h4 (fun z => by subst z; exact absurd (show false = true from hp) (by decide)) (fun z => by subst z; exact absurd (show false = true from hp) (by decide)) (fun z => absurd z h5) h01
      · show rh_up (rh_up y' 0 24 0) 0 49 _ o j = _
        rw [up_f, if_neg (fun z => by have := h0 z.1; omega), up_f, if_neg (fun z => by have := h0 z.1; omega)]
        rw [ym o j (fun z => by subst z; exact absurd (show false = true from hp) (by decide)) (fun z => ?_) (fun z => by omega)]
        · by_cases ho : o = 0
          · subst ho
            rw [up_f, if_neg]
            rintro ⟨-, rfl⟩; exact absurd hp (by decide)
          · rw [up_f, if_neg (by omega)]
        · subst z
          have := h0 rfl
          refine ⟨this.1, this.2.1, this.2.2.1, ?_, ?_, ?_, ?_, ?_⟩ <;> (rintro rfl; exact absurd hp (by decide))
      · show x' 0 1 = 0
        rw [fx 0 1 (by omega) (by omega), xf 0 1 (by omega) (by omega), ← hC0]; rfl
      · show y' 0 6 = 0
        rw [fy 0 6 (by omega) (by omega), yf 0 6 (by omega) (by omega), ← hM0]; rfl
      · show x' 5 i = nI _ ∧ y' 2 i = nI _ ∧ _
        dsimp only
        by_cases z : i < n
        · rw [if_pos z, xc 5 i (by omega) (by omega) (by omega) (fun _ => z) (by omega), ym 2 i (by omega) (by omega) (fun _ => Or.inl z)]
          exact A.bs i z
        · have := g5 (i - n) (by omega)
          rw [show n + (i - n) = i by omega] at this
          rw [if_neg z]
          exact ⟨this.1, this.2.1, hb (i - n) (by omega)⟩
      · exact (xc 13 1 (by omega) (by omega) (by omega) (by omega) (by omega)).trans A.ct
      · exact (ym 1 10 (by omega) (by omega) (by omega)).trans A.mt
      · exact (xc 13 2 (by omega) (by omega) (by omega) (by omega) (by omega)).trans A.ca
      · exact (ym 1 9 (by omega) (by omega) (by omega)).trans A.ma
      · show x' 14 i = y' 1 i ∧ -4 ≤ (x' 14 i).toInt ∧ (x' 14 i).toInt ≤ 4 ∧ (n + l ≤ i → x' 14 i = 0)
        rw [xc 14 i (by omega) (by omega) (by omega) (by omega) (by omega)]
        obtain ⟨p1, p2, p3, p4⟩ := A.pl i hi
        refine ⟨?_, p2, p3, fun z => p4 (by omega)⟩
        by_cases z : n ≤ i ∧ i < n + l
        · have := (g5 (i - n) (by omega)).2.2
          rw [show n + (i - n) = i by omega] at this
          rw [this, p4 z.1]
        · rw [ym 1 i (by omega) (by omega) (fun _ => by omega)]; exact p1
      · show y' 0 49 + 1 = _
        rw [y49, nI_1]
      · obtain ⟨z, z1, z2, z3, z4⟩ := k3 j hj
        have z2 : m 30 j = nI z := z2
        have z3 : m 29 j = 0 ∨ m 29 j = 1 := z3
        refine ⟨z, by omega, (ym 30 j (by omega) (by omega) (by omega)).trans z2, ?_, Or.inr ⟨?_, Or.inr (by omega)⟩⟩
        · show y' 29 j = 0 ∨ y' 29 j = 1
          rw [ym 29 j (by omega) (by omega) (by omega)]; exact z3
        · show rh_up (rh_up (rh_up x' 13 6 0) 18 0 ((0 : Int32) &&& 1)) 18 1 ((0 : Int32) &&& 1) 18 j = 0
          rcases (show j = 0 ∨ j = 1 by omega) with rfl | rfl <;> rfl
      · exact A.t0.2.kept (xc 2 1 (by omega) (by omega) (by omega) (by omega) (by omega)) (fun i => xc 3 i (by omega) (by omega) (by omega) (by omega) (by omega)) (ym 0 8 (by omega) (by omega) (by omega)) (fun i => ym 5 i (by omega) (by omega) (by omega))
    · have hne : ¬ x.1 = 0 := by
        rw [xw]
        intro z
        have : (-1 - nI w).toInt = -1 - (w : Int) := by
          rw [fb_subI, nI_toInt (by omega)]
          · rfl
          · rw [nI_toInt (by omega), show (-1 : Int32).toInt = -1 from rfl]; omega
          · rw [nI_toInt (by omega), show (-1 : Int32).toInt = -1 from rfl]; omega
        rw [z] at this
        have h0 : (0 : Int32).toInt = 0 := rfl
        omega
      rw [if_neg hne, fine0 (w := w) (by omega) yw, if_pos rfl, yw]
      refine RO.ret ⟨xw, n, Pm, B, h.text (fun o j hp h01 => ?_) ?_ (fun o j hp h06 => ?_) ?_ ?_ (fun i => ?_) ?_ (fun i => ?_)⟩
      · rw [xf o j (fun z => by subst z; exact absurd (show false = true from hp) (by decide)) (fun z => by subst z; exact absurd (show false = true from hp) (by decide))]
        exact C0f o j (fun z => by subst z; exact absurd (show false = true from hp) (by decide)) h01
      · rw [xf 0 1 (by omega) (by omega), ← hC0]; rfl
      · have hh : o = 0 → j ≠ 9 ∧ j ≠ 11 ∧ j ≠ 12 ∧ j ≠ 13 ∧ j ≠ 14 := by
          rintro rfl
          refine ⟨?_, ?_, ?_, ?_, ?_⟩ <;> (rintro rfl; exact absurd hp (by decide))
        refine (yf o j (fun z => by subst z; exact absurd (show false = true from hp) (by decide)) (fun z => by have := hh z; omega)).trans ?_
        exact M0f o j (fun z => by have := hh z; have := h06 z; omega)
      · refine (yf 0 6 (by omega) (by omega)).trans ?_
        rw [← hM0]; rfl
      · exact (xf 2 1 (by omega) (by omega)).trans (C0f 2 1 (by omega) (by omega))
      · exact (xf 3 i (by omega) (by omega)).trans (C0f 3 i (by omega) (by omega))
      · exact (yf 0 8 (by omega) (by omega)).trans (M0f 0 8 (by omega))
      · exact (yf 5 i (by omega) (by omega)).trans (M0f 5 i (by omega))
end FOLK2
