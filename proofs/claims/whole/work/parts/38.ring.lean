/-! ring, count, row, sheet -/
def AN (p : Nat → Bool) : Nat → Bool
  | 0 => false
  | i + 1 => AN p i || p i
theorem AN_mono {p : Nat → Bool} {i j : Nat} (h : i ≤ j) (hi : AN p i = true) : AN p j = true := by
  induction h with
  | refl => exact hi
  | step _ ih => unfold AN; rw [ih]; rfl
def bI (b : Bool) : Int32 := if b = true then 1 else 0
section RING
variable {k n Pm : Nat} {B : Nat → Nat} {V : Nat → Nat → Nat → Nat} {T a q : Nat} {c m : HI}
def TPb (n Pm : Nat) (B : Nat → Nat) (V : Nat → Nat → Nat → Nat) (T a : Nat) (c : HI) (j : Nat) : Bool := decide (¬ f_La_tipsBy c (LN a (c 14) (fun i => Wt Pm B V i (T + j)) n) = 0)
theorem ri_c (A : RLa k n Pm B V T a q c m) {v : Nat} (hv : v ≤ 99) : OK (rh_loop (b_La_ring_16 (nI v)) rh_N ((0 : Int32), (0 : Int32), c)) (fun x => x.1 = bI (AN (TPb n Pm B V T a c) (v + 1)) ∧ E8 c x.2) := by
  have hT := A.T30
  refine OK.loop _ (fun i x => i ≤ v + 1 ∧ x.1 = bI (AN (TPb n Pm B V T a c) i) ∧ x.2.1 = nI i ∧ E8 c x.2.2) _ (v + 1) (by omega) ?_ ⟨by omega, rfl, rfl, E8.rf⟩
  rintro i ⟨x1, x2, g⟩ - ⟨hi, rfl, rfl, he⟩
  dsimp only at he
  unfold b_La_ring_16
  dsimp only
  refine OK.ite (fun h => ?_) (fun h => ?_)
  · have : i = v + 1 := by have := (nI_ltI (a := v) (b := i) (by omega) (by omega)).mp h; omega
    subst this
    exact OK.ret ⟨rfl, he⟩
  have hi2 : i ≤ v := nlt h (by omega) (by omega)
  refine OK.ite (fun h0 => ?_) (fun h0 => ?_)
  · have hf : AN (TPb n Pm B V T a c) i = false := by
      cases hb : AN (TPb n Pm B V T a c) i with
      | false => rfl
      | true => rw [hb] at h0; exact absurd h0 (by decide)
    have A' := A.l he.x
    rw [he 13 1 (by omega), A.ct, nI_add]
    refine OK.bind (le_c A'.qc A'.an A'.ca (t := T + i) (by omega)) ?_
    rintro ⟨l, g'⟩ ⟨hl, he'⟩
    dsimp only at hl he' ⊢
    have e14 : g 14 = c 14 := funext (fun j => he 14 j (by omega))
    have et : f_La_tipsBy g' l = f_La_tipsBy c (LN a (c 14) (fun j => Wt Pm B V j (T + i)) n) := by
      rw [hl, e14]
      exact tip_f ((he' 40 1 (by omega)).trans (he 40 1 (by omega))) _
    rw [et, nI_1]
    refine OK.ite (fun h1 => OK.ret ⟨by omega, by omega, ?_, rfl, he.tr he'⟩) (fun h1 => OK.ret ⟨by omega, by omega, ?_, rfl, he.tr he'⟩)
    · show (0 : Int32) = bI (AN (TPb n Pm B V T a c) i || TPb n Pm B V T a c i)
      rw [hf, show TPb n Pm B V T a c i = false from decide_eq_false (fun z => z h1)]; rfl
    · show (1 : Int32) = bI (AN (TPb n Pm B V T a c) i || TPb n Pm B V T a c i)
      rw [hf, show TPb n Pm B V T a c i = true from decide_eq_true h1]; rfl
  · have hf : AN (TPb n Pm B V T a c) i = true := by
      cases hb : AN (TPb n Pm B V T a c) i with
      | true => rfl
      | false => rw [hb] at h0; exact absurd rfl h0
    exact OK.ret ⟨by rw [hf, AN_mono (by omega) hf], he⟩
/-- all but NOW -/
def EN (h h' : HI) : Prop := ∀ o k, sM o k = false → (o = 1 → k ≠ 10) → h' o k = h o k
theorem ri_m (A : RLa k n Pm B V T a q c m) (rd : Option Nat) {v : Nat} (hv : v ≤ 99) {m1 : HI} (qm : QM n Pm B V m1) (h1 : ∀ i, m1 1 i = m 1 i) (h3 : ∀ i, m1 3 i = m 3 i) : OK (rh_loop (b_Mo_ring_33 (nI v)) rh_N ((0 : Int32), (0 : Int32), m1, rd)) (fun x => x.1 = bI (AN (TPb n Pm B V T a c) (v + 1)) ∧ EN m1 x.2.1 ∧ x.2.1 1 10 = nI (T + v)) := by
  have hT := A.T30
  have hn := A.n9
  refine OK.loop _ (fun i x => i ≤ v + 1 ∧ x.1 = bI (AN (TPb n Pm B V T a c) i) ∧ x.2.1 = nI i ∧ EN m1 x.2.2.1 ∧ x.2.2.1 1 10 = nI (T + (i - 1))) _ (v + 1) (by omega) ?_ ⟨by omega, rfl, rfl, fun _ _ _ _ => rfl, (h1 10).trans A.mt⟩
  rintro i ⟨x1, x2, g, rd⟩ - ⟨hi, rfl, rfl, he, h10⟩
  dsimp only at he h10
  unfold b_Mo_ring_33
  dsimp only
  refine OK.ite (fun h => ?_) (fun h => ?_)
  · have : i = v + 1 := by have := (nI_ltI (a := v) (b := i) (by omega) (by omega)).mp h; omega
    subst this
    exact OK.ret ⟨rfl, he, h10⟩
  have hi2 : i ≤ v := nlt h (by omega) (by omega)
  have tipg : ∀ (g : HI) (rd : Option Nat), EN m1 g → g 1 10 = nI (T + i) → OK (f_Mo_isTipping__1 g rd) (fun x => (x.1 = 0 ↔ TPb n Pm B V T a c i = false) ∧ EN m1 x.2.1 ∧ x.2.1 1 10 = nI (T + i)) := by
    intro g rd he h10
    have q' : QM n Pm B V g := qm.kept (he 0 1 rfl (by omega)) (he 0 2 rfl (by omega)) (fun k => he 2 k rfl (by omega)) (he 0 17 rfl (by omega)) (fun k => he 7 k rfl (by omega))
    unfold f_Mo_isTipping__1
    rw [show g 1 (10 : Int32).toNatClampNeg = nI (T + i) from h10]
    refine OK.bind (le_m q' rd (a := a) (t := T + i) A.an ((he 1 9 rfl (by omega)).trans ((h1 9).trans A.ma)) (by omega)) ?_
    rintro ⟨l, g', rd'⟩ ⟨hl, he'⟩
    dsimp only at hl he' ⊢
    have el : l = LN a (c 14) (fun j => Wt Pm B V j (T + i)) n := by
      rw [hl]
      apply LN_cong
      intro j hj
      refine ⟨rfl, fun _ => ⟨?_, rfl⟩⟩
      rw [he 1 j rfl (by omega), h1 j, (A.pl j (by omega)).1]
    have et : f_Mo_isTipping g' l = f_La_tipsBy c (LN a (c 14) (fun j => Wt Pm B V j (T + i)) n) := by
      rw [el, ← A.tip]
      unfold f_Mo_isTipping
      rw [he' 3 _ rfl, he 3 _ rfl (by omega), h3]
    rw [et]
    refine OK.g ?_ (OK.ret ⟨?_, fun o j ho hj => (he' o j ho).trans (he o j ho hj), (he' 1 10 rfl).trans h10⟩)
    · unfold f_La_tipsBy; exact ite01
    · unfold TPb
      simp only [decide_eq_false_iff_not, Decidable.not_not]
  have fin : ∀ (g : HI) (rd : Option Nat), EN m1 g → g 1 10 = nI (T + i) → OK ((f_Mo_isTipping__1 g rd).bind (fun x6 => if x6.1 = 0 then some (.inl (bI (AN (TPb n Pm B V T a c) i), nI i + (1 : Int32), x6.2.1, x6.2.2)) else some (.inl ((1 : Int32), nI i + (1 : Int32), x6.2.1, x6.2.2)))) (fun x => Sum.elim (fun s' => i < v + 1 ∧ (i + 1 ≤ v + 1 ∧ s'.1 = bI (AN (TPb n Pm B V T a c) (i + 1)) ∧ s'.2.1 = nI (i + 1) ∧ EN m1 s'.2.2.1 ∧ s'.2.2.1 1 10 = nI (T + (i + 1 - 1)))) (fun x => x.1 = bI (AN (TPb n Pm B V T a c) (v + 1)) ∧ EN m1 x.2.1 ∧ x.2.1 1 10 = nI (T + v)) (x : (Int32 × Int32 × HI × Option Nat) ⊕ (Int32 × HI × Option Nat))) := by
    intro g rd he h10
    refine OK.bind (tipg g rd he h10) ?_
    rintro ⟨x1, g', rd'⟩ ⟨ht, he', h10'⟩
    dsimp only at ht he' h10' ⊢
    rw [nI_1]
    refine OK.ite (fun h1 => OK.ret ⟨by omega, by omega, ?_, rfl, he', h10'⟩) (fun h1 => OK.ret ⟨by omega, by omega, ?_, rfl, he', h10'⟩)
    · show bI (AN (TPb n Pm B V T a c) i) = bI (AN (TPb n Pm B V T a c) i || TPb n Pm B V T a c i)
      rw [ht.mp h1, Bool.or_false]
    · show (1 : Int32) = bI (AN (TPb n Pm B V T a c) i || TPb n Pm B V T a c i)
      have : TPb n Pm B V T a c i = true := by
        cases hb : TPb n Pm B V T a c i with
        | true => rfl
        | false => exact absurd (ht.mpr hb) h1
      rw [this, Bool.or_true]; rfl
  by_cases h0 : i = 0
  · subst h0
    rw [if_pos (show nI 0 ≤ 0 by decide)]
    exact fin g rd he h10
  · rw [if_neg (show ¬ nI i ≤ 0 from fun z => by have := ple (i := 0) (b := i) z (by omega) (by omega); omega)]
    refine fin _ rd (fun o j ho hj => ?_) ?_
    · rw [up_f, if_neg (fun z => by have := hj z.1; exact this z.2)]; exact he o j ho hj
    · show g 1 (10 : Int32).toNatClampNeg + 1 = _
      rw [show g 1 (10 : Int32).toNatClampNeg = nI (T + (i - 1)) from h10, nI_1, show T + (i - 1) + 1 = T + i by omega]
/-- the ROW of three, behind a ring -/
theorem ri_tell (A : RLa k n Pm B V T a q c m) (rd : Option Nat) (t : Int32) : RO (j_La_ring_91 c t) ((f_Mo_tell (rh_up m 0 8 (0 : Int32)) (((rh_up m 0 8 (0 : Int32)) 1 (10 : Int32).toNatClampNeg) / (9 : Int32))).bind (fun x11 =>
      (f_Mo_weightOfAll x11 rd (x11 1 (9 : Int32).toNatClampNeg) (x11 1 (10 : Int32).toNatClampNeg)).bind (fun x12 =>
        (f_Mo_tell x12.2.1 x12.1).bind (fun x13 =>
          (f_Mo_tell x13 t).bind (fun x14 =>
            some (((x14 1 (10 : Int32).toNatClampNeg) - (x14 1 (10 : Int32).toNatClampNeg) / (9 : Int32) * (9 : Int32), x14, x12.2.2))))))) (fun x y => x.1 = y.1 ∧ RLt k n Pm B V x.2 y.2.1) := by
  unfold j_La_ring_91
  have A0 := A.beg
  rw [show (f_Ro_begin c) 13 1 = nI T from A.ct, show rh_up m 0 8 (0 : Int32) 1 (10 : Int32).toNatClampNeg = nI T from A.mt]
  refine RO.bind (A0.add (by omega) _) (fun c1 m1 A1 => ?_)
  rw [A1.ma', A1.mt']
  refine RO.bind (A1.load rd) ?_
  rintro ⟨x1, c2⟩ ⟨y1, m2, rd2⟩ ⟨e, A2⟩
  dsimp only at e A2 ⊢
  subst e
  refine RO.bind (A2.add (by omega) _) (fun c3 m3 A3 => RO.bind (A3.add (by omega) _) (fun c4 m4 A4 => ?_))
  rw [A4.mt', A4.ct]
  exact RO.ret ⟨rfl, A4.t0⟩
theorem op_ring (h : RLt k n Pm B V c m) (hk : k ≤ 599) (rd : Option Nat) (p : Int32) : RO (f_La_ring c p) (f_Mo_ring m rd p) (FIN k n Pm B V) := by
  obtain ⟨T, a, q, A⟩ := h.la (by omega)
  have hT := A.T30
  have hn := A.n9
  unfold f_La_ring f_Mo_ring
  rw [in_wi]
  refine RO.ii Iff.rfl (fun _ => RO.ret ⟨rfl, A.fin⟩) (fun h1 => ?_)
  obtain ⟨v, -, hv, rfl⟩ := nI_rng (lo := 0) (hi := 99) (wi_1 h1).1 (wi_1 h1).2 (by omega) (by omega)
  refine RO.bl (ri_c A hv) ?_
  rintro ⟨t, c1⟩ ⟨rfl, e8⟩
  dsimp only at e8 ⊢
  unfold j_La_ring_60
  refine RO.bl (mk_c c1) (fun c2 hm => ?_)
  have c2f : ∀ o j, o ≠ 8 → o ≠ 15 → c2 o j = c o j := fun o j ho h15 => (hm.1 o j h15).trans (e8 o j ho)
  rw [c2f 13 1 (by omega) (by omega), A.ct, nI_add]
  obtain ⟨q0, g1, g2, g3, g4⟩ := A.1.2.2.2.2.2.2.1
  have g2 : c 13 6 = nI q0 := g2
  have g3 : m 0 24 = nI q0 := g3
  have g4 : ∀ j, j < q0 → SN k n (c 16 (11 * j)) (c 16 (11 * j + 1)) (fun i => c 16 (11 * j + 2 + i)) (fun i => m 10 (11 * j + i)) := g4
  have ec : (rh_up c2 13 1 (nI (T + v))) 16 = c 16 := funext (fun j => c2f 16 j (by omega) (by omega))
  by_cases h0 : v = 0
  · subst h0
    rw [if_pos (show nI 0 ≤ 0 by decide), if_pos (show nI 0 ≤ 0 by decide)]
    unfold j_Mo_ring_29
    refine RO.br (ri_m A rd (by omega) A.qm (fun _ => rfl) (fun _ => rfl)) ?_
    rintro ⟨t, m1, rd1⟩ ⟨rfl, en, e10⟩
    dsimp only at en e10 ⊢
    have A2 : RLa (k + 1) n Pm B V (T + 0) a q (rh_up c2 13 1 (nI (T + 0))) m1 := by
      refine A.deck (Nat.le_succ k) (by omega) (fun o j h8 h13 h14 h15 h16 => ?_) (fun o j hs h1 h10 h11 h12 h24 => en o j hs (fun z => absurd z h1)) (by have := A.Tk; omega) A.an rfl e10 ?_ ((en 1 9 rfl (by omega)).trans A.ma) (fun i hi => ?_) ⟨q0, g1, ?_, (en 0 24 rfl (by omega)).trans g3, fun j hj => ?_⟩
      · rw [up_f, if_neg (by omega)]; exact c2f o j h8 h15
      · exact (c2f 13 2 (by omega) (by omega)).trans A.ca
      · show c2 14 i = m1 1 i ∧ -4 ≤ (c2 14 i).toInt ∧ (c2 14 i).toInt ≤ 4 ∧ (n ≤ i → c2 14 i = 0)
        rw [c2f 14 i (by omega) (by omega), en 1 i rfl (by omega)]
        exact A.pl i hi
      · exact (c2f 13 6 (by omega) (by omega)).trans g2
      · rw [ec, show m1 10 = m 10 from funext (fun u => en 10 u rfl (by omega))]
        exact (g4 j hj).mono (Nat.le_succ k) (Nat.le_refl n)
    exact ri_tell A2 rd1 _
  · have hp : ¬ nI v ≤ 0 := fun z => by have := ple (i := 0) (b := v) z (by omega) (by omega); omega
    rw [if_neg hp, if_neg hp]
    refine RO.bl (rem_c (c := rh_up c2 13 1 (nI (T + v))) g1 ((c2f 13 6 (by omega) (by omega)).trans g2)) ?_
    rintro c3 ⟨x1, x2, x3⟩
    refine RO.br (rem_m (h := rh_up m 0 9 0) g1 g3) ?_
    rintro m0 ⟨z1, z2, z3⟩
    unfold j_Mo_ring_29
    have qm0 : QM n Pm B V m0 := A.qm.kept (z1 0 1 (by omega) (by omega)) (z1 0 2 (by omega) (by omega)) (fun k => z1 2 k (by omega) (by omega)) (z1 0 17 (by omega) (by omega)) (fun k => z1 7 k (by omega) (by omega))
    refine RO.br (ri_m A rd hv qm0 (fun i => z1 1 i (by omega) (by omega)) (fun i => z1 3 i (by omega) (by omega))) ?_
    rintro ⟨t, m1, rd1⟩ ⟨rfl, en, e10⟩
    dsimp only at en e10 ⊢
    have c3f : ∀ o j, o ≠ 8 → o ≠ 15 → o ≠ 16 → (o = 13 → j ≠ 1 ∧ j ≠ 6) → c3 o j = c o j := fun o j a1 a2 a3 a4 => by
      rw [x1 o j a3 (fun z => (a4 z).2), up_f, if_neg (fun z => (a4 z.1).1 z.2)]; exact c2f o j a1 a2
    have A2 : RLa (k + 1) n Pm B V (T + v) a q c3 m1 := by
      refine A.deck (Nat.le_succ k) (by omega) (fun o j h8 h13 h14 h15 h16 => c3f o j h8 h15 h16 (fun z => absurd z h13)) (fun o j hs h1 h10 h11 h12 h24 => (en o j hs (fun z => absurd z h1)).trans (z1 o j h10 h24)) (by have := A.Tk; omega) A.an ?_ e10 ?_ ?_ (fun i hi => ?_) ?_
      · exact x1 13 1 (by omega) (by omega)
      · exact (c3f 13 2 (by omega) (by omega) (by omega) (by omega)).trans A.ca
      · exact (en 1 9 rfl (by omega)).trans ((z1 1 9 (by omega) (by omega)).trans A.ma)
      · rw [c3f 14 i (by omega) (by omega) (by omega) (by omega), en 1 i rfl (by omega), z1 1 i (by omega) (by omega)]
        exact A.pl i hi
      · have ey : m1 10 = m0 10 := funext (fun j => en 10 j rfl (by omega))
        refine RPast.push (k := k) (n := n) (c := rh_up c2 13 1 (nI (T + v))) (m := rh_up m 0 9 0) (s := rh_up c2 13 1 (nI (T + v)) 15) (t := rh_up m 0 9 0 1) g1 (by rw [ec]; exact g4) (Nat.le_succ k) ⟨⟨T, A.Tk, ?_, A.mt⟩, ⟨a, A.an, ?_, A.ma⟩, fun i hi => ?_⟩ x2 ((en 0 24 rfl (by omega)).trans z2) x3 (by rw [ey]; exact z3)
        · show c2 15 0 = _
          exact hm.2.1.trans ((e8 13 1 (by omega)).trans A.ct)
        · show c2 15 1 = _
          exact hm.2.2.1.trans ((e8 13 2 (by omega)).trans A.ca)
        · show c2 15 (2 + i) = m 1 i ∧ -4 ≤ (c2 15 (2 + i)).toInt ∧ (c2 15 (2 + i)).toInt ≤ 4 ∧ (n ≤ i → c2 15 (2 + i) = 0)
          rw [hm.2.2.2 i hi, e8 14 i (by omega)]
          exact A.pl i hi
    exact ri_tell A2 rd1 _
theorem op_count (h : RLt k n Pm B V c m) (hk : k ≤ 600) (rd : Option Nat) (p : Int32) : RO (f_La_count c p) (f_Mo_count m rd p) (FIN k n Pm B V) := by
  obtain ⟨T, a, q, A⟩ := h.la hk
  have hT := A.T30
  have e1 : c 4 0 = m 0 1 := A.cn.trans A.mn.symm
  have e2 : rh_up m 0 9 0 1 (10 : Int32).toNatClampNeg = c 13 1 := A.mt.trans A.ct.symm
  have e3 : rh_up m 0 9 0 1 (9 : Int32).toNatClampNeg = c 13 2 := A.ma.trans A.ca.symm
  have e4 : c 25 0 = m 0 29 := by obtain ⟨r, lo, hi, tk⟩ := A.tk; exact tk.2.1.trans tk.2.2.1.symm
  have e5 : c 34 1 = m 0 39 := by obtain ⟨r, st, wt, sm, sc⟩ := A.scl; exact sc.2.1.trans sc.2.2.1.symm
  have e6 : c 13 6 = m 0 24 := by
    obtain ⟨q0, g1, g2, g3, g4⟩ := A.1.2.2.2.2.2.2.1
    exact (show c 13 6 = nI q0 from g2).trans (show m 0 24 = nI q0 from g3).symm
  have e7 : c 2 1 = m 0 8 := A.cq.trans A.mq.symm
  have e8 : c 0 1 = m 0 6 := by
    obtain ⟨⟨t, ht, h1, h2, h3⟩, -⟩ := A.1
    exact (show c 0 1 = nI t from h1).trans (show m 0 6 = nI t from h2).symm
  unfold f_La_count f_Mo_count
  rw [e2, e3, ← e1, ← e4, ← e5, ← e6, ← e7, ← e8]
  have bb : ∀ j, j < 3 → p = nI (11 + j) → RO (rh_g (0 ≤ (p - (11 : Int32)).toInt ∧ (p - (11 : Int32)).toInt < ((3 : Nat) : Int)) (some ((c 40 (p - (11 : Int32)).toNatClampNeg, c)))) (rh_g (0 ≤ (p - (11 : Int32)).toInt ∧ (p - (11 : Int32)).toInt < ((3 : Nat) : Int)) (some (((rh_up m 0 9 (0 : Int32)) 3 (p - (11 : Int32)).toNatClampNeg, rh_up m 0 9 (0 : Int32), rd)))) (FIN k n Pm B V) := by
    rintro j hj rfl
    rw [show nI (11 + j) - 11 = nI j by rw [show nI (11 + j) - 11 = nI (11 + j - 11) from pk_sub (b := 11) (by omega), show 11 + j - 11 = j by omega]]
    have g := gd_nI (i := j) (N := 3) hj (by omega)
    refine RO.gl g (RO.gr g (RO.ret ⟨?_, A.fin⟩))
    show c 40 (nI j).toNatClampNeg = m 3 (nI j).toNatClampNeg
    rw [nI_clamp (by omega)]
    obtain ⟨v, -, h1, h2⟩ := A.bear j hj
    exact h1.trans (show m 3 j = nI v from h2).symm
  have st : ∀ x : Int32, RO (some (x, c)) (some (x, rh_up m 0 9 0, rd)) (FIN k n Pm B V) := fun x => RO.ret ⟨rfl, A.fin⟩
  refine RO.ii Iff.rfl (fun _ => st _) (fun _ => RO.ii Iff.rfl (fun _ => st _) (fun _ => RO.ii Iff.rfl (fun _ => st _) (fun _ => RO.ii Iff.rfl (fun _ => st _) (fun _ => RO.ii Iff.rfl (fun _ => st _) (fun _ => RO.ii Iff.rfl (fun _ => ?_) (fun _ => RO.ii Iff.rfl (fun _ => st _) (fun _ => RO.ii Iff.rfl (fun _ => st _) (fun _ => RO.ii Iff.rfl (fun _ => st _) (fun _ => RO.ii Iff.rfl (fun _ => st _) (fun _ => RO.ii Iff.rfl (fun _ => st _) (fun _ => RO.ii Iff.rfl (fun z => bb 0 (by omega) (ofI (by omega))) (fun _ => RO.ii Iff.rfl (fun z => bb 1 (by omega) (ofI (by omega))) (fun _ => RO.ii Iff.rfl (fun z => bb 2 (by omega) (ofI (by omega))) (fun _ => st _))))))))))))))
  rw [A.ca, A.ct]
  exact RO.bind (A.load rd) (fun x y h => RO.ret ⟨h.1, h.2.fin⟩)
def rwOK (c : HI) (p : Int32) : Prop := ¬ p < 0 ∧ p < c 2 1
theorem op_row (h : RLt k n Pm B V c m) (hk : k ≤ 600) (p : Int32) : (¬ rwOK c p ∧ OK (f_Mo_row m p) (fun y => y.2 0 9 = 1 ∧ RLt (k + 1) n Pm B V c y.2)) ∨ (rwOK c p ∧ ∃ r m', f_La_row c p = some r ∧ f_Mo_row m p = some (r, m') ∧ m' 0 9 = 0 ∧ RLt (k + 1) n Pm B V c m') := by
  obtain ⟨T, a, q, A⟩ := h.la hk
  have hq := A.rowN
  have mq : m 0 8 = nI q := A.mq
  unfold rwOK f_La_row f_Mo_row
  rw [A.cq, in_wi, mq]
  by_cases h1 : p < 0
  · refine Or.inl ⟨fun z => z.1 h1, ?_⟩
    rw [if_pos (show f_La_within p 0 (nI q - 1) = 0 by unfold f_La_within; rw [if_pos h1])]
    exact OK.ret ⟨rfl, A.lost⟩
  · by_cases h2 : p < nI q
    · refine Or.inr ⟨⟨h1, h2⟩, ?_⟩
      have hq1 : 0 < q := by
        rcases Nat.eq_zero_or_pos q with z | z
        · subst z; exact absurd h2 h1
        · exact z
      have eq1 : nI q - 1 = nI (q - 1) := pk_sub (b := 1) hq1
      have h3 : ¬ nI (q - 1) < p := by
        rw [fa_lt, nI_toInt (by omega)] at h2 ⊢
        omega
      obtain ⟨i, -, hi, rfl⟩ := nI_rng (lo := 0) (hi := q - 1) h1 h3 (by omega) (by omega)
      rw [if_neg h1, if_pos h2, rg_t (gd_nI (i := i) (N := 11) (by omega) (by omega)), eq1, if_neg (show ¬ f_La_within (nI i) 0 (nI (q - 1)) = 0 by unfold f_La_within; rw [if_neg h1, if_neg h3]; decide), rg_t (gd_nI (i := i) (N := 16) (by omega) (by omega)), nI_clamp (by omega)]
      exact ⟨c 3 i, _, rfl, by rw [show rh_up m 0 9 0 5 i = c 3 i from (A.rw1 i (by omega)).symm], rfl, A.fin⟩
    · refine Or.inl ⟨fun z => h2 z.2, ?_⟩
      have h3 : nI q - 1 < p := by
        have : (nI q - 1).toInt = (q : Int) - 1 := subN (a := q) (b := 1) (by omega) (by omega)
        rw [fa_lt, this]
        rw [fa_lt, nI_toInt (by omega)] at h2
        omega
      rw [if_pos (show f_La_within p 0 (nI q - 1) = 0 by unfold f_La_within; rw [if_neg h1, if_pos h3])]
      exact OK.ret ⟨rfl, A.lost⟩
end RING
