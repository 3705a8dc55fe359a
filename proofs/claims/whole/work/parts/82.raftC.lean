/-! steady: the reference, back from the last bell -/
theorem l_add {x y : Nat} (hx : x < 2 ^ 61) (hy : y < 2 ^ 61) : lN x + lN y = lN (x + y) := by
  apply Int64.toInt_inj.mp
  rw [fb_addL, lLt (by omega), lLt (by omega), lLt (by omega)]
  · omega
  · rw [lLt (by omega), lLt (by omega)]; omega
  · rw [lLt (by omega), lLt (by omega)]; omega
/-- a list of the reference with its numbers -/
def MVL (a n : Nat) (X0 : CFG) (k : Nat) (P : CFG → Prop) (R : CFG → Nat) (m : HI) (g : Nat → Nat → Int64) : Prop := ∃ cnt D lf, cnt ≤ 500 ∧ m 21 k = nI cnt ∧ MLS n k cnt D lf g ∧ (∀ j, j < cnt → VX a n X0 (D j)) ∧ SRT n cnt D ∧ SETL cnt D P ∧ ∀ j, j < cnt → lf j = R (D j)
section RMC
variable {a n bt : Nat} {w : Nat → Nat} {X0 X : CFG} {m : HI} {g : Nat → Nat → Int64} {P : CFG → Prop} {R : CFG → Nat}
theorem MVL.fr {k : Nat} {m' : HI} {g' : Nat → Nat → Int64} (h : MVL a n X0 k P R m g) (e1 : m' 21 k = m 21 k) (e2 : ∀ j, j < 500 → g' 20 (500 * k + j) = g 20 (500 * k + j)) : MVL a n X0 k P R m' g' := by
  obtain ⟨cnt, D, lf, h1, h2, h3, h4⟩ := h
  exact ⟨cnt, D, lf, h1, e1.trans h2, fun j hj => ⟨(e2 j (by omega)).trans (h3 j hj).1, (h3 j hj).2⟩, h4⟩
theorem sb_28 (hn : n ≤ 9) {k : Nat} (hk : k ≤ 20) (hL : MVL a n X0 k P R m g) {mv : Nat} (hm : mv ≤ 18) (o : Option CFG) (ho : ∀ Y, o = some Y → P Y) : OK (j_Mo_stepsBy_28 m g (nI k) (nI mv) (mvR n o)) (fun x => x = nI (OVn R o (cst mv))) := by
  obtain ⟨cnt, D, lf, h1, h2, h3, h4, h5, h6, h7⟩ := hL
  unfold j_Mo_stepsBy_28
  cases o with
  | none =>
    rw [if_pos (show mvR n none = (-1 : Int32) from rfl)]
    exact OK.ret rfl
  | some Y =>
    obtain ⟨j, hj, e⟩ := (h6.2 Y).mpr (ho Y rfl)
    have hY : VX a n X0 Y := by rw [← e]; exact h4 j hj
    have hcy := cd_lt hn hY.1
    rw [if_neg (show ¬ mvR n (some Y) = (-1 : Int32) from nI_ne1 (by omega)), show mvR n (some Y) = nI (hrn Y n) from rfl]
    refine OK.bind (fi_m hn hk h1 h2 h3 h4 hY h5) ?_
    rintro x (⟨j', hj', e', rfl⟩ | ⟨hno, _⟩)
    · have hl := (h3 j' hj').2
      rw [(wo_m hk (j := j') (by omega) (by rw [e']; exact hcy) hl (h3 j' hj').1).2, Option.bind_some, Int32.add_zero, nI_1]
      have hR : lf j' = R Y := by rw [h7 j' hj', e']
      show OK _ (fun x => x = nI (min 99 (R Y + cst mv)))
      rw [← hR]
      by_cases h18 : mv = 18
      · rw [if_pos (show nI mv = 18 by rw [h18]; rfl)]
        refine OK.ret ?_
        have := mn_I (x := lf j') (y := 99) (by omega) (by omega)
        rw [show (if nI (lf j') < 99 then nI (lf j') else 99) = nI (min (lf j') 99) from this, show cst mv = 0 from if_pos h18]
        congr 1; omega
      · rw [if_neg (show ¬ nI mv = 18 from neI (s := 18) (by omega) (by omega) h18)]
        refine OK.ret ?_
        have := mn_I (x := lf j' + 1) (y := 99) (by omega) (by omega)
        rw [show (if nI (lf j' + 1) < 99 then nI (lf j' + 1) else 99) = nI (min (lf j' + 1) 99) from this, show cst mv = 1 from if_neg h18]
        congr 1; omega
    · exact absurd e (hno j hj)
theorem sb_m (hn : n ≤ 9) (ha : a < 2 ^ n) (hw : ∀ i, i < n → w i ≤ 9999) (hbt : bt ≤ 9999) (hX : VX a n X0 X) (sm : SMX a n bt w m) (sd : STD n X m) {k : Nat} (hk : k ≤ 20) (hL : MVL a n X0 k P R m g) {l : Int32} (hl : l.toInt = LEz a n w X) {mv : Nat} (hm : mv ≤ 18) (ho : ∀ Y, MT a n bt w X mv = some Y → P Y) : OK (f_Mo_stepsBy m g (nI k) (nI (hrn X n)) (nI mv) l) (fun x => x = nI (SBf a n bt w R X mv)) := by
  have go : (mv / 2 < n ∨ mv = 18) → OK (j_Mo_stepsBy_16 m g (nI k) (nI (hrn X n)) (nI mv) l) (fun x => x = nI (SBf a n bt w R X mv)) := fun hlt => by
    unfold j_Mo_stepsBy_16
    refine OK.bind (st_m hn ha hX.1 hw hbt sm sd hl hm hlt) ?_
    rintro x rfl
    rw [SBf_ov]
    exact sb_28 hn hk hL hm _ ho
  unfold f_Mo_stepsBy
  rw [sm.1, show nI mv / 2 = nI (mv / 2) from pk_div (d := 2) (by omega) (by omega) (by omega)]
  by_cases h1 : mv / 2 < n
  · rw [if_pos (ltI (by omega) h1)]
    exact go (Or.inl h1)
  · rw [if_neg (nltI (by omega) h1)]
    by_cases h18 : mv = 18
    · rw [if_pos (show nI mv = 18 by rw [h18]; rfl)]
      exact go (Or.inr h18)
    · rw [if_neg (show ¬ nI mv = 18 from neI (s := 18) (by omega) (by omega) h18)]
      have := sb_28 hn hk hL hm none (fun Y z => nomatch z)
      rw [SBf_ov, MT_no h18 (fun z => h1 z.1)]
      exact this
end RMC
section RMC2
variable {a n bt b d : Nat} {w : Nat → Nat → Nat} {X0 X : CFG} {m : HI} {g : Nat → Nat → Int64}
theorem s59_b (u2 u3 u4 u5 v i : Int32) (h : HI) (g : Nat → Nat → Int64) (rd : Option Nat) : b_Mo_findSteps_59 u2 u3 u4 u5 h g rd (v, i) = if (18 : Int32) < i then some (.inr v) else if (f_Mo_isTipping h u5) = 0 then (f_Mo_stepsBy h g u2 u4 i u5).bind (fun x13 => some (.inl ((if x13 < v then x13 else v), i + (1 : Int32)))) else some (.inr v) := rfl
theorem s59_m (hn : n ≤ 9) (ha : a < 2 ^ n) (hb : b < 20) (hw : ∀ i, i < n → w (b + 1) i ≤ 9999) (hbt : bt ≤ 9999) (hX : VX a n X0 X) (hLX : LYS a n bt w X0 b X) (sm : SMX a n bt (w (b + 1)) m) (sd : STD n X m) (hL : MVL a n X0 (b + 1) (LYS a n bt w X0 (b + 1)) (DD a n bt w d (b + 1)) m g) {l : Int32} (hl : l.toInt = LEz a n (w (b + 1)) X) (u3 : Int32) (rd : Option Nat) : OK (rh_loop (b_Mo_findSteps_59 (nI (b + 1)) u3 (nI (hrn X n)) l m g rd) rh_N ((99 : Int32), (0 : Int32))) (fun x => x = nI (DD a n bt w (d + 1) b X)) := by
  have hbd := LE_bd (a := a) hn hX.1 hw
  by_cases hbr : BR bt (LEz a n (w (b + 1)) X) = true
  · rw [DD_eq hbr]
    refine OK.loop _ (fun i s => i ≤ 19 ∧ s.2 = nI i ∧ s.1 = nI (mnm (SBf a n bt (w (b + 1)) (DD a n bt w d (b + 1)) X) i)) _ 19 (by omega) ?_ ⟨by omega, rfl, rfl⟩
    rintro i ⟨v, z⟩ - ⟨hi, rfl, rfl⟩
    rw [s59_b, ti_m sm.2.2.1 hbt hl (by omega) (by omega), if_pos hbr, if_pos (show (0 : Int32) = 0 from rfl)]
    refine OK.ite (fun hc => OK.ret ?_) (fun hc => ?_)
    · have := (nI_ltI (a := 18) (b := i) (by omega) (by omega)).mp hc
      have : i = 19 := by omega
      subst this; exact rfl
    have hi2 : i ≤ 18 := nlt (b := 18) hc (by omega) (by omega)
    refine OK.bind (sb_m hn ha hw hbt hX sm sd (k := b + 1) (by omega) hL hl hi2 (fun Y e => ⟨X, i, hLX, hbr, hi2, e⟩)) ?_
    rintro x rfl
    have h1 := mnm_99 (f := SBf a n bt (w (b + 1)) (DD a n bt w d (b + 1)) X) i
    have h2 := SBf_99 (a := a) (n := n) (bt := bt) (w := w (b + 1)) (R := DD a n bt w d (b + 1)) (X := X) (mv := i)
    rw [mn_I (by omega) (by omega)]
    refine OK.ret ⟨by omega, by omega, nI_1 i, ?_⟩
    show nI _ = nI _
    congr 1
    exact Nat.min_comm _ _
  · rw [st_e (r := (99 : Int32)) ?_ (by unfold rh_N; omega)]
    · refine OK.ret ?_
      rw [show DD a n bt w (d + 1) b X = 99 by unfold DD; rw [if_neg hbr]]; rfl
    · rw [s59_b, ti_m sm.2.2.1 hbt hl (by omega) (by omega), if_neg hbr, if_neg (show ¬ (18 : Int32) < 0 by decide), if_neg (show ¬ (1 : Int32) = 0 by decide)]
theorem s14_b (u2 v : Int32) (h : HI) (g : Nat → Nat → Int64) (rd : Option Nat) : b_Mo_findSteps_14 u2 rd (v, h, g) = rh_g (0 ≤ (u2 - (1 : Int32)).toInt ∧ (u2 - (1 : Int32)).toInt < ((21 : Nat) : Int)) (if (h 21 (u2 - (1 : Int32)).toNatClampNeg) ≤ v then some (.inr (h, g)) else (f_Mo_wayOf g (u2 - (1 : Int32)) v).bind (fun x7 => (f_Mo_layCode_22 h x7).bind (fun x8 => (f_Mo_leanStood x8).bind (fun x9 => (rh_loop (b_Mo_findSteps_59 u2 v x7 x9 x8 g rd) rh_N ((99 : Int32), (0 : Int32))).bind (fun r14 => rh_g (0 ≤ (((500 : Int32) * (u2 - (1 : Int32))) + v).toInt ∧ (((500 : Int32) * (u2 - (1 : Int32))) + v).toInt < ((10500 : Nat) : Int)) (some (.inl (v + (1 : Int32), x8, rh_up g 20 (((500 : Int32) * (u2 - (1 : Int32))) + v).toNatClampNeg (((100 : Int64) * x7.toInt64) + r14.toInt64)))))))))  := rfl
theorem s14_m (hn : n ≤ 9) (ha : a < 2 ^ n) (hb : b < 20) (hd : d < 20) (hw : ∀ i, i < n → w (b + 1) i ≤ 9999) (hbt : bt ≤ 9999) (sm : SMX a n bt (w (b + 1)) m) (hL : MVL a n X0 (b + 1) (LYS a n bt w X0 (b + 1)) (DD a n bt w d (b + 1)) m g) (hB : BLM a n X0 b (LYS a n bt w X0 b) m g) (rd : Option Nat) : OK (rh_loop (b_Mo_findSteps_14 (nI (b + 1)) rd) rh_N ((0 : Int32), m, g)) (fun x => (∀ o j, o ≠ 22 → x.1 o j = m o j) ∧ FMk b g x.2 ∧ MVL a n X0 b (LYS a n bt w X0 b) (DD a n bt w (d + 1) b) x.1 x.2) := by
  obtain ⟨cnt, D, p1, p2, p3, p4, p5, p6⟩ := hB
  have h99 : ∀ X, DD a n bt w (d + 1) b X ≤ 99 := fun X => by
    have := DD_bd (a := a) (n := n) (bt := bt) (w := w) (d + 1) b X; omega
  refine OK.loop _ (fun i s => i ≤ cnt ∧ s.1 = nI i ∧ (∀ o j, o ≠ 22 → s.2.1 o j = m o j) ∧ FMk b g s.2.2 ∧ MLS n b cnt D (fun j => if j < i then DD a n bt w (d + 1) b (D j) else 0) s.2.2) _ cnt (by omega) ?_ ⟨by omega, rfl, fun _ _ _ => rfl, fun _ _ => rfl, fun j hj => by dsimp only; rw [if_neg (by omega)]; exact p3 j hj⟩
  rintro i ⟨v, h, g'⟩ - ⟨hi, rfl, hE, hF, hM⟩
  dsimp only at hE hF hM
  rw [s14_b, dn1, nI_clamp (by omega), hE 21 b (by omega), p2]
  refine OK.g (gd_nI (by omega) (by omega)) (OK.ite (fun hc => OK.ret ?_) (fun hc => ?_))
  · have : i = cnt := by have := ple hc (by omega) (by omega); omega
    subst this
    exact ⟨hE, hF, i, D, _, p1, (hE 21 b (by omega)).trans p2, hM, p4, p5, p6, fun j hj => if_pos hj⟩
  have hi2 : i < cnt := nle hc (by omega) (by omega)
  have hDi := p4 i hi2
  have hcd := cd_lt hn hDi.1
  have hMi := (hM i hi2).1
  dsimp only at hMi
  rw [if_neg (by omega)] at hMi
  rw [(wo_m (k := b) (j := i) (l := 0) (by omega) (by omega) hcd (by omega) hMi).1, Option.bind_some]
  refine OK.bind (lc_m hn ((hE 0 1 (by omega)).trans sm.1) hDi.1) ?_
  rintro h2 ⟨hE2, sd⟩
  have hE3 : ∀ o j, o ≠ 22 → h2 o j = m o j := fun o j ho => (hE2 o j ho).trans (hE o j ho)
  have sm2 : SMX a n bt (w (b + 1)) h2 := ⟨(hE3 0 1 (by omega)).trans sm.1, (hE3 1 9 (by omega)).trans sm.2.1, (hE3 3 1 (by omega)).trans sm.2.2.1, fun i hi => (hE3 8 i (by omega)).trans (sm.2.2.2 i hi)⟩
  refine OK.bind (ls_m hn ha hDi.1 hw sm2 sd) (fun l hl => ?_)
  refine OK.bind (s59_m hn ha hb hw hbt hDi ((p6.2 _).mp ⟨i, hi2, rfl⟩) sm2 sd (hL.fr (hE3 21 _ (by omega)) (fun j hj => hF _ (by omega))) hl (nI i) rd) ?_
  rintro x rfl
  have h9 := h99 (D i)
  rw [l_100 (by omega), l_64 (by omega), l_add (by omega) (by omega), show (500 : Int32) * nI b = nI (500 * b) from pk_mul 500 b, nI_add, nI_clamp (by omega), nI_1]
  refine OK.g (gd_nI (by omega) (by omega)) (OK.ret ⟨hi2, hi2, rfl, hE3, fun j hj => ?_, fun j hj => ?_⟩)
  · show rh_up g' 20 (500 * b + i) _ 20 j = _
    rw [gup _ _ _ _ (by omega)]; exact hF j hj
  · show rh_up g' 20 (500 * b + i) (lN (100 * hrn (D i) n + DD a n bt w (d + 1) b (D i))) 20 (500 * b + j) = lN (100 * hrn (D j) n + (if j < i + 1 then DD a n bt w (d + 1) b (D j) else 0)) ∧ (if j < i + 1 then DD a n bt w (d + 1) b (D j) else 0) < 100
    by_cases z : j = i
    · subst z
      rw [rh_up_s, if_pos (by omega)]
      exact ⟨rfl, by omega⟩
    · have hj2 := hM j hj
      dsimp only at hj2
      rw [gup _ _ _ _ (by omega)]
      by_cases y : j < i
      · rw [if_pos y] at hj2
        rw [if_pos (by omega)]; exact hj2
      · rw [if_neg y] at hj2
        rw [if_neg (by omega)]; exact hj2
end RMC2
section RMC3
variable {k n Pm : Nat} {B : Nat → Nat} {V : Nat → Nat → Nat → Nat} {T a q : Nat} {c m : HI} {bt : Nat} {g : Nat → Nat → Int64} {X0 : CFG}
theorem s2_b (v : Int32) (h : HI) (g : Nat → Nat → Int64) (rd : Option Nat) : b_Mo_findSteps_2 (v, h, g, rd) = if v < (1 : Int32) then some (.inr (h, g, rd)) else (f_Mo_findEach h rd v).bind (fun x3 => (rh_loop (b_Mo_findSteps_14 v x3.2) rh_N ((0 : Int32), x3.1, g)).bind (fun r16 => some (.inl (v + (-1 : Int32), r16.1, r16.2, x3.2)))) := rfl
theorem fst_m (A : RLa k n Pm B V T a q c m) (hb3 : m 3 1 = nI bt) (hbt : bt ≤ 9999) {N : Nat} (hN : N ≤ 20) (rd : Option Nat) (hB : ∀ b, b ≤ N → BLM a n X0 b (LYS a n bt (wB Pm B V T) X0 b) m g) : OK (f_Mo_findSteps m g rd (nI N)) (fun x => EQ1 m x.1 ∧ ∀ b, b ≤ N → MVL a n X0 b (LYS a n bt (wB Pm B V T) X0 b) (DD a n bt (wB Pm B V T) (N - b) b) x.1 x.2.1) := by
  have hn := A.n9
  have hT := A.T30
  have hw : ∀ b, b ≤ 20 → ∀ i, i < n → wB Pm B V T b i ≤ 9999 := fun b hb i hi => A.wle hi (by omega)
  unfold f_Mo_findSteps
  refine OK.bind (P := fun x => EQ1 m x.1 ∧ ∀ b, b ≤ N → MVL a n X0 b (LYS a n bt (wB Pm B V T) X0 b) (DD a n bt (wB Pm B V T) (N - b) b) x.1 x.2.1) (OK.loop _ (fun i s => i ≤ N ∧ s.1 = nI (N - i) ∧ EQ1 m s.2.1 ∧ (∀ b, b < N - i → BLM a n X0 b (LYS a n bt (wB Pm B V T) X0 b) s.2.1 s.2.2.1) ∧ ∀ b, N - i ≤ b → b ≤ N → MVL a n X0 b (LYS a n bt (wB Pm B V T) X0 b) (DD a n bt (wB Pm B V T) (N - b) b) s.2.1 s.2.2.1) _ N (by omega) ?_ ⟨by omega, rfl, EQ1.rf, fun b hb => hB b (by omega), fun b h1 h2 => ?_⟩) (fun x hx => OK.ret hx)
  · rintro i ⟨v, h, g', rd⟩ - ⟨hi, rfl, hE, hL, hV⟩
    dsimp only at hE hL hV
    have A' := A.r hE.x
    rw [s2_b]
    refine OK.ite (fun hc => OK.ret ?_) (fun hc => ?_)
    · have := (nI_ltI (a := N - i) (b := 1) (by omega) (by omega)).mp hc
      exact ⟨hE, fun b hb => hV b (by omega) hb⟩
    have hi2 : i < N := by
      have := nlt (b := N - i) (i := 1) hc (by omega) (by omega)
      omega
    obtain ⟨b, hb⟩ : ∃ b, N - i = b + 1 := ⟨N - i - 1, by omega⟩
    rw [hb] at hL hV ⊢
    refine OK.bind (fe_m A' rd (b := b + 1) (by omega)) ?_
    rintro ⟨h2, rd2⟩ ⟨f2, h8⟩
    dsimp only at f2 h8 ⊢
    have hE2 : EQ1 h h2 := fun o j h1 h2' h3 h4 => f2 o j h1 h2'
    have A2 := A'.r hE2.x
    have sm : SMX a n bt (wB Pm B V T (b + 1)) h2 := ⟨A2.mn, A2.ma, ((hE.tr hE2) 3 1 rfl (by omega) (by omega) (by omega)).trans hb3, h8⟩
    refine OK.bind (s14_m (d := N - (b + 1)) hn A.an (by omega) (by omega) (hw (b + 1) (by omega)) hbt sm ((hV (b + 1) (by omega) (by omega)).fr (f2 21 _ rfl (by omega)) (fun j _ => rfl)) ((hL b (by omega)).fr (f2 21 _ rfl (by omega)) (fun j _ => rfl)) rd2) ?_
    rintro ⟨h3, g3⟩ ⟨e1, e2, e3⟩
    dsimp only at e1 e2 e3 ⊢
    refine OK.ret ⟨hi2, hi2, ?_, (hE.tr hE2).tr (fun o j h1 h2 h3 h4 => e1 o j h4), fun b' hb' => ?_, fun b' hb1 hb2 => ?_⟩
    · show nI (b + 1) + (-1 : Int32) = _
      rw [nI_m1]
      congr 1; omega
    · exact (hL b' (by omega)).fr ((e1 21 _ (by omega)).trans (f2 21 _ rfl (by omega))) (fun j hj => e2 _ (by omega))
    · by_cases z : b' = b
      · subst z
        rw [show N - b' = N - (b' + 1) + 1 by omega]
        exact e3
      · exact (hV b' (by omega) hb2).fr ((e1 21 _ (by omega)).trans (f2 21 _ rfl (by omega))) (fun j hj => e2 _ (by omega))
  · have : b = N := by omega
    subst this
    obtain ⟨cnt, D, p1, p2, p3, p4, p5, p6⟩ := hB b (Nat.le_refl _)
    refine ⟨cnt, D, _, p1, p2, p3, p4, p5, p6, fun j hj => ?_⟩
    rw [Nat.sub_self]; rfl
end RMC3
