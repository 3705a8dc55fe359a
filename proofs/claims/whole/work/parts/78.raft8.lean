/-! steady: the reference goes bell by bell -/
def EQ1 (h h' : HI) : Prop := ∀ o j, sM o j = false → o ≠ 8 → o ≠ 21 → o ≠ 22 → h' o j = h o j
theorem EQ1.rf {h : HI} : EQ1 h h := fun _ _ _ _ _ _ => rfl
theorem EQ1.tr {x y z : HI} (h : EQ1 x y) (g : EQ1 y z) : EQ1 x z := fun o j h1 h2 h3 h4 => (g o j h1 h2 h3 h4).trans (h o j h1 h2 h3 h4)
theorem EQ1.x {h h' : HI} (e : EQ1 h h') : XM h h' := fun o k q => by
  have no : ∀ z, pM z k = false → z ≠ 5 → z ≠ 0 → o ≠ z := fun z z1 z2 z3 w => by
    rw [w] at q
    rcases q with q | q | q
    · rw [z1] at q; cases q
    · exact z2 q
    · exact z3 q.1
  exact e o k (sM_no q) (no 8 rfl (by omega) (by omega)) (no 21 rfl (by omega) (by omega)) (no 22 rfl (by omega) (by omega))
section RM8
variable {k n Pm : Nat} {B : Nat → Nat} {V : Nat → Nat → Nat → Nat} {T a q : Nat} {c m : HI} {bt : Nat} {g : Nat → Nat → Int64} {X0 X : CFG}
theorem co_b (v i : Int32) (h : HI) : b_Mo_codeOf_1_4 h (v, i) = if (h 0 1) ≤ i then some (.inr v) else rh_g (0 ≤ i.toInt ∧ i.toInt < ((11 : Nat) : Int)) (some (.inl ((((9 : Int32) * v) + (h 1 i.toNatClampNeg)) + (4 : Int32), i + (1 : Int32)))) := rfl
theorem co_m (A : RLa k n Pm B V T a q c m) : OK (f_Mo_codeOf_1 m) (fun x => x = nI (hrn (X0f c) n)) := by
  have hn := A.n9
  unfold f_Mo_codeOf_1
  refine OK.bind (P := fun x => x = nI (hrn (X0f c) n)) (OK.loop _ (fun i s => i ≤ n ∧ s.2 = nI i ∧ s.1 = nI (hrn (X0f c) i)) _ n (by omega) ?_ ⟨by omega, rfl, rfl⟩) (fun x hx => OK.ret hx)
  rintro i ⟨v, z⟩ - ⟨hi, rfl, rfl⟩
  rw [co_b, A.mn]
  refine OK.ite (fun hc => OK.ret ?_) (fun hc => ?_)
  · have : i = n := by have := ple hc (by omega) (by omega); omega
    subst this; rfl
  have hi2 : i < n := nle hc (by omega) (by omega)
  rw [nI_clamp (by omega), nI_1, show (9 : Int32) * nI (hrn (X0f c) i) = nI (9 * hrn (X0f c) i) from pk_mul 9 _, Int32.add_assoc, ← (A.pl i (by omega)).1, X0_I A (by omega), nI_add]
  exact OK.g (gd_nI (by omega) (by omega)) (OK.ret ⟨hi2, hi2, rfl, rfl⟩)
theorem fe_b (u1 v : Int32) (h : HI) (rd : Option Nat) : b_Mo_findEach_2 u1 (v, h, rd) = if (h 0 1) ≤ v then some (.inr (h, rd)) else (f_Mo_weightOf h rd v ((h 1 (10 : Int32).toNatClampNeg) + u1)).bind (fun x3 => rh_g (0 ≤ v.toInt ∧ v.toInt < ((9 : Nat) : Int)) (some (.inl (v + (1 : Int32), rh_up x3.2.1 8 v.toNatClampNeg x3.1, x3.2.2)))) := rfl
theorem fe_m (A : RLa k n Pm B V T a q c m) (rd : Option Nat) {b : Nat} (hb : b ≤ 20) : OK (f_Mo_findEach m rd (nI b)) (fun x => (∀ o j, sM o j = false → o ≠ 8 → x.1 o j = m o j) ∧ ∀ i, i < n → x.1 8 i = nI (wB Pm B V T b i)) := by
  have hn := A.n9
  have hT := A.T30
  unfold f_Mo_findEach
  refine OK.bind (P := fun x => (∀ o j, sM o j = false → o ≠ 8 → x.1 o j = m o j) ∧ ∀ i, i < n → x.1 8 i = nI (wB Pm B V T b i)) (OK.loop _ (fun i s => i ≤ n ∧ s.1 = nI i ∧ (∀ o j, sM o j = false → o ≠ 8 → s.2.1 o j = m o j) ∧ ∀ j, j < i → s.2.1 8 j = nI (wB Pm B V T b j)) _ n (by omega) ?_ ⟨by omega, rfl, fun _ _ _ _ => rfl, fun j hj => by omega⟩) (fun x hx => OK.ret hx)
  rintro i ⟨v, h, rd⟩ - ⟨hi, rfl, hE, h8⟩
  dsimp only at hE h8
  have A' := A.r (show XM m h from (show EQ1 m h from fun o j h1 h2 _ _ => hE o j h1 h2).x)
  rw [fe_b, A'.mn]
  refine OK.ite (fun hc => OK.ret ?_) (fun hc => ?_)
  · have : i = n := by have := ple hc (by omega) (by omega); omega
    subst this; exact ⟨hE, h8⟩
  have hi2 : i < n := nle hc (by omega) (by omega)
  rw [show h 1 (10 : Int32).toNatClampNeg = nI T from A'.mt, nI_add, nI_clamp (by omega)]
  obtain ⟨h', rd', e1, e2⟩ := wa_m A'.qm rd hi2 (t := T + b) (by omega)
  rw [e1, Option.bind_some]
  refine OK.g (gd_nI (by omega) (by omega)) (OK.ret ⟨hi2, hi2, nI_1 i, fun o j h1 h2 => ?_, fun j hj => ?_⟩)
  · show rh_up h' 8 i _ o j = _
    rw [up_f, if_neg (fun z => h2 z.1), e2 o j h1]; exact hE o j h1 h2
  · show rh_up h' 8 i (nI (Wt Pm B V i (T + b))) 8 j = _
    by_cases z : j = i
    · subst z; rw [rh_up_s]; rfl
    · rw [gup _ _ _ _ z, e2 8 j rfl]; exact h8 j (by omega)
/-- a bell as the reference keeps it -/
def MLY2 (a n : Nat) (X0 : CFG) (P : CFG → Prop) (b : Nat) (m : HI) (g : Nat → Nat → Int64) : Prop := BLM a n X0 b P m g
theorem BLM.fr {P : CFG → Prop} {b : Nat} {m' : HI} {g' : Nat → Nat → Int64} (h : BLM a n X0 b P m g) (e1 : m' 21 b = m 21 b) (e2 : ∀ j, j < 500 → g' 20 (500 * b + j) = g 20 (500 * b + j)) : BLM a n X0 b P m' g' := by
  obtain ⟨cnt, D, h1, h2, h3, h4, h5, h6⟩ := h
  exact ⟨cnt, D, h1, e1.trans h2, fun j hj => ⟨(e2 j (by omega)).trans (h3 j hj).1, (h3 j hj).2⟩, h4, h5, h6⟩
theorem w83_b (u1 u2 u3 u4 u5 v : Int32) (rd : Option Nat) (h : HI) (g : Nat → Nat → Int64) : b_Mo_findWays_83 u1 u2 u3 u4 u5 rd (v, h, g) = if (18 : Int32) < v then some (.inr (.inl (h, g))) else if (f_Mo_isTipping h u5) = 0 then (if (v / (2 : Int32)) < (h 0 1) then j_Mo_findWays_117 h g rd u1 u2 u3 u4 u5 v else if v = (18 : Int32) then j_Mo_findWays_117 h g rd u1 u2 u3 u4 u5 v else j_Mo_findWays_131 h g rd u1 u2 u3 u4 u5 v (-1 : Int32)) else some (.inr (.inl (h, g))) := rfl
theorem w83_m {w : Nat → Nat} (hn : n ≤ 9) (ha : a < 2 ^ n) (hw : ∀ i, i < n → w i ≤ 9999) (hbt : bt ≤ 9999) (hX : VX a n X0 X) (sm : SMX a n bt w m) (sd : STD n X m) {b : Nat} (hb : b ≤ 20) {P : CFG → Prop} (h : BLM a n X0 b P m g) {l : Int32} (hl : l.toInt = LEz a n w X) (u1 u3 : Int32) (rd : Option Nat) : OK (rh_loop (b_Mo_findWays_83 u1 (nI b) u3 (nI (hrn X n)) l rd) rh_N ((0 : Int32), m, g)) (fun x => Sum.elim (fun y => (∀ o j, (o = 21 → j ≠ b) → y.1 o j = m o j) ∧ FMk b g y.2 ∧ BLM a n X0 b (fun Y => P Y ∨ SUC a n bt w X Y) y.1 y.2) (fun y => (∀ o j, (o = 21 → j ≠ b) → y.2.1 o j = m o j) ∧ FMk b g y.2.2.1 ∧ y.1 = 0 ∧ ∀ Q : CFG → Prop, (∀ Y, P Y ∨ SUC a n bt w X Y → Q Y) → OVF Q) x) := by
  have hbd := LE_bd (a := a) hn hX.1 hw
  by_cases hbr : BR bt (LEz a n w X) = true
  · refine OK.loop _ (fun i s => i ≤ 19 ∧ s.1 = nI i ∧ (∀ o j, (o = 21 → j ≠ b) → s.2.1 o j = m o j) ∧ FMk b g s.2.2 ∧ BLM a n X0 b (fun Y => P Y ∨ ∃ mv, mv < i ∧ MT a n bt w X mv = some Y) s.2.1 s.2.2) _ 19 (by omega) ?_ ⟨by omega, rfl, fun _ _ _ => rfl, fun _ _ => rfl, h.iff (fun Y => ⟨Or.inl, fun z => z.elim id (fun ⟨mv, z, _⟩ => by omega)⟩)⟩
    rintro i ⟨v, h2, g2⟩ - ⟨hi, rfl, hE, hF, hB⟩
    dsimp only at hE hF hB
    have sm2 : SMX a n bt w h2 := ⟨(hE 0 1 (by omega)).trans sm.1, (hE 1 9 (by omega)).trans sm.2.1, (hE 3 1 (by omega)).trans sm.2.2.1, fun i hi => (hE 8 i (by omega)).trans (sm.2.2.2 i hi)⟩
    have sd2 : STD n X h2 := fun i hi => by rw [hE 22 i (by omega)]; exact sd i hi
    rw [w83_b, ti_m sm2.2.2.1 hbt hl (by omega) (by omega), if_pos hbr, if_pos (show (0 : Int32) = 0 from rfl)]
    refine OK.ite (fun hc => OK.ret ?_) (fun hc => ?_)
    · have := (nI_ltI (a := 18) (b := i) (by omega) (by omega)).mp hc
      have : i = 19 := by omega
      subst this
      refine ⟨hE, hF, hB.iff (fun Y => ⟨?_, ?_⟩)⟩
      · rintro (z | ⟨mv, z1, z2⟩)
        · exact Or.inl z
        · exact Or.inr ⟨hbr, mv, by omega, z2⟩
      · rintro (z | ⟨_, mv, z1, z2⟩)
        · exact Or.inl z
        · exact Or.inr ⟨mv, by omega, z2⟩
    have hi2 : i ≤ 18 := nlt (b := 18) hc (by omega) (by omega)
    have skip : MT a n bt w X i = none → (i < 19 ∧ i + 1 ≤ 19 ∧ nI i + 1 = nI (i + 1) ∧ (∀ o j, (o = 21 → j ≠ b) → h2 o j = m o j) ∧ FMk b g g2 ∧ BLM a n X0 b (fun Y => P Y ∨ ∃ mv, mv < i + 1 ∧ MT a n bt w X mv = some Y) h2 g2) := fun hno => by
      refine ⟨by omega, by omega, nI_1 i, hE, hF, hB.iff (fun Y => ⟨?_, ?_⟩)⟩
      · rintro (z | ⟨mv, z1, z2⟩)
        · exact Or.inl z
        · exact Or.inr ⟨mv, by omega, z2⟩
      · rintro (z | ⟨mv, z1, z2⟩)
        · exact Or.inl z
        · rcases (show mv < i ∨ mv = i by omega) with y | y
          · exact Or.inr ⟨mv, y, z2⟩
          · subst y; rw [hno] at z2; cases z2
    have go : (i / 2 < n ∨ i = 18) → OK (j_Mo_findWays_117 h2 g2 rd u1 (nI b) u3 (nI (hrn X n)) l (nI i)) (fun x => Sum.elim (fun s => i < 19 ∧ i + 1 ≤ 19 ∧ s.1 = nI (i + 1) ∧ (∀ o j, (o = 21 → j ≠ b) → s.2.1 o j = m o j) ∧ FMk b g s.2.2 ∧ BLM a n X0 b (fun Y => P Y ∨ ∃ mv, mv < i + 1 ∧ MT a n bt w X mv = some Y) s.2.1 s.2.2) (fun x => Sum.elim (fun y => (∀ o j, (o = 21 → j ≠ b) → y.1 o j = m o j) ∧ FMk b g y.2 ∧ BLM a n X0 b (fun Y => P Y ∨ SUC a n bt w X Y) y.1 y.2) (fun y => (∀ o j, (o = 21 → j ≠ b) → y.2.1 o j = m o j) ∧ FMk b g y.2.2.1 ∧ y.1 = 0 ∧ ∀ Q : CFG → Prop, (∀ Y, P Y ∨ SUC a n bt w X Y → Q Y) → OVF Q) x) x) := fun hlt => by
      unfold j_Mo_findWays_117
      refine OK.bind (st_m hn ha hX.1 hw hbt sm2 sd2 hl hi2 hlt) ?_
      rintro x rfl
      unfold j_Mo_findWays_131
      cases hmt : MT a n bt w X i with
      | none =>
        rw [if_pos (show mvR n none = (-1 : Int32) from rfl)]
        exact OK.ret (skip hmt)
      | some Y =>
        have hY := MT_VX hX hmt
        have hcy := cd_lt hn hY.1
        rw [if_neg (show ¬ mvR n (some Y) = (-1 : Int32) from nI_ne1 (by omega)), show mvR n (some Y) = nI (hrn Y n) from rfl]
        refine OK.bind (ad_m hn hb hB hY) ?_
        rintro ⟨v3, h3, g3⟩ ⟨hE3, hF3, hv⟩
        dsimp only at hE3 hF3 hv ⊢
        have hE4 : ∀ o j, (o = 21 → j ≠ b) → h3 o j = m o j := fun o j ho => (hE3 o j ho).trans (hE o j ho)
        have hF4 : FMk b g g3 := fun j hj => (hF3 j hj).trans (hF j hj)
        rcases hv with ⟨rfl, hB3⟩ | ⟨rfl, hO⟩
        · rw [if_neg (show ¬ (1 : Int32) = 0 by decide)]
          refine OK.ret ⟨by omega, by omega, nI_1 i, hE4, hF4, hB3.iff (fun Z => ⟨?_, ?_⟩)⟩
          · rintro ((z | ⟨mv, z1, z2⟩) | z)
            · exact Or.inl z
            · exact Or.inr ⟨mv, by omega, z2⟩
            · exact Or.inr ⟨i, by omega, by rw [z]; exact hmt⟩
          · rintro (z | ⟨mv, z1, z2⟩)
            · exact Or.inl (Or.inl z)
            · rcases (show mv < i ∨ mv = i by omega) with y | y
              · exact Or.inl (Or.inr ⟨mv, y, z2⟩)
              · subst y
                rw [hmt] at z2
                exact Or.inr (Option.some.inj z2).symm
        · rw [if_pos rfl]
          refine OK.ret ⟨hE4, hF4, rfl, fun Q hQ => hO Q (fun Z hZ => ?_)⟩
          rcases hZ with (z | ⟨mv, z1, z2⟩) | z
          · exact hQ Z (Or.inl z)
          · exact hQ Z (Or.inr ⟨hbr, mv, by omega, z2⟩)
          · exact hQ Z (Or.inr ⟨hbr, i, hi2, by rw [z]; exact hmt⟩)
    rw [sm2.1, show nI i / 2 = nI (i / 2) from pk_div (d := 2) (by omega) (by omega) (by omega)]
    by_cases h1 : i / 2 < n
    · rw [if_pos (ltI (by omega) h1)]
      exact go (Or.inl h1)
    · rw [if_neg (nltI (by omega) h1)]
      by_cases h18 : i = 18
      · rw [if_pos (show nI i = 18 by rw [h18]; rfl)]
        exact go (Or.inr h18)
      · rw [if_neg (show ¬ nI i = 18 from neI (s := 18) (by omega) (by omega) h18)]
        unfold j_Mo_findWays_131
        rw [if_pos rfl]
        exact OK.ret (skip (MT_no h18 (fun z => h1 z.1)))
  · obtain ⟨x, ex⟩ : ∃ x, x = b_Mo_findWays_83 u1 (nI b) u3 (nI (hrn X n)) l rd ((0 : Int32), m, g) := ⟨_, rfl⟩
    rw [st_e (r := .inl (m, g)) ?_ (by unfold rh_N; omega)]
    · exact OK.ret ⟨fun _ _ _ => rfl, fun _ _ => rfl, h.iff (fun Y => ⟨Or.inl, fun z => z.elim id (fun z => absurd z.1 hbr)⟩)⟩
    · rw [w83_b, ti_m sm.2.2.1 hbt hl (by omega) (by omega), if_neg hbr, if_neg (show ¬ (18 : Int32) < 0 by decide), if_neg (show ¬ (1 : Int32) = 0 by decide)]
theorem w42_b (u1 u2 v : Int32) (rd : Option Nat) (h : HI) (g : Nat → Nat → Int64) : b_Mo_findWays_42 u1 u2 rd (v, h, g) = rh_g (0 ≤ (u2 - (1 : Int32)).toInt ∧ (u2 - (1 : Int32)).toInt < ((21 : Nat) : Int)) (if (h 21 (u2 - (1 : Int32)).toNatClampNeg) ≤ v then some (.inr (.inl (h, g))) else (f_Mo_wayOf g (u2 - (1 : Int32)) v).bind (fun x10 => (f_Mo_layCode_22 h x10).bind (fun x11 => (f_Mo_leanStood x11).bind (fun x12 => (rh_loop (b_Mo_findWays_83 u1 u2 v x10 x12 rd) rh_N ((0 : Int32), x11, g)).bind (fun r22 => match r22 with | .inl e23 => some (.inl (v + (1 : Int32), e23.1, e23.2)) | .inr t24 => some (.inr (.inr t24))))))) := rfl
theorem w42_m {w : Nat → Nat} (hn : n ≤ 9) (ha : a < 2 ^ n) (hw : ∀ i, i < n → w i ≤ 9999) (hbt : bt ≤ 9999) (sm : SMX a n bt w m) {b : Nat} (hb : b < 20) {P : CFG → Prop} (hP : BLM a n X0 b P m g) (h21 : m 21 (b + 1) = nI 0) (u1 : Int32) (rd : Option Nat) : OK (rh_loop (b_Mo_findWays_42 u1 (nI (b + 1)) rd) rh_N ((0 : Int32), m, g)) (fun x => Sum.elim (fun y => (∀ o j, o ≠ 22 → (o = 21 → j ≠ b + 1) → y.1 o j = m o j) ∧ FMk (b + 1) g y.2 ∧ BLM a n X0 (b + 1) (fun Y => ∃ X, P X ∧ SUC a n bt w X Y) y.1 y.2) (fun y => (∀ o j, o ≠ 22 → (o = 21 → j ≠ b + 1) → y.2.1 o j = m o j) ∧ FMk (b + 1) g y.2.2.1 ∧ y.1 = 0 ∧ OVF (fun Y => ∃ X, P X ∧ SUC a n bt w X Y)) x) := by
  obtain ⟨cnt, D, p1, p2, p3, p4, p5, p6⟩ := hP
  have hPD : ∀ j, j < cnt → P (D j) := fun j hj => (p6.2 _).mp ⟨j, hj, rfl⟩
  refine OK.loop _ (fun i s => i ≤ cnt ∧ s.1 = nI i ∧ (∀ o j, o ≠ 22 → (o = 21 → j ≠ b + 1) → s.2.1 o j = m o j) ∧ FMk (b + 1) g s.2.2 ∧ BLM a n X0 (b + 1) (fun Y => ∃ j, j < i ∧ SUC a n bt w (D j) Y) s.2.1 s.2.2) _ cnt (by omega) ?_ ⟨by omega, rfl, fun _ _ _ _ => rfl, fun _ _ => rfl, 0, fun _ => X0, by omega, h21, fun j hj => by omega, fun j hj => by omega, fun i j _ hj => by omega, fun i j _ hj => by omega, fun X => ⟨fun ⟨j, hj, _⟩ => by omega, fun ⟨j, hj, _⟩ => by omega⟩⟩
  rintro i ⟨v, h, g'⟩ - ⟨hi, rfl, hE, hF, hB⟩
  dsimp only at hE hF hB
  rw [w42_b, dn1, nI_clamp (by omega), hE 21 b (by omega) (by omega), p2]
  refine OK.g (gd_nI (by omega) (by omega)) (OK.ite (fun hc => OK.ret ?_) (fun hc => ?_))
  · have : i = cnt := by have := ple hc (by omega) (by omega); omega
    subst this
    refine ⟨hE, hF, hB.iff (fun Y => ⟨fun ⟨j, hj, z⟩ => ⟨D j, hPD j hj, z⟩, fun ⟨X, z1, z2⟩ => ?_⟩)⟩
    obtain ⟨j, hj, e⟩ := (p6.2 X).mpr z1
    exact ⟨j, hj, by rw [e]; exact z2⟩
  have hi2 : i < cnt := nle hc (by omega) (by omega)
  have hDi := p4 i hi2
  rw [(wo_m (k := b) (j := i) (l := 0) (by omega) (by omega) (cd_lt hn hDi.1) (by omega) ((hF _ (by omega)).trans (p3 i hi2).1)).1, Option.bind_some]
  refine OK.bind (lc_m hn ((hE 0 1 (by omega) (by omega)).trans sm.1) hDi.1) ?_
  rintro h2 ⟨hE2, sd⟩
  have sm2 : SMX a n bt w h2 := ⟨(hE2 0 1 (by omega)).trans ((hE 0 1 (by omega) (by omega)).trans sm.1), (hE2 1 9 (by omega)).trans ((hE 1 9 (by omega) (by omega)).trans sm.2.1), (hE2 3 1 (by omega)).trans ((hE 3 1 (by omega) (by omega)).trans sm.2.2.1), fun i hi => (hE2 8 i (by omega)).trans ((hE 8 i (by omega) (by omega)).trans (sm.2.2.2 i hi))⟩
  refine OK.bind (ls_m hn ha hDi.1 hw sm2 sd) (fun l hl => ?_)
  refine OK.bind (w83_m hn ha hw hbt hDi sm2 sd (b := b + 1) (by omega) (hB.fr (hE2 21 (b + 1) (by omega)) (fun j _ => rfl)) hl u1 (nI i) rd) ?_
  intro x hx
  cases x with
  | inl y =>
    obtain ⟨e1, e2, e3⟩ := hx
    refine OK.ret ⟨hi2, hi2, nI_1 i, fun o j h1 h2 => (e1 o j h2).trans ((hE2 o j h1).trans (hE o j h1 h2)), fun j hj => (e2 j hj).trans (hF j hj), e3.iff (fun Y => ⟨?_, ?_⟩)⟩
    · rintro (⟨j, hj, z⟩ | z)
      · exact ⟨j, by omega, z⟩
      · exact ⟨i, by omega, z⟩
    · rintro ⟨j, hj, z⟩
      rcases (show j < i ∨ j = i by omega) with y | y
      · exact Or.inl ⟨j, y, z⟩
      · subst y; exact Or.inr z
  | inr y =>
    obtain ⟨e1, e2, e3, e4⟩ := hx
    refine OK.ret ⟨fun o j h1 h2 => (e1 o j h2).trans ((hE2 o j h1).trans (hE o j h1 h2)), fun j hj => (e2 j hj).trans (hF j hj), e3, e4 _ (fun Y hY => ?_)⟩
    rcases hY with ⟨j, hj, z⟩ | z
    · exact ⟨D j, hPD j (by omega), z⟩
    · exact ⟨D i, hPD i hi2, z⟩
theorem w23_b (u1 v : Int32) (h : HI) (g : Nat → Nat → Int64) (rd : Option Nat) : b_Mo_findWays_23 u1 (v, h, g, rd) = if u1 < v then some (.inr (.inl (h, g, rd))) else (f_Mo_findEach h rd v).bind (fun x5 => rh_g (0 ≤ v.toInt ∧ v.toInt < ((21 : Nat) : Int)) ((rh_loop (b_Mo_findWays_42 u1 v x5.2) rh_N ((0 : Int32), rh_up x5.1 21 v.toNatClampNeg (0 : Int32), g)).bind (fun r25 => match r25 with | .inl e26 => some (.inl (v + (1 : Int32), e26.1, e26.2, x5.2)) | .inr t27 => some (.inr (.inr t27))))) := rfl
theorem fw_m (A : RLa k n Pm B V T a q c m) (hb3 : m 3 1 = nI bt) (hbt : bt ≤ 9999) {N : Nat} (hN : N ≤ 20) (rd : Option Nat) (g : Nat → Nat → Int64) : OK (f_Mo_findWays m g rd (nI N)) (fun x => EQ1 m x.2.1 ∧ ((x.1 = 1 ∧ ∀ b, b ≤ N → BLM a n (X0f c) b (LYS a n bt (wB Pm B V T) (X0f c) b) x.2.1 x.2.2.1) ∨ (x.1 = 0 ∧ ∃ b, b ≤ N ∧ OVF (LYS a n bt (wB Pm B V T) (X0f c) b)))) := by
  have hn := A.n9
  have hT := A.T30
  have hX0 := X0_VX A
  have hw : ∀ b, b ≤ 20 → ∀ i, i < n → wB Pm B V T b i ≤ 9999 := fun b hb i hi => A.wle hi (by omega)
  unfold f_Mo_findWays
  have hE0 : EQ1 m (rh_up m 21 0 0) := fun o j h1 h2 h3 h4 => by rw [up_f, if_neg (fun z => h3 z.1)]
  have A0 := A.r hE0.x
  refine OK.bind (co_m A0) ?_
  rintro x rfl
  have hB0 : BLM a n (X0f c) 0 (fun _ => False) (rh_up m 21 0 0) g := ⟨0, fun _ => X0f c, by omega, by rw [rh_up_s]; rfl, fun j hj => by omega, fun j hj => by omega, fun i j _ hj => by omega, fun i j _ hj => by omega, fun X => ⟨fun ⟨j, hj, _⟩ => by omega, False.elim⟩⟩
  refine OK.bind (ad_m hn (k := 0) (by omega) hB0 hX0) ?_
  rintro ⟨v1, m1, g1⟩ ⟨hE1, hF1, hv⟩
  dsimp only at hE1 hF1 hv ⊢
  have hEm1 : EQ1 m m1 := hE0.tr (fun o j h1 h2 h3 h4 => hE1 o j (fun z => absurd z h3))
  have hB1 : BLM a n (X0f c) 0 (LYS a n bt (wB Pm B V T) (X0f c) 0) m1 g1 := by
    rcases hv with ⟨_, hB⟩ | ⟨_, hO⟩
    · exact hB.iff (fun X => ⟨fun z => z.elim False.elim id, fun z => Or.inr z⟩)
    · exfalso
      obtain ⟨E, z1, z2⟩ := hO (fun Y => Y = X0f c) (fun Y z => z.elim False.elim id)
      exact z1 0 1 (by omega) (by omega) ((z2 0 (by omega)).trans (z2 1 (by omega)).symm)
  refine OK.bind (P := fun x => Sum.elim (fun y => EQ1 m y.1 ∧ ∀ b, b ≤ N → BLM a n (X0f c) b (LYS a n bt (wB Pm B V T) (X0f c) b) y.1 y.2.1) (fun y : Int32 × HI × (Nat → Nat → Int64) × Option Nat => EQ1 m y.2.1 ∧ y.1 = 0 ∧ ∃ b, b ≤ N ∧ OVF (LYS a n bt (wB Pm B V T) (X0f c) b)) x) (OK.loop _ (fun i s => i ≤ N ∧ s.1 = nI (i + 1) ∧ EQ1 m s.2.1 ∧ ∀ b, b ≤ i → BLM a n (X0f c) b (LYS a n bt (wB Pm B V T) (X0f c) b) s.2.1 s.2.2.1) _ N (by omega) ?_ ⟨by omega, rfl, hEm1, fun b hb => ?_⟩) ?_
  · rintro i ⟨v, h, g', rd⟩ - ⟨hi, rfl, hE, hC⟩
    dsimp only at hE hC
    have A' := A.r hE.x
    rw [w23_b]
    refine OK.ite (fun hc => OK.ret ?_) (fun hc => ?_)
    · have := (nI_ltI (a := N) (b := i + 1) (by omega) (by omega)).mp hc
      have : i = N := by omega
      subst this
      exact ⟨hE, hC⟩
    have hi2 : i + 1 ≤ N := nlt hc (by omega) (by omega)
    refine OK.bind (fe_m A' rd (b := i + 1) (by omega)) ?_
    rintro ⟨h2, rd2⟩ ⟨f2, h8⟩
    dsimp only at f2 h8 ⊢
    rw [nI_clamp (by omega)]
    refine OK.g (gd_nI (by omega) (by omega)) ?_
    have hE3 : EQ1 h (rh_up h2 21 (i + 1) 0) := fun o j h1 h2' h3 h4 => by rw [up_f, if_neg (fun z => h3 z.1)]; exact f2 o j h1 h2'
    have A3 := A'.r hE3.x
    have sm : SMX a n bt (wB Pm B V T (i + 1)) (rh_up h2 21 (i + 1) 0) := ⟨A3.mn, A3.ma, (hE.tr hE3) 3 1 rfl (by omega) (by omega) (by omega) ▸ hb3, fun j hj => by rw [up_f, if_neg (by omega)]; exact h8 j hj⟩
    have hC3 : ∀ b, b ≤ i → BLM a n (X0f c) b (LYS a n bt (wB Pm B V T) (X0f c) b) (rh_up h2 21 (i + 1) 0) g' := fun b hb => (hC b hb).fr (by rw [gup _ _ _ _ (show b ≠ i + 1 by omega)]; exact f2 21 b rfl (by omega)) (fun j _ => rfl)
    refine OK.bind (w42_m hn A.an (hw (i + 1) (by omega)) hbt sm (by omega) (hC3 i (Nat.le_refl _)) (by rw [rh_up_s]; rfl) (nI N) rd2) ?_
    intro x hx
    cases x with
    | inl y =>
      obtain ⟨e1, e2, e3⟩ := hx
      refine OK.ret ⟨hi2, hi2, nI_1 _, (hE.tr hE3).tr (fun o j h1 h2 h3 h4 => e1 o j h4 (fun z => absurd z h3)), fun b hb => ?_⟩
      rcases (show b ≤ i ∨ b = i + 1 by omega) with z | z
      · exact (hC3 b z).fr (e1 21 b (by omega) (by omega)) (fun j hj => e2 _ (by omega))
      · subst z; exact e3.iff (fun Y => LYS_suc.symm)
    | inr y =>
      obtain ⟨e1, e2, e3, e4⟩ := hx
      exact OK.ret ⟨(hE.tr hE3).tr (fun o j h1 h2 h3 h4 => e1 o j h4 (fun z => absurd z h3)), e3, i + 1, hi2, e4.iff (fun Y => LYS_suc.symm)⟩
  · have : b = 0 := by omega
    subst this; exact hB1
  · intro x hx
    cases x with
    | inl y => exact OK.ret ⟨hx.1, Or.inl ⟨rfl, hx.2⟩⟩
    | inr y => exact OK.ret ⟨hx.1, Or.inr hx.2⟩
end RM8
