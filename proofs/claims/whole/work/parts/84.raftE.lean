/-! steady: the rows of both -/
def EQ2 (h h' : HI) : Prop := ∀ o j, sM o j = false → o ≠ 8 → o ≠ 22 → h' o j = h o j
theorem EQ2.rf {h : HI} : EQ2 h h := fun _ _ _ _ _ => rfl
theorem EQ2.tr {x y z : HI} (h : EQ2 x y) (g : EQ2 y z) : EQ2 x z := fun o j h1 h2 h3 => (g o j h1 h2 h3).trans (h o j h1 h2 h3)
theorem EQ2.x {h h' : HI} (e : EQ2 h h') : XM h h' := EQ1.x (fun o j h1 h2 _ h4 => e o j h1 h2 h4)
theorem lf_s {α : Type} {mv D : Nat} (hm : mv ≤ 18) (f : Int32 → α) : (if nI mv = 18 then f (nI (D + cst mv) - 0) else f (nI (D + cst mv) - 1)) = f (nI D) := by
  by_cases h : mv = 18
  · rw [if_pos (show nI mv = 18 by rw [h]; rfl), show cst mv = 0 from if_pos h, Nat.add_zero, Int32.sub_zero]
  · rw [if_neg (show ¬ nI mv = 18 from neI (s := 18) (by omega) (by omega) h), show cst mv = 1 from if_neg h, dn1]
section RFE
variable {k n Pm : Nat} {B : Nat → Nat} {V : Nat → Nat → Nat → Nat} {T a q : Nat} {c m : HI} {bt N b : Nat} {g : Nat → Nat → Int64} {X0 X : CFG}
theorem RLa.tellf (A : RLa k n Pm B V T a q c m) (v : Int32) : RO (f_Ro_tell c v) (f_Mo_tell (rh_up m 0 8 0) v) (fun x y => RLa k n Pm B V T a 1 x y ∧ (∀ o j, o ≠ 2 → o ≠ 3 → x o j = c o j) ∧ ∀ o j, o ≠ 0 → o ≠ 5 → y o j = m o j) := by
  obtain ⟨x, y, ex, ey, h1, h2, h3⟩ := A.beg.addf (by omega) v
  refine ⟨x, y, ?_, ey, h1, fun o j ho ho' => ?_, fun o j ho ho' => ?_⟩
  · unfold f_Ro_tell; rw [ex]; rfl
  · rw [h2 o j ho ho']; show rh_up c 2 1 0 o j = _; rw [up_f, if_neg (fun z => ho z.1)]
  · rw [h3 o j ho ho', up_f, if_neg (fun z => ho z.1)]
theorem s86_b (u1 s1 s2 s3 : Int32) (h : HI) (g : Nat → Nat → Int64) (rd : Option Nat) : b_Mo_steady_86 u1 g (s1, s2, s3, h, rd) = if u1 < s3 then some (.inr (h, rd)) else (f_Mo_findEach h rd s3).bind (fun x14 => (f_Mo_layCode_22 x14.1 s1).bind (fun x15 => (f_Mo_leanStood x15).bind (fun x16 => (rh_loop (b_Mo_steady_116 u1 s1 s2 s3 x16 x15 g x14.2) rh_N (0 : Int32)).bind (fun r20 => if (10 : Int32) < s3 then (f_Mo_stepTo x15 s1 r20 x16).bind (fun x22 => if r20 = (18 : Int32) then some (.inl (x22, s2 - (0 : Int32), s3 + (1 : Int32), x15, x14.2)) else some (.inl (x22, s2 - (1 : Int32), s3 + (1 : Int32), x15, x14.2))) else (f_Mo_tell x15 r20).bind (fun x24 => (f_Mo_stepTo x24 s1 r20 x16).bind (fun x25 => if r20 = (18 : Int32) then some (.inl (x25, s2 - (0 : Int32), s3 + (1 : Int32), x24, x14.2)) else some (.inl (x25, s2 - (1 : Int32), s3 + (1 : Int32), x24, x14.2)))))))) := rfl
theorem pre_m (A : RLa k n Pm B V T a q c m) (hb3 : m 3 1 = nI bt) (hbt : bt ≤ 9999) (hN : N ≤ 20) (hb : b < N) (hX : VX a n X0 X) (hLX : LYS a n bt (wB Pm B V T) X0 b X) (hM : MVL a n X0 (b + 1) (LYS a n bt (wB Pm B V T) X0 (b + 1)) (DD a n bt (wB Pm B V T) (N - (b + 1)) (b + 1)) m g) (hD : DD a n bt (wB Pm B V T) (N - b) b X < 99) (rd : Option Nat) : ∃ x14 x15 x16 mv Y, f_Mo_findEach m rd (nI (b + 1)) = some x14 ∧ f_Mo_layCode_22 x14.1 (nI (hrn X n)) = some x15 ∧ f_Mo_leanStood x15 = some x16 ∧ rh_loop (b_Mo_steady_116 (nI N) (nI (hrn X n)) (nI (DD a n bt (wB Pm B V T) (N - b) b X)) (nI (b + 1)) x16 x15 g x14.2) rh_N (0 : Int32) = some (nI mv) ∧ FMV a n bt (wB Pm B V T) (N - (b + 1)) b X mv ∧ EQ2 m x15 ∧ SMX a n bt (wB Pm B V T (b + 1)) x15 ∧ STD n X x15 ∧ x16.toInt = LEz a n (wB Pm B V T (b + 1)) X ∧ MT a n bt (wB Pm B V T (b + 1)) X mv = some Y ∧ VX a n X0 Y ∧ LYS a n bt (wB Pm B V T) X0 (b + 1) Y ∧ DD a n bt (wB Pm B V T) (N - b) b X = DD a n bt (wB Pm B V T) (N - (b + 1)) (b + 1) Y + cst mv ∧ (mv / 2 < n ∨ mv = 18) := by
  have hn := A.n9
  have hT := A.T30
  have hw : ∀ b, b ≤ 20 → ∀ i, i < n → wB Pm B V T b i ≤ 9999 := fun b hb i hi => A.wle hi (by omega)
  obtain ⟨⟨h2, rd2⟩, e14, f2, h8⟩ := fe_m A rd (b := b + 1) (by omega)
  dsimp only at f2 h8
  have hE2 : EQ1 m h2 := fun o j h1 h2' h3 h4 => f2 o j h1 h2'
  have A2 := A.r hE2.x
  obtain ⟨h3, e15, f3, sd⟩ := lc_m hn A2.mn hX.1
  have hE3 : EQ2 m h3 := fun o j z1 z2 z3 => (f3 o j z3).trans (f2 o j z1 z2)
  have A3 := A.r hE3.x
  have sm : SMX a n bt (wB Pm B V T (b + 1)) h3 := ⟨A3.mn, A3.ma, (hE3 3 1 rfl (by omega) (by omega)).trans hb3, fun i hi => (f3 8 i (by omega)).trans (h8 i hi)⟩
  obtain ⟨l, e16, hl⟩ := ls_m hn A.an hX.1 (hw (b + 1) (by omega)) sm sd
  have hd : N - b = N - (b + 1) + 1 := by omega
  rw [hd] at hD ⊢
  obtain ⟨x, e17, mv, rfl, hF⟩ := s116_m hn A.an (b := b) (by omega) (hw (b + 1) (by omega)) hbt hX hLX sm sd (hM.fr (hE3 21 _ rfl (by omega) (by omega)) (fun j _ => rfl)) hl hD (nI N) rd2
  obtain ⟨Y, y1, y2⟩ := hF.next hD
  refine ⟨(h2, rd2), h3, l, mv, Y, e14, e15, e16, e17, hF, hE3, sm, sd, hl, y1, MT_VX hX y1, ⟨X, mv, hLX, (FMV.ex hD).1, hF.1, y1⟩, y2.symm, ?_⟩
  by_cases h18 : mv = 18
  · exact Or.inr h18
  · exact Or.inl (MT_inv h18 y1).1.1
theorem tail_m (A : RLa k n Pm B V T a q c m) (hb3 : m 3 1 = nI bt) (hbt : bt ≤ 9999) (hN : N ≤ 20) {K : Nat} (hK : 10 ≤ K ∨ K = N) (hM : ∀ b, b ≤ N → MVL a n X0 b (LYS a n bt (wB Pm B V T) X0 b) (DD a n bt (wB Pm B V T) (N - b) b) m g) (f i : Nat) (t : Int32 × Int32 × Int32 × HI × Option Nat) (hi : i ≤ N) (hf : N - i < f) (h0 : K ≤ i ∧ ∃ X, LYS a n bt (wB Pm B V T) X0 i X ∧ VX a n X0 X ∧ t.1 = nI (hrn X n) ∧ t.2.1 = nI (DD a n bt (wB Pm B V T) (N - i) i X) ∧ DD a n bt (wB Pm B V T) (N - i) i X < 99 ∧ t.2.2.1 = nI (i + 1) ∧ EQ2 m t.2.2.2.1) : OK (rh_loop (b_Mo_steady_86 (nI N) g) f t) (fun r => EQ2 m r.1) := by
  have hn := A.n9
  have hT := A.T30
  have hw : ∀ b, b ≤ 20 → ∀ i, i < n → wB Pm B V T b i ≤ 9999 := fun b hb i hi => A.wle hi (by omega)
  refine OK.loopN (b_Mo_steady_86 (nI N) g) (fun i t => K ≤ i ∧ ∃ X, LYS a n bt (wB Pm B V T) X0 i X ∧ VX a n X0 X ∧ t.1 = nI (hrn X n) ∧ t.2.1 = nI (DD a n bt (wB Pm B V T) (N - i) i X) ∧ DD a n bt (wB Pm B V T) (N - i) i X < 99 ∧ t.2.2.1 = nI (i + 1) ∧ EQ2 m t.2.2.2.1) (fun r => EQ2 m r.1) N ?_ f i t hi hf h0
  rintro i ⟨code, left, kk, h, rd⟩ hi ⟨hKi, X, hLX, hX, rfl, rfl, hD, rfl, hE⟩
  dsimp only at hD hE
  rw [s86_b]
  refine OK.ite (fun hc => OK.ret hE) (fun hc => ?_)
  have hi2 : i + 1 ≤ N := nlt hc (by omega) (by omega)
  obtain ⟨x14, x15, x16, mv, Y, e14, e15, e16, e17, hF, fr, sm, sd, hl, y1, y2, y3, y4, y5⟩ := pre_m (A.r hE.x) ((hE 3 1 rfl (by omega) (by omega)).trans hb3) hbt hN (b := i) (by omega) hX hLX ((hM (i + 1) hi2).fr (hE 21 _ rfl (by omega) (by omega)) (fun j _ => rfl)) hD rd
  rw [e14, Option.bind_some, e15, Option.bind_some, e16, Option.bind_some, e17, Option.bind_some, if_pos (show (10 : Int32) < nI (i + 1) from nI_lt (a := 10) (b := i + 1) (by omega) (by omega))]
  refine OK.bind (st_m hn A.an hX.1 (hw (i + 1) (by omega)) hbt sm sd hl hF.1 y5) ?_
  rintro x rfl
  have hs := lf_s (D := DD a n bt (wB Pm B V T) (N - (i + 1)) (i + 1) Y) hF.1 (fun z => (some (.inl (mvR n (MT a n bt (wB Pm B V T (i + 1)) X mv), z, nI (i + 1) + 1, x15, x14.2)) : Option ((Int32 × Int32 × Int32 × HI × Option Nat) ⊕ (HI × Option Nat))))
  rw [← y4] at hs
  rw [hs, y1]
  refine OK.ret ⟨by omega, by omega, Y, y3, y2, rfl, rfl, ?_, nI_1 _, hE.tr fr⟩
  omega
theorem t23_b (u1 s1 s2 : Int32) (h : HI) : b_St_tellSteps_23 u1 (s1, s2, h) = if u1 ≤ s2 then some (.inr h) else if (10 : Int32) ≤ s2 then some (.inr h) else (f_St_indexOf h s2 s1).bind (fun x5 => rh_g (0 ≤ x5.toInt ∧ x5.toInt < ((10500 : Nat) : Int)) ((f_Ro_add h ((h 47 x5.toNatClampNeg) - (h 47 x5.toNatClampNeg) / (32 : Int32) * (32 : Int32))).bind (fun x7 => (f_St_behindMove x7 s1 ((h 47 x5.toNatClampNeg) - (h 47 x5.toNatClampNeg) / (32 : Int32) * (32 : Int32))).bind (fun x8 => some (.inl (x8, s2 + (1 : Int32), x7)))))) := rfl
/-- both rows while there is something to tell -/
def RWS (k n Pm : Nat) (B : Nat → Nat) (V : Nat → Nat → Nat → Nat) (T a bt N : Nat) (X0 : CFG) (c m : HI) (i : Nat) (s : Int32 × Int32 × HI) (t : Int32 × Int32 × Int32 × HI × Option Nat) : Prop := ∃ X, LYS a n bt (wB Pm B V T) X0 i X ∧ VX a n X0 X ∧ s.1 = nI (gam a n X) ∧ s.2.1 = nI i ∧ t.1 = nI (hrn X n) ∧ t.2.1 = nI (DD a n bt (wB Pm B V T) (N - i) i X) ∧ DD a n bt (wB Pm B V T) (N - i) i X < 99 ∧ t.2.2.1 = nI (i + 1) ∧ RLa k n Pm B V T a (i + 1) s.2.2 t.2.2.2.1 ∧ (∀ o j, o ≠ 2 → o ≠ 3 → s.2.2 o j = c o j) ∧ ∀ o j, sM o j = false → o ≠ 0 → o ≠ 5 → o ≠ 8 → o ≠ 22 → t.2.2.2.1 o j = m o j
theorem row_st (hb3 : m 3 1 = nI bt) (hbt : bt ≤ 9999) (hN : N ≤ 20) (sn : SNC a n bt c) (hV : ∀ b, b ≤ N → CVL a n X0 bt (wB Pm B V T) N b c) (hM : ∀ b, b ≤ N → MVL a n X0 b (LYS a n bt (wB Pm B V T) X0 b) (DD a n bt (wB Pm B V T) (N - b) b) m g) {i : Nat} (hi1 : i < N) (hi2 : i < 10) {s : Int32 × Int32 × HI} {t : Int32 × Int32 × Int32 × HI × Option Nat} (hI : RWS k n Pm B V T a bt N X0 c m i s t) : RO (b_St_tellSteps_23 (nI N) s) (b_Mo_steady_86 (nI N) g t) (LQ (fun s' t' => RWS k n Pm B V T a bt N X0 c m (i + 1) s' t') (fun _ _ => False)) := by
  obtain ⟨cur, bb, h⟩ := s
  obtain ⟨code, left, kk, h', rd⟩ := t
  obtain ⟨X, hLX, hX, rfl, rfl, rfl, rfl, hD, rfl, A, fc, fm⟩ := hI
  dsimp only at hD A fc fm
  have hn := A.n9
  have hT := A.T30
  have hw : ∀ b, b ≤ 20 → ∀ i, i < n → wB Pm B V T b i ≤ 9999 := fun b hb i hi => A.wle hi (by omega)
  obtain ⟨x14, x15, x16, mv, Y, e14, e15, e16, e17, hF, fr, sm, sd, hl, y1, y2, y3, y4, y5⟩ := pre_m A ((fm 3 1 rfl (by omega) (by omega) (by omega) (by omega)).trans hb3) hbt hN (b := i) hi1 hX hLX ((hM (i + 1) hi1).fr (fm 21 _ rfl (by omega) (by omega) (by omega) (by omega)) (fun j _ => rfl)) hD rd
  rw [t23_b, if_neg (nI_ge (by omega) (by omega)), if_neg (show ¬ (10 : Int32) ≤ nI i from nI_ge (b := 10) (by omega) (by omega)), s86_b, if_neg (nltI (by omega) (by omega)), e14, Option.bind_some, e15, Option.bind_some, e16, Option.bind_some, e17, Option.bind_some, if_neg (show ¬ (10 : Int32) < nI (i + 1) from nltI (x := 10) (by omega) (by omega))]
  refine RO.bl (io_c hn (by omega) ((hV i (by omega)).fr (fc 46 i (by omega) (by omega)) (fun j _ => fc 45 _ (by omega) (by omega)) (fun j _ => fc 47 _ (by omega) (by omega))) hX hLX) ?_
  rintro x ⟨j, e, hj, rfl, h47, hENC⟩
  rcases hENC with ⟨z1, _⟩ | ⟨_, mv', hm', rfl, hF'⟩
  · omega
  have : mv' = mv := (hF' (N - (i + 1)) (by omega)).one hF
  subst this
  have hm := hF.1
  rw [nI_clamp (by omega), h47, show nI (32 * DD a n bt (wB Pm B V T) (N - i) i X + mv') - nI (32 * DD a n bt (wB Pm B V T) (N - i) i X + mv') / 32 * 32 = nI mv' from (pk_rem (d := 32) (by omega) (by omega) (by omega)).trans (by congr 1; omega)]
  refine RO.gl (gd_nI (by omega) (by omega)) (RO.bind ((A.r fr.x).addf (by omega) (nI mv')) ?_)
  rintro x y ⟨A', fx, fy⟩
  have snx : SNC a n bt x := ⟨(fx 42 9 (by omega) (by omega)).trans ((fc 42 9 (by omega) (by omega)).trans sn.1), (fx 42 3 (by omega) (by omega)).trans ((fc 42 3 (by omega) (by omega)).trans sn.2.1), fun j hj => (fx 43 j (by omega) (by omega)).trans ((fc 43 j (by omega) (by omega)).trans (sn.2.2 j hj))⟩
  refine RO.bl (bm_c hn snx hm y1) ?_
  rintro _ rfl
  have smy : SMX a n bt (wB Pm B V T (i + 1)) y := ⟨A'.mn, A'.ma, (fy 3 1 (by omega) (by omega)).trans sm.2.2.1, fun j hj => (fy 8 j (by omega) (by omega)).trans (sm.2.2.2 j hj)⟩
  have sdy : STD n X y := fun j hj => by rw [fy 22 j (by omega) (by omega)]; exact sd j hj
  refine RO.br (st_m hn A.an hX.1 (hw (i + 1) (by omega)) hbt smy sdy hl hm y5) ?_
  rintro _ rfl
  have hs := lf_s (D := DD a n bt (wB Pm B V T) (N - (i + 1)) (i + 1) Y) hm (fun z => (some (.inl (mvR n (MT a n bt (wB Pm B V T (i + 1)) X mv'), z, nI (i + 1) + 1, y, x14.2)) : Option ((Int32 × Int32 × Int32 × HI × Option Nat) ⊕ (HI × Option Nat))))
  rw [← y4] at hs
  rw [hs, y1]
  refine RO.ret ?_
  refine ⟨Y, y3, y2, rfl, nI_1 i, rfl, rfl, by omega, nI_1 _, A', fun o j h1 h2 => (fx o j h1 h2).trans (fc o j h1 h2), fun o j h1 h2 h3 h4 h5 => (fy o j h2 h3).trans ((fr o j h1 h4 h5).trans (fm o j h1 h2 h3 h4 h5))⟩
theorem tl_r (A : RLa k n Pm B V T a q c m) (hb3 : m 3 1 = nI bt) (hbt : bt ≤ 9999) (hN : N ≤ 20) (sn : SNC a n bt c) (h45 : c 45 0 = nI (gam a n (X0f c))) (hV : ∀ b, b ≤ N → CVL a n (X0f c) bt (wB Pm B V T) N b c) (hM : ∀ b, b ≤ N → MVL a n (X0f c) b (LYS a n bt (wB Pm B V T) (X0f c) b) (DD a n bt (wB Pm B V T) (N - b) b) m g) (hD : DD a n bt (wB Pm B V T) N 0 (X0f c) < 99) (rd : Option Nat) : RO (f_St_tellSteps c (nI N)) ((f_Mo_codeOf_1 (rh_up m 0 8 (0 : Int32))).bind (fun x9 => (f_Mo_leftOf g (0 : Int32) (0 : Int32)).bind (fun x10 => (f_Mo_tell (rh_up m 0 8 (0 : Int32)) x10).bind (fun x11 => (rh_loop (b_Mo_steady_86 (nI N) g) rh_N (x9, x10, (1 : Int32), x11, rd)).bind (fun r27 => some (((1 : Int32), r27.1, g, r27.2))))))) (fun x y => y.1 = 1 ∧ RLt (k + 1) n Pm B V x y.2.1) := by
  have hn := A.n9
  have hX0 := X0_VX A
  obtain ⟨cnt, Ac, c1, c2, c3, c4, c5, c6⟩ := hV 0 (by omega)
  obtain ⟨cnm, D, lf, d1, d2, d3, d4, d5, d6, d7⟩ := hM 0 (by omega)
  obtain ⟨j0, hj0, _⟩ := (c5.2 (X0f c)).mpr rfl
  obtain ⟨j1, hj1, _⟩ := (d6.2 (X0f c)).mpr rfl
  have eA : Ac 0 = X0f c := (c5.2 _).mp ⟨0, by omega, rfl⟩
  have eD : D 0 = X0f c := (d6.2 _).mp ⟨0, by omega, rfl⟩
  obtain ⟨e, v1, v2⟩ := c6 0 (by omega)
  rw [eA, Nat.sub_zero] at v2
  have ve := (v2.lt hN).2 hD
  have hm0 := d3 0 (by omega)
  have hl0 := d7 0 (by omega)
  rw [eD, Nat.sub_zero] at hl0
  unfold f_St_tellSteps
  rw [show c 47 (0 : Int32).toNatClampNeg = nI e from v1, show nI e / 32 = nI (e / 32) from pk_div (d := 32) (by omega) (by omega) (by omega), ve.1]
  refine RO.br (co_m A.beg) ?_
  rintro x9 rfl
  rw [show f_Mo_leftOf g (0 : Int32) (0 : Int32) = some (nI (lf 0)) from (wo_m (k := 0) (j := 0) (by omega) (by omega) (cd_lt hn (d4 0 (by omega)).1) hm0.2 hm0.1).2, Option.bind_some, hl0]
  refine RO.bind (A.tellf _) ?_
  rintro x1 m1 ⟨A1, fx, fy⟩
  have hI0 : RWS k n Pm B V T a bt N (X0f c) c m 0 (x1 45 (0 : Int32).toNatClampNeg, (0 : Int32), x1) (nI (hrn (X0f c) n), nI (DD a n bt (wB Pm B V T) N 0 (X0f c)), (1 : Int32), m1, rd) := ⟨X0f c, rfl, hX0, (fx 45 0 (by omega) (by omega)).trans h45, rfl, rfl, rfl, hD, rfl, A1, fx, fun o j h1 h2 h3 h4 h5 => fy o j h2 h3⟩
  obtain ⟨K, hK, hK1, hK2⟩ : ∃ K, (10 ≤ K ∨ K = N) ∧ K ≤ N ∧ K ≤ 10 := by
    by_cases h : N ≤ 10
    · exact ⟨N, Or.inr rfl, by omega, h⟩
    · exact ⟨10, Or.inl (by omega), by omega, by omega⟩
  obtain ⟨⟨s1, s2, h⟩, ⟨t1, t2, t3, h', rd'⟩, e1, e2, hI⟩ := RO.steps (b_St_tellSteps_23 (nI N)) (b_Mo_steady_86 (nI N) g) (RWS k n Pm B V T a bt N (X0f c) c m) K (fun i s t hi hI => row_st hb3 hbt hN sn hV hM (by omega) (by omega) hI) K 0 _ _ rh_N rh_N (by omega) (by unfold rh_N; omega) (by unfold rh_N; omega) hI0
  rw [e1, show X0f (f_Ro_begin c) = X0f c from rfl, e2]
  obtain ⟨X, hLX, hX, q1, q2, q3, q4, q5, q6, A2, fc, fm⟩ := hI
  dsimp only at q1 q2 q3 q4 q5 q6 A2 fc fm
  rw [st_e (r := h) (by
    rw [t23_b, q2]
    rcases hK with z | z
    · by_cases y : N ≤ K
      · rw [if_pos (nI_le y (by omega))]
      · rw [if_neg (nI_ge (by omega) (by omega)), if_pos (show (10 : Int32) ≤ nI K from nI_le (a := 10) z (by omega))]
    · rw [if_pos (nI_le (by omega) (by omega))]) (by unfold rh_N; omega), Option.bind_some]
  refine RO.br (tail_m A2 ((fm 3 1 rfl (by omega) (by omega) (by omega) (by omega)).trans hb3) hbt hN hK (fun b hb => (hM b hb).fr (fm 21 _ rfl (by omega) (by omega) (by omega) (by omega)) (fun j _ => rfl)) (rh_N - K) K (t1, t2, t3, h', rd') hK1 (by unfold rh_N; omega) ⟨Nat.le_refl _, X, hLX, hX, q3, q4, q5, q6, EQ2.rf⟩) ?_
  rintro ⟨h2, rd2⟩ hE
  exact RO.ret ⟨rfl, (A2.r hE.x).fin⟩
end RFE
