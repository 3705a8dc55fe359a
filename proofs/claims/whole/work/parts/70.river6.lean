/-! cross, start -/
section LPN
variable {σ τ ρ ω : Type}
theorem RO.steps (b : σ → Option (σ ⊕ ρ)) (c : τ → Option (τ ⊕ ω)) (I : Nat → σ → τ → Prop) (K : Nat) (hs : ∀ i s t, i < K → I i s t → RO (b s) (c t) (LQ (fun s' t' => I (i + 1) s' t') (fun _ _ => False))) : ∀ (d i : Nat) (s : σ) (t : τ) (N1 N2 : Nat), i + d = K → d ≤ N1 → d ≤ N2 → I i s t → ∃ s' t', rh_loop b N1 s = rh_loop b (N1 - d) s' ∧ rh_loop c N2 t = rh_loop c (N2 - d) t' ∧ I K s' t'
  | 0, i, s, t, N1, N2, h, _, _, hI => ⟨s, t, rfl, rfl, by rw [← h]; exact hI⟩
  | d + 1, i, s, t, N1, N2, h, h1, h2, hI => by
    obtain ⟨x, y, hx, hy, hq⟩ := hs i s t (by omega) hI
    cases x with
    | inl s1 =>
      cases y with
      | inl t1 =>
        obtain ⟨s2, t2, e1, e2, e3⟩ := RO.steps b c I K hs d (i + 1) s1 t1 (N1 - 1) (N2 - 1) (by omega) (by omega) (by omega) hq
        exact ⟨s2, t2, by rw [st_l hx (by omega), e1, show N1 - 1 - d = N1 - (d + 1) by omega], by rw [st_l hy (by omega), e2, show N2 - 1 - d = N2 - (d + 1) by omega], e3⟩
      | inr w => exact hq.elim
    | inr r =>
      cases y with
      | inl t1 => exact hq.elim
      | inr w => exact hq.elim
theorem OK.loopN (b : σ → Option (σ ⊕ ρ)) (I : Nat → σ → Prop) (Q : ρ → Prop) (e : Nat) (hs : ∀ i s, i ≤ e → I i s → OK (b s) (fun x => Sum.elim (fun s' => i < e ∧ I (i + 1) s') Q x)) : ∀ (n i : Nat) (s : σ), i ≤ e → e - i < n → I i s → OK (rh_loop b n s) Q := by
  intro n
  induction n with
  | zero => intro i s _ h; omega
  | succ n ih =>
    intro i s hi hn hI
    obtain ⟨x, hx, hq⟩ := hs i s hi hI
    cases x with
    | inl s' => rw [lp_go hx]; exact ih (i + 1) s' (by have := hq.1; omega) (by have := hq.1; omega) hq.2
    | inr r => rw [lp_end hx]; exact ⟨r, rfl, hq⟩
end LPN
section RV6
variable {k n Pm : Nat} {B : Nat → Nat} {V : Nat → Nat → Nat → Nat} {T a q : Nat} {c m : HI} {bt S n' : Nat} {W : Nat → Nat → Nat}
theorem LLD.iff {M j : Nat} {p r : Nat → Prop} {s : Nat} (h : LLD n Pm bt W M j p s) (e : ∀ s, SUB s M → (p s ↔ r s)) : LLD n Pm bt W M j r s := ⟨h.1, h.2.1, (e s h.1).mp h.2.2.1, fun s' h1 h2 h3 h4 => h.2.2.2 s' h1 h2 h3 ((e s' h2).mpr h4)⟩
theorem fs105 (hn : n ≤ 9) (hP : m 0 2 = nI Pm) (hP2 : Pm < 2 ^ 31) (hb : m 3 0 = nI bt) (hbt : bt ≤ 9999) {j d L : Nat} (hj : j < 20) (hS : S < 2 ^ n) (tm : TM n (W j) m) (hW : ∀ s, WS n (W j) s ≤ 89991) (hg : MLY (GR n Pm bt W S d (j + 1)) 19 (512 * (j + 1)) m) (hL : GR n Pm bt W S (d + 1) j L) (u1 u2 u3 : Int32) (rd : Option Nat) : OK (rh_loop (b_Mo_cross_105 u1 u2 u3 (nI L) (nI j) (nI (TH S j L)) m rd) rh_N (1 : Int32)) (fun x => ∃ s, s < 512 ∧ x = nI s ∧ LLD n Pm bt W (TH S j L) j (fun s => GR n Pm bt W S d (j + 1) (L ^^^ s)) s) := by
  have hp9 := pow9 hn
  have hLS := NR_sub hL.1
  obtain ⟨s0, g1, g2, g3⟩ := hL.2
  have hM := TH_sub (k := j) hLS
  generalize TH S j L = M at g1 hM
  have hM2 := hM.le
  have hs0 := g1.le
  have hs1 := CC_0 g2
  refine OK.loop _ (fun i x => i + 1 ≤ s0 ∧ x = nI (i + 1) ∧ ∀ s', s' < i + 1 → SUB s' M → CC n Pm bt W j s' → ¬ GR n Pm bt W S d (j + 1) (L ^^^ s')) _ s0 (by omega) ?_ ⟨by omega, rfl, fun s' h1 h2 h3 => absurd (show s' = 0 by omega) (CC_0 h3)⟩
  rintro i _ - ⟨hi, rfl, hB⟩
  unfold b_Mo_cross_105
  obtain ⟨x, hx1, hx2⟩ := cc_ok (M := M) hn hP hP2 hb hbt (j := j) (s := i + 1) (by omega) (fun z => by have := (z.tr hM).le; omega) tm hW
  rw [hx1, Option.bind_some, nI_1, nI_1]
  have next : ¬ (SUB (i + 1) M ∧ CC n Pm bt W j (i + 1) ∧ GR n Pm bt W S d (j + 1) (L ^^^ (i + 1))) → (i < s0 ∧ i + 1 + 1 ≤ s0 ∧ nI (i + 1 + 1) = nI (i + 1 + 1) ∧ ∀ s', s' < i + 1 + 1 → SUB s' M → CC n Pm bt W j s' → ¬ GR n Pm bt W S d (j + 1) (L ^^^ s')) := fun hno => by
    have hne : i + 1 ≠ s0 := fun z => hno (by rw [z]; exact ⟨g1, g2, g3⟩)
    refine ⟨by omega, by omega, rfl, fun s' h1 h2 h3 => ?_⟩
    rcases (show s' < i + 1 ∨ s' = i + 1 by omega) with y | y
    · exact hB s' y h2 h3
    · subst y; exact fun z => hno ⟨h2, h3, z⟩
  rcases hx2 with ⟨rfl, hsub, hc⟩ | ⟨rfl, hc⟩
  · have hxl : L ^^^ (i + 1) < 512 := by have := (hLS.xor (hsub.tr hM)).le; omega
    rw [if_neg (by decide), fb_xorI, show (512 : Int32) * nI (j + 1) = nI (512 * (j + 1)) from pk_mul 512 _, nI_add, nI_clamp (by omega)]
    refine OK.g (gd_nI (by omega) (by omega)) ?_
    rcases hg _ hxl with ⟨r1, r2⟩ | ⟨r1, r2⟩
    · rw [r1, if_neg (by decide)]
      exact OK.ret ⟨i + 1, by omega, rfl, hsub, hc, r2, hB⟩
    · rw [r1, if_pos rfl]
      exact OK.ret (next (fun z => r2 z.2.2))
  · rw [if_pos rfl]
    exact OK.ret (next (fun z => hc ⟨z.1, z.2.1⟩))
theorem cr60_b (u1 u2 u3 l v : Int32) (h : HI) (rd : Option Nat) : b_Mo_cross_60 u1 u2 u3 (l, v, h, rd) = if u3 ≤ v then some (.inr (h, rd)) else (f_Mo_findSets h rd (((h 1 (10 : Int32).toNatClampNeg) + u2) + v)).bind (fun x9 => if (v - v / (2 : Int32) * (2 : Int32)) = 0 then j_Mo_cross_100 x9.1 x9.2 u1 u2 u3 l v l else j_Mo_cross_100 x9.1 x9.2 u1 u2 u3 l v (u1 &&& (l ^^^ (-1 : Int32)))) := rfl
theorem tl28_b (u1 o v : Int32) (h : HI) (g : Nat → Nat → Int64) : b_Ri_tellLoads_28 u1 g (o, v, h) = if u1 ≤ v then some (.inr h) else if (10 : Int32) ≤ v then some (.inr h) else (f_Cr_sumAll h ((h 32 4) + v)).bind (fun x8 => (f_Ri_leastLoad x8 g v o).bind (fun x9 => (f_Ro_add x8 x9).bind (fun x10 => some (.inl (o ^^^ x9, v + (1 : Int32), x10))))) := rfl
/-- one crossing of the reference, up to the telling -/
theorem crs_m (A : RLa k n Pm B V T a q c m) (hWf : ∀ k, W k = fun i => Wt Pm B V i (T + n' + k)) (hW : ∀ k, k < 20 → ∀ s, WS n (W k) s ≤ 89991) (hn' : n' ≤ 99) (hbt : bt ≤ 9999) (hb : m 3 0 = nI bt) (hS : S < 2 ^ n) {k0 j L : Nat} (hk0 : k0 < 20) (hj : j < k0 + 1) (hg : ∀ j, j ≤ k0 + 1 → MLY (GR n Pm bt W S (k0 + 1 - j) j) 19 (512 * j) m) (hL : GR n Pm bt W S (k0 + 1 - j) j L) (rd : Option Nat) : ∃ s m' rd', s < 512 ∧ LLD n Pm bt W (TH S j L) j (fun s => GR n Pm bt W S (k0 - j) (j + 1) (L ^^^ s)) s ∧ EF m m' ∧ b_Mo_cross_60 (nI S) (nI n') (nI (k0 + 1)) (nI L, nI j, m, rd) = if (10 : Int32) ≤ nI j then some (.inl (nI (L ^^^ s), nI (j + 1), m', rd')) else (f_Mo_tell m' (nI s)).bind (fun x18 => some (.inl (nI (L ^^^ s), nI (j + 1), x18, rd'))) := by
  have hT := A.T30
  have hn := A.n9
  have hp9 := pow9 hn
  have hP := p31 hn A.pn
  rw [cr60_b, show m 1 (10 : Int32).toNatClampNeg = nI T from A.mt, nI_add, nI_add, if_neg (nI_ge hj (by omega))]
  obtain ⟨⟨m1, rd1⟩, e1, hf, tm⟩ := fs_m A.qm rd (t := T + n' + j) (by omega)
  rw [e1, Option.bind_some]
  dsimp only at hf tm ⊢
  rw [← hWf j] at tm
  have f19 : ∀ i, m1 19 i = m 19 i := fun i => hf 19 i rfl (by omega) (by omega)
  have A1 := A.r hf.x
  have hb1 : m1 3 0 = nI bt := (hf 3 0 rfl (by omega) (by omega)).trans hb
  rw [show k0 + 1 - j = (k0 - j) + 1 by omega] at hL
  have hg1 : MLY (GR n Pm bt W S (k0 - j) (j + 1)) 19 (512 * (j + 1)) m1 := by
    have := (hg (j + 1) (by omega)).fr (h' := m1) (fun L _ => f19 _)
    rw [show k0 + 1 - (j + 1) = k0 - j by omega] at this
    exact this
  obtain ⟨x, e2, s, hs, rfl, hs2⟩ := fs105 hn A1.mp hP hb1 hbt (by omega) hS tm (hW j (by omega)) hg1 hL (nI S) (nI n') (nI (k0 + 1)) rd1
  refine ⟨s, m1, rd1, hs, hs2, hf, ?_⟩
  have hLS := NR_sub hL.1
  have go : ∀ M, M = TH S j L → j_Mo_cross_100 m1 rd1 (nI S) (nI n') (nI (k0 + 1)) (nI L) (nI j) (nI M) = if (10 : Int32) ≤ nI j then some (.inl (nI (L ^^^ s), nI (j + 1), m1, rd1)) else (f_Mo_tell m1 (nI s)).bind (fun x18 => some (.inl (nI (L ^^^ s), nI (j + 1), x18, rd1))) := fun M hM => by
    subst hM
    unfold j_Mo_cross_100
    rw [e2, Option.bind_some, fb_xorI, nI_1]
  by_cases hp : j % 2 = 0
  · rw [if_pos ((par (by omega)).mpr hp)]
    exact go L (by unfold TH; rw [if_pos hp])
  · rw [if_neg (fun z => hp ((par (by omega)).mp z)), andn', nandx (by omega) hLS]
    exact go _ (by unfold TH; rw [if_neg hp])
theorem GR.next {d j L s : Nat} {M : Nat} (h : LLD n Pm bt W M j (fun s => GR n Pm bt W S d (j + 1) (L ^^^ s)) s) : GR n Pm bt W S d (j + 1) (L ^^^ s) := h.2.2.1
theorem cr_row (A : RLa k n Pm B V T a q c m) (rv : RVC n Pm S bt (T + n') c) (hWf : ∀ k, W k = fun i => Wt Pm B V i (T + n' + k)) (hW : ∀ k, k < 20 → ∀ s, WS n (W k) s ≤ 89991) (hn' : n' ≤ 99) (hbt : bt ≤ 9999) (hb : m 3 0 = nI bt) (hS : S < 2 ^ n) {k0 : Nat} (hk0 : k0 < 19) {g : Nat → Nat → Int64} (hgc : ∀ j, 0 < j → j ≤ k0 + 1 → GLY n Pm bt W S (k0 + 1) j g) (hgm : ∀ j, j ≤ k0 + 1 → MLY (GR n Pm bt W S (k0 + 1 - j) j) 19 (512 * j) m) (hp : GR n Pm bt W S (k0 + 1) 0 S) (rd : Option Nat) : RO (rh_loop (b_Ri_tellLoads_28 (nI (k0 + 1)) g) rh_N ((0 : Int32), (0 : Int32), f_Ro_begin c)) (rh_loop (b_Mo_cross_60 (nI S) (nI n') (nI (k0 + 1))) rh_N (nI S, (0 : Int32), rh_up m 0 8 (0 : Int32), rd)) (fun x y => RLt (k + 1) n Pm B V x y.1) := by
  have hT := A.T30
  have hn := A.n9
  have hp9 := pow9 hn
  have hP := p31 hn A.pn
  obtain ⟨⟨o1, v1, c1⟩, ⟨l1, w1, m1, rd1⟩, e1, e2, h1, h2, L1, h3, h4, A1, h5, h6, h7⟩ := RO.steps (b_Ri_tellLoads_28 (nI (k0 + 1)) g) (b_Mo_cross_60 (nI S) (nI n') (nI (k0 + 1))) (fun j s t => s.2.1 = nI j ∧ t.2.1 = nI j ∧ ∃ L, s.1 = nI (S ^^^ L) ∧ t.1 = nI L ∧ RLa k n Pm B V T a j s.2.2 t.2.2.1 ∧ (RVC n Pm S bt (T + n') s.2.2 ∧ t.2.2.1 3 0 = nI bt) ∧ (∀ j, j ≤ k0 + 1 → MLY (GR n Pm bt W S (k0 + 1 - j) j) 19 (512 * j) t.2.2.1) ∧ GR n Pm bt W S (k0 + 1 - j) j L) (min (k0 + 1) 10) (by
    rintro j ⟨o, v, c'⟩ ⟨l, w, m', rd'⟩ hj ⟨rfl, rfl, L, rfl, rfl, A, ⟨rv, hb⟩, hgm, hL⟩
    dsimp only at A rv hb hgm
    have hj1 : j < k0 + 1 := by omega
    have hj2 : j < 10 := by omega
    obtain ⟨s, m2, rd2, hs, hs2, hf, eb⟩ := crs_m A hWf hW hn' hbt hb hS (by omega) hj1 hgm hL rd'
    rw [eb, if_neg (show ¬ (10 : Int32) ≤ nI j from nI_ge (b := 10) hj2 (by omega)), tl28_b, if_neg (nI_ge hj1 (by omega)), if_neg (show ¬ (10 : Int32) ≤ nI j from nI_ge (b := 10) hj2 (by omega)), rv.2.2.2, nI_add]
    refine RO.bl (su_c A.qc (t := T + n' + j) (by omega)) ?_
    rintro c2 ⟨hE, tc⟩
    rw [← hWf j] at tc
    have A2 := A.fr hE.x hf.x
    have rv2 := rv.e12 hE
    rw [show k0 + 1 - j = (k0 - j) + 1 by omega] at hL
    have hLS := NR_sub hL.1
    refine RO.bl (ll_ok hn rv2 hP hbt (by omega) hS (O := S ^^^ L) (SUB.rf.xor hLS) tc (hW j (by omega)) g) ?_
    rw [xx]
    have hpe : ∀ s, SUB s (TH S j L) → (RB g (j + 1) ((S ^^^ L) ^^^ s) = true ↔ GR n Pm bt W S (k0 - j) (j + 1) (L ^^^ s)) := fun s hs => by
      have hsb := (SUB.rf.xor hLS : SUB (S ^^^ L) S).xor (hs.tr (TH_sub hLS))
      have hxl : (S ^^^ L) ^^^ s < 512 := by have := hsb.le; omega
      rw [hgc (j + 1) (by omega) (by omega) _ hxl, show k0 + 1 - (j + 1) = k0 - j by omega, Nat.xor_assoc S L s, xx]
      exact ⟨fun z => z.2, fun z => ⟨by rw [← Nat.xor_assoc]; exact hsb, z⟩⟩
    rintro x (⟨rfl, hx⟩ | ⟨s', hs', rfl, hx⟩)
    · exfalso
      exact hx s hs2.1 hs2.2.1 ((hpe s hs2.1).mpr hs2.2.2.1)
    · have e := (hx.iff hpe).one hs2
      subst e
      refine RO.bind (A2.addf (by omega) (nI s')) ?_
      rintro x y ⟨A3, fx, fy⟩
      rw [fb_xorI, nI_1]
      refine RO.ret ⟨rfl, rfl, L ^^^ s', by rw [Nat.xor_assoc], rfl, A3, ⟨⟨(fx 4 1 (by omega) (by omega)).trans rv2.1, (fx 32 2 (by omega) (by omega)).trans rv2.2.1, (fx 32 3 (by omega) (by omega)).trans rv2.2.2.1, (fx 32 4 (by omega) (by omega)).trans rv2.2.2.2⟩, (fy 3 0 (by omega) (by omega)).trans ((hf 3 0 rfl (by omega) (by omega)).trans hb)⟩, fun j' hj' => (hgm j' hj').fr (fun L' _ => (fy 19 _ (by omega) (by omega)).trans (hf 19 _ rfl (by omega) (by omega))), ?_⟩
      rw [show k0 + 1 - (j + 1) = k0 - j by omega]
      exact hs2.2.2.1) (min (k0 + 1) 10) 0 ((0 : Int32), (0 : Int32), f_Ro_begin c) (nI S, (0 : Int32), rh_up m 0 8 (0 : Int32), rd) rh_N rh_N (by omega) (by unfold rh_N; omega) (by unfold rh_N; omega) ⟨rfl, rfl, S, by rw [Nat.xor_self]; rfl, rfl, A.beg, ⟨rv, hb⟩, hgm, hp⟩
  dsimp only at h1 h2 h3 h4 A1 h5 h6
  subst h1 h2 h3 h4
  rw [e1, e2, st_e (r := c1) ?_ (by unfold rh_N; omega)]
  · refine RO.mono (RO.two (P := fun x => x = c1) ⟨c1, rfl, rfl⟩ (OK.loopN _ (fun j t => t.2.1 = nI j ∧ ∃ L, t.1 = nI L ∧ RLa k n Pm B V T a (min (k0 + 1) 10) c1 t.2.2.1 ∧ t.2.2.1 3 0 = nI bt ∧ (10 ≤ j ∨ k0 + 1 ≤ j) ∧ (∀ j, j ≤ k0 + 1 → MLY (GR n Pm bt W S (k0 + 1 - j) j) 19 (512 * j) t.2.2.1) ∧ GR n Pm bt W S (k0 + 1 - j) j L) (fun y => RLa k n Pm B V T a (min (k0 + 1) 10) c1 y.1) (k0 + 1) ?_ (rh_N - min (k0 + 1) 10) (min (k0 + 1) 10) _ (by omega) (by unfold rh_N; omega) ⟨rfl, L1, rfl, A1, h5.2, by omega, h6, h7⟩)) ?_
    · rintro j ⟨l, w, m', rd'⟩ hj ⟨rfl, L, rfl, A, hb, hj10, hgm, hL⟩
      dsimp only at A hb hgm
      by_cases hjk : j < k0 + 1
      · obtain ⟨s, m2, rd2, hs, hs2, hf, eb⟩ := crs_m A hWf hW hn' hbt hb hS (by omega) hjk hgm hL rd'
        rw [eb, if_pos (show (10 : Int32) ≤ nI j from nI_le (a := 10) (by omega) (by omega))]
        refine OK.ret ⟨hjk, rfl, L ^^^ s, rfl, A.r hf.x, (hf 3 0 rfl (by omega) (by omega)).trans hb, by omega, fun j' hj' => (hgm j' hj').fr (fun L' _ => hf 19 _ rfl (by omega) (by omega)), ?_⟩
        rw [show k0 + 1 - (j + 1) = k0 - j by omega]
        exact hs2.2.2.1
      · rw [cr60_b, if_pos (nI_le (by omega) (by omega))]
        exact OK.ret A
    · rintro x y ⟨rfl, hy⟩
      exact hy.fin
  · rw [tl28_b]
    by_cases hk : k0 + 1 ≤ 10
    · rw [show min (k0 + 1) 10 = k0 + 1 by omega, if_pos (nI_le (Nat.le_refl _) (by omega))]
    · rw [show min (k0 + 1) 10 = 10 by omega, if_neg (nI_ge (by omega) (by omega)), if_pos (show (10 : Int32) ≤ nI 10 by decide)]
theorem RLa.rmx (A : RLa k n Pm B V T a q c m) (hb : m 3 0 = nI bt) : RMX n Pm B V bt T m := ⟨A.qm, hb, A.mt⟩
theorem RLa.wks (A : RLa k n Pm B V T a q c m) (hn' : n' ≤ 99) : ∀ k, k < 20 → ∀ s, WS n (fun i => Wt Pm B V i (T + n' + k)) s ≤ 89991 := fun k hk s => A.sle s (by have := A.T30; omega)
theorem rb_x (h : HI) (a b c : Int32) : XC h (f_Ri_begin h a b c) := ((XC.rf.up 32 2 _ ⟨rfl, by omega, by omega⟩).up 32 3 _ ⟨rfl, by omega, by omega⟩).up 32 4 _ ⟨rfl, by omega, by omega⟩
theorem op_cross (h : RLt k n Pm B V c m) (hk : k ≤ 600) (g : Nat → Nat → Int64) (rd : Option Nat) (p r : Int32) : RO (f_La_cross c g p r) (f_Mo_cross m rd p r) (FIG k n Pm B V) := by
  obtain ⟨T, a, q, A⟩ := h.la hk
  have hT := A.T30
  have hn := A.n9
  unfold f_La_cross f_Mo_cross
  rw [A.row, Option.bind_some, in_wi]
  refine RO.ii Iff.rfl (fun _ => RO.ret ⟨rfl, A.fin⟩) (fun h1 => ?_)
  refine RO.ii Iff.rfl (fun _ => RO.ret ⟨rfl, A.fin⟩) (fun h2 => ?_)
  obtain ⟨S, hS, rfl, -⟩ := row_1 A h1
  obtain ⟨w1, w2⟩ := wi_1 h2
  obtain ⟨n', -, hn', rfl⟩ := nI_rng (lo := 0) (hi := 99) w1 w2 (by omega) (by omega)
  obtain ⟨bt, hbt, b1, b2⟩ := A.bear 0 (by omega)
  rw [show c 40 (0 : Int32).toNatClampNeg = nI bt from b1, A.ct, nI_add]
  have hW := A.wks hn'
  have A1 := A.l (rb_x c (nI S) (nI bt) (nI (T + n')))
  have rv : RVC n Pm S bt (T + n') (f_Ri_begin c (nI S) (nI bt) (nI (T + n'))) := ⟨A1.cp, rfl, rfl, rfl⟩
  obtain ⟨x, ex, hxE, hx⟩ := fw_ok (W := fun k i => Wt Pm B V i (T + n' + k)) A1.qc rv (fun _ _ => rfl) (by omega) hbt hS (M := 19) (by omega) g
  obtain ⟨y, ey, hyE, hy⟩ := fc_ok (W := fun k i => Wt Pm B V i (T + n' + k)) (S := S) (A.rmx b2) (fun _ => rfl) hW (by omega) hn' hbt hS rd
  rw [show f_Ri_fewest (f_Ri_begin c (nI S) (nI bt) (nI (T + n'))) g (19 : Int32) = some x from ex, ey, Option.bind_some, Option.bind_some]
  have A2 := (A1.l hxE.x).r hyE.x
  rcases hx with ⟨k0, k1, k2, k3, k4, k5, k6⟩ | ⟨k3, k5⟩
  · rcases hy with ⟨j0, j2, j3, j4, j5, j6⟩ | ⟨j3, j5⟩
    · have e : j0 = k0 := by
        rcases Nat.lt_trichotomy j0 k0 with z | z | z
        · exact absurd j4 (k5 j0 z)
        · exact z
        · exact absurd k4 (j5 k0 z)
      subst e
      rw [k3, j3, if_neg (show ¬ nI (j0 + 1) ≤ 0 from nI_ge (a := 0) (b := j0 + 1) (by omega) (by omega)), if_neg (show ¬ nI (j0 + 1) = 1000000 from neI (s := 1000000) (by omega) (by omega) (by omega))]
      unfold f_Ri_tellLoads
      rw [dn1]
      obtain ⟨z, ez, hzE, hz⟩ := tl_ok A2.qc (rv.e12 hxE) (fun _ => rfl) hW (by omega) hbt hS k2 k6
      obtain ⟨w, ew, hwE, hw⟩ := fg_ok ((A.rmx b2).eg hyE) (fun _ => rfl) hW (by omega) hn' hbt hS j2 j6 y.2.2
      rw [ez, ew, Option.bind_some, Option.bind_some]
      have A3 := (A2.l hzE.x).r hwE.x
      have hpath : GR n Pm bt (fun k i => Wt Pm B V i (T + n' + k)) S (j0 + 1) 0 S := GR_path (m := j0 + 1) (Nat.le_refl _) j4 (by rw [Nat.sub_self]; rfl)
      obtain ⟨u, v, eu, ev, huv⟩ := cr_row A3 ((rv.e12 hxE).e12 hzE) (fun _ => rfl) hW hn' hbt ((((A.rmx b2).eg hyE).eg hwE).2.1) hS (by omega) hz hw hpath w.2
      rw [eu, ev]
      exact RO.ret ⟨rfl, huv⟩
    · exact absurd k4 (j5 k0 (by omega))
  · rcases hy with ⟨j0, j2, j3, j4, j5, j6⟩ | ⟨j3, j5⟩
    · have := (NR_end.mp j4).1
      exact absurd j4 (k5 j0 (by omega))
    · rw [k3, j3, if_pos (by decide), if_pos rfl]
      exact RO.ret ⟨rfl, A2.fin⟩
theorem op_start (h : RLt k n Pm B V c m) (hk : k ≤ 600) (g : Nat → Nat → Int64) (rd : Option Nat) (p : Int32) : RO (f_La_start c g p) (f_Mo_start m rd p) (FIG k n Pm B V) := by
  obtain ⟨T, a, q, A⟩ := h.la hk
  have hT := A.T30
  have hn := A.n9
  unfold f_La_start f_Mo_start
  rw [A.row, Option.bind_some]
  refine RO.ii Iff.rfl (fun _ => RO.ret ⟨rfl, A.fin⟩) (fun h1 => ?_)
  obtain ⟨S, hS, rfl, -⟩ := row_1 A h1
  obtain ⟨bt, hbt, b1, b2⟩ := A.bear 0 (by omega)
  refine RO.bind (P := fun x y => x.1 = y.1 ∧ RLa k n Pm B V T a q x.2.2.1 y.2.2.1 ∧ (x.1 = -2 ∨ ∃ b, b ≤ 8 ∧ x.1 = nI b ∧ x.2.1 = y.2.1)) (RO.loop _ _ (fun i s t => i ≤ 9 ∧ s.1 = t.1 ∧ s.2.2.1 = nI i ∧ t.2.2.1 = nI i ∧ RLa k n Pm B V T a q s.2.2.2.1 t.2.2.2.1 ∧ (s.2.2.2.1 40 0 = nI bt ∧ t.2.2.2.1 3 0 = nI bt) ∧ ((s.1 = -2 ∧ s.2.1 = nI 20 ∧ t.2.1 = nI 1000000) ∨ ∃ b f, b ≤ 8 ∧ 1 ≤ f ∧ f ≤ 19 ∧ s.1 = nI b ∧ s.2.1 = nI f ∧ t.2.1 = nI f)) _ 9 (by omega) ?_ ⟨by omega, rfl, rfl, rfl, A, ⟨b1, b2⟩, Or.inl ⟨rfl, rfl, rfl⟩⟩) ?_
  · rintro i ⟨s1, s2, s3, c', g'⟩ ⟨t1, t2, t3, m', rd'⟩ - ⟨hi', e1, rfl, rfl, A, ⟨b1, b2⟩, hst⟩
    dsimp only at e1 A b1 b2 hst
    subst e1
    unfold b_La_start_19 b_Mo_start_25
    dsimp only
    by_cases hi9 : 9 ≤ i
    · rw [if_pos (show (9 : Int32) ≤ nI i from nI_le (a := 9) hi9 (by omega)), if_pos (show (8 : Int32) < nI i from ltI (x := 8) (by omega) (by omega))]
      refine RO.ret ⟨rfl, A, ?_⟩
      rcases hst with hst | ⟨b, f, z1, z2, z3, z4, z5, z6⟩
      · exact Or.inl hst.1
      · exact Or.inr ⟨b, z1, z4, z5.trans z6.symm⟩
    · rw [if_neg (show ¬ (9 : Int32) ≤ nI i from nI_ge (b := 9) (by omega) (by omega)), if_neg (show ¬ (8 : Int32) < nI i from nltI (x := 8) (by omega) (by omega)), show c' 40 (0 : Int32).toNatClampNeg = nI bt from b1, A.ct, nI_add]
      have hW := A.wks (n' := i) (by omega)
      have A1 := A.l (rb_x c' (nI S) (nI bt) (nI (T + i)))
      have rv : RVC n Pm S bt (T + i) (f_Ri_begin c' (nI S) (nI bt) (nI (T + i))) := ⟨A1.cp, rfl, rfl, rfl⟩
      obtain ⟨M, hM, eM⟩ : ∃ M, M ≤ 19 ∧ s2 - 1 = nI M ∧ ((s2 = nI 20 ∧ M = 19) ∨ s2 = nI (M + 1)) := by
        rcases hst with ⟨_, z, _⟩ | ⟨b, f, z1, z2, z3, z4, z5, z6⟩
        · exact ⟨19, by omega, by rw [z]; decide, Or.inl ⟨z, rfl⟩⟩
        · exact ⟨f - 1, by omega, by rw [z5]; exact pk_sub (b := 1) z2, Or.inr (by rw [z5, show f - 1 + 1 = f by omega])⟩
      obtain ⟨x, ex, hxE, hx⟩ := fw_ok (W := fun k i' => Wt Pm B V i' (T + i + k)) A1.qc rv (fun _ _ => rfl) (by omega) hbt hS hM g'
      obtain ⟨y, ey, hyE, hy⟩ := fc_ok (W := fun k i' => Wt Pm B V i' (T + i + k)) (S := S) (A.rmx b2) (fun _ => rfl) hW (by omega) (show i ≤ 99 by omega) hbt hS rd'
      rw [eM.1, ex, ey, Option.bind_some, Option.bind_some, nI_1]
      have A2 := (A1.l hxE.x).r hyE.x
      have hbb : x.2.1 40 0 = nI bt ∧ y.2.1 3 0 = nI bt := ⟨(hxE 40 0 (by omega) (by omega)).trans b1, (hyE 3 0 rfl (by omega) (by omega) (by omega) (by omega)).trans b2⟩
      rcases hx with ⟨k0, k1, k2, k3, k4, k5, k6⟩ | ⟨k3, k5⟩
      · rcases hy with ⟨j0, j2, j3, j4, j5, j6⟩ | ⟨j3, j5⟩
        · have e : j0 = k0 := by
            rcases Nat.lt_trichotomy j0 k0 with z | z | z
            · exact absurd j4 (k5 j0 z)
            · exact z
            · exact absurd k4 (j5 k0 z)
          subst e
          have hlt : nI (j0 + 1) < t2 := by
            rcases hst with ⟨_, _, z⟩ | ⟨b, f, z1, z2, z3, z4, z5, z6⟩
            · rw [z]; exact ltI (by omega) (by omega)
            · rw [z6]
              rcases eM.2 with ⟨w1, w2⟩ | w
              · rw [z5] at w1
                have := (nI_eq (by omega) (by omega)).mp w1
                omega
              · rw [z5] at w
                have := (nI_eq (by omega) (by omega)).mp w
                exact ltI (by omega) (by omega)
          rw [k3, j3, if_neg (show ¬ nI (j0 + 1) ≤ 0 from nI_ge (a := 0) (b := j0 + 1) (by omega) (by omega)), if_pos hlt]
          exact RO.ret ⟨by omega, by omega, rfl, rfl, rfl, A2, hbb, Or.inr ⟨i, j0 + 1, by omega, by omega, by omega, rfl, rfl, rfl⟩⟩
        · exact absurd k4 (j5 k0 (by omega))
      · have hnlt : ¬ y.1 < t2 := by
          rcases hy with ⟨j0, j2, j3, j4, j5, j6⟩ | ⟨j3, j5⟩
          · have hev := (NR_end.mp j4).1
            have hMj : M ≤ j0 := by
              rcases Nat.lt_or_ge j0 M with z | z
              · exact absurd j4 (k5 j0 z)
              · exact z
            rw [j3]
            rcases hst with ⟨_, z, _⟩ | ⟨b, f, z1, z2, z3, z4, z5, z6⟩
            · rcases eM.2 with ⟨_, w2⟩ | w
              · omega
              · rw [z] at w
                have := (nI_eq (by omega) (by omega)).mp w
                omega
            · rw [z6]
              rcases eM.2 with ⟨w1, w2⟩ | w
              · rw [z5] at w1
                have := (nI_eq (by omega) (by omega)).mp w1
                omega
              · rw [z5] at w
                have := (nI_eq (by omega) (by omega)).mp w
                exact nltI (by omega) (by omega)
          · rw [j3]
            rcases hst with ⟨_, _, z⟩ | ⟨b, f, z1, z2, z3, z4, z5, z6⟩
            · rw [z]; exact nltI (x := 1000000) (by omega) (by omega)
            · rw [z6]; exact nltI (x := 1000000) (by omega) (by omega)
        rw [k3, if_pos (show (-2 : Int32) ≤ 0 by decide), if_neg hnlt]
        exact RO.ret ⟨by omega, by omega, rfl, rfl, rfl, A2, hbb, hst⟩
  · rintro ⟨x1, x2, cx, gx⟩ ⟨y1, y2, my, ry⟩ ⟨e1, A, hz⟩
    dsimp only at e1 A hz ⊢
    subst e1
    rcases hz with hz | ⟨b, hb, hz, e2⟩
    · rw [hz, if_pos (show (-2 : Int32) < 0 by decide), if_neg (show ¬ (0 : Int32) ≤ -2 by decide)]
      exact RO.ret ⟨rfl, A.fin⟩
    · rw [hz, if_neg (show ¬ nI b < 0 from nltI (s := 0) (by omega) (by omega)), if_pos (show (0 : Int32) ≤ nI b from nI_le (a := 0) (by omega) (by omega)), e2]
      exact RO.bind (A.tell y2) (fun u v huv => RO.ret ⟨rfl, huv.fin⟩)
end RV6
