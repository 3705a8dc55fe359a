/-! earliest: the reference, and both -/
theorem RO.loop2 {σ τ ρ ω : Type} (b : σ → Option (σ ⊕ ρ)) (c : τ → Option (τ ⊕ ω)) (I : Nat → σ → τ → Prop) (Q : ρ → ω → Prop) (e : Nat)
    (hs : ∀ i s t, i ≤ e → I i s t → RO (b s) (c t) (LQ (fun s' t' => i < e ∧ I (i + 1) s' t') Q)) : ∀ (n n2 i : Nat) (s : σ) (t : τ), i ≤ e → e - i < n → e - i < n2 → I i s t → RO (rh_loop b n s) (rh_loop c n2 t) Q := by
  intro n
  induction n with
  | zero => intro n2 i s t _ h; omega
  | succ n ih =>
    intro n2 i s t hi hn hn2 hI
    obtain ⟨n2, rfl⟩ : ∃ z, n2 = z + 1 := ⟨n2 - 1, by omega⟩
    obtain ⟨x, y, hx, hy, hq⟩ := hs i s t hi hI
    cases x with
    | inl s' =>
      cases y with
      | inl t' => rw [lp_go hx, lp_go hy]; exact ih n2 (i + 1) s' t' (by have := hq.1; omega) (by have := hq.1; omega) (by have := hq.1; omega) hq.2
      | inr w => exact hq.elim
    | inr r =>
      cases y with
      | inl t' => exact hq.elim
      | inr w => rw [lp_end hx, lp_end hy]; exact ⟨r, w, rfl, rfl, hq⟩
section ER2
variable {r : Nat} {a : Nat → Nat → Bool}
def PCT (T : HI → Int32 → Int32 → Int32 → Option (Int32 × HI)) (r : Nat) (a : Nat → Nat → Bool) (D : Nat) : Prop := ∀ (h : HI) (b L G : Nat), h 0 29 = nI r → (∀ b, b < 9 → h 15 b = nI (BS (a b) r)) → b ≤ L + 1 → L < 9 → L + 1 - b < D → G < 64 → OK (T h (nI b) (nI L) (nI G)) (fun x => (∀ o j, (o = 16 → j < b) → x.2 o j = h o j) ∧ ((x.1 = 1 ∧ CB r a (L + 1 - b) b G ∧ PNL r a (L + 1 - b) b G (x.2 16)) ∨ (x.1 = 0 ∧ ¬ CB r a (L + 1 - b) b G)))
theorem pf_b (T : HI → Int32 → Int32 → Int32 → Option (Int32 × HI)) (u1 u2 u3 v : Int32) (h : HI) : b_Mo_planFrom_24 T u1 u2 u3 (v, h) = if h 0 29 ≤ v then some (.inr (.inl h)) else if v = (-1 : Int32) then j_Mo_planFrom_58 T h u1 u2 u3 v else rh_g (0 ≤ u1.toInt ∧ u1.toInt < ((9 : Nat) : Int)) (if (f_Mo_has (u3 &&& (h 15 u1.toNatClampNeg)) v) = 0 then some (.inl (v + (1 : Int32), h)) else j_Mo_planFrom_58 T h u1 u2 u3 v) := rfl
theorem pf_ok {T : HI → Int32 → Int32 → Int32 → Option (Int32 × HI)} (hr : r ≤ 6) {D : Nat} (H : PCT T r a D) : PCT (f_Mo_planFrom T) r a (D + 1) := by
  intro h b L G h29 h15 hb hL hD hG
  have hlt : ∀ b, BS (a b) r < 2 ^ 31 := fun b => Nat.lt_of_lt_of_le (BS_lt _ r) (Nat.pow_le_pow_right (by omega) (by omega))
  unfold f_Mo_planFrom
  obtain ⟨p1, p2, p3, p4⟩ := pc64 G hG
  rw [p1, subI1 hb (by omega)]
  by_cases h1 : pc G ≤ L + 1 - b
  · rw [if_pos (nI_le h1 (by omega))]
    by_cases h2 : b ≤ L
    · rw [if_pos (nI_le h2 (by omega))]
      rw [show L + 1 - b = (L - b) + 1 by omega]
      refine OK.bind (P := fun x => Sum.elim (fun g : HI => (∀ o j, (o = 16 → j < b) → g o j = h o j) ∧ ¬ CB r a (L - b + 1) b G) (fun y : Int32 × HI => (∀ o j, (o = 16 → j < b) → y.2 o j = h o j) ∧ y.1 = 1 ∧ CB r a (L - b + 1) b G ∧ PNL r a (L - b + 1) b G (y.2 16)) x) (OK.loop _ (fun i s => i ≤ r + 1 ∧ s.1 = nI i - 1 ∧ (∀ o j, (o = 16 → j < b) → s.2 o j = h o j) ∧ (0 < i → ¬ CB r a (L - b) (b + 1) G) ∧ ∀ u, u + 1 < i → ¬ (a b u = true ∧ G.testBit u = true ∧ CB r a (L - b) (b + 1) (G ^^^ 2 ^ u))) _ (r + 1) (by omega) ?_ ⟨by omega, dn0.symm, fun _ _ _ => rfl, fun z => absurd z (by omega), fun u hu => absurd hu (by omega)⟩) (fun x hx => ?_)
      · rintro i ⟨v, g⟩ - ⟨hi, rfl, hf, hc0, hu⟩
        dsimp only at hf
        have g29 : g 0 29 = nI r := (hf 0 29 (by omega)).trans h29
        have g15 : ∀ b, b < 9 → g 15 b = nI (BS (a b) r) := fun b' hb' => (hf 15 b' (by omega)).trans (h15 b' hb')
        -- what a call for the rest gives
        have call : ∀ (w : Int32) (G1 : Nat), G1 < 64 → OK (T (rh_up g 16 b w) (nI (b + 1)) (nI L) (nI G1)) (fun x => (∀ o j, (o = 16 → j < b) → x.2 o j = h o j) ∧ ((x.1 = 1 ∧ CB r a (L - b) (b + 1) G1 ∧ x.2 16 b = w ∧ PNL r a (L - b) (b + 1) G1 (x.2 16)) ∨ (x.1 = 0 ∧ ¬ CB r a (L - b) (b + 1) G1))) := fun w G1 hG1 => by
          refine OK.mono (H (rh_up g 16 b w) (b + 1) L G1 ((up_f _ _ _ _ _ _).trans ((if_neg (by omega)).trans g29)) (fun b' hb' => (up_f _ _ _ _ _ _).trans ((if_neg (by omega)).trans (g15 b' hb'))) (by omega) hL (by omega) hG1) (fun x hx => ?_)
          rw [show L + 1 - (b + 1) = L - b by omega] at hx
          refine ⟨fun o j hoj => ?_, ?_⟩
          · rw [hx.1 o j (fun z => by have := hoj z; omega), up_f, if_neg (fun z => by have := hoj z.1; omega)]
            exact hf o j hoj
          · rcases hx.2 with ⟨x1, x2, x3⟩ | x
            · exact Or.inl ⟨x1, x2, by rw [hx.1 16 b (by omega), rh_up_s], x3⟩
            · exact Or.inr x
        rw [pf_b, g29]
        by_cases hi0 : i = 0
        · subst hi0
          rw [dn0, if_neg (by rw [fa_le, nI_toInt (by omega)]; have : (-1 : Int32).toInt = -1 := rfl; omega), if_pos rfl]
          unfold j_Mo_planFrom_58
          rw [nI_clamp (by omega), if_pos rfl, nI_1]
          refine OK.g (gd_nI (by omega) (by omega)) (OK.bind (call (-1) G hG) (fun x hx => ?_))
          rcases hx with ⟨x0, ⟨x1, x2, x3, x4⟩ | ⟨x1, x2⟩⟩
          · rw [x1, if_neg (by decide)]
            exact OK.ret ⟨x0, rfl, Or.inl x2, G, Or.inl ⟨x2, x3, rfl⟩, x4⟩
          · rw [x1, if_pos rfl]
            exact OK.ret ⟨by omega, by omega, show (-1 : Int32) + 1 = nI (0 + 1) - 1 by decide, x0, fun _ => x2, fun u hu => absurd hu (by omega)⟩
        · obtain ⟨t, rfl⟩ : ∃ t, i = t + 1 := ⟨i - 1, by omega⟩
          rw [dn1]
          have hno := hc0 (by omega)
          refine OK.ite (fun hc => OK.ret ⟨hf, ?_⟩) (fun hc => ?_)
          · have := ple hc (by omega) (by omega)
            rintro (z | ⟨u, z1, z2⟩)
            · exact hno z
            · exact hu u (by omega) z2
          have ht : t < r := nle hc (by omega) (by omega)
          have hbit : (BS (a b) r).testBit t = a b t := by rw [BS_bit, decide_eq_true ht, Bool.true_and]
          rw [if_neg (nI_ne1 (by omega)), nI_clamp (by omega), g15 b (by omega), fa_and]
          refine OK.g (gd_nI (by omega) (by omega)) ?_
          have hand : G &&& BS (a b) r < 2 ^ 31 := Nat.lt_of_le_of_lt Nat.and_le_left (by omega)
          have next : ¬ (a b t = true ∧ G.testBit t = true ∧ CB r a (L - b) (b + 1) (G ^^^ 2 ^ t)) → ∀ g' : HI, (∀ o j, (o = 16 → j < b) → g' o j = h o j) → (t + 1 < r + 1 ∧ t + 1 + 1 ≤ r + 1 ∧ nI t + 1 = nI (t + 1 + 1) - 1 ∧ (∀ o j, (o = 16 → j < b) → g' o j = h o j) ∧ (0 < t + 1 + 1 → ¬ CB r a (L - b) (b + 1) G) ∧ ∀ u, u + 1 < t + 1 + 1 → ¬ (a b u = true ∧ G.testBit u = true ∧ CB r a (L - b) (b + 1) (G ^^^ 2 ^ u))) := fun hn g' hg' => by
            refine ⟨by omega, by omega, by rw [dn1, nI_1], hg', fun _ => hno, fun u hu2 => ?_⟩
            rcases (show u + 1 < t + 1 ∨ u = t by omega) with q | q
            · exact hu u q
            · subst q; exact hn
          by_cases hb2 : a b t = true ∧ G.testBit t = true
          · have hh : ¬ f_Mo_has (nI (G &&& BS (a b) r)) (nI t) = 0 := fun z => by
              have := (has_t hand (by omega)).mp z
              rw [Nat.testBit_and, hbit, hb2.1, hb2.2] at this
              exact absurd this (by decide)
            rw [if_neg hh]
            unfold j_Mo_planFrom_58
            rw [nI_clamp (by omega), if_neg (nI_ne1 (by omega)), nI_1, two_n t (by omega), (g64 G hG t (by omega)).2.2 hb2.2]
            refine OK.g (gd_nI (by omega) (by omega)) (OK.bind (call (nI t) _ (g64 G hG t (by omega)).1) (fun x hx => ?_))
            rcases hx with ⟨x0, ⟨x1, x2, x3, x4⟩ | ⟨x1, x2⟩⟩
            · rw [x1, if_neg (by decide)]
              exact OK.ret ⟨x0, rfl, Or.inr ⟨t, ht, hb2.1, hb2.2, x2⟩, _, Or.inr ⟨hno, t, ht, ⟨hb2.1, hb2.2, x2⟩, fun u hu2 => hu u (by omega), x3, rfl⟩, x4⟩
            · rw [x1, if_pos rfl]
              exact OK.ret (next (fun w => x2 w.2.2) x.2 x0)
          · have hh : f_Mo_has (nI (G &&& BS (a b) r)) (nI t) = 0 := (has_t hand (by omega)).mpr (by
              rw [Nat.testBit_and, hbit]
              cases h1 : a b t with
              | false => simp
              | true =>
                cases h2 : G.testBit t with
                | false => simp
                | true => exact absurd ⟨h1, h2⟩ hb2)
            rw [if_pos hh]
            exact OK.ret (next (fun w => hb2 ⟨w.1, w.2.1⟩) g hf)
      · cases x with
        | inl g => exact OK.ret ⟨hx.1, Or.inr ⟨rfl, hx.2⟩⟩
        | inr y => exact OK.ret ⟨hx.1, Or.inl hx.2⟩
    · rw [if_neg (nI_ge (by omega) (by omega))]
      have hb2 : L + 1 - b = 0 := by omega
      rw [hb2] at h1 ⊢
      exact OK.ret ⟨fun _ _ _ => rfl, Or.inl ⟨rfl, p3 (by omega), trivial⟩⟩
  · rw [if_neg (nI_ge (by omega) (by omega))]
    exact OK.ret ⟨fun _ _ _ => rfl, Or.inr ⟨rfl, fun z => h1 (CB_pc hr hG z)⟩⟩
theorem pg_ok (hr : r ≤ 6) : ∀ n, PCT (g_Mo_planFrom n) r a n
  | 0 => fun h b L G _ _ _ _ hD _ => absurd hD (by omega)
  | n + 1 => pf_ok hr (pg_ok hr n)
end ER2
def FIG (k n Pm : Nat) (B : Nat → Nat) (V : Nat → Nat → Nat → Nat) (x : Int32 × HI × (Nat → Nat → Int64)) (y : Int32 × HI × Option Nat) : Prop := x.1 = y.1 ∧ RLt (k + 1) n Pm B V x.2.1 y.2.1
section ER3
variable {k n Pm : Nat} {B : Nat → Nat} {V : Nat → Nat → Nat → Nat} {T a q : Nat} {c m : HI} {r : Nat} {lo hi : Nat → Nat}
theorem da_c (A : RLa k n Pm B V T a q c m) (tk : TK r lo hi c m) (g : Nat → Nat → Int64) : OK (rh_loop (b_La_earliest_14 g) rh_N ((0 : Int32), c)) (fun x => XC c x ∧ ∀ b, b < 9 → x 28 b = nI (BS (AB n Pm B V T lo hi b) r)) := by
  have hT := A.T30
  refine OK.loop _ (fun i s => i ≤ 9 ∧ s.1 = nI i ∧ XC c s.2 ∧ ∀ b, b < i → s.2 28 b = nI (BS (AB n Pm B V T lo hi b) r)) _ 9 (by omega) ?_ ⟨by omega, rfl, XC.rf, fun b hb => by omega⟩
  rintro i ⟨x1, h⟩ - ⟨hi', rfl, hx, h28⟩
  dsimp only at hx h28
  unfold b_La_earliest_14
  dsimp only
  refine OK.ite (fun h => OK.ret ?_) (fun h => ?_)
  · have : i = 9 := by have := ple (b := 9) h (by omega) (by omega); omega
    subst this; exact ⟨hx, h28⟩
  have hi2 : i < 9 := nle (b := 9) h (by omega) (by omega)
  have A := A.l hx
  have tk := tk.fr hx (XM.rf (h := m))
  rw [A.dc, nI_add]
  have hS : ∀ s, WS n (fun j => Wt Pm B V j (9 * (T / 9) + i)) s ≤ 89991 := fun s => A.sle s (by omega)
  refine OK.bind (su_c A.qc (by omega)) (fun h' hh => ?_)
  have A := A.l hh.1.x
  have tk := tk.fr hh.1.x (XM.rf (h := m))
  rw [do_c A tk hh.2 hS, Option.bind_some, nI_clamp (by omega), nI_1]
  refine OK.g (gd_nI (by omega) (by omega)) (OK.ret ⟨hi2, hi2, rfl, (hx.tr hh.1.x).up 28 _ _ ⟨rfl, by omega, by omega⟩, fun b hb => ?_⟩)
  show rh_up h' 28 i _ 28 b = _
  by_cases z : b = i
  · subst z; rw [rh_up_s]; rfl
  · rw [gup _ _ _ _ z, hh.1 28 b (by omega) (by omega)]; exact h28 b (by omega)
theorem RLa.addf (A : RLa k n Pm B V T a q c m) (hq : q < 11) (v : Int32) : RO (f_Ro_add c v) (f_Mo_tell m v) (fun x y => RLa k n Pm B V T a (q + 1) x y ∧ (∀ o j, o ≠ 2 → o ≠ 3 → x o j = c o j) ∧ ∀ o j, o ≠ 0 → o ≠ 5 → y o j = m o j) := by
  obtain ⟨x, y, ex, ey, h⟩ := A.add hq v
  refine ⟨x, y, ex, ey, h, fun o j h2 h3 => ?_, fun o j h0 h5 => ?_⟩
  · unfold f_Ro_add at ex
    rw [A.cq, if_neg (show ¬ (11 : Int32) ≤ nI q from nI_ge (a := q) (b := 11) hq (by omega)), rg_t (gd_nI (i := q) (N := 11) hq (by omega))] at ex
    rw [← Option.some.inj ex, up_f, if_neg (fun z => h2 z.1), up_f, if_neg (fun z => h3 z.1)]
  · unfold f_Mo_tell at ey
    rw [A.mq, rg_t (gd_nI (i := q) (N := 16) (by omega) (by omega))] at ey
    rw [← Option.some.inj ey, up_f, if_neg (fun z => h0 z.1), up_f, if_neg (fun z => h5 z.1)]
theorem er_row {ab : Nat → Nat → Bool} {L : Nat} {g1 : Nat → Nat → Int64} {rd1 : Option Nat} (hr : r ≤ 6) (A : RLa k n Pm B V T a q c m) (h25 : c 25 0 = nI r) (h28 : ∀ b, b < 9 → c 28 b = nI (BS (ab b) r)) (hL : L < 9) (hl : LFT r ab L 0 g1) (hcb : CB r ab (L + 1) 0 (2 ^ r - 1)) (hpn : PNL r ab (L + 1) 0 (2 ^ r - 1) (m 16)) : RO (f_Ta_tellPlan c g1 (nI L)) (rh_loop (b_Mo_earliest_53 (nI L) rd1) rh_N ((0 : Int32), rh_up m 0 8 (0 : Int32))) (fun x y => RLt (k + 1) n Pm B V x y) := by
  have h2r : 1 ≤ 2 ^ r ∧ 2 ^ r ≤ 64 := ⟨Nat.one_le_two_pow, Nat.pow_le_pow_right (n := 2) (by omega) hr⟩
  unfold f_Ta_tellPlan
  have h25b : f_Ro_begin c 25 0 = nI r := h25
  rw [h25b, two_n r (by omega), show nI (2 ^ r) - 1 = nI (2 ^ r - 1) from pk_sub (b := 1) h2r.1]
  obtain ⟨x, y, ex, ey, hq⟩ := RO.loop (b_Ta_tellPlan_16 (nI L) g1) (b_Mo_earliest_53 (nI L) rd1) (fun i s t => i ≤ L + 1 ∧ s.2.1 = nI i ∧ t.1 = nI i ∧ RLa k n Pm B V T a i s.2.2 t.2 ∧ (s.2.2 25 0 = nI r ∧ (∀ b, b < 9 → s.2.2 28 b = nI (BS (ab b) r)) ∧ ∀ j, t.2 16 j = m 16 j) ∧ ∃ G, G < 64 ∧ s.1 = nI G ∧ CB r ab (L + 1 - i) i G ∧ PNL r ab (L + 1 - i) i G (m 16)) (fun x y => RLt (k + 1) n Pm B V x y) (L + 1) (by omega) (by
    rintro i ⟨s1, s2, c'⟩ ⟨t1, m'⟩ - ⟨hi', rfl, rfl, A, ⟨f1, f2, f3⟩, G, hG, rfl, hc, hp⟩
    dsimp only at A f1 f2 f3
    unfold b_Ta_tellPlan_16 b_Mo_earliest_53
    dsimp only
    refine RO.ii Iff.rfl (fun _ => RO.ret A.fin) (fun h => ?_)
    have hiL : i ≤ L := nlt h (by omega) (by omega)
    rw [nI_clamp (n := i) (by omega), f3 i]
    refine RO.gr (gd_nI (by omega) (by omega)) (RO.bl (nt_ok hr f1 f2 hiL hL hG hl hc) ?_)
    rintro v ⟨G1, hv⟩
    rw [show L + 1 - i = (L - i) + 1 by omega] at hp
    obtain ⟨G2, hp1, hp2⟩ := hp
    obtain ⟨e1, e2⟩ := hv.one hp1
    subst e2
    rw [e1]
    refine RO.bind (A.addf (by omega) (m 16 i)) ?_
    rintro x y ⟨A', fx, fy⟩
    have hnew : ∀ G', CB r ab (L - i) (i + 1) G' → G' < 64 → PNL r ab (L - i) (i + 1) G' (m 16) → i < L + 1 ∧ i + 1 ≤ L + 1 ∧ nI i + 1 = nI (i + 1) ∧ nI i + 1 = nI (i + 1) ∧ RLa k n Pm B V T a (i + 1) x y ∧ (x 25 0 = nI r ∧ (∀ b, b < 9 → x 28 b = nI (BS (ab b) r)) ∧ ∀ j, y 16 j = m 16 j) ∧ ∃ G, G < 64 ∧ nI G' = nI G ∧ CB r ab (L + 1 - (i + 1)) (i + 1) G ∧ PNL r ab (L + 1 - (i + 1)) (i + 1) G (m 16) := fun G' h1 h2 h3 =>
      ⟨by omega, by omega, nI_1 i, nI_1 i, A', ⟨(fx 25 0 (by omega) (by omega)).trans f1, fun b hb => (fx 28 b (by omega) (by omega)).trans (f2 b hb), fun j => (fy 16 j (by omega) (by omega)).trans (f3 j)⟩, G', h2, rfl, by rw [show L + 1 - (i + 1) = L - i by omega]; exact h1, by rw [show L + 1 - (i + 1) = L - i by omega]; exact h3⟩
    rcases hp1 with ⟨y1, y2, y3⟩ | ⟨y1, t, y2, y3, y4, y5, y6⟩
    · rw [y2, if_pos rfl, fa_and, Nat.and_self]
      subst y3
      exact RO.ret (hnew _ y1 hG hp2)
    · rw [y5, if_neg (nI_ne1 (by omega)), two_n t (by omega), (g64 G hG t (by omega)).2.2 y3.2.1]
      subst y6
      exact RO.ret (hnew _ y3.2.2 (g64 G hG t (by omega)).1 hp2)) (s := (nI (2 ^ r - 1), (0 : Int32), f_Ro_begin c)) (t := ((0 : Int32), rh_up m 0 8 (0 : Int32))) ⟨by omega, rfl, rfl, A.beg, ⟨h25b, h28, fun j => rfl⟩, 2 ^ r - 1, by omega, rfl, hcb, hpn⟩
  exact ⟨x, y, by rw [ex]; rfl, ey, hq⟩
theorem er_b (rd : Option Nat) (v : Int32) (h : HI) : b_Mo_earliest_20 rd (v, h) = if (9 : Int32) ≤ v then some (.inr (.inl h)) else (f_Mo_planFromw h (0 : Int32) v (((1 : Int32) <<< ((h 0 29) &&& 31)) - (1 : Int32))).bind (fun x5 => if x5.1 = 0 then some (.inl (v + (1 : Int32), x5.2)) else (rh_loop (b_Mo_earliest_53 v rd) rh_N ((0 : Int32), rh_up x5.2 0 8 (0 : Int32))).bind (fun r11 => some (.inr (.inr (v, r11, rd))))) := rfl
theorem op_earliest (h : RLt k n Pm B V c m) (hk : k ≤ 600) (g : Nat → Nat → Int64) (rd : Option Nat) : RO (f_La_earliest c g) (f_Mo_earliest m rd) (FIG k n Pm B V) := by
  obtain ⟨T, a, q, A⟩ := h.la hk
  obtain ⟨r, lo, hi, tk⟩ := A.tk
  have hr := tk.1
  have h2r : 1 ≤ 2 ^ r ∧ 2 ^ r ≤ 64 := ⟨Nat.one_le_two_pow, Nat.pow_le_pow_right (n := 2) (by omega) hr⟩
  unfold f_La_earliest f_Mo_earliest
  have tk2 : m 0 29 = nI r := tk.2.2.1
  rw [tk.2.1, tk2]
  refine RO.ii Iff.rfl (fun _ => RO.ret ⟨rfl, A.fin⟩) (fun h0 => ?_)
  have hr0 : r ≠ 0 := fun z => h0 (by rw [z]; rfl)
  refine RO.bl (da_c A tk g) (fun c1 hc1 => ?_)
  have A := A.l hc1.1
  have tk := tk.fr hc1.1 (XM.rf (h := rh_up m 0 9 0))
  refine RO.br (fa_m A rd tk) ?_
  rintro ⟨m1, rd1⟩ ⟨hy, h15⟩
  dsimp only at hy h15 ⊢
  have A := A.r hy
  have tk := tk.fr (XC.rf (h := c1)) hy
  have h25 := tk.2.1
  have h29 := tk.2.2.1
  rw [h25]
  generalize ha : AB n Pm B V T lo hi = ab at hc1 h15
  have hall : pc (2 ^ r - 1) = r := by
    have : ∀ r, r ≤ 6 → pc (2 ^ r - 1) = r := by decide +kernel
    exact this r hr
  -- the reference's first rounds, for which there are too few bells
  have skip : ∀ j, j ≤ r - 1 → rh_loop (b_Mo_earliest_20 rd1) rh_N ((0 : Int32), m1) = rh_loop (b_Mo_earliest_20 rd1) (rh_N - j) (nI j, m1) := by
    intro j
    induction j with
    | zero => intro _; rfl
    | succ j ih =>
      intro hj
      rw [ih (by omega), st_l (s' := (nI (j + 1), m1)) ?_ (by unfold rh_N; omega)]
      · rfl
      · have e0 : nI j - (0 : Int32) + 1 = nI (j + 1) := by
          rw [show (0 : Int32) = nI 0 from rfl, subI1 (b := 0) (by omega) (by omega)]
          rfl
        have e1 : f_Mo_planFromw m1 (0 : Int32) (nI j) (nI (2 ^ r - 1)) = some (0, m1) := by
          unfold f_Mo_planFromw f_Mo_planFrom
          rw [(pc64 (2 ^ r - 1) (by omega)).1, hall, e0, if_neg (nI_ge (by omega) (by omega))]
        rw [er_b, if_neg (show ¬ (9 : Int32) ≤ nI j from nI_ge (b := 9) (by omega) (by omega)), h29, two_n r (by omega), show nI (2 ^ r) - 1 = nI (2 ^ r - 1) from pk_sub (b := 1) h2r.1, e1, Option.bind_some, if_pos rfl, nI_1]
  rw [skip (r - 1) (Nat.le_refl _), show nI r - 1 = nI (r - 1) from pk_sub (b := 1) (by omega)]
  refine RO.bind (P := fun x y => (∃ g', x = .inl g' ∧ ∃ m', y = .inl m' ∧ RLa k n Pm B V T a q c1 m') ∨ (∃ v c' g' m', x = .inr (v, c', g') ∧ y = .inr (v, m', rd1) ∧ RLt (k + 1) n Pm B V c' m')) (RO.loop2 _ _ (fun i s t => r - 1 + i ≤ 9 ∧ s.1 = nI (r - 1 + i) ∧ t.1 = nI (r - 1 + i) ∧ XM m1 t.2 ∧ ∀ b, b < 9 → t.2 15 b = nI (BS (ab b) r)) _ 9 ?_ rh_N (rh_N - (r - 1)) 0 _ _ (by omega) (by unfold rh_N; omega) (by unfold rh_N; omega) ⟨by omega, rfl, rfl, XM.rf, h15⟩) (fun x y hp => ?_)
  · rintro i ⟨s1, g'⟩ ⟨t1, m'⟩ - ⟨hi', rfl, rfl, hxm, h15⟩
    dsimp only at hxm h15
    have A := A.r hxm
    have tk := tk.fr (XC.rf (h := c1)) hxm
    have h29 := tk.2.2.1
    unfold b_La_earliest_69 b_Mo_earliest_20
    dsimp only
    refine RO.ii Iff.rfl (fun _ => RO.ret (Or.inl ⟨_, rfl, _, rfl, A⟩)) (fun hc => ?_)
    have hL : r - 1 + i < 9 := nle (b := 9) hc (by omega) (by omega)
    generalize hLL : r - 1 + i = L at hL hi' ⊢
    refine RO.bl (pl_ok (a := ab) hr h25 hc1.2 hL g') ?_
    rintro ⟨x1, g1⟩ ⟨hl, hx⟩
    dsimp only at hl hx ⊢
    rw [h29, two_n r (by omega), show nI (2 ^ r) - 1 = nI (2 ^ r - 1) from pk_sub (b := 1) h2r.1]
    unfold f_Mo_planFromw
    refine RO.br (pf_ok (a := ab) hr (pg_ok hr 16) m' 0 L (2 ^ r - 1) h29 h15 (by omega) hL (by omega) (by omega)) ?_
    rintro ⟨y1, m2⟩ ⟨hf, hy2⟩
    dsimp only at hf hy2 ⊢
    rw [Nat.sub_zero] at hy2
    have hf' : ∀ o j, o ≠ 16 → m2 o j = m' o j := fun o j ho => hf o j (fun z => absurd z ho)
    have hxm2 : XM m' m2 := fun o j hp => hf' o j (fun z => by subst z; rcases hp with z | z | z; exact absurd (show false = true from z) (by decide); omega; omega)
    rcases hx with ⟨rfl, hcb⟩ | ⟨rfl, hcb⟩
    · rcases hy2 with ⟨rfl, _, hpn⟩ | ⟨_, z⟩
      · rw [if_neg (by decide), if_neg (by decide)]
        have A := A.r hxm2
        have tk := tk.fr (XC.rf (h := c1)) hxm2
        exact RO.bind (er_row hr A h25 hc1.2 hL hl hcb hpn) (fun x y hxy => RO.ret (Or.inr ⟨_, _, _, _, rfl, rfl, hxy⟩))
      · exact absurd hcb z
    · rcases hy2 with ⟨_, z, _⟩ | ⟨rfl, _⟩
      · exact absurd z hcb
      · rw [if_pos rfl, if_pos rfl]
        refine RO.ret ⟨by omega, by omega, by rw [nI_1, ← hLL]; rfl, by rw [nI_1, ← hLL]; rfl, hxm.tr hxm2, fun b hb => (hf' 15 b (by omega)).trans (h15 b hb)⟩
  · rcases hp with ⟨g', rfl, m', rfl, A⟩ | ⟨v, c', g', m', rfl, rfl, hh⟩
    · exact RO.ret ⟨rfl, A.fin⟩
    · exact RO.ret ⟨rfl, hh⟩
end ER3
