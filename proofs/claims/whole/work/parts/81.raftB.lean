/-! steady: the class's layers, last to first -/
section RFB
variable {a n bt b cnt d : Nat} {w : Nat → Nat → Nat} {A : Nat → CFG} {X0 X : CFG} {c : HI}
def F47 (b : Nat) (c c' : HI) : Prop := ∀ o j, (o = 47 → j < 500 * b ∨ 500 * (b + 1) ≤ j) → c' o j = c o j
theorem n2_b (u1 v : Int32) (h : HI) : b_St_narrow_2 u1 (v, h) = rh_g (0 ≤ u1.toInt ∧ u1.toInt < ((21 : Nat) : Int)) (if (h 46 u1.toNatClampNeg) ≤ v then some (.inr h) else rh_g (0 ≤ ((u1 * (500 : Int32)) + v).toInt ∧ ((u1 * (500 : Int32)) + v).toInt < ((10500 : Nat) : Int)) (some (.inl (v + (1 : Int32), rh_up h 47 ((u1 * (500 : Int32)) + v).toNatClampNeg (0 : Int32))))) := rfl
theorem n2_c (hb : b ≤ 20) (h5 : cnt ≤ 500) (h46 : c 46 b = nI cnt) : OK (rh_loop (b_St_narrow_2 (nI b)) rh_N ((0 : Int32), c)) (fun x => F47 b c x ∧ ∀ j, j < cnt → x 47 (500 * b + j) = nI 0) := by
  refine OK.loop _ (fun i s => i ≤ cnt ∧ s.1 = nI i ∧ F47 b c s.2 ∧ ∀ j, j < i → s.2 47 (500 * b + j) = nI 0) _ cnt (by omega) ?_ ⟨by omega, rfl, fun _ _ _ => rfl, fun j hj => by omega⟩
  rintro i ⟨v, h⟩ - ⟨hi, rfl, hf, hz⟩
  dsimp only at hf hz
  rw [n2_b, nI_clamp (by omega), hf 46 b (by omega), h46]
  refine OK.g (gd_nI (by omega) (by omega)) (OK.ite (fun hc => OK.ret ?_) (fun hc => ?_))
  · have : i = cnt := by have := ple hc (by omega) (by omega); omega
    subst this; exact ⟨hf, hz⟩
  have hi2 : i < cnt := nle hc (by omega) (by omega)
  rw [show nI b * 500 = nI (b * 500) from pk_mul b 500, nI_add, nI_clamp (by omega), show b * 500 + i = 500 * b + i by omega, nI_1]
  refine OK.g (gd_nI (by omega) (by omega)) (OK.ret ⟨hi2, hi2, rfl, fun o j ho => ?_, fun j hj => ?_⟩)
  · show rh_up h 47 (500 * b + i) 0 o j = _
    rw [up_f, if_neg (fun z => by have := ho z.1; omega)]; exact hf o j ho
  · show rh_up h 47 (500 * b + i) 0 47 (500 * b + j) = _
    by_cases z : j = i
    · subst z; rw [rh_up_s]; rfl
    · rw [gup _ _ _ _ (by omega)]; exact hz j (by omega)
theorem n52_b (u2 v : Int32) (h : HI) : b_St_narrow_52 u2 (v, h) = rh_g (0 ≤ u2.toInt ∧ u2.toInt < ((21 : Nat) : Int)) (if (h 46 u2.toNatClampNeg) ≤ v then some (.inr h) else rh_g (0 ≤ ((u2 * (500 : Int32)) + v).toInt ∧ ((u2 * (500 : Int32)) + v).toInt < ((10500 : Nat) : Int)) ((f_St_slotOf h u2 (h 45 ((u2 * (500 : Int32)) + v).toNatClampNeg)).bind (fun x14 => rh_g (0 ≤ x14.toInt ∧ x14.toInt < ((1024 : Nat) : Int)) (some (.inl (v + (1 : Int32), rh_up h 48 x14.toNatClampNeg (v + (1 : Int32)))))))) := rfl
theorem n52_c (hn : n ≤ 9) (hb : b ≤ 20) (h5 : cnt ≤ 500) (h46 : c 46 b = nI cnt) (ls : LST a n b cnt A c) (hA : ∀ j, j < cnt → VX a n X0 (A j)) (hne : ∀ i j, i < j → j < cnt → A i ≠ A j) (h48 : ∀ j, j < 1024 → c 48 j = 0) : OK (rh_loop (b_St_narrow_52 (nI b)) rh_N ((0 : Int32), c)) (fun x => (∀ o j, o ≠ 48 → x o j = c o j) ∧ TBL a n cnt A x) := by
  refine OK.loop _ (fun i s => i ≤ cnt ∧ s.1 = nI i ∧ (∀ o j, o ≠ 48 → s.2 o j = c o j) ∧ TBL a n i A s.2) _ cnt (by omega) ?_ ⟨by omega, rfl, fun _ _ _ => rfl, by omega, fun s hs => Or.inl (h48 s hs), fun s s' hs _ _ hne => absurd (h48 s hs) hne, fun j hj => by omega⟩
  rintro i ⟨v, h⟩ - ⟨hi, rfl, hf, ht⟩
  dsimp only at hf ht
  rw [n52_b, nI_clamp (by omega), hf 46 b (by omega), h46]
  refine OK.g (gd_nI (by omega) (by omega)) (OK.ite (fun hc => OK.ret ?_) (fun hc => ?_))
  · have : i = cnt := by have := ple hc (by omega) (by omega); omega
    subst this; exact ⟨hf, ht⟩
  have hi2 : i < cnt := nle hc (by omega) (by omega)
  rw [show nI b * 500 = nI (b * 500) from pk_mul b 500, nI_add, nI_clamp (by omega), show b * 500 + i = 500 * b + i by omega, nI_1, hf 45 _ (by omega), ls i hi2]
  refine OK.g (gd_nI (by omega) (by omega)) (OK.bind (so_c hn hb ht (fun j hj => (hf 45 _ (by omega)).trans (ls j (by omega))) (fun j hj => hA j (by omega)) (hA i hi2)) ?_)
  rintro x ⟨s, hs, rfl, hh⟩
  rw [nI_clamp (by omega)]
  refine OK.g (gd_nI hs (by omega)) (OK.ret ⟨hi2, hi2, rfl, fun o j ho => ?_, ?_⟩)
  · show rh_up h 48 s (nI (i + 1)) o j = _
    rw [up_f, if_neg (fun z => ho z.1)]; exact hf o j ho
  · rcases hh with ⟨j, hj, e, y⟩ | ⟨hno, y, d, hd, hsd, hpre⟩
    · exact absurd e (hne j i hj hi2)
    · exact ht.put (s := s) (d := d) (by omega) hsd hd y hpre (rh_up_s _ _ _ _) (fun s' hs' => gup _ _ _ _ hs')
theorem n95_b (u2 v : Int32) (h : HI) : b_St_narrow_95 u2 (v, h) = rh_g (0 ≤ (u2 - (1 : Int32)).toInt ∧ (u2 - (1 : Int32)).toInt < ((21 : Nat) : Int)) (if (h 46 (u2 - (1 : Int32)).toNatClampNeg) ≤ v then some (.inr h) else rh_g (0 ≤ (((u2 - (1 : Int32)) * (500 : Int32)) + v).toInt ∧ (((u2 - (1 : Int32)) * (500 : Int32)) + v).toInt < ((10500 : Nat) : Int)) ((f_St_bestFrom h u2 (h 45 (((u2 - (1 : Int32)) * (500 : Int32)) + v).toNatClampNeg)).bind (fun x21 => rh_g (0 ≤ (((u2 - (1 : Int32)) * (500 : Int32)) + v).toInt ∧ (((u2 - (1 : Int32)) * (500 : Int32)) + v).toInt < ((10500 : Nat) : Int)) (some (.inl (v + (1 : Int32), rh_up h 47 (((u2 - (1 : Int32)) * (500 : Int32)) + v).toNatClampNeg x21)))))) := rfl
theorem n95_c (hn : n ≤ 9) (hb : b < 20) (hd : d < 20) (hw : ∀ i, i < n → w (b + 1) i ≤ 9999) (hbt : bt ≤ 9999) (sn : SNC a n bt c) (wc : WC a n (w (b + 1)) c) (tb : TBL a n cnt A c) (ls : LST a n (b + 1) cnt A c) (hA : ∀ j, j < cnt → VX a n X0 (A j)) (hS : SETL cnt A (LYS a n bt w X0 (b + 1))) (hv : ∀ j, j < cnt → ∃ e, c 47 (500 * (b + 1) + j) = nI e ∧ ENC a n bt w d (b + 1) (A j) e) {cn : Nat} {A' : Nat → CFG} (p1 : cn ≤ 500) (p2 : c 46 b = nI cn) (p3 : LST a n b cn A' c) (p4 : ∀ j, j < cn → VX a n X0 (A' j)) (p5 : SETL cn A' (LYS a n bt w X0 b)) : OK (rh_loop (b_St_narrow_95 (nI (b + 1))) rh_N ((0 : Int32), c)) (fun x => F47 b c x ∧ ∀ j, j < cn → ∃ e, x 47 (500 * b + j) = nI e ∧ ENC a n bt w (d + 1) b (A' j) e) := by
  refine OK.loop _ (fun i s => i ≤ cn ∧ s.1 = nI i ∧ F47 b c s.2 ∧ ∀ j, j < i → ∃ e, s.2 47 (500 * b + j) = nI e ∧ ENC a n bt w (d + 1) b (A' j) e) _ cn (by omega) ?_ ⟨by omega, rfl, fun _ _ _ => rfl, fun j hj => by omega⟩
  rintro i ⟨v, h⟩ - ⟨hi, rfl, hf, hz⟩
  dsimp only at hf hz
  rw [n95_b, dn1, nI_clamp (by omega), hf 46 b (by omega), p2]
  refine OK.g (gd_nI (by omega) (by omega)) (OK.ite (fun hc => OK.ret ?_) (fun hc => ?_))
  · have : i = cn := by have := ple hc (by omega) (by omega); omega
    subst this; exact ⟨hf, hz⟩
  have hi2 : i < cn := nle hc (by omega) (by omega)
  have hc5 := tb.1
  rw [show nI b * 500 = nI (b * 500) from pk_mul b 500, nI_add, nI_clamp (by omega), show b * 500 + i = 500 * b + i by omega, nI_1, hf 45 _ (by omega), p3 i hi2]
  have sn2 : SNC a n bt h := ⟨(hf 42 9 (by omega)).trans sn.1, (hf 42 3 (by omega)).trans sn.2.1, fun j hj => (hf 43 j (by omega)).trans (sn.2.2 j hj)⟩
  have wc2 : WC a n (w (b + 1)) h := fun j hj => (hf 44 j (by omega)).trans (wc j hj)
  have tb2 : TBL a n cnt A h := by
    have e : ∀ s, h 48 s = c 48 s := fun s => hf 48 s (by omega)
    refine ⟨tb.1, fun s hs => by rw [e]; exact tb.2.1 s hs, fun s s' hs hs' => by rw [e, e]; exact tb.2.2.1 s s' hs hs', fun j hj => ?_⟩
    obtain ⟨d', d1, d2, d3⟩ := tb.2.2.2 j hj
    exact ⟨d', d1, by rw [e]; exact d2, fun q hq => by rw [e]; exact d3 q hq⟩
  refine OK.g (gd_nI (by omega) (by omega)) (OK.bind (bf_c hn hb hd hw hbt sn2 wc2 tb2 (fun j hj => (hf 45 _ (by omega)).trans (ls j hj)) hA hS (fun j hj => ?_) (p4 i hi2) ((p5.2 _).mp ⟨i, hi2, rfl⟩)) ?_)
  · obtain ⟨e, e1, e2⟩ := hv j hj
    exact ⟨e, (hf 47 _ (by omega)).trans e1, e2⟩
  rintro x ⟨e, rfl, he⟩
  refine OK.g (gd_nI (by omega) (by omega)) (OK.ret ⟨hi2, hi2, rfl, fun o j ho => ?_, fun j hj => ?_⟩)
  · show rh_up h 47 (500 * b + i) (nI e) o j = _
    rw [up_f, if_neg (fun z => by have := ho z.1; omega)]; exact hf o j ho
  · by_cases z : j = i
    · subst z; exact ⟨e, rh_up_s _ _ _ _, he⟩
    · obtain ⟨e', q1, q2⟩ := hz j (by omega)
      refine ⟨e', ?_, q2⟩
      show rh_up h 47 (500 * b + i) (nI e) 47 (500 * b + j) = _
      rw [gup _ _ _ _ (by omega)]; exact q1
end RFB
section RFB2
variable {k n Pm : Nat} {B : Nat → Nat} {V : Nat → Nat → Nat → Nat} {T a q : Nat} {c m : HI} {bt : Nat}
theorem n33_b (v : Int32) (h : HI) : b_St_narrow_33 (v, h) = if v ≤ 0 then some (.inr h) else (f_St_weighAt h v).bind (fun x8 => (f_Ar_fill_48 x8 (0 : Int32)).bind (fun x9 => (rh_loop (b_St_narrow_52 v) rh_N ((0 : Int32), x9)).bind (fun r16 => (rh_loop (b_St_narrow_95 v) rh_N ((0 : Int32), r16)).bind (fun r23 => some (.inl (v + (-1 : Int32), r23)))))) := rfl
theorem nar_c (A0 : RLa k n Pm B V T a q c m) (hbt : bt ≤ 9999) {N : Nat} (hN : N ≤ 20) (sn : SNC a n bt c) {X0 : CFG} (hC : ∀ b, b ≤ N → CLY a n X0 (LYS a n bt (wB Pm B V T) X0 b) b c) : OK (f_St_narrow c (nI N)) (fun x => ES c x ∧ SNC a n bt x ∧ (∀ o j, o ≠ 8 → o ≠ 44 → o ≠ 47 → o ≠ 48 → x o j = c o j) ∧ ∀ b, b ≤ N → CVL a n X0 bt (wB Pm B V T) N b x) := by
  have hn := A0.n9
  have hT := A0.T30
  have hw : ∀ b, b ≤ 20 → ∀ i, i < n → wB Pm B V T b i ≤ 9999 := fun b hb i hi => A0.wle hi (by omega)
  unfold f_St_narrow
  obtain ⟨cN, AN, z1, z2, z3, z4, z5⟩ := hC N (Nat.le_refl _)
  refine OK.bind (n2_c hN z1 z2) ?_
  rintro c1 ⟨hf1, hz1⟩
  refine OK.bind (P := fun x => ES c x ∧ SNC a n bt x ∧ (∀ o j, o ≠ 8 → o ≠ 44 → o ≠ 47 → o ≠ 48 → x o j = c o j) ∧ ∀ b, b ≤ N → CVL a n X0 bt (wB Pm B V T) N b x) (OK.loop _ (fun i s => i ≤ N ∧ s.1 = nI (N - i) ∧ (∀ o j, o ≠ 8 → o ≠ 44 → o ≠ 47 → o ≠ 48 → s.2 o j = c o j) ∧ ∀ b, N - i ≤ b → b ≤ N → CVL a n X0 bt (wB Pm B V T) N b s.2) _ N (by omega) ?_ ⟨by omega, rfl, fun o j h1 h2 h3 h4 => hf1 o j (by omega), fun b h1 h2 => ?_⟩) (fun x hx => OK.ret hx)
  · rintro i ⟨v, h⟩ - ⟨hi, rfl, hf, hV⟩
    dsimp only at hf hV
    have hE : ES c h := fun o j h1 h2 => hf o j h1 (by omega) (by omega) (by omega)
    have A1 := A0.l hE.x
    have sn1 : SNC a n bt h := ⟨(hf 42 9 (by omega) (by omega) (by omega) (by omega)).trans sn.1, (hf 42 3 (by omega) (by omega) (by omega) (by omega)).trans sn.2.1, fun j hj => (hf 43 j (by omega) (by omega) (by omega) (by omega)).trans (sn.2.2 j hj)⟩
    rw [n33_b]
    refine OK.ite (fun hc => OK.ret ?_) (fun hc => ?_)
    · have := ple (i := 0) (b := N - i) (show nI (N - i) ≤ nI 0 from hc) (by omega) (by omega)
      exact ⟨hE, sn1, hf, fun b hb => hV b (by omega) hb⟩
    have hi2 : i < N := by
      rcases Nat.lt_or_ge i N with y | y
      · exact y
      · exfalso
        apply hc
        rw [show N - i = 0 by omega]
        exact Int32.le_refl _
    obtain ⟨b, hb⟩ : ∃ b, N - i = b + 1 := ⟨N - i - 1, by omega⟩
    rw [hb] at hV ⊢
    refine OK.bind (wgh_c A1 sn1 (b := b + 1) (by omega)) ?_
    rintro h2 ⟨f2, wc2⟩
    refine OK.bind (f48_c h2) ?_
    rintro h3 ⟨f3, y3⟩
    have f23 : ∀ o j, o ≠ 8 → o ≠ 44 → o ≠ 48 → h3 o j = h o j := fun o j h1 h2 h3' => (f3 o j h3').trans (f2 o j h1 h2)
    obtain ⟨cnt, A, q1, q2, q3, q4, q5, q6⟩ := hV (b + 1) (by omega) (by omega)
    have ls3 : LST a n (b + 1) cnt A h3 := fun j hj => (f23 45 _ (by omega) (by omega) (by omega)).trans (q3 j hj)
    refine OK.bind (n52_c hn (by omega) q1 ((f23 46 _ (by omega) (by omega) (by omega)).trans q2) ls3 q4 q5.1 y3) ?_
    rintro h4 ⟨f4, tb4⟩
    have f24 : ∀ o j, o ≠ 8 → o ≠ 44 → o ≠ 48 → h4 o j = h o j := fun o j h1 h2 h3' => (f4 o j h3').trans (f23 o j h1 h2 h3')
    obtain ⟨cn, A', p1, p2, p3, p4, p5⟩ := hC b (by omega)
    have hfc : ∀ o j, o ≠ 8 → o ≠ 44 → o ≠ 47 → o ≠ 48 → h4 o j = c o j := fun o j h1 h2 h3 h4' => (f24 o j h1 h2 h4').trans (hf o j h1 h2 h3 h4')
    refine OK.bind (n95_c (w := wB Pm B V T) (d := N - (b + 1)) hn (by omega) (by omega) (hw (b + 1) (by omega)) hbt ⟨(f24 42 9 (by omega) (by omega) (by omega)).trans sn1.1, (f24 42 3 (by omega) (by omega) (by omega)).trans sn1.2.1, fun j hj => (f24 43 j (by omega) (by omega) (by omega)).trans (sn1.2.2 j hj)⟩ (fun j hj => ?_) tb4 (fun j hj => (f4 45 _ (by omega)).trans (ls3 j hj)) q4 q5 (fun j hj => ?_) p1 ((hfc 46 b (by omega) (by omega) (by omega) (by omega)).trans p2) (fun j hj => (hfc 45 _ (by omega) (by omega) (by omega) (by omega)).trans (p3 j hj)) p4 p5) ?_
    · rw [f4 44 j (by omega), f3 44 j (by omega)]; exact wc2 j hj
    · obtain ⟨e, e1, e2⟩ := q6 j hj
      exact ⟨e, (f24 47 _ (by omega) (by omega) (by omega)).trans e1, e2⟩
    rintro h5 ⟨f5, v5⟩
    refine OK.ret ⟨hi2, hi2, ?_, fun o j h1 h2 h3 h4' => (f5 o j (by omega)).trans (hfc o j h1 h2 h3 h4'), fun b' hb1 hb2 => ?_⟩
    · show nI (b + 1) + (-1 : Int32) = _
      rw [dnm, dn1]
      congr 1; omega
    · show CVL a n X0 bt (wB Pm B V T) N b' h5
      by_cases z : b' = b
      · subst z
        refine ⟨cn, A', p1, (f5 46 b' (by omega)).trans ((hfc 46 b' (by omega) (by omega) (by omega) (by omega)).trans p2), fun j hj => (f5 45 _ (by omega)).trans ((hfc 45 _ (by omega) (by omega) (by omega) (by omega)).trans (p3 j hj)), p4, p5, fun j hj => ?_⟩
        rw [show N - b' = N - (b' + 1) + 1 by omega]
        exact v5 j hj
      · exact (hV b' (by omega) hb2).fr ((f5 46 b' (by omega)).trans (f24 46 b' (by omega) (by omega) (by omega))) (fun j hj => (f5 45 _ (by omega)).trans (f24 45 _ (by omega) (by omega) (by omega))) (fun j hj => (f5 47 _ (by omega)).trans (f24 47 _ (by omega) (by omega) (by omega)))
  · have : b = N := by omega
    subst this
    refine ⟨cN, AN, z1, (hf1 46 b (by omega)).trans z2, fun j hj => (hf1 45 _ (by omega)).trans (z3 j hj), z4, z5, fun j hj => ⟨0, hz1 j hj, ?_⟩⟩
    rw [Nat.sub_self]
    exact Or.inr ⟨by show 0 < 99; omega, 0, by omega, rfl, fun d' hd' => by omega⟩
end RFB2
