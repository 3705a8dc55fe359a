/-! steady: the class, from its start to the last bell -/
def ES (c c' : HI) : Prop := ∀ o j, o ≠ 8 → (o < 42 ∨ 48 < o) → c' o j = c o j
theorem ES.rf {c : HI} : ES c c := fun _ _ _ _ => rfl
theorem ES.tr {x y z : HI} (h : ES x y) (g : ES y z) : ES x z := fun o j h1 h2 => (g o j h1 h2).trans (h o j h1 h2)
theorem ES.x {c c' : HI} (e : ES c c') : XC c c' := fun o j hp => by
  refine e o j (fun z => ?_) ?_
  · rw [z] at hp; rcases hp with hp | hp | hp
    · exact absurd (show false = true from hp) (by decide)
    · omega
    · omega
  · by_cases h : o < 42
    · exact Or.inl h
    · by_cases h2 : 48 < o
      · exact Or.inr h2
      · exfalso
        have hp : pC o j = true := hp.resolve_right (by omega)
        rcases (show o = 42 ∨ o = 43 ∨ o = 44 ∨ o = 45 ∨ o = 46 ∨ o = 47 ∨ o = 48 by omega) with z | z | z | z | z | z | z <;> (subst z; exact absurd (show false = true from hp) (by decide))
theorem FAb.es {b : Nat} {c c' : HI} (h : FAb b c c') : ES c c' := fun o j h1 h2 => h o j (by omega) (by omega) (by omega)
theorem E8.es {c c' : HI} (h : E8 c c') : ES c c' := fun o j h1 _ => h o j h1
def X0f (c : HI) : CFG := fun i => if i < 9 then ((c 14 i).toInt + 4).toNat else 0
section RF5
variable {k n Pm : Nat} {B : Nat → Nat} {V : Nat → Nat → Nat → Nat} {T a q : Nat} {c m : HI} {bt : Nat}
theorem X0_lt (A : RLa k n Pm B V T a q c m) : ∀ i, i < n → X0f c i < 9 := fun i hi => by
  have hn := A.n9
  unfold X0f
  rw [if_pos (by omega)]
  have := A.pl i (by omega)
  omega
theorem X0_VX (A : RLa k n Pm B V T a q c m) : VX a n (X0f c) (X0f c) := ⟨X0_lt A, fun _ _ => rfl⟩
theorem X0_I (A : RLa k n Pm B V T a q c m) {i : Nat} (hi : i < 9) : c 14 i + 4 = nI (X0f c i) := by
  have h1 := A.pl i hi
  unfold X0f
  rw [if_pos hi]
  apply ofI
  rw [fb_addI, show (4 : Int32).toInt = 4 from rfl]
  · omega
  · rw [show (4 : Int32).toInt = 4 from rfl]; omega
  · rw [show (4 : Int32).toInt = 4 from rfl]; omega
theorem bg_b (v : Int32) (h : HI) : b_St_begin_26 (v, h) = if (h 4 0) ≤ v then some (.inr h) else if (f_De_isAboard h v) = 0 then some (.inl (v + (1 : Int32), h)) else rh_g (0 ≤ v.toInt ∧ v.toInt < ((9 : Nat) : Int)) (rh_g (0 ≤ (h 42 3).toInt ∧ (h 42 3).toInt < ((9 : Nat) : Int)) (rh_g (0 ≤ (h 42 3).toInt ∧ (h 42 3).toInt < ((9 : Nat) : Int)) (some (.inl (v + (1 : Int32), rh_up (rh_up (rh_up h 45 (0 : Int32).toNatClampNeg ((h 45 (0 : Int32).toNatClampNeg) + (((h 14 v.toNatClampNeg) + (4 : Int32)) * (rh_UN (h 42 3).toNatClampNeg)))) 43 (h 42 3).toNatClampNeg v) 42 3 ((h 42 3) + (1 : Int32))))))) := rfl
theorem bg_c (A : RLa k n Pm B V T a q c m) : OK (f_St_begin c (nI bt)) (fun x => ES c x ∧ SNC a n bt x ∧ x 45 0 = nI (gam a n (X0f c)) ∧ x 46 0 = nI 1) := by
  have hn := A.n9
  have hX := X0_lt A
  have hg := gam_lt (a := a) hn hX
  unfold f_St_begin
  refine OK.bind (P := fun x => ES c x ∧ SNC a n bt x ∧ x 45 0 = nI (gam a n (X0f c)) ∧ x 46 0 = nI 1) (OK.loop _ (fun i s => i ≤ n ∧ s.1 = nI i ∧ ES c s.2 ∧ s.2 42 9 = nI bt ∧ s.2 42 3 = nI (rk a i) ∧ (∀ j, j < rk a i → s.2 43 j = nI (stn a n j)) ∧ s.2 45 0 = nI (fb_sm (fun j => X0f c (stn a n j) * 9 ^ j) (rk a i)) ∧ s.2 46 0 = nI 1) _ n (by omega) ?_ ⟨by omega, rfl, fun o j h1 h2 => ?_, rfl, ?_, fun j hj => ?_, ?_, rfl⟩) (fun x hx => OK.ret hx)
  · rintro i ⟨v, h⟩ - ⟨hi, rfl, hE, h9, h3, h43, h45, h46⟩
    dsimp only at hE h9 h3 h43 h45 h46
    have A' := A.l hE.x
    rw [bg_b, A'.cn]
    refine OK.ite (fun hc => OK.ret ?_) (fun hc => ?_)
    · have : i = n := by have := ple hc (by omega) (by omega); omega
      subst this
      exact ⟨hE, ⟨h9, h3, h43⟩, h45, h46⟩
    have hi2 : i < n := nle hc (by omega) (by omega)
    have hrk := rk_succ a i
    have hrl := rk_le a i
    by_cases hb : a.testBit i = true
    · rw [if_neg (fun z => by rw [(isA_has A' hi2).mp z] at hb; cases hb), nI_clamp (by omega), h3, nI_clamp (by omega), show h 45 (0 : Int32).toNatClampNeg = _ from h45, show h 14 i = c 14 i from hE 14 i (by omega) (by omega), X0_I A (by omega), UN_ok (rk a i) (by omega), pk_mul, nI_add, nI_1, nI_1]
      rw [if_pos hb] at hrk
      refine OK.g (gd_nI (by omega) (by omega)) (OK.g (gd_nI (by omega) (by omega)) (OK.g (gd_nI (by omega) (by omega)) (OK.ret ⟨hi2, hi2, rfl, fun o j h1 h2 => ?_, h9, ?_, fun j hj => ?_, ?_, h46⟩)))
      · show rh_up (rh_up (rh_up h 45 0 (nI (fb_sm (fun j => X0f c (stn a n j) * 9 ^ j) (rk a i) + X0f c i * 9 ^ rk a i))) 43 (rk a i) (nI i)) 42 3 (nI (rk a i + 1)) o j = _
        rw [up_f, if_neg (by omega), up_f, if_neg (by omega), up_f, if_neg (by omega)]; exact hE o j h1 h2
      · show nI (rk a i + 1) = _
        rw [hrk]
      · show rh_up (rh_up (rh_up h 45 0 (nI (fb_sm (fun j => X0f c (stn a n j) * 9 ^ j) (rk a i) + X0f c i * 9 ^ rk a i))) 43 (rk a i) (nI i)) 42 3 (nI (rk a i + 1)) 43 j = _
        rw [up_f, if_neg (by omega)]
        by_cases z : j = rk a i
        · rw [z, rh_up_s, stn_rk hi2 hb]
        · rw [gup _ _ _ _ z, up_f, if_neg (by omega)]; exact h43 j (by omega)
      · show nI (fb_sm (fun j => X0f c (stn a n j) * 9 ^ j) (rk a i) + X0f c i * 9 ^ rk a i) = _
        rw [hrk, fb_sm_succ, stn_rk hi2 hb]
    · rw [if_pos ((isA_has A' hi2).mpr (Bool.eq_false_iff.mpr hb)), nI_1]
      rw [if_neg hb, Nat.add_zero] at hrk
      exact OK.ret ⟨hi2, hi2, rfl, hE, h9, by rw [hrk]; exact h3, by rw [hrk]; exact h43, by rw [hrk]; exact h45, h46⟩
  · show rh_up (rh_up (rh_up (rh_up c 42 9 (nI bt)) 42 3 0) 45 0 0) 46 0 1 o j = _
    rw [up_f, if_neg (by omega), up_f, if_neg (by omega), up_f, if_neg (by omega), up_f, if_neg (by omega)]
  · rw [show rk a 0 = 0 from Nat.le_zero.mp (rk_le a 0)]; rfl
  · rw [show rk a 0 = 0 from Nat.le_zero.mp (rk_le a 0)] at hj; omega
  · rw [show rk a 0 = 0 from Nat.le_zero.mp (rk_le a 0)]; rfl
theorem wa_b (u1 v : Int32) (h : HI) : b_St_weighAt_2 u1 (v, h) = if (h 42 3) ≤ v then some (.inr h) else rh_g (0 ≤ v.toInt ∧ v.toInt < ((9 : Nat) : Int)) ((f_Cr_weightAt h (h 43 v.toNatClampNeg) ((h 13 1) + u1)).bind (fun x4 => rh_g (0 ≤ v.toInt ∧ v.toInt < ((9 : Nat) : Int)) (some (.inl (v + (1 : Int32), rh_up x4.2 44 v.toNatClampNeg x4.1))))) := rfl
theorem wgh_c (A : RLa k n Pm B V T a q c m) (sn : SNC a n bt c) {b : Nat} (hb : b ≤ 20) : OK (f_St_weighAt c (nI b)) (fun x => (∀ o j, o ≠ 8 → o ≠ 44 → x o j = c o j) ∧ WC a n (fun i => Wt Pm B V i (T + b)) x) := by
  have hn := A.n9
  have hT := A.T30
  have hq := rk_le a n
  unfold f_St_weighAt
  refine OK.bind (P := fun x => (∀ o j, o ≠ 8 → o ≠ 44 → x o j = c o j) ∧ WC a n (fun i => Wt Pm B V i (T + b)) x) (OK.loop _ (fun i s => i ≤ rk a n ∧ s.1 = nI i ∧ (∀ o j, o ≠ 8 → o ≠ 44 → s.2 o j = c o j) ∧ ∀ j, j < i → s.2 44 j = nI (Wt Pm B V (stn a n j) (T + b))) _ (rk a n) (by omega) ?_ ⟨by omega, rfl, fun _ _ _ _ => rfl, fun j hj => by omega⟩) (fun x hx => OK.ret hx)
  rintro i ⟨v, h⟩ - ⟨hi, rfl, hE, h44⟩
  dsimp only at hE h44
  have hES : ES c h := fun o j h1 h2 => hE o j h1 (by omega)
  have A' := A.l hES.x
  rw [wa_b, hE 42 3 (by omega) (by omega), sn.2.1]
  refine OK.ite (fun hc => OK.ret ?_) (fun hc => ?_)
  · have : i = rk a n := by have := ple hc (by omega) (by omega); omega
    subst this
    exact ⟨hE, h44⟩
  have hi2 : i < rk a n := nle hc (by omega) (by omega)
  obtain ⟨s1, s2, s3⟩ := stn_ok hi2
  rw [nI_clamp (by omega), hE 43 i (by omega) (by omega), sn.2.2 i hi2, A'.ct, nI_add]
  obtain ⟨h', e1, e2⟩ := wa_c A'.qc s1 (t := T + b) (by omega)
  refine OK.g (gd_nI (by omega) (by omega)) ?_
  rw [e1, Option.bind_some]
  refine OK.g (gd_nI (by omega) (by omega)) (OK.ret ⟨hi2, hi2, nI_1 i, fun o j h1 h2 => ?_, fun j hj => ?_⟩)
  · show rh_up h' 44 i _ o j = _
    rw [up_f, if_neg (fun z => h2 z.1), e2 o j h1]; exact hE o j h1 h2
  · show rh_up h' 44 i (nI _) 44 j = _
    by_cases z : j = i
    · subst z; rw [rh_up_s]
    · rw [gup _ _ _ _ z, e2 44 j (by omega)]; exact h44 j (by omega)
theorem f48_c (c : HI) : OK (f_Ar_fill_48 c 0) (fun x => (∀ o j, o ≠ 48 → x o j = c o j) ∧ ∀ j, j < 1024 → x 48 j = 0) := by
  unfold f_Ar_fill_48
  refine OK.bind (OK.loop _ (fun i x => i ≤ 1024 ∧ x.1 = nI i ∧ (∀ o j, o ≠ 48 → x.2 o j = c o j) ∧ ∀ j, j < i → x.2 48 j = 0) (fun x => (∀ o j, o ≠ 48 → x o j = c o j) ∧ ∀ j, j < 1024 → x 48 j = 0) 1024 (by omega) ?_ ⟨by omega, rfl, fun _ _ _ => rfl, fun j hj => by omega⟩) (fun x hx => OK.ret hx)
  rintro i ⟨v, g'⟩ - ⟨hi', rfl, hE, hB⟩
  dsimp only at hE hB
  unfold b_Ar_fill_48_5
  dsimp only
  refine OK.ite (fun hc => OK.ret ?_) (fun hc => ?_)
  · have : i = 1024 := by have := ple (b := 1024) hc (by omega) (by omega); omega
    subst this; exact ⟨hE, hB⟩
  have hi2 : i < 1024 := nle (b := 1024) hc (by omega) (by omega)
  rw [nI_clamp (by omega)]
  refine OK.g (gd_nI (by omega) (by omega)) (OK.ret ⟨hi2, hi2, nI_1 i, fun o j ho => ?_, fun j hj => ?_⟩)
  · show rh_up g' 48 i 0 o j = _
    rw [up_f, if_neg (fun z => ho z.1)]; exact hE o j ho
  · show rh_up g' 48 i 0 48 j = 0
    by_cases z : j = i
    · subst z; rw [rh_up_s]
    · rw [gup _ _ _ _ z]; exact hB j (by omega)
/-- one bell as it is kept -/
def CLY (a n : Nat) (X0 : CFG) (P : CFG → Prop) (b : Nat) (c : HI) : Prop := ∃ cnt A, cnt ≤ 500 ∧ c 46 b = nI cnt ∧ LST a n b cnt A c ∧ (∀ j, j < cnt → VX a n X0 (A j)) ∧ SETL cnt A P
theorem CLY.fr {X0 : CFG} {P : CFG → Prop} {b : Nat} {c' : HI} (h : CLY a n X0 P b c) (e1 : c' 46 b = c 46 b) (e2 : ∀ j, j < 500 → c' 45 (500 * b + j) = c 45 (500 * b + j)) : CLY a n X0 P b c' := by
  obtain ⟨cnt, A, h1, h2, h3, h4, h5⟩ := h
  exact ⟨cnt, A, h1, e1.trans h2, fun j hj => (e2 j (by omega)).trans (h3 j hj), h4, h5⟩
theorem BLD.cly {X0 : CFG} {P : CFG → Prop} {b : Nat} (h : BLD a n X0 b P c) : CLY a n X0 P b c := by
  obtain ⟨cnt, A, h1, h2, h3, h4, h5, h6⟩ := h
  exact ⟨cnt, A, h1, h2, h3, h5, h6⟩
theorem w35_b (u1 u3 v : Int32) (h : HI) : b_St_widen_35 u1 u3 (v, h) = rh_g (0 ≤ (u3 - (1 : Int32)).toInt ∧ (u3 - (1 : Int32)).toInt < ((21 : Nat) : Int)) (if (h 46 (u3 - (1 : Int32)).toNatClampNeg) ≤ v then some (.inr (.inl h)) else rh_g (0 ≤ (((u3 - (1 : Int32)) * (500 : Int32)) + v).toInt ∧ (((u3 - (1 : Int32)) * (500 : Int32)) + v).toInt < ((10500 : Nat) : Int)) ((f_St_widenFrom h u3 (h 45 (((u3 - (1 : Int32)) * (500 : Int32)) + v).toNatClampNeg)).bind (fun x11 => if x11.1 = 0 then some (.inr (.inr ((-3 : Int32), x11.2))) else some (.inl (v + (1 : Int32), x11.2))))) := rfl
theorem w35_c (hn : n ≤ 9) {w : Nat → Nat} {X0 : CFG} {P : CFG → Prop} {b : Nat} (hb : b < 20) (hw : ∀ i, i < n → w i ≤ 9999) (hbt : bt ≤ 9999) (sn : SNC a n bt c) (wc : WC a n w c) (hP : CLY a n X0 P b c) (h46 : c 46 (b + 1) = nI 0) (h48 : ∀ j, j < 1024 → c 48 j = 0) (u1 : Int32) : OK (rh_loop (b_St_widen_35 u1 (nI (b + 1))) rh_N ((0 : Int32), c)) (fun x => Sum.elim (fun c' => FAb (b + 1) c c' ∧ BLD a n X0 (b + 1) (fun Y => ∃ X, P X ∧ SUC a n bt w X Y) c') (fun y => FAb (b + 1) c y.2 ∧ y.1 = -3 ∧ OVF (fun Y => ∃ X, P X ∧ SUC a n bt w X Y)) x) := by
  obtain ⟨cnt, A, p1, p2, p3, p4, p5⟩ := hP
  have hPA : ∀ j, j < cnt → P (A j) := fun j hj => (p5.2 _).mp ⟨j, hj, rfl⟩
  refine OK.loop _ (fun i s => i ≤ cnt ∧ s.1 = nI i ∧ FAb (b + 1) c s.2 ∧ BLD a n X0 (b + 1) (fun Y => ∃ j, j < i ∧ SUC a n bt w (A j) Y) s.2) _ cnt (by omega) ?_ ⟨by omega, rfl, FAb.rf, 0, fun _ => X0, by omega, h46, fun j hj => by omega, ⟨by omega, fun s hs => Or.inl (h48 s hs), fun s s' hs _ _ hne => absurd (h48 s hs) hne, fun j hj => by omega⟩, fun j hj => by omega, fun i j _ hj => by omega, fun X => ⟨fun ⟨j, hj, _⟩ => by omega, fun ⟨j, hj, _⟩ => by omega⟩⟩
  rintro i ⟨v, h⟩ - ⟨hi, rfl, hf, hB⟩
  dsimp only at hf hB
  rw [w35_b, dn1, nI_clamp (by omega), hf 46 b (by omega) (by omega) (by omega), p2]
  refine OK.g (gd_nI (by omega) (by omega)) (OK.ite (fun hc => OK.ret ?_) (fun hc => ?_))
  · have : i = cnt := by have := ple hc (by omega) (by omega); omega
    subst this
    refine ⟨hf, hB.iff (fun Y => ⟨fun ⟨j, hj, z⟩ => ⟨A j, hPA j hj, z⟩, fun ⟨X, z1, z2⟩ => ?_⟩)⟩
    obtain ⟨j, hj, e⟩ := (p5.2 X).mpr z1
    exact ⟨j, hj, by rw [e]; exact z2⟩
  have hi2 : i < cnt := nle hc (by omega) (by omega)
  rw [show nI b * 500 = nI (b * 500) from pk_mul b 500, nI_add, nI_clamp (by omega), show b * 500 + i = 500 * b + i by omega, hf 45 _ (by omega) (by omega) (by omega), p3 i hi2]
  refine OK.g (gd_nI (by omega) (by omega)) (OK.bind (wf_c hn (by omega) hw hbt (p4 i hi2) (sn.fa hf) (wc.fa hf) hB) ?_)
  rintro ⟨v2, h2⟩ ⟨hf2, hv⟩
  dsimp only at hf2 hv ⊢
  rcases hv with ⟨rfl, hB2⟩ | ⟨rfl, hO⟩
  · rw [if_neg (show ¬ (1 : Int32) = 0 by decide)]
    refine OK.ret ⟨hi2, hi2, nI_1 i, hf.tr hf2, hB2.iff (fun Y => ⟨?_, ?_⟩)⟩
    · rintro (⟨j, hj, z⟩ | z)
      · exact ⟨j, by omega, z⟩
      · exact ⟨i, by omega, z⟩
    · rintro ⟨j, hj, z⟩
      rcases (show j < i ∨ j = i by omega) with y | y
      · exact Or.inl ⟨j, y, z⟩
      · subst y; exact Or.inr z
  · rw [if_pos rfl]
    refine OK.ret ⟨hf.tr hf2, rfl, hO _ (fun Y hY => ?_)⟩
    rcases hY with ⟨j, hj, z⟩ | z
    · exact ⟨A j, hPA j (by omega), z⟩
    · exact ⟨A i, hPA i hi2, z⟩
theorem LYS_suc {w : Nat → Nat → Nat} {X0 Y : CFG} {k : Nat} : LYS a n bt w X0 (k + 1) Y ↔ ∃ X, LYS a n bt w X0 k X ∧ SUC a n bt (w (k + 1)) X Y := by
  constructor
  · rintro ⟨X, mv, h1, h2, h3, h4⟩; exact ⟨X, h1, h2, mv, h3, h4⟩
  · rintro ⟨X, h1, h2, mv, h3, h4⟩; exact ⟨X, mv, h1, h2, h3, h4⟩
theorem OVF.iff {P Q : CFG → Prop} (h : OVF P) (e : ∀ X, P X ↔ Q X) : OVF Q := by
  obtain ⟨E, h1, h2⟩ := h
  exact ⟨E, h1, fun i hi => (e _).mp (h2 i hi)⟩
theorem w7_b (u1 v : Int32) (h : HI) : b_St_widen_7 u1 (v, h) = if u1 < v then some (.inr (.inl h)) else (f_St_weighAt h v).bind (fun x4 => (f_Ar_fill_48 x4 (0 : Int32)).bind (fun x5 => rh_g (0 ≤ v.toInt ∧ v.toInt < ((21 : Nat) : Int)) ((rh_loop (b_St_widen_35 u1 v) rh_N ((0 : Int32), rh_up x5 46 v.toNatClampNeg (0 : Int32))).bind (fun r13 => match r13 with | .inl e14 => rh_g (0 ≤ v.toInt ∧ v.toInt < ((21 : Nat) : Int)) (if (e14 46 v.toNatClampNeg) = 0 then some (.inr (.inr ((0 : Int32), e14))) else some (.inl (v + (1 : Int32), e14))) | .inr t15 => some (.inr (.inr t15)))))) := rfl
/-- the weights of the bells from now on -/
def wB (Pm : Nat) (B : Nat → Nat) (V : Nat → Nat → Nat → Nat) (T b i : Nat) : Nat := Wt Pm B V i (T + b)
theorem wid_c (A : RLa k n Pm B V T a q c m) (hbt : bt ≤ 9999) {N : Nat} (hN : N ≤ 20) : OK (f_St_widen c (nI N) (nI bt)) (fun x => ES c x.2 ∧ ((x.1 = 1 ∧ SNC a n bt x.2 ∧ x.2 45 0 = nI (gam a n (X0f c)) ∧ (∀ b, b ≤ N → CLY a n (X0f c) (LYS a n bt (wB Pm B V T) (X0f c) b) b x.2) ∧ ∀ b, b ≤ N → ∃ X, LYS a n bt (wB Pm B V T) (X0f c) b X) ∨ (x.1 = 0 ∧ ∃ b, b ≤ N ∧ (∀ j, j ≤ b → ∃ cnt A', cnt ≤ 500 ∧ SETL cnt A' (LYS a n bt (wB Pm B V T) (X0f c) j)) ∧ ∀ X, ¬ LYS a n bt (wB Pm B V T) (X0f c) b X) ∨ (x.1 = -3 ∧ ∃ b, b ≤ N ∧ OVF (LYS a n bt (wB Pm B V T) (X0f c) b)))) := by
  have hn := A.n9
  have hT := A.T30
  have hw : ∀ b, b ≤ 20 → ∀ i, i < n → wB Pm B V T b i ≤ 9999 := fun b hb i hi => A.wle hi (by omega)
  unfold f_St_widen
  refine OK.bind (bg_c A) ?_
  rintro c1 ⟨hE1, sn1, h45, h46⟩
  have hX0 := X0_VX A
  have hc0 : CLY a n (X0f c) (LYS a n bt (wB Pm B V T) (X0f c) 0) 0 c1 := by
    refine ⟨1, fun _ => X0f c, by omega, h46, fun j hj => ?_, fun j hj => hX0, fun i j hij hj => by omega, fun X => ⟨fun ⟨j, _, e⟩ => e.symm, fun e => ⟨0, by omega, Eq.symm e⟩⟩⟩
    have : j = 0 := by omega
    subst this; exact h45
  refine OK.bind (P := fun x => Sum.elim (fun c' => ES c c' ∧ SNC a n bt c' ∧ c' 45 0 = nI (gam a n (X0f c)) ∧ (∀ b, b ≤ N → CLY a n (X0f c) (LYS a n bt (wB Pm B V T) (X0f c) b) b c') ∧ ∀ b, b ≤ N → ∃ X, LYS a n bt (wB Pm B V T) (X0f c) b X) (fun y : Int32 × HI => ES c y.2 ∧ ((y.1 = 0 ∧ ∃ b, b ≤ N ∧ (∀ j, j ≤ b → ∃ cnt A', cnt ≤ 500 ∧ SETL cnt A' (LYS a n bt (wB Pm B V T) (X0f c) j)) ∧ ∀ X, ¬ LYS a n bt (wB Pm B V T) (X0f c) b X) ∨ (y.1 = -3 ∧ ∃ b, b ≤ N ∧ OVF (LYS a n bt (wB Pm B V T) (X0f c) b)))) x) (OK.loop _ (fun i s => i ≤ N ∧ s.1 = nI (i + 1) ∧ ES c s.2 ∧ SNC a n bt s.2 ∧ s.2 45 0 = nI (gam a n (X0f c)) ∧ (∀ b, b ≤ i → CLY a n (X0f c) (LYS a n bt (wB Pm B V T) (X0f c) b) b s.2) ∧ ∀ b, b ≤ i → ∃ X, LYS a n bt (wB Pm B V T) (X0f c) b X) _ N (by omega) ?_ ⟨by omega, rfl, hE1, sn1, h45, fun b hb => ?_, fun b hb => ?_⟩) ?_
  · rintro i ⟨v, h⟩ - ⟨hi, rfl, hE, sn, h45, hC, hex⟩
    dsimp only at hE sn h45 hC
    have A' := A.l hE.x
    rw [w7_b]
    refine OK.ite (fun hc => OK.ret ?_) (fun hc => ?_)
    · have := (nI_ltI (a := N) (b := i + 1) (by omega) (by omega)).mp hc
      have : i = N := by omega
      subst this
      exact ⟨hE, sn, h45, hC, hex⟩
    have hi2 : i + 1 ≤ N := nlt hc (by omega) (by omega)
    refine OK.bind (wgh_c A' sn (b := i + 1) (by omega)) ?_
    rintro h2 ⟨f2, wc2⟩
    refine OK.bind (f48_c h2) ?_
    rintro h3 ⟨f3, z3⟩
    rw [nI_clamp (by omega)]
    refine OK.g (gd_nI (by omega) (by omega)) ?_
    have fr : ∀ o j, o ≠ 8 → o ≠ 44 → o ≠ 48 → (o = 46 → j ≠ i + 1) → rh_up h3 46 (i + 1) 0 o j = h o j := fun o j h1 h2 h3' h4 => by
      rw [up_f, if_neg (fun z => h4 z.1 z.2), f3 o j h3', f2 o j h1 h2]
    have sn4 : SNC a n bt (rh_up h3 46 (i + 1) 0) := ⟨(fr 42 9 (by omega) (by omega) (by omega) (by omega)).trans sn.1, (fr 42 3 (by omega) (by omega) (by omega) (by omega)).trans sn.2.1, fun j hj => (fr 43 j (by omega) (by omega) (by omega) (by omega)).trans (sn.2.2 j hj)⟩
    have wc4 : WC a n (wB Pm B V T (i + 1)) (rh_up h3 46 (i + 1) 0) := fun j hj => by
      rw [up_f, if_neg (by omega), f3 44 j (by omega)]; exact wc2 j hj
    have hC4 : ∀ b, b ≤ i → CLY a n (X0f c) (LYS a n bt (wB Pm B V T) (X0f c) b) b (rh_up h3 46 (i + 1) 0) := fun b hb => (hC b hb).fr (fr 46 b (by omega) (by omega) (by omega) (by omega)) (fun j _ => fr 45 _ (by omega) (by omega) (by omega) (by omega))
    have hE4 : ES c (rh_up h3 46 (i + 1) 0) := hE.tr (fun o j h1 h2 => fr o j h1 (by omega) (by omega) (by omega))
    refine OK.bind (w35_c hn (by omega) (hw (i + 1) (by omega)) hbt sn4 wc4 (hC4 i (Nat.le_refl _)) (by rw [rh_up_s]; rfl) (fun j hj => by rw [up_f, if_neg (by omega)]; exact z3 j hj) (nI N)) ?_
    intro x hx
    cases x with
    | inl c5 =>
      obtain ⟨hf5, hB5⟩ := hx
      dsimp only
      have hE5 := hE4.tr hf5.es
      have hC5 : ∀ b, b ≤ i + 1 → CLY a n (X0f c) (LYS a n bt (wB Pm B V T) (X0f c) b) b c5 := fun b hb => by
        rcases (show b ≤ i ∨ b = i + 1 by omega) with y | y
        · exact (hC4 b y).fr (hf5 46 b (by omega) (by omega) (by omega)) (fun j hj => hf5 45 _ (by omega) (by omega) (by omega))
        · subst y
          exact (hB5.iff (fun Y => LYS_suc.symm)).cly
      obtain ⟨cnt, A5, p1, p2, p3, p4, p5⟩ := hC5 (i + 1) (Nat.le_refl _)
      rw [p2]
      refine OK.g (gd_nI (by omega) (by omega)) ?_
      by_cases h0 : cnt = 0
      · rw [h0, if_pos (show nI 0 = 0 from rfl)]
        refine OK.ret ⟨hE5, Or.inl ⟨rfl, i + 1, hi2, fun j hj => ?_, fun X hX => ?_⟩⟩
        · obtain ⟨cn, A6, q1, -, -, -, q5⟩ := hC5 j hj
          exact ⟨cn, A6, q1, q5⟩
        · obtain ⟨j, hj, _⟩ := (p5.2 X).mpr hX
          omega
      · rw [if_neg (nz0 h0 (by omega)), nI_1]
        refine OK.ret ⟨hi2, hi2, rfl, hE5, sn4.fa hf5, ?_, hC5, fun b hb => ?_⟩
        · show c5 45 0 = _
          rw [hf5 45 0 (by omega) (by omega) (by omega), fr 45 0 (by omega) (by omega) (by omega) (by omega)]; exact h45
        · rcases (show b ≤ i ∨ b = i + 1 by omega) with y | y
          · exact hex b y
          · subst y; exact ⟨A5 0, (p5.2 _).mp ⟨0, by omega, rfl⟩⟩
    | inr y =>
      obtain ⟨hf5, hy, hO⟩ := hx
      exact OK.ret ⟨hE4.tr hf5.es, Or.inr ⟨hy, i + 1, hi2, hO.iff (fun Y => LYS_suc.symm)⟩⟩
  · have : b = 0 := by omega
    subst this; exact hc0
  · have : b = 0 := by omega
    subst this; exact ⟨X0f c, rfl⟩
  · intro x hx
    cases x with
    | inl c' => exact OK.ret ⟨hx.1, Or.inl ⟨rfl, hx.2⟩⟩
    | inr y => exact OK.ret ⟨hx.1, Or.inr hx.2⟩
end RF5
