/-! over the river: the reference's search, whole; the states from which the end can be -/
def EG (h h' : HI) : Prop := ∀ o j, sM o j = false → o ≠ 8 → o ≠ 9 → o ≠ 18 → o ≠ 19 → h' o j = h o j
theorem EG.rf {h : HI} : EG h h := fun _ _ _ _ _ _ _ => rfl
theorem EG.tr {a b c : HI} (h : EG a b) (g : EG b c) : EG a c := fun o j h1 h2 h3 h4 h5 => (g o j h1 h2 h3 h4 h5).trans (h o j h1 h2 h3 h4 h5)
theorem EF.eg {a b : HI} (h : EF a b) : EG a b := fun o j h1 h2 h3 _ _ => h o j h1 h2 h3
theorem EO.eg18 {a b : HI} (h : EO 18 a b) : EG a b := fun o j _ _ _ h4 _ => h o j h4
theorem EO.eg19 {a b : HI} (h : EO 19 a b) : EG a b := fun o j _ _ _ _ h5 => h o j h5
theorem EG.x {h h' : HI} (e : EG h h') : XM h h' := fun o k q => by
  have no : ∀ z, pM z k = false → z ≠ 5 → z ≠ 0 → o ≠ z := fun z z1 z2 z3 w => by
    rw [w] at q
    rcases q with q | q | q
    · rw [z1] at q; cases q
    · exact z2 q
    · exact z3 q.1
  exact e o k (sM_no q) (no 8 rfl (by omega) (by omega)) (no 9 rfl (by omega) (by omega)) (no 18 rfl (by omega) (by omega)) (no 19 rfl (by omega) (by omega))
theorem QM.eg {n Pm : Nat} {B : Nat → Nat} {V : Nat → Nat → Nat → Nat} {h h' : HI} (q : QM n Pm B V h) (e : EG h h') : QM n Pm B V h' := q.kept (e 0 1 rfl (by omega) (by omega) (by omega) (by omega)) (e 0 2 rfl (by omega) (by omega) (by omega) (by omega)) (fun k => e 2 k rfl (by omega) (by omega) (by omega) (by omega)) (e 0 17 rfl (by omega) (by omega) (by omega) (by omega)) (fun k => e 7 k rfl (by omega) (by omega) (by omega) (by omega))
theorem MLY.iff {p r : Nat → Prop} {o b : Nat} {h : HI} (m : MLY p o b h) (e : ∀ L, L < 512 → (r L ↔ p L)) : MLY r o b h := fun L hL => by rw [e L hL]; exact m L hL
theorem MLY.fr {p : Nat → Prop} {o b : Nat} {h h' : HI} (m : MLY p o b h) (e : ∀ L, L < 512 → h' o (b + L) = h o (b + L)) : MLY p o b h' := fun L hL => by rw [e L hL]; exact m L hL
section RM5
variable {n Pm : Nat} {B : Nat → Nat} {V : Nat → Nat → Nat → Nat} {m : HI} {bt S T n' : Nat} {W : Nat → Nat → Nat}
theorem fill18 (u1 u2 : Int32) (rd : Option Nat) (m : HI) : OK (rh_loop (b_Mo_findCross_7 u1 u2 (512 : Int32) rd) rh_N ((0 : Int32), m)) (fun x => EO 18 m x ∧ ∀ j, j < 10752 → x 18 j = 0) := by
  refine OK.loop _ (fun i x => i ≤ 10752 ∧ x.1 = nI i ∧ EO 18 m x.2 ∧ ∀ j, j < i → x.2 18 j = 0) _ 10752 (by omega) ?_ ⟨by omega, rfl, EO.rf, fun j hj => by omega⟩
  rintro i ⟨v, g⟩ - ⟨hi', rfl, hE, hB⟩
  dsimp only at hE hB
  unfold b_Mo_findCross_7
  dsimp only
  refine OK.ite (fun hc => OK.ret ?_) (fun hc => ?_)
  · have : i = 10752 := by have := ple (b := 10752) hc (by omega) (by omega); omega
    subst this; exact ⟨hE, hB⟩
  have hi2 : i < 10752 := nle (b := 10752) hc (by omega) (by omega)
  rw [nI_clamp (by omega)]
  refine OK.g (gd_nI (by omega) (by omega)) (OK.ret ⟨hi2, hi2, nI_1 i, hE.up _ _, fun j hj => ?_⟩)
  show rh_up g 18 i _ 18 j = 0
  by_cases z : j = i
  · subst z; rw [rh_up_s]; rfl
  · rw [gup _ _ _ _ z]; exact hB j (by omega)
theorem fill19 (u1 u2 u3 : Int32) (rd : Option Nat) (m : HI) : OK (rh_loop (b_Mo_findGood_8 u1 u2 u3 (512 : Int32) rd) rh_N ((0 : Int32), m)) (fun x => EO 19 m x ∧ ∀ j, j < 10752 → x 19 j = 0) := by
  refine OK.loop _ (fun i x => i ≤ 10752 ∧ x.1 = nI i ∧ EO 19 m x.2 ∧ ∀ j, j < i → x.2 19 j = 0) _ 10752 (by omega) ?_ ⟨by omega, rfl, EO.rf, fun j hj => by omega⟩
  rintro i ⟨v, g⟩ - ⟨hi', rfl, hE, hB⟩
  dsimp only at hE hB
  unfold b_Mo_findGood_8
  dsimp only
  refine OK.ite (fun hc => OK.ret ?_) (fun hc => ?_)
  · have : i = 10752 := by have := ple (b := 10752) hc (by omega) (by omega); omega
    subst this; exact ⟨hE, hB⟩
  have hi2 : i < 10752 := nle (b := 10752) hc (by omega) (by omega)
  rw [nI_clamp (by omega)]
  refine OK.g (gd_nI (by omega) (by omega)) (OK.ret ⟨hi2, hi2, nI_1 i, hE.up _ _, fun j hj => ?_⟩)
  show rh_up g 19 i _ 19 j = 0
  by_cases z : j = i
  · subst z; rw [rh_up_s]; rfl
  · rw [gup _ _ _ _ z]; exact hB j (by omega)
/-- the fixed part of what the reference holds -/
def RMX (n Pm : Nat) (B : Nat → Nat) (V : Nat → Nat → Nat → Nat) (bt T : Nat) (m : HI) : Prop := QM n Pm B V m ∧ m 3 0 = nI bt ∧ m 1 10 = nI T
theorem RMX.eg {m' : HI} (r : RMX n Pm B V bt T m) (e : EG m m') : RMX n Pm B V bt T m' := ⟨r.1.eg e, (e 3 0 rfl (by omega) (by omega) (by omega) (by omega)).trans r.2.1, (e 1 10 rfl (by omega) (by omega) (by omega) (by omega)).trans r.2.2⟩
theorem fc41_b (u1 u2 u3 v : Int32) (h : HI) (rd : Option Nat) : b_Mo_findCross_41 u1 u2 u3 (v, h, rd) = if (20 : Int32) ≤ v then some (.inr (.inl (h, rd))) else (f_Mo_findSets h rd (((h 1 (10 : Int32).toNatClampNeg) + u2) + v)).bind (fun x8 => (rh_loop (b_Mo_findCross_67 u1 u2 u3 v x8.2) rh_N ((0 : Int32), x8.1)).bind (fun r20 => rh_g (0 ≤ (u3 * (v + (1 : Int32))).toInt ∧ (u3 * (v + (1 : Int32))).toInt < ((10752 : Nat) : Int)) (if (r20 18 (u3 * (v + (1 : Int32))).toNatClampNeg) = 0 then some (.inl (v + (1 : Int32), r20, x8.2)) else some (.inr (.inr (v + (1 : Int32), r20, x8.2)))))) := rfl
theorem fc_ok (rm : RMX n Pm B V bt T m) (hWf : ∀ k, W k = fun i => Wt Pm B V i (T + n' + k)) (hW : ∀ k, k < 20 → ∀ s, WS n (W k) s ≤ 89991) (hT : T < 2 ^ 28) (hn' : n' ≤ 99) (hbt : bt ≤ 9999) (hS : S < 2 ^ n) (rd : Option Nat) : OK (f_Mo_findCross m rd (nI S) (nI n')) (fun x => EG m x.2.1 ∧ ((∃ k, k < 20 ∧ x.1 = nI (k + 1) ∧ NR n Pm bt W S (k + 1) 0 ∧ (∀ j, j < k → ¬ NR n Pm bt W S (j + 1) 0) ∧ ∀ j, j ≤ k + 1 → MLY (NR n Pm bt W S j) 18 (512 * j) x.2.1) ∨ (x.1 = 1000000 ∧ ∀ j, j < 20 → ¬ NR n Pm bt W S (j + 1) 0))) := by
  have hn := rm.1.1
  have hp9 := pow9 hn
  have hP : Pm < 2 ^ 31 := p31 hn rm.1.2.1
  unfold f_Mo_findCross
  refine OK.bind (fill18 (nI S) (nI n') rd m) ?_
  rintro m1 ⟨hE1, hz⟩
  rw [nI_clamp (by omega)]
  refine OK.g (gd_nI (by omega) (by omega)) ?_
  have hE2 : EO 18 m (rh_up m1 18 S ((1 : Int32) &&& 1)) := hE1.up _ _
  refine OK.bind (P := fun x => Sum.elim (fun y : HI × Option Nat => EG m y.1 ∧ ∀ j, j < 20 → ¬ NR n Pm bt W S (j + 1) 0) (fun y : Int32 × HI × Option Nat => EG m y.2.1 ∧ ∃ k, k < 20 ∧ y.1 = nI (k + 1) ∧ NR n Pm bt W S (k + 1) 0 ∧ (∀ j, j < k → ¬ NR n Pm bt W S (j + 1) 0) ∧ ∀ j, j ≤ k + 1 → MLY (NR n Pm bt W S j) 18 (512 * j) y.2.1) x) (OK.loop _ (fun k x => k ≤ 20 ∧ x.1 = nI k ∧ EG m x.2.1 ∧ (∀ j, j ≤ k → MLY (NR n Pm bt W S j) 18 (512 * j) x.2.1) ∧ (∀ i, 512 * (k + 1) ≤ i → i < 10752 → x.2.1 18 i = 0) ∧ ∀ j, j < k → ¬ NR n Pm bt W S (j + 1) 0) _ 20 (by omega) ?_ ⟨by omega, rfl, hE2.eg18, fun j hj => ?_, fun i h1 h2 => ?_, fun j hj => by omega⟩) (fun x hx => ?_)
  · rintro k ⟨v, h, rd⟩ - ⟨hk', rfl, hE, hL, h0, hno⟩
    dsimp only at hE hL h0
    have rm' := rm.eg hE
    rw [fc41_b, show h 1 (10 : Int32).toNatClampNeg = nI T from rm'.2.2, nI_add, nI_add]
    refine OK.ite (fun hc => OK.ret ?_) (fun hc => ?_)
    · have := ple (b := 20) hc (by omega) (by omega)
      exact ⟨hE, fun j hj => hno j (by omega)⟩
    have hk : k < 20 := nle (b := 20) hc (by omega) (by omega)
    refine OK.bind (fs_m rm'.1 rd (t := T + n' + k) (by omega)) ?_
    rintro ⟨h2, rd2⟩ ⟨hf, tm⟩
    dsimp only at hf tm ⊢
    rw [← hWf k] at tm
    have rm2 := rm'.eg hf.eg
    have h18 : ∀ i, h2 18 i = h 18 i := fun i => hf 18 i rfl (by omega) (by omega)
    have hL2 : ∀ j, j ≤ k → MLY (NR n Pm bt W S j) 18 (512 * j) h2 := fun j hj => (hL j hj).fr (fun L _ => h18 _)
    refine OK.bind (fc67 hn rm2.1.2.2.2.1 hP rm2.2.1 hbt hk hS tm (hW k hk) (hL2 k (Nat.le_refl _)) (fun L hL => (h18 _).trans (h0 _ (by omega) (by omega))) (nI n') rd2) ?_
    rintro h3 ⟨x1, x2, x3⟩
    rw [nI_1, show (512 : Int32) * nI (k + 1) = nI (512 * (k + 1)) from pk_mul 512 _, nI_clamp (by omega)]
    have hE3 : EG m h3 := (hE.tr hf.eg).tr x1.eg18
    have hL3 : ∀ j, j ≤ k + 1 → MLY (NR n Pm bt W S j) 18 (512 * j) h3 := fun j hj => by
      rcases (show j ≤ k ∨ j = k + 1 by omega) with y | y
      · exact (hL2 j y).fr (fun L hL => x2 _ (by omega))
      · subst y; exact x3
    refine OK.g (gd_nI (by omega) (by omega)) ?_
    rcases x3 0 (by omega) with ⟨y1, y2⟩ | ⟨y1, y2⟩
    · rw [Nat.add_zero] at y1
      rw [y1, if_neg (by decide)]
      exact OK.ret ⟨hE3, k, hk, rfl, y2, hno, hL3⟩
    · rw [Nat.add_zero] at y1
      rw [y1, if_pos rfl]
      refine OK.ret ⟨hk, hk, rfl, hE3, hL3, fun i h1 h2 => ?_, fun j hj => ?_⟩
      · show h3 18 i = 0
        rw [x2 i (by omega), h18]; exact h0 i (by omega) h2
      · rcases (show j < k ∨ j = k by omega) with y | y
        · exact hno j y
        · subst y; exact y2
  · have : j = 0 := by omega
    subst this
    intro L hL
    show (rh_up m1 18 S _ 18 (512 * 0 + L) = 1 ∧ _) ∨ (rh_up m1 18 S _ 18 (512 * 0 + L) = 0 ∧ _)
    rw [Nat.mul_zero, Nat.zero_add]
    by_cases y : L = S
    · rw [y, rh_up_s]; exact Or.inl ⟨by decide, rfl⟩
    · rw [gup _ _ _ _ y, hz L (by omega)]; exact Or.inr ⟨rfl, y⟩
  · show rh_up m1 18 S _ 18 i = 0
    rw [gup _ _ _ _ (by omega)]; exact hz i h2
  · cases x with
    | inl y => exact OK.ret ⟨hx.1, Or.inr ⟨rfl, hx.2⟩⟩
    | inr y => exact OK.ret ⟨hx.1, Or.inl hx.2⟩
theorem fg123 (hn : n ≤ 9) (hP : m 0 2 = nI Pm) (hP2 : Pm < 2 ^ 31) (hb : m 3 0 = nI bt) (hbt : bt ≤ 9999) {j L M : Nat} (hj : j < 20) (hS : S < 2 ^ n) (hL : SUB L S) (hM : SUB M S) (tm : TM n (W j) m) (hW : ∀ s, WS n (W j) s ≤ 89991) {R : Nat → Prop} (hR : MLY R 19 (512 * (j + 1)) m) (u1 u2 : Int32) (rd : Option Nat) : OK (rh_loop (b_Mo_findGood_123 u1 u2 (512 : Int32) (nI j) (nI L) (nI M) m rd) rh_N ((0 : Int32), nI M)) (fun x => (x = 1 ∧ ∃ s, SUB s M ∧ CC n Pm bt W j s ∧ R (L ^^^ s)) ∨ (x = 0 ∧ ¬ ∃ s, SUB s M ∧ CC n Pm bt W j s ∧ R (L ^^^ s))) := by
  have hp9 := pow9 hn
  have hM2 := hM.le
  refine OK.loop _ (fun i x => ∃ P, SUB P M ∧ P + i ≤ M + 1 ∧ (P + i ≤ M ∨ x.1 = 1) ∧ x.2 = nI P ∧ ((x.1 = 1 ∧ ∃ s, SUB s M ∧ CC n Pm bt W j s ∧ R (L ^^^ s)) ∨ (x.1 = 0 ∧ ∀ s, SUB s M → P < s → ¬ (CC n Pm bt W j s ∧ R (L ^^^ s))))) _ 513 (by omega) ?_ ⟨M, SUB.rf, by omega, Or.inl (by omega), rfl, Or.inr ⟨rfl, fun s hs h => by have := hs.le; omega⟩⟩
  rintro i ⟨v, w⟩ - ⟨P, hP3, hPi, hPo, rfl, hB⟩
  dsimp only at hPo hB
  unfold b_Mo_findGood_123
  dsimp only
  by_cases h0 : P = 0
  · subst h0
    rw [if_pos (show nI 0 ≤ 0 by decide)]
    refine OK.ret ?_
    rcases hB with hB | ⟨b1, b2⟩
    · exact Or.inl hB
    · exact Or.inr ⟨b1, fun ⟨s, s1, s2, s3⟩ => b2 s s1 (by have := CC_0 s2; omega) ⟨s2, s3⟩⟩
  · have hPS := (hP3.tr hM).le
    rw [if_neg (show ¬ nI P ≤ 0 from nI_ge (a := 0) (b := P) (by omega) (by omega)), pvI (by omega)]
    rcases hB with ⟨rfl, hB⟩ | ⟨rfl, hB⟩
    · rw [if_neg (by decide)]
      exact OK.ret (Or.inl ⟨rfl, hB⟩)
    · rw [if_pos rfl]
      have hPi2 : P + i ≤ M := hPo.resolve_right (by decide)
      obtain ⟨x, hx1, hx2⟩ := cc_ok (M := M) hn hP hP2 hb hbt (j := j) (s := P) (by omega) (fun _ => by omega) tm hW
      rw [hx1, Option.bind_some]
      have hle : (P - 1) &&& M ≤ P - 1 := Nat.and_le_left
      have hnew : SUB ((P - 1) &&& M) M := fun j hj => by rw [Nat.testBit_and, Bool.and_eq_true] at hj; exact hj.2
      have next : ¬ (CC n Pm bt W j P ∧ R (L ^^^ P)) → (i < 513 ∧ ∃ Q, SUB Q M ∧ Q + (i + 1) ≤ M + 1 ∧ (Q + (i + 1) ≤ M ∨ (0 : Int32) = 1) ∧ nI ((P - 1) &&& M) = nI Q ∧ (((0 : Int32) = 1 ∧ ∃ s, SUB s M ∧ CC n Pm bt W j s ∧ R (L ^^^ s)) ∨ ((0 : Int32) = 0 ∧ ∀ s, SUB s M → Q < s → ¬ (CC n Pm bt W j s ∧ R (L ^^^ s))))) := fun hno => by
        refine ⟨by omega, _, hnew, by omega, Or.inl (by omega), rfl, Or.inr ⟨rfl, fun s hs hlt => ?_⟩⟩
        rcases Nat.lt_trichotomy s P with y | y | y
        · have := pv P M s (SUB.iff.mp hP3) (SUB.iff.mp hs) y; omega
        · subst y; exact hno
        · exact hB s hs y
      rcases hx2 with ⟨rfl, _, hc⟩ | ⟨rfl, hc⟩
      · have hxl : L ^^^ P < 512 := by have := (hL.xor (hP3.tr hM)).le; omega
        rw [if_neg (by decide), nI_1, fb_xorI, show (512 : Int32) * nI (j + 1) = nI (512 * (j + 1)) from pk_mul 512 _, nI_add, nI_clamp (by omega)]
        refine OK.g (gd_nI (by omega) (by omega)) ?_
        rcases hR _ hxl with ⟨r1, r2⟩ | ⟨r1, r2⟩
        · rw [r1, if_neg (by decide)]
          exact OK.ret ⟨by omega, _, hnew, by omega, Or.inr rfl, rfl, Or.inl ⟨rfl, P, hP3, hc, r2⟩⟩
        · rw [r1, if_pos rfl]
          exact OK.ret (next (fun z => r2 z.2))
      · rw [if_pos rfl]
        exact OK.ret (next (fun z => hc ⟨hP3, z.1⟩))
theorem fg71_b (u1 u2 u4 u5 v : Int32) (rd : Option Nat) (h : HI) : b_Mo_findGood_71 u1 u2 u4 u5 rd (v, h) = if u1 < v then some (.inr h) else rh_g (0 ≤ ((u4 * u5) + v).toInt ∧ ((u4 * u5) + v).toInt < ((10752 : Nat) : Int)) (if (h 18 ((u4 * u5) + v).toNatClampNeg) = 0 then some (.inl (v + (1 : Int32), h)) else if (u5 - u5 / (2 : Int32) * (2 : Int32)) = 0 then j_Mo_findGood_114 h rd u1 u2 u4 u5 v v else j_Mo_findGood_114 h rd u1 u2 u4 u5 v (u1 &&& (v ^^^ (-1 : Int32)))) := rfl
theorem fg71 (hn : n ≤ 9) (hP : m 0 2 = nI Pm) (hP2 : Pm < 2 ^ 31) (hb : m 3 0 = nI bt) (hbt : bt ≤ 9999) {j d : Nat} (hj : j < 20) (hS : S < 2 ^ n) (tm : TM n (W j) m) (hW : ∀ s, WS n (W j) s ≤ 89991) (hl : MLY (NR n Pm bt W S j) 18 (512 * j) m) (hg : MLY (GR n Pm bt W S d (j + 1)) 19 (512 * (j + 1)) m) (h0 : ∀ L, L < 512 → m 19 (512 * j + L) = 0) (u2 : Int32) (rd : Option Nat) : OK (rh_loop (b_Mo_findGood_71 (nI S) u2 (512 : Int32) (nI j) rd) rh_N ((0 : Int32), m)) (fun x => EO 19 m x ∧ (∀ i, (i < 512 * j ∨ 512 * (j + 1) ≤ i) → x 19 i = m 19 i) ∧ MLY (GR n Pm bt W S (d + 1) j) 19 (512 * j) x) := by
  have hp9 := pow9 hn
  refine OK.loop _ (fun i x => i ≤ S + 1 ∧ x.1 = nI i ∧ EO 19 m x.2 ∧ (∀ i, (i < 512 * j ∨ 512 * (j + 1) ≤ i) → x.2 19 i = m 19 i) ∧ MLY (fun L => L < i ∧ GR n Pm bt W S (d + 1) j L) 19 (512 * j) x.2) _ (S + 1) (by omega) ?_ ⟨by omega, rfl, EO.rf, fun _ _ => rfl, fun L hL => Or.inr ⟨h0 L hL, fun z => by have := z.1; omega⟩⟩
  rintro i ⟨v, g⟩ - ⟨hi', rfl, hE, hF, hB⟩
  dsimp only at hE hF hB
  rw [fg71_b]
  refine OK.ite (fun hc => OK.ret ?_) (fun hc => ?_)
  · have := (nI_ltI (a := S) (b := i) (by omega) (by omega)).mp hc
    have : i = S + 1 := by omega
    subst this
    refine ⟨hE, hF, hB.iff (fun L hL => ⟨fun z => ⟨by have := (GR_sub z).le; omega, z⟩, fun z => z.2⟩)⟩
  have hi2 : i ≤ S := nlt hc (by omega) (by omega)
  rw [show (512 : Int32) * nI j = nI (512 * j) from pk_mul 512 _, nI_add, nI_clamp (by omega), hE 18 _ (by omega)]
  refine OK.g (gd_nI (by omega) (by omega)) ?_
  rcases hl i (by omega) with ⟨l1, l2⟩ | ⟨l1, l2⟩
  · rw [l1, if_neg (by decide)]
    have hsub := NR_sub l2
    have go : ∀ M, M = TH S j i → OK (j_Mo_findGood_114 g rd (nI S) u2 (512 : Int32) (nI j) (nI i) (nI M)) (fun x => Sum.elim (fun s' => i < S + 1 ∧ i + 1 ≤ S + 1 ∧ s'.1 = nI (i + 1) ∧ EO 19 m s'.2 ∧ (∀ i, (i < 512 * j ∨ 512 * (j + 1) ≤ i) → s'.2 19 i = m 19 i) ∧ MLY (fun L => L < i + 1 ∧ GR n Pm bt W S (d + 1) j L) 19 (512 * j) s'.2) (fun x => EO 19 m x ∧ (∀ i, (i < 512 * j ∨ 512 * (j + 1) ≤ i) → x 19 i = m 19 i) ∧ MLY (GR n Pm bt W S (d + 1) j) 19 (512 * j) x) x) := fun M hM => by
      subst hM
      unfold j_Mo_findGood_114
      refine OK.bind (fg123 (m := g) hn ((hE 0 2 (by omega)).trans hP) hP2 ((hE 3 0 (by omega)).trans hb) hbt hj hS hsub (TH_sub hsub) (tm.eo hE (by omega) (by omega)) hW (hg.fr (fun L hL => hF _ (by omega))) (nI S) u2 rd) ?_
      intro x hx
      rw [show (512 : Int32) * nI j = nI (512 * j) from pk_mul 512 _, nI_add, nI_clamp (by omega)]
      refine OK.g (gd_nI (by omega) (by omega)) (OK.ret ⟨by omega, by omega, nI_1 i, hE.up _ _, fun i' hi' => ?_, fun L hL => ?_⟩)
      · show rh_up g 19 _ _ 19 i' = _
        rw [gup _ _ _ _ (by omega)]; exact hF i' hi'
      · show (rh_up g 19 _ _ 19 (512 * j + L) = 1 ∧ _) ∨ (rh_up g 19 _ _ 19 (512 * j + L) = 0 ∧ _)
        dsimp only
        by_cases y : L = i
        · subst y
          rw [rh_up_s]
          rcases hx with ⟨rfl, hx⟩ | ⟨rfl, hx⟩
          · exact Or.inl ⟨by decide, by omega, l2, hx⟩
          · exact Or.inr ⟨by decide, fun z => hx z.2.2⟩
        · rw [gup _ _ _ _ (by omega)]
          rcases hB L hL with ⟨b1, b2⟩ | ⟨b1, b2⟩
          · exact Or.inl ⟨b1, by have := b2.1; omega, b2.2⟩
          · exact Or.inr ⟨b1, fun z => b2 ⟨by have := z.1; omega, z.2⟩⟩
    by_cases hp : j % 2 = 0
    · rw [if_pos ((par (by omega)).mpr hp)]
      exact go i (by unfold TH; rw [if_pos hp])
    · rw [if_neg (fun z => hp ((par (by omega)).mp z)), andn', nandx (by omega) hsub]
      exact go _ (by unfold TH; rw [if_neg hp])
  · rw [l1, if_pos rfl]
    refine OK.ret ⟨by omega, by omega, nI_1 i, hE, hF, fun L hL => ?_⟩
    show (g 19 (512 * j + L) = 1 ∧ _) ∨ (g 19 (512 * j + L) = 0 ∧ _)
    dsimp only
    rcases hB L hL with ⟨b1, b2⟩ | ⟨b1, b2⟩
    · exact Or.inl ⟨b1, by have := b2.1; omega, b2.2⟩
    · refine Or.inr ⟨b1, fun z => ?_⟩
      rcases (show L < i ∨ L = i by have := z.1; omega) with y | y
      · exact b2 ⟨y, z.2⟩
      · subst y; exact l2 z.2.1
theorem fg_ok (rm : RMX n Pm B V bt T m) (hWf : ∀ k, W k = fun i => Wt Pm B V i (T + n' + k)) (hW : ∀ k, k < 20 → ∀ s, WS n (W k) s ≤ 89991) (hT : T < 2 ^ 28) (hn' : n' ≤ 99) (hbt : bt ≤ 9999) (hS : S < 2 ^ n) {k0 : Nat} (hk0 : k0 < 20) (hl : ∀ j, j ≤ k0 + 1 → MLY (NR n Pm bt W S j) 18 (512 * j) m) (rd : Option Nat) : OK (f_Mo_findGood m rd (nI S) (nI n') (nI (k0 + 1))) (fun x => EG m x.1 ∧ ∀ j, j ≤ k0 + 1 → MLY (GR n Pm bt W S (k0 + 1 - j) j) 19 (512 * j) x.1) := by
  have hn := rm.1.1
  have hp9 := pow9 hn
  have hP : Pm < 2 ^ 31 := p31 hn rm.1.2.1
  unfold f_Mo_findGood
  refine OK.bind (fill19 (nI S) (nI n') (nI (k0 + 1)) rd m) ?_
  rintro m1 ⟨hE1, hz⟩
  rw [show (512 : Int32) * nI (k0 + 1) = nI (512 * (k0 + 1)) from pk_mul 512 _, nI_clamp (by omega), dn1]
  refine OK.g (gd_nI (by omega) (by omega)) ?_
  have hE2 : EO 19 m (rh_up m1 19 (512 * (k0 + 1)) ((1 : Int32) &&& 1)) := hE1.up _ _
  refine OK.bind (P := fun x => EG m x.1 ∧ ∀ j, j ≤ k0 + 1 → MLY (GR n Pm bt W S (k0 + 1 - j) j) 19 (512 * j) x.1) (OK.loop _ (fun i x => i ≤ k0 + 1 ∧ x.1 = nI (k0 + 1 - i) - 1 ∧ EG m x.2.1 ∧ (∀ i, x.2.1 18 i = m 18 i) ∧ (∀ j, k0 + 1 - i ≤ j → j ≤ k0 + 1 → MLY (GR n Pm bt W S (k0 + 1 - j) j) 19 (512 * j) x.2.1) ∧ ∀ l, l < 512 * (k0 + 1 - i) → x.2.1 19 l = 0) _ (k0 + 1) (by omega) ?_ ⟨by omega, by rw [Nat.sub_zero, dn1], hE2.eg19, fun i => hE2 18 i (by omega), fun j h1 h2 L hL => ?_, fun l hl => ?_⟩) (fun x hx => OK.ret hx)
  · rintro i ⟨v, h, rd⟩ - ⟨hi', rfl, hE, h18, hG, h0⟩
    dsimp only at hE h18 hG h0
    have rm' := rm.eg hE
    unfold b_Mo_findGood_47
    dsimp only
    by_cases hzz : k0 + 1 - i = 0
    · rw [hzz] at hG
      rw [hzz, dn0, if_pos (by decide)]
      exact OK.ret ⟨hE, fun j hj => hG j (Nat.zero_le _) hj⟩
    · obtain ⟨j, hj⟩ : ∃ j, k0 + 1 - i = j + 1 := ⟨k0 - i, by omega⟩
      rw [hj] at hG h0 ⊢
      rw [dn1, if_neg (show ¬ nI j < 0 from nltI (s := 0) (by omega) (by omega)), show h 1 (10 : Int32).toNatClampNeg = nI T from rm'.2.2, nI_add, nI_add]
      refine OK.bind (fs_m rm'.1 rd (t := T + n' + j) (by omega)) ?_
      rintro ⟨h2, rd2⟩ ⟨hf, tm⟩
      dsimp only at hf tm ⊢
      rw [← hWf j] at tm
      have rm2 := rm'.eg hf.eg
      have f18 : ∀ i, h2 18 i = m 18 i := fun i => (hf 18 i rfl (by omega) (by omega)).trans (h18 i)
      have f19 : ∀ i, h2 19 i = h 19 i := fun i => hf 19 i rfl (by omega) (by omega)
      refine OK.bind (fg71 (d := k0 + 1 - (j + 1)) hn rm2.1.2.2.2.1 hP rm2.2.1 hbt (j := j) (by omega) hS tm (hW j (by omega)) ((hl j (by omega)).fr (fun L _ => f18 _)) ((hG (j + 1) (Nat.le_refl _) (by omega)).fr (fun L _ => f19 _)) (fun L hL => (f19 _).trans (h0 _ (by omega))) (nI n') rd2) ?_
      rintro h3 ⟨x1, x2, x3⟩
      refine OK.ret ⟨by omega, by omega, ?_, (hE.tr hf.eg).tr x1.eg19, fun i => (x1 18 i (by omega)).trans (f18 i), fun j' h1 h2 => ?_, fun l hl => ?_⟩
      · show nI j + (-1 : Int32) = nI (k0 + 1 - (i + 1)) - 1
        rw [dnm, show k0 + 1 - (i + 1) = j by omega]
      · show MLY _ 19 _ h3
        rcases (show j' = j ∨ j + 1 ≤ j' by omega) with y | y
        · subst y
          rw [show k0 + 1 - j' = k0 + 1 - (j' + 1) + 1 by omega]
          exact x3
        · exact (hG j' y h2).fr (fun L hL => (x2 _ (by omega)).trans (f19 _))
      · show h3 19 l = 0
        rw [x2 l (by omega), f19]; exact h0 l (by omega)
  · have : j = k0 + 1 := by omega
    subst this
    show (rh_up m1 19 (512 * (k0 + 1)) _ 19 (512 * (k0 + 1) + L) = 1 ∧ _) ∨ (rh_up m1 19 (512 * (k0 + 1)) _ 19 (512 * (k0 + 1) + L) = 0 ∧ _)
    rw [Nat.sub_self]
    by_cases y : L = 0
    · subst y
      exact Or.inl ⟨(rh_up_s m1 19 (512 * (k0 + 1)) ((1 : Int32) &&& 1)).trans (by decide), rfl⟩
    · rw [gup _ _ _ _ (by omega), hz _ (by omega)]; exact Or.inr ⟨rfl, y⟩
  · show rh_up m1 19 (512 * (k0 + 1)) _ 19 l = 0
    rw [gup _ _ _ _ (by omega)]; exact hz l (by omega)
end RM5
