/-! what each set weighs, as a table, on both sides -/
def tz (s : Nat) : Nat := (f_In_numberOfTrailingZeros (nI s)).toNatClampNeg
def pc (s : Nat) : Nat := (f_In_bitCount (nI s)).toNatClampNeg
theorem tz_all : ∀ s, s < 512 → s ≠ 0 → f_In_numberOfTrailingZeros (nI s) = nI (tz s) ∧ tz s < 9 ∧ (s &&& (s - 1)) ||| 2 ^ tz s = s ∧ (s &&& (s - 1)).testBit (tz s) = false ∧ (s &&& (s - 1)) < s := by decide +kernel
theorem pc_all : ∀ s, s < 512 → f_In_bitCount (nI s) = nI (pc s) ∧ pc s ≤ 9 ∧ pc s = fb_ct (fun j => s.testBit j) 9 ∧ (pc s = 0 → s = 0) := by decide +kernel
theorem WS_set {n i s : Nat} (W : Nat → Nat) (hi : i < n) (hb : s.testBit i = false) : WS n W (s ||| 2 ^ i) = WS n W s + W i := by
  unfold WS
  have h := fb_sm_upd (fun j => if s.testBit j then W j else 0) (W i) hi
  rw [show (if s.testBit i then W i else 0) = 0 by rw [hb]; rfl] at h
  rw [Nat.add_zero] at h
  rw [← h]
  apply fb_sm_cong
  intro k _
  rw [fb_bit_set]
  by_cases e : k = i
  · subst e; simp
  · simp [e]
theorem WS_zero (n : Nat) (W : Nat → Nat) : WS n W 0 = 0 := by
  unfold WS
  rw [fb_sm_cong (g := fun _ => 0) (fun k _ => by simp), fb_sm_const, Nat.mul_zero]
theorem WS_or {n s r : Nat} (W : Nat → Nat) (h : s &&& r = 0) : WS n W (s ||| r) = WS n W s + WS n W r := by
  unfold WS
  rw [← fb_sm_add]
  apply fb_sm_cong
  intro k _
  have h2 : (s &&& r).testBit k = false := by rw [h]; simp
  rw [Nat.testBit_and] at h2
  rw [Nat.testBit_or]
  cases hs : s.testBit k <;> cases hr : r.testBit k <;> simp_all
theorem WS_two {n i : Nat} (W : Nat → Nat) (hi : i < n) : WS n W (2 ^ i) = W i := by
  have := WS_set (s := 0) W hi (by simp)
  rw [WS_zero, Nat.zero_or, Nat.zero_add] at this
  exact this
def TC (n : Nat) (W : Nat → Nat) (c : HI) : Prop := ∀ s, s < 2 ^ n → c 12 s = nI (WS n W s)
def TM (n : Nat) (W : Nat → Nat) (m : HI) : Prop := (∀ s, s < 2 ^ n → m 9 s = nI (WS n W s)) ∧ ∀ i, i < n → m 8 i = nI (W i)
def E12 (h h' : HI) : Prop := ∀ o k, o ≠ 8 → o ≠ 12 → h' o k = h o k
def EF (h h' : HI) : Prop := ∀ o k, sM o k = false → o ≠ 8 → o ≠ 9 → h' o k = h o k
theorem E12.rf {h : HI} : E12 h h := fun _ _ _ _ => rfl
theorem EF.rf {h : HI} : EF h h := fun _ _ _ _ _ => rfl
theorem E12.tr {a b c : HI} (h : E12 a b) (g : E12 b c) : E12 a c := fun o k q r => (g o k q r).trans (h o k q r)
theorem EF.tr {a b c : HI} (h : EF a b) (g : EF b c) : EF a c := fun o k q r s => (g o k q r s).trans (h o k q r s)
theorem E8.e12 {a b : HI} (h : E8 a b) : E12 a b := fun o k q _ => h o k q
theorem EM.ef {a b : HI} (h : EM a b) : EF a b := fun o k q _ _ => h o k q
theorem E12.x {h h' : HI} (e : E12 h h') : XC h h' := fun o k q => e o k (fun z => by subst z; rcases q with q | q | q; exact absurd (show false = true from q) (by decide); omega; omega) (fun z => by subst z; rcases q with q | q | q; exact absurd (show false = true from q) (by decide); omega; omega)
theorem EF.x {h h' : HI} (e : EF h h') : XM h h' := fun o k q => e o k (sM_no q) (fun z => by subst z; rcases q with q | q | q; exact absurd (show false = true from q) (by decide); omega; omega) (fun z => by subst z; rcases q with q | q | q; exact absurd (show false = true from q) (by decide); omega; omega)
theorem E12.up {h g : HI} (e : E12 h g) (k : Nat) (v : Int32) : E12 h (rh_up g 12 k v) := fun o' k' q r => by
  rw [up_f, if_neg (by omega)]
  exact e o' k' q r
theorem EF.up8 {h g : HI} (e : EF h g) (k : Nat) (v : Int32) : EF h (rh_up g 8 k v) := fun o' k' q r s => by
  rw [up_f, if_neg (by omega)]
  exact e o' k' q r s
theorem EF.up9 {h g : HI} (e : EF h g) (k : Nat) (v : Int32) : EF h (rh_up g 9 k v) := fun o' k' q r s => by
  rw [up_f, if_neg (by omega)]
  exact e o' k' q r s
section SUMS
variable {n Pm : Nat} {B : Nat → Nat} {V : Nat → Nat → Nat → Nat} {h : HI}
theorem QC.e12 {h' : HI} (q : QC n Pm B V h) (e : E12 h h') : QC n Pm B V h' := q.kept (fun k => e 4 k (by omega) (by omega)) (fun k => e 5 k (by omega) (by omega)) (e 6 1 (by omega) (by omega)) (fun k => e 7 k (by omega) (by omega))
theorem QM.ef {h' : HI} (q : QM n Pm B V h) (e : EF h h') : QM n Pm B V h' := q.kept (e 0 1 rfl (by omega) (by omega)) (e 0 2 rfl (by omega) (by omega)) (fun k => e 2 k rfl (by omega) (by omega)) (e 0 17 rfl (by omega) (by omega)) (fun k => e 7 k rfl (by omega) (by omega))
theorem su_c (q : QC n Pm B V h) {t : Nat} (ht : t < 2 ^ 30) : OK (f_Cr_sumAll h (nI t)) (fun x => E12 h x ∧ TC n (fun i => Wt Pm B V i t) x) := by
  have hn := q.1
  generalize hW : (fun i => Wt Pm B V i t) = W
  unfold f_Cr_sumAll
  refine OK.bind (OK.loop _ (fun i z => i ≤ n ∧ z.1 = nI i ∧ E12 h z.2 ∧ ∀ s, s < 2 ^ i → z.2 12 s = nI (WS n W s)) (fun x => E12 h x ∧ TC n W x) n (by omega) ?_ ⟨Nat.zero_le _, rfl, E12.rf.up 0 0, fun s hs => ?_⟩) (fun r hr => OK.ret hr)
  · rintro i ⟨z1, z2⟩ - ⟨hi, rfl, he, htab⟩
    dsimp only at he htab
    have q' := q.e12 he
    unfold b_Cr_sumAll_9
    dsimp only
    simp only [q'.2.2.1]
    refine OK.ite (fun hc => ?_) (fun hc => ?_)
    · have : i = n := by have := ple hc (by omega) (by omega); omega
      subst this
      exact OK.ret ⟨he, htab⟩
    · have hi2 : i < n := nle hc (by omega) (by omega)
      obtain ⟨h', e1, e2⟩ := wa_c q' hi2 ht
      refine OK.bind (P := fun x => x = (_, h')) ⟨_, e1, rfl⟩ ?_
      rintro _ rfl
      dsimp only
      have hp : 2 ^ (i + 1) ≤ 2 ^ 9 := Nat.pow_le_pow_right (by omega) (by omega)
      have hp1 : 2 ^ (i + 1) = 2 * 2 ^ i := by rw [Nat.pow_succ]; omega
      have hWi : Wt Pm B V i t = W i := by rw [← hW]
      rw [two_n i (by omega), hWi]
      refine OK.bind (OK.loop _ (fun j z => j ≤ 2 ^ i ∧ z.1 = nI j ∧ E12 h z.2 ∧ (∀ s, s < 2 ^ i → z.2 12 s = nI (WS n W s)) ∧ ∀ s, s < j → z.2 12 (2 ^ i + s) = nI (WS n W (2 ^ i + s))) (fun x => E12 h x ∧ ∀ s, s < 2 ^ (i + 1) → x 12 s = nI (WS n W s)) (2 ^ i) (by omega) ?_ ⟨Nat.zero_le _, rfl, he.tr e2.e12, fun s hs => (e2 12 s (by omega)).trans (htab s hs), fun s hs => by omega⟩) (fun r hr => OK.ret ⟨hi2, hi2, nI_1 i, hr.1, hr.2⟩)
      rintro j ⟨z1, z2⟩ - ⟨hj, rfl, he, ht1, ht2⟩
      dsimp only at he ht1 ht2
      unfold b_Cr_sumAll_32
      dsimp only
      refine OK.ite (fun hc => ?_) (fun hc => ?_)
      · have : j = 2 ^ i := by have := ple hc (by omega) (by omega); omega
        subst this
        refine OK.ret ⟨he, fun s hs => ?_⟩
        by_cases hs2 : s < 2 ^ i
        · exact ht1 s hs2
        · have := ht2 (s - 2 ^ i) (by omega)
          rw [show 2 ^ i + (s - 2 ^ i) = s by omega] at this
          exact this
      · have hj2 : j < 2 ^ i := nle hc (by omega) (by omega)
        have eor : 2 ^ i ||| j = 2 ^ i + j := by
          have := Nat.two_pow_add_eq_or_of_lt hj2 1
          rw [Nat.mul_one] at this
          exact this.symm
        rw [fa_or, eor, nI_clamp (by omega), nI_clamp (by omega), ht1 j hj2, nI_add, nI_1]
        have ews : WS n W j + W i = WS n W (2 ^ i + j) := by
          rw [← eor, Nat.or_comm, WS_set W hi2 (Nat.testBit_lt_two_pow hj2)]
        rw [ews]
        refine OK.g (gd_nI (by omega) (by omega)) (OK.g (gd_nI (by omega) (by omega)) (OK.ret ⟨hj2, hj2, rfl, he.up _ _, fun s hs => ?_, fun s hs => ?_⟩))
        · show rh_up z2 12 (2 ^ i + j) _ 12 s = _
          rw [up_f, if_neg (by omega)]; exact ht1 s hs
        · show rh_up z2 12 (2 ^ i + j) _ 12 (2 ^ i + s) = _
          by_cases hs2 : s = j
          · subst hs2; rw [rh_up_s]
          · rw [up_f, if_neg (by omega)]; exact ht2 s (by omega)
  · have : s = 0 := by simp at hs; omega
    subst this
    rw [WS_zero]; rfl
theorem fs_m (q : QM n Pm B V h) (rd : Option Nat) {t : Nat} (ht : t < 2 ^ 30) : OK (f_Mo_findSets h rd (nI t)) (fun x => EF h x.1 ∧ TM n (fun i => Wt Pm B V i t) x.1) := by
  have hn := q.1
  have hp9 := pow9 hn
  generalize hW : (fun i => Wt Pm B V i t) = W
  unfold f_Mo_findSets
  refine OK.bind (OK.loop _ (fun i z => i ≤ n ∧ z.1 = nI i ∧ EF h z.2.1 ∧ ∀ s, s < i → z.2.1 8 s = nI (W s)) (fun x => EF h x.1 ∧ ∀ s, s < n → x.1 8 s = nI (W s)) n (by omega) ?_ ⟨Nat.zero_le _, rfl, EF.rf, fun s hs => by omega⟩) ?_
  · rintro i ⟨z1, z2, z3⟩ - ⟨hi, rfl, he, htab⟩
    dsimp only at he htab
    have q' := q.ef he
    unfold b_Mo_findSets_2
    dsimp only
    simp only [q'.2.2.1]
    refine OK.ite (fun hc => ?_) (fun hc => ?_)
    · have : i = n := by have := ple hc (by omega) (by omega); omega
      subst this
      exact OK.ret ⟨he, htab⟩
    · have hi2 : i < n := nle hc (by omega) (by omega)
      obtain ⟨h', rd', e1, e2⟩ := wa_m q' z3 hi2 ht
      refine OK.bind (P := fun x => x = (_, h', rd')) ⟨_, e1, rfl⟩ ?_
      rintro _ rfl
      dsimp only
      have hWi : Wt Pm B V i t = W i := by rw [← hW]
      rw [nI_clamp (by omega), hWi, nI_1]
      refine OK.g (gd_nI (by omega) (by omega)) (OK.ret ⟨hi2, hi2, rfl, (he.tr e2.ef).up8 _ _, fun s hs => ?_⟩)
      show rh_up h' 8 i (nI (W i)) 8 s = _
      by_cases hs2 : s = i
      · subst hs2; rw [rh_up_s]
      · rw [up_f, if_neg (by omega), e2 8 s rfl]; exact htab s (by omega)
  · rintro ⟨x1, x2⟩ ⟨he, h8⟩
    dsimp only at he h8 ⊢
    refine OK.bind (OK.loop _ (fun i z => i + 1 ≤ 2 ^ n ∧ z.1 = nI (i + 1) ∧ EF h z.2 ∧ (∀ s, s < n → z.2 8 s = nI (W s)) ∧ ∀ s, s < i + 1 → z.2 9 s = nI (WS n W s)) (fun x => EF h x ∧ TM n W x) (2 ^ n) (by omega) ?_ ⟨by omega, rfl, he.up9 _ _, h8, fun s hs => ?_⟩) (fun r hr => OK.ret hr)
    · rintro i ⟨z1, z2⟩ - ⟨hi, rfl, he, h8, h9⟩
      dsimp only at he h8 h9
      have q' := q.ef he
      have e4 : z2 0 1 = nI n := q'.2.2.1
      unfold b_Mo_findSets_37 f_Mo_everybody
      dsimp only
      simp only [e4, two_n n hn, show nI (2 ^ n) - 1 = nI (2 ^ n - 1) from pk_sub (b := 1) hp9.1]
      refine OK.ite (fun hc => ?_) (fun hc => ?_)
      · rw [nI_ltI (by omega) (by omega)] at hc
        have : i + 1 = 2 ^ n := by omega
        exact OK.ret ⟨he, fun s hs => h9 s (by omega), h8⟩
      · have hi2 : i + 1 ≤ 2 ^ n - 1 := nlt hc (by omega) (by omega)
        obtain ⟨t1, t2, t3, t4, t5⟩ := tz_all (i + 1) (by omega) (by omega)
        generalize hz : tz (i + 1) = z at t1 t2 t3 t4
        have hzn : z < n := by
          rcases Nat.lt_or_ge z n with hz | hz
          · exact hz
          · exfalso
            have : 2 ^ n ≤ 2 ^ z := Nat.pow_le_pow_right (by omega) hz
            have h3 : 2 ^ z ≤ (i + 1 &&& i + 1 - 1) ||| 2 ^ z := Nat.right_le_or
            omega
        have e5 : nI (i + 1) - 1 = nI (i + 1 - 1) := pk_sub (b := 1) (by omega)
        rw [t1, e5, fa_and, nI_clamp (by omega), nI_clamp (by omega), nI_clamp (by omega), h9 _ t5, h8 z hzn, nI_add, nI_1]
        have ews : WS n W (i + 1 &&& i + 1 - 1) + W z = WS n W (i + 1) := by
          rw [← WS_set W hzn t4, t3]
        rw [ews]
        refine OK.g (gd_nI (by omega) (by omega)) (OK.g (gd_nI (by omega) (by omega)) (OK.g (gd_nI (by omega) (by omega)) (OK.ret ⟨by omega, by omega, rfl, he.up9 _ _, fun s hs => ?_, fun s hs => ?_⟩)))
        · exact h8 s hs
        · show rh_up z2 9 (i + 1) _ 9 s = _
          by_cases hs2 : s = i + 1
          · subst hs2; rw [rh_up_s]
          · rw [up_f, if_neg (by omega)]; exact h9 s (by omega)
    · have : s = 0 := by omega
      subst this
      rw [WS_zero]; rfl
end SUMS
section SUMS2
variable {k n Pm : Nat} {B : Nat → Nat} {V : Nat → Nat → Nat → Nat} {T a q : Nat} {c m : HI}
theorem RLa.sums (A : RLa k n Pm B V T a q c m) (rd : Option Nat) {t : Nat} (ht : t < 2 ^ 30) : RO (f_Cr_sumAll c (nI t)) (f_Mo_findSets m rd (nI t)) (fun x y => RLa k n Pm B V T a q x y.1 ∧ TC n (fun i => Wt Pm B V i t) x ∧ TM n (fun i => Wt Pm B V i t) y.1 ∧ E12 c x ∧ EF m y.1) := by
  refine (RO.two (su_c A.qc ht) (fs_m A.qm rd ht)).mono ?_
  rintro x y ⟨⟨h1, h2⟩, h3, h4⟩
  exact ⟨A.fr h1.x h3.x, h2, h4, h1, h3⟩
theorem RLa.cs (A : RLa k n Pm B V T a q c m) : f_Cr_sets c = nI (2 ^ n) := by
  unfold f_Cr_sets
  rw [A.cn, two_n n A.n9]
theorem RLa.me (A : RLa k n Pm B V T a q c m) : f_Mo_everybody m = nI (2 ^ n - 1) := by
  unfold f_Mo_everybody
  rw [A.mn, two_n n A.n9]
  exact pk_sub (b := 1) (pow9 A.n9).1
theorem sets_iff {n j : Nat} (hn : n ≤ 9) (hj : j < 2 ^ 31) : nI (2 ^ n) ≤ nI j ↔ nI (2 ^ n - 1) < nI j := by
  have := pow9 hn
  rw [nI_leI (by omega) hj, nI_ltI (by omega) hj]
  omega
end SUMS2
