/-! over the river: the reference's search -/
def MLY (S' : Nat → Prop) (o b : Nat) (h : HI) : Prop := ∀ L, L < 512 → ((h o (b + L) = 1 ∧ S' L) ∨ (h o (b + L) = 0 ∧ ¬ S' L))
section RM
variable {k n Pm : Nat} {B : Nat → Nat} {V : Nat → Nat → Nat → Nat} {T a q : Nat} {c m : HI} {bt S : Nat} {W : Nat → Nat → Nat}
theorem cc_ok (hn : n ≤ 9) (hP : m 0 2 = nI Pm) (hP2 : Pm < 2 ^ 31) (hb : m 3 0 = nI bt) (hbt : bt ≤ 9999) {j s M : Nat} (hs : s < 512) (hsn : SUB s M → s < 2 ^ n) (tm : TM n (W j) m) (hW : ∀ s, WS n (W j) s ≤ 89991) : ∃ x : Int32, f_Mo_canCross m (nI s) (nI M) = some x ∧ ((x = 1 ∧ SUB s M ∧ CC n Pm bt W j s) ∨ (x = 0 ∧ ¬ (SUB s M ∧ CC n Pm bt W j s))) := by
  unfold f_Mo_canCross
  rw [andn', hP, fa_and, nI_clamp (by omega), show m 3 (0 : Int32).toNatClampNeg = nI bt from hb]
  have hand : s &&& Pm < 2 ^ 31 := Nat.lt_of_le_of_lt Nat.and_le_right hP2
  by_cases h0 : s = 0
  · rw [h0, if_pos (show nI 0 = 0 from rfl)]
    exact ⟨0, rfl, Or.inr ⟨rfl, fun z => CC_0 z.2 rfl⟩⟩
  · rw [if_neg (nz0 h0 (by omega))]
    by_cases h1 : nand s M = 0
    · rw [h1, if_pos (show nI 0 = 0 from rfl)]
      have hsub := (sub_nand (by omega)).mp h1
      rw [tm.1 s (hsn hsub)]
      by_cases h2 : s &&& Pm = 0
      · rw [h2, if_pos (show nI 0 = 0 from rfl)]
        exact ⟨0, rfl, Or.inr ⟨rfl, fun z => z.2.1 h2⟩⟩
      · rw [if_neg (nz0 h2 hand), rg_t (gd_nI hs (by omega))]
        have := hW s
        by_cases h3 : bt < WS n (W j) s
        · rw [if_pos (ltI (by omega) h3)]
          exact ⟨0, rfl, Or.inr ⟨rfl, fun z => by have := z.2.2; omega⟩⟩
        · rw [if_neg (nltI (by omega) h3)]
          exact ⟨1, rfl, Or.inl ⟨rfl, hsub, h2, by omega⟩⟩
    · rw [if_neg (nz0 h1 (by have := nand_le s M; omega))]
      exact ⟨0, rfl, Or.inr ⟨rfl, fun z => h1 ((sub_nand (by omega)).mpr z.1)⟩⟩
/-- what the reference holds meanwhile -/
def RVM (n Pm bt t0 : Nat) (n' : Nat) (m : HI) : Prop := m 0 2 = nI Pm ∧ m 3 0 = nI bt ∧ ∃ T, m 1 10 = nI T ∧ t0 = T + n'
def EO (o : Nat) (h h' : HI) : Prop := ∀ o' j, o' ≠ o → h' o' j = h o' j
theorem EO.rf {o : Nat} {h : HI} : EO o h h := fun _ _ _ => rfl
theorem EO.tr {o : Nat} {a b c : HI} (h : EO o a b) (g : EO o b c) : EO o a c := fun o' j z => (g o' j z).trans (h o' j z)
theorem EO.up {o : Nat} {a b : HI} (h : EO o a b) (j : Nat) (v : Int32) : EO o a (rh_up b o j v) := fun o' j' z => by rw [up_f, if_neg (fun w => z w.1)]; exact h o' j' z
theorem TM.eo {o : Nat} {W : Nat → Nat} {h h' : HI} (t : TM n W h) (e : EO o h h') (h8 : o ≠ 8) (h9 : o ≠ 9) : TM n W h' := ⟨fun s hs => (e 9 s h9.symm).trans (t.1 s hs), fun i hi => (e 8 i h8.symm).trans (t.2 i hi)⟩
theorem fc115 (hn : n ≤ 9) (hP : m 0 2 = nI Pm) (hP2 : Pm < 2 ^ 31) (hb : m 3 0 = nI bt) (hbt : bt ≤ 9999) {j L M : Nat} (hj : j < 20) (hS : S < 2 ^ n) (hL : SUB L S) (hM : SUB M S) (tm : TM n (W j) m) (hW : ∀ s, WS n (W j) s ≤ 89991) {R : Nat → Prop} (hR : MLY R 18 (512 * (j + 1)) m) (u1 u2 : Int32) (rd : Option Nat) : OK (rh_loop (b_Mo_findCross_115 u1 u2 (512 : Int32) (nI j) (nI L) (nI M) rd) rh_N (nI M, m)) (fun x => EO 18 m x ∧ (∀ i, (i < 512 * (j + 1) ∨ 512 * (j + 2) ≤ i) → x 18 i = m 18 i) ∧ MLY (fun L' => R L' ∨ ∃ s, SUB s M ∧ CC n Pm bt W j s ∧ L' = L ^^^ s) 18 (512 * (j + 1)) x) := by
  have hp9 := pow9 hn
  have hM2 := hM.le
  refine OK.loop _ (fun i x => EO 18 m x.2 ∧ (∀ i, (i < 512 * (j + 1) ∨ 512 * (j + 2) ≤ i) → x.2 18 i = m 18 i) ∧ ∃ P, SUB P M ∧ P + i ≤ M ∧ x.1 = nI P ∧ MLY (fun L' => R L' ∨ ∃ s, SUB s M ∧ P < s ∧ CC n Pm bt W j s ∧ L' = L ^^^ s) 18 (512 * (j + 1)) x.2) _ 512 (by omega) ?_ ⟨EO.rf, fun _ _ => rfl, M, SUB.rf, by omega, rfl, fun L' hL' => ?_⟩
  · rintro i ⟨v, g⟩ - ⟨hE, hF, P, hP3, hPi, rfl, hB⟩
    dsimp only at hE hF hB
    unfold b_Mo_findCross_115
    dsimp only
    by_cases h0 : P = 0
    · subst h0
      rw [if_pos (show nI 0 ≤ 0 by decide)]
      refine OK.ret ⟨hE, hF, fun L' hL' => ?_⟩
      have e : (R L' ∨ ∃ s, SUB s M ∧ 0 < s ∧ CC n Pm bt W j s ∧ L' = L ^^^ s) ↔ (R L' ∨ ∃ s, SUB s M ∧ CC n Pm bt W j s ∧ L' = L ^^^ s) := by
        constructor
        · rintro (z | ⟨s, z1, _, z2⟩)
          · exact Or.inl z
          · exact Or.inr ⟨s, z1, z2⟩
        · rintro (z | ⟨s, z1, z2⟩)
          · exact Or.inl z
          · exact Or.inr ⟨s, z1, by have := CC_0 z2.1; omega, z2⟩
      dsimp only
      rw [← e]; exact hB L' hL'
    · have hPS := (hP3.tr hM).le
      rw [if_neg (show ¬ nI P ≤ 0 from nI_ge (a := 0) (b := P) (by omega) (by omega)), pvI (by omega)]
      obtain ⟨x, hx1, hx2⟩ := cc_ok (m := g) (M := M) hn ((hE 0 2 (by omega)).trans hP) hP2 ((hE 3 0 (by omega)).trans hb) hbt (j := j) (s := P) (by omega) (fun _ => by omega) (tm.eo hE (by omega) (by omega)) hW
      rw [hx1, Option.bind_some]
      have hle : (P - 1) &&& M ≤ P - 1 := Nat.and_le_left
      have hnew : SUB ((P - 1) &&& M) M := fun j hj => by rw [Nat.testBit_and, Bool.and_eq_true] at hj; exact hj.2
      have hstep : ∀ s, SUB s M → ((P - 1) &&& M < s ↔ P ≤ s) := fun s hs => by
        constructor
        · intro z
          rcases Nat.lt_or_ge s P with y | y
          · have := pv P M s (SUB.iff.mp hP3) (SUB.iff.mp hs) y; omega
          · exact y
        · intro z; omega
      have hiff : ∀ L', (R L' ∨ ∃ s, SUB s M ∧ (P - 1) &&& M < s ∧ CC n Pm bt W j s ∧ L' = L ^^^ s) ↔ ((R L' ∨ ∃ s, SUB s M ∧ P < s ∧ CC n Pm bt W j s ∧ L' = L ^^^ s) ∨ (CC n Pm bt W j P ∧ L' = L ^^^ P)) := fun L' => by
        constructor
        · rintro (z | ⟨s, z1, z2, z3, z4⟩)
          · exact Or.inl (Or.inl z)
          · rcases (show P < s ∨ s = P by have := (hstep s z1).mp z2; omega) with y | y
            · exact Or.inl (Or.inr ⟨s, z1, y, z3, z4⟩)
            · subst y; exact Or.inr ⟨z3, z4⟩
        · rintro ((z | ⟨s, z1, z2, z3⟩) | ⟨z1, z2⟩)
          · exact Or.inl z
          · exact Or.inr ⟨s, z1, (hstep s z1).mpr (by omega), z3⟩
          · exact Or.inr ⟨P, hP3, (hstep P hP3).mpr (by omega), z1, z2⟩
      rcases hx2 with ⟨rfl, _, hc⟩ | ⟨rfl, hc⟩
      · rw [if_neg (by decide), nI_1, fb_xorI, show (512 : Int32) * nI (j + 1) = nI (512 * (j + 1)) from pk_mul 512 _, nI_add]
        have hxl : L ^^^ P < 512 := by have := (hL.xor (hP3.tr hM)).le; omega
        rw [nI_clamp (by omega)]
        refine OK.g (gd_nI (by omega) (by omega)) (OK.ret ⟨by omega, hE.up _ _, fun i hi => ?_, _, hnew, by omega, rfl, fun L' hL' => ?_⟩)
        · show rh_up g 18 _ _ 18 i = _
          rw [gup _ _ _ _ (by omega)]; exact hF i hi
        · show (rh_up g 18 _ _ 18 (512 * (j + 1) + L') = 1 ∧ _) ∨ (rh_up g 18 _ _ 18 (512 * (j + 1) + L') = 0 ∧ _)
          dsimp only
          rw [hiff L']
          by_cases y : L' = L ^^^ P
          · rw [y, rh_up_s]
            exact Or.inl ⟨by decide, Or.inr ⟨hc, rfl⟩⟩
          · rw [gup _ _ _ _ (by omega)]
            rcases hB L' hL' with ⟨b1, b2⟩ | ⟨b1, b2⟩
            · exact Or.inl ⟨b1, Or.inl b2⟩
            · exact Or.inr ⟨b1, fun z => z.elim b2 (fun z => y z.2)⟩
      · rw [if_pos rfl]
        refine OK.ret ⟨by omega, hE, hF, _, hnew, by omega, rfl, fun L' hL' => ?_⟩
        show (g 18 (512 * (j + 1) + L') = 1 ∧ _) ∨ (g 18 (512 * (j + 1) + L') = 0 ∧ _)
        dsimp only
        rw [hiff L']
        rcases hB L' hL' with ⟨b1, b2⟩ | ⟨b1, b2⟩
        · exact Or.inl ⟨b1, Or.inl b2⟩
        · exact Or.inr ⟨b1, fun z => z.elim b2 (fun z => hc ⟨hP3, z.1⟩)⟩
  · have e : (R L' ∨ ∃ s, SUB s M ∧ M < s ∧ CC n Pm bt W j s ∧ L' = L ^^^ s) ↔ R L' := by
      constructor
      · rintro (z | ⟨s, z1, z2, _⟩)
        · exact z
        · have := z1.le; omega
      · exact Or.inl
    dsimp only
    rw [e]; exact hR L' hL'
theorem fc67_b (u1 u2 u3 u4 v : Int32) (rd : Option Nat) (h : HI) : b_Mo_findCross_67 u1 u2 u3 u4 rd (v, h) = if u1 < v then some (.inr h) else rh_g (0 ≤ ((u3 * u4) + v).toInt ∧ ((u3 * u4) + v).toInt < ((10752 : Nat) : Int)) (if (h 18 ((u3 * u4) + v).toNatClampNeg) = 0 then some (.inl (v + (1 : Int32), h)) else if (u4 - u4 / (2 : Int32) * (2 : Int32)) = 0 then j_Mo_findCross_109 h rd u1 u2 u3 u4 v v else j_Mo_findCross_109 h rd u1 u2 u3 u4 v (u1 &&& (v ^^^ (-1 : Int32)))) := rfl
theorem fc67 (hn : n ≤ 9) (hP : m 0 2 = nI Pm) (hP2 : Pm < 2 ^ 31) (hb : m 3 0 = nI bt) (hbt : bt ≤ 9999) {j : Nat} (hj : j < 20) (hS : S < 2 ^ n) (tm : TM n (W j) m) (hW : ∀ s, WS n (W j) s ≤ 89991) (hl : MLY (NR n Pm bt W S j) 18 (512 * j) m) (h0 : ∀ L, L < 512 → m 18 (512 * (j + 1) + L) = 0) (u2 : Int32) (rd : Option Nat) : OK (rh_loop (b_Mo_findCross_67 (nI S) u2 (512 : Int32) (nI j) rd) rh_N ((0 : Int32), m)) (fun x => EO 18 m x ∧ (∀ i, (i < 512 * (j + 1) ∨ 512 * (j + 2) ≤ i) → x 18 i = m 18 i) ∧ MLY (NR n Pm bt W S (j + 1)) 18 (512 * (j + 1)) x) := by
  have hp9 := pow9 hn
  refine OK.loop _ (fun i x => i ≤ S + 1 ∧ x.1 = nI i ∧ EO 18 m x.2 ∧ (∀ i, (i < 512 * (j + 1) ∨ 512 * (j + 2) ≤ i) → x.2 18 i = m 18 i) ∧ MLY (fun L' => ∃ L s, L < i ∧ NR n Pm bt W S j L ∧ SUB s (TH S j L) ∧ CC n Pm bt W j s ∧ L' = L ^^^ s) 18 (512 * (j + 1)) x.2) _ (S + 1) (by omega) ?_ ⟨by omega, rfl, EO.rf, fun _ _ => rfl, fun L hL => Or.inr ⟨h0 L hL, fun ⟨L, s, z, _⟩ => by omega⟩⟩
  rintro i ⟨v, g⟩ - ⟨hi', rfl, hE, hF, hB⟩
  dsimp only at hE hF hB
  rw [fc67_b]
  refine OK.ite (fun hc => OK.ret ?_) (fun hc => ?_)
  · have := (nI_ltI (a := S) (b := i) (by omega) (by omega)).mp hc
    have : i = S + 1 := by omega
    subst this
    refine ⟨hE, hF, fun L' hL' => ?_⟩
    have e : NR n Pm bt W S (j + 1) L' ↔ ∃ L s, L < S + 1 ∧ NR n Pm bt W S j L ∧ SUB s (TH S j L) ∧ CC n Pm bt W j s ∧ L' = L ^^^ s := by
      constructor
      · rintro ⟨L, s, z1, z2⟩; exact ⟨L, s, by have := (NR_sub z1).le; omega, z1, z2⟩
      · rintro ⟨L, s, _, z⟩; exact ⟨L, s, z⟩
    rw [e]; exact hB L' hL'
  have hi2 : i ≤ S := nlt hc (by omega) (by omega)
  rw [show (512 : Int32) * nI j = nI (512 * j) from pk_mul 512 _, nI_add, nI_clamp (by omega), hF _ (by omega)]
  refine OK.g (gd_nI (by omega) (by omega)) ?_
  rcases hl i (by omega) with ⟨l1, l2⟩ | ⟨l1, l2⟩
  · rw [l1, if_neg (by decide)]
    have hsub := NR_sub l2
    have go : ∀ M, M = TH S j i → OK (j_Mo_findCross_109 g rd (nI S) u2 (512 : Int32) (nI j) (nI i) (nI M)) (fun x => Sum.elim (fun s' => i < S + 1 ∧ i + 1 ≤ S + 1 ∧ s'.1 = nI (i + 1) ∧ EO 18 m s'.2 ∧ (∀ i, (i < 512 * (j + 1) ∨ 512 * (j + 2) ≤ i) → s'.2 18 i = m 18 i) ∧ MLY (fun L' => ∃ L s, L < i + 1 ∧ NR n Pm bt W S j L ∧ SUB s (TH S j L) ∧ CC n Pm bt W j s ∧ L' = L ^^^ s) 18 (512 * (j + 1)) s'.2) (fun x => EO 18 m x ∧ (∀ i, (i < 512 * (j + 1) ∨ 512 * (j + 2) ≤ i) → x 18 i = m 18 i) ∧ MLY (NR n Pm bt W S (j + 1)) 18 (512 * (j + 1)) x) x) := fun M hM => by
      subst hM
      unfold j_Mo_findCross_109
      refine OK.bind (fc115 (m := g) hn ((hE 0 2 (by omega)).trans hP) hP2 ((hE 3 0 (by omega)).trans hb) hbt hj hS hsub (TH_sub hsub) (tm.eo hE (by omega) (by omega)) hW hB (nI S) u2 rd) ?_
      rintro x ⟨x1, x2, x3⟩
      refine OK.ret ⟨by omega, by omega, nI_1 i, hE.tr x1, fun i hi => (x2 i hi).trans (hF i hi), fun L' hL' => ?_⟩
      have e : (∃ L s, L < i + 1 ∧ NR n Pm bt W S j L ∧ SUB s (TH S j L) ∧ CC n Pm bt W j s ∧ L' = L ^^^ s) ↔ ((∃ L s, L < i ∧ NR n Pm bt W S j L ∧ SUB s (TH S j L) ∧ CC n Pm bt W j s ∧ L' = L ^^^ s) ∨ ∃ s, SUB s (TH S j i) ∧ CC n Pm bt W j s ∧ L' = i ^^^ s) := by
        constructor
        · rintro ⟨L, s, z1, z2⟩
          rcases (show L < i ∨ L = i by omega) with y | y
          · exact Or.inl ⟨L, s, y, z2⟩
          · subst y; exact Or.inr ⟨s, z2.2⟩
        · rintro (⟨L, s, z1, z2⟩ | ⟨s, z⟩)
          · exact ⟨L, s, by omega, z2⟩
          · exact ⟨i, s, by omega, l2, z⟩
      show (x 18 (512 * (j + 1) + L') = 1 ∧ _) ∨ (x 18 (512 * (j + 1) + L') = 0 ∧ _)
      dsimp only
      rw [e]; exact x3 L' hL'
    by_cases hp : j % 2 = 0
    · rw [if_pos ((par (by omega)).mpr hp)]
      exact go i (by unfold TH; rw [if_pos hp])
    · rw [if_neg (fun z => hp ((par (by omega)).mp z)), andn', nandx (by omega) hsub]
      exact go _ (by unfold TH; rw [if_neg hp])
  · rw [l1, if_pos rfl]
    refine OK.ret ⟨by omega, by omega, nI_1 i, hE, hF, fun L' hL' => ?_⟩
    have e : (∃ L s, L < i + 1 ∧ NR n Pm bt W S j L ∧ SUB s (TH S j L) ∧ CC n Pm bt W j s ∧ L' = L ^^^ s) ↔ (∃ L s, L < i ∧ NR n Pm bt W S j L ∧ SUB s (TH S j L) ∧ CC n Pm bt W j s ∧ L' = L ^^^ s) := by
      constructor
      · rintro ⟨L, s, z1, z2⟩
        rcases (show L < i ∨ L = i by omega) with y | y
        · exact ⟨L, s, y, z2⟩
        · subst y; exact absurd z2.1 l2
      · rintro ⟨L, s, z1, z2⟩; exact ⟨L, s, by omega, z2⟩
    show (g 18 (512 * (j + 1) + L') = 1 ∧ _) ∨ (g 18 (512 * (j + 1) + L') = 0 ∧ _)
    dsimp only
    rw [e]; exact hB L' hL'
end RM
