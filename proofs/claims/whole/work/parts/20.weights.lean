/-! weights: of one, of a set together, on both sides -/
theorem bitI {p i : Nat} (hp : p < 2 ^ 31) (hi : i < 31) : (nI p >>> (nI i &&& 31)) &&& 1 = nI (p / 2 ^ i % 2) := by
  rw [pk_shrN hp (nI i &&& 31) i (s_l i (by omega))]
  exact pk_andN (n := p / 2 ^ i) (by have := Nat.div_le_self p (2 ^ i); omega) 1 rfl
theorem bit_t {p i : Nat} (hp : p < 2 ^ 31) (hi : i < 31) : ((nI p >>> (nI i &&& 31)) &&& 1 = 0) ↔ p.testBit i = false := by
  rw [bitI hp hi, Nat.testBit_eq_decide_div_mod_eq]
  have h2 : p / 2 ^ i % 2 < 2 := Nat.mod_lt _ (by omega)
  rw [show (0 : Int32) = nI 0 from rfl, nI_eq (by omega) (by omega)]
  simp only [decide_eq_false_iff_not]
  omega
theorem has_t {p i : Nat} (hp : p < 2 ^ 31) (hi : i < 31) : (f_Mo_has (nI p) (nI i) = 0) ↔ p.testBit i = false := by
  have h := bit_t hp hi
  unfold f_Mo_has
  have h2 : p / 2 ^ i % 2 < 2 := Nat.mod_lt _ (by omega)
  rw [bitI hp hi] at h ⊢
  rw [← h]
  rcases (show p / 2 ^ i % 2 = 0 ∨ p / 2 ^ i % 2 = 1 by omega) with e | e <;> rw [e] <;> decide
def Wt (Pm : Nat) (B : Nat → Nat) (V : Nat → Nat → Nat → Nat) (i t : Nat) : Nat := if Pm.testBit i then V (B i) t i else B i
def WS (n : Nat) (W : Nat → Nat) (s : Nat) : Nat := fb_sm (fun j => if s.testBit j then W j else 0) n
def E8 (h h' : HI) : Prop := ∀ o k, o ≠ 8 → h' o k = h o k
def EM (h h' : HI) : Prop := ∀ o k, sM o k = false → h' o k = h o k
theorem E8.rf {h : HI} : E8 h h := fun _ _ _ => rfl
theorem EM.rf {h : HI} : EM h h := fun _ _ _ => rfl
theorem E8.tr {a b c : HI} (h : E8 a b) (g : E8 b c) : E8 a c := fun o k q => (g o k q).trans (h o k q)
theorem EM.tr {a b c : HI} (h : EM a b) (g : EM b c) : EM a c := fun o k q => (g o k q).trans (h o k q)
/-- the class's cells tell of these FOLK and this rule -/
def QC (n Pm : Nat) (B : Nat → Nat) (V : Nat → Nat → Nat → Nat) (h : HI) : Prop := n ≤ 9 ∧ Pm < 2 ^ n ∧ h 4 0 = nI n ∧ h 4 1 = nI Pm ∧ (∀ i, i < n → h 5 i = nI (B i) ∧ 1 ≤ B i ∧ B i ≤ 999) ∧ RVc h V ∧ ∀ b t w, 1 ≤ b → b ≤ 999 → t < 2 ^ 30 → w < 9 → V b t w ≤ 9999
def QM (n Pm : Nat) (B : Nat → Nat) (V : Nat → Nat → Nat → Nat) (h : HI) : Prop := n ≤ 9 ∧ Pm < 2 ^ n ∧ h 0 1 = nI n ∧ h 0 2 = nI Pm ∧ (∀ i, i < n → h 2 i = nI (B i) ∧ 1 ≤ B i ∧ B i ≤ 999) ∧ RVm h V ∧ ∀ b t w, 1 ≤ b → b ≤ 999 → t < 2 ^ 30 → w < 9 → V b t w ≤ 9999
section WG
variable {n Pm : Nat} {B : Nat → Nat} {V : Nat → Nat → Nat → Nat} {h h' : HI}
theorem QC.kept (q : QC n Pm B V h) (h4 : ∀ k, h' 4 k = h 4 k) (h5 : ∀ k, h' 5 k = h 5 k) (h6 : h' 6 1 = h 6 1) (h7 : ∀ k, h' 7 k = h 7 k) : QC n Pm B V h' := by
  obtain ⟨a1, a2, a3, a4, a5, a6, a7⟩ := q
  refine ⟨a1, a2, (h4 0).trans a3, (h4 1).trans a4, fun i hi => ?_, fun x hx1 hx2 => a6 x (hx1.trans h6) (fun i => (hx2 i).trans (h7 i)), a7⟩
  rw [h5]; exact a5 i hi
theorem QC.e8 (q : QC n Pm B V h) (e : E8 h h') : QC n Pm B V h' := q.kept (fun k => e 4 k (by omega)) (fun k => e 5 k (by omega)) (e 6 1 (by omega)) (fun k => e 7 k (by omega))
theorem QM.kept (q : QM n Pm B V h) (h1 : h' 0 1 = h 0 1) (h2 : h' 0 2 = h 0 2) (h3 : ∀ k, h' 2 k = h 2 k) (h6 : h' 0 17 = h 0 17) (h7 : ∀ k, h' 7 k = h 7 k) : QM n Pm B V h' := by
  obtain ⟨a1, a2, a3, a4, a5, a6, a7⟩ := q
  refine ⟨a1, a2, h1.trans a3, h2.trans a4, fun i hi => ?_, fun x rd hx1 hx2 => a6 x rd (hx1.trans h6) (fun i => (hx2 i).trans (h7 i)), a7⟩
  rw [h3]; exact a5 i hi
theorem QM.em (q : QM n Pm B V h) (e : EM h h') : QM n Pm B V h' := q.kept (e 0 1 rfl) (e 0 2 rfl) (fun k => e 2 k rfl) (e 0 17 rfl) (fun k => e 7 k rfl)
theorem Wt_le (q : QC n Pm B V h) {i t : Nat} (hi : i < n) (ht : t < 2 ^ 30) : Wt Pm B V i t ≤ 9999 := by
  obtain ⟨a1, a2, a3, a4, a5, a6, a7⟩ := q
  unfold Wt
  split
  · exact a7 _ _ _ (a5 i hi).2.1 (a5 i hi).2.2 ht (by omega)
  · have := (a5 i hi).2.2; omega
theorem Wt_leM (q : QM n Pm B V h) {i t : Nat} (hi : i < n) (ht : t < 2 ^ 30) : Wt Pm B V i t ≤ 9999 := by
  obtain ⟨a1, a2, a3, a4, a5, a6, a7⟩ := q
  unfold Wt
  split
  · exact a7 _ _ _ (a5 i hi).2.1 (a5 i hi).2.2 ht (by omega)
  · have := (a5 i hi).2.2; omega
theorem p31 (hn : n ≤ 9) {s : Nat} (hs : s < 2 ^ n) : s < 2 ^ 31 := Nat.lt_of_lt_of_le hs (Nat.pow_le_pow_right (by omega) (by omega))
theorem isP {i : Nat} (q : QC n Pm B V h) (hi : i < n) : (f_Cr_isPerson h (nI i) = 0) ↔ Pm.testBit i = false := by
  obtain ⟨a1, a2, a3, a4, a5, a6, a7⟩ := q
  have hb := bit_t (p := Pm) (i := i) (p31 a1 a2) (by omega)
  unfold f_Cr_isPerson
  rw [a4, ← hb]
  by_cases z : (nI Pm >>> (nI i &&& 31)) &&& 1 = 0
  · simp [z]
  · simp [z]
theorem wa_c (q : QC n Pm B V h) {i t : Nat} (hi : i < n) (ht : t < 2 ^ 30) : ∃ h', f_Cr_weightAt h (nI i) (nI t) = some (nI (Wt Pm B V i t), h') ∧ E8 h h' := by
  have hp := isP q hi
  obtain ⟨a1, a2, a3, a4, a5, a6, a7⟩ := q
  unfold f_Cr_weightAt Wt
  have g := gd_nI (i := i) (N := 9) (by omega) (by omega)
  have e5 : h 5 (nI i).toNatClampNeg = nI (B i) := by rw [nI_clamp (by omega)]; exact (a5 i hi).1
  cases hb : Pm.testBit i with
  | false =>
    rw [if_pos (hp.mpr hb), rg_t g, e5]
    exact ⟨h, by simp, E8.rf⟩
  | true =>
    rw [if_neg (fun z => by rw [hp.mp z] at hb; cases hb), rg_t g, e5, show nI t - nI t / 9 * 9 = nI (t % 9) from pk_rem (d := 9) (by omega) (by omega) (by omega), show nI t / 9 = nI (t / 9) from pk_div (d := 9) (by omega) (by omega) (by omega)]
    obtain ⟨h', h1, h2⟩ := a6 h rfl (fun _ => rfl) (B i) t i (a5 i hi).2.1 (a5 i hi).2.2 ht (by omega)
    rw [h1]
    exact ⟨h', by simp, h2⟩
theorem wa_m (q : QM n Pm B V h) (rd : Option Nat) {i t : Nat} (hi : i < n) (ht : t < 2 ^ 30) : ∃ h' rd', f_Mo_weightOf h rd (nI i) (nI t) = some (nI (Wt Pm B V i t), h', rd') ∧ EM h h' := by
  obtain ⟨a1, a2, a3, a4, a5, a6, a7⟩ := q
  have hp := has_t (p := Pm) (i := i) (p31 a1 a2) (by omega)
  unfold f_Mo_weightOf
  have g := gd_nI (i := i) (N := 9) (by omega) (by omega)
  have e5 : h 2 (nI i).toNatClampNeg = nI (B i) := by rw [nI_clamp (by omega)]; exact (a5 i hi).1
  rw [rg_t g, e5]
  unfold Wt
  cases hb : Pm.testBit i with
  | false =>
    refine ⟨h, rd, ?_, EM.rf⟩
    unfold f_Mo_weightBy
    rw [a4, if_pos (hp.mpr hb)]
    simp
  | true =>
    obtain ⟨h', rd', h1, h2⟩ := a6 h rd rfl (fun _ => rfl) (B i) t i (a5 i hi).2.1 (a5 i hi).2.2 ht (by omega) (by rw [a4]; exact fun z => by rw [hp.mp z] at hb; cases hb)
    rw [h1]
    exact ⟨h', rd', by simp, h2⟩
theorem sm_le {f : Nat → Nat} {i : Nat} (hf : ∀ j, j < i → f j ≤ 9999) : fb_sm f i ≤ i * 9999 := fb_sm_bound hf
theorem to_c (q : QC n Pm B V h) {s t : Nat} (hs : s < 2 ^ 31) (ht : t < 2 ^ 30) : ∃ h', f_Cr_together h (nI s) (nI t) = some (nI (WS n (fun i => Wt Pm B V i t) s), h') ∧ E8 h h' := by
  have hn := q.1
  have hW : ∀ j, j < n → (if s.testBit j then Wt Pm B V j t else 0) ≤ 9999 := fun j hj => by
    split
    · exact Wt_le q hj ht
    · omega
  obtain ⟨r, hr, hq⟩ := lp_inv (b_Cr_together_5 (nI s) (nI t)) (fun i z => z.1 = nI (fb_sm (fun j => if s.testBit j then Wt Pm B V j t else 0) i) ∧ z.2.1 = nI i ∧ E8 h z.2.2) (fun r => r.1 = nI (WS n (fun i => Wt Pm B V i t) s) ∧ E8 h r.2) n
    (fun i z hi hI => by
      obtain ⟨z1, z2, z3⟩ := z
      obtain ⟨rfl, rfl, he⟩ := hI
      have he : E8 h z3 := he
      have q' : QC n Pm B V z3 := q.e8 he
      have e4 : z3 4 0 = nI n := q'.2.2.1
      left
      simp only [b_Cr_together_5, e4]
      rw [if_neg (nI_ge hi (by omega)), show nI i + 1 = nI (i + 1) from nI_1 i]
      have hb := bit_t (p := s) (i := i) hs (by omega)
      cases hbt : s.testBit i with
      | false =>
        rw [if_pos (hb.mpr hbt)]
        exact ⟨_, rfl, by rw [fb_sm_succ]; simp [hbt], rfl, he⟩
      | true =>
        rw [if_neg (fun z => by rw [hb.mp z] at hbt; cases hbt)]
        obtain ⟨h', h1, h2⟩ := wa_c q' hi ht
        rw [h1]
        refine ⟨_, rfl, ?_, rfl, he.tr h2⟩
        show nI _ + nI _ = _
        rw [nI_add, fb_sm_succ]
        simp [hbt])
    (fun z hI => by
      obtain ⟨z1, z2, z3⟩ := z
      obtain ⟨rfl, rfl, he⟩ := hI
      have he : E8 h z3 := he
      have q' : QC n Pm B V z3 := q.e8 he
      have e4 : z3 4 0 = nI n := q'.2.2.1
      simp only [b_Cr_together_5, e4]
      rw [if_pos (nI_le (Nat.le_refl n) (by omega))]
      exact ⟨_, rfl, rfl, he⟩) rh_N 0 (0, 0, h) (Nat.zero_le _) (by unfold rh_N; omega) ⟨rfl, rfl, E8.rf⟩
  unfold f_Cr_together
  rw [hr]
  exact ⟨r.2, by rw [Option.bind_some, hq.1], hq.2⟩
theorem to_m (q : QM n Pm B V h) (rd : Option Nat) {s t : Nat} (hs : s < 2 ^ 31) (ht : t < 2 ^ 30) : ∃ h' rd', f_Mo_weightOfAll h rd (nI s) (nI t) = some (nI (WS n (fun i => Wt Pm B V i t) s), h', rd') ∧ EM h h' := by
  have hn := q.1
  obtain ⟨r, hr, hq⟩ := lp_inv (b_Mo_weightOfAll_5 (nI s) (nI t)) (fun i z => z.1 = nI (fb_sm (fun j => if s.testBit j then Wt Pm B V j t else 0) i) ∧ z.2.1 = nI i ∧ EM h z.2.2.1) (fun r => r.1 = nI (WS n (fun i => Wt Pm B V i t) s) ∧ EM h r.2.1) n
    (fun i z hi hI => by
      obtain ⟨z1, z2, z3, z4⟩ := z
      obtain ⟨rfl, rfl, he⟩ := hI
      have he : EM h z3 := he
      have q' : QM n Pm B V z3 := q.em he
      have e4 : z3 0 1 = nI n := q'.2.2.1
      left
      simp only [b_Mo_weightOfAll_5, e4]
      rw [if_neg (nI_ge hi (by omega)), show nI i + 1 = nI (i + 1) from nI_1 i]
      have hb := has_t (p := s) (i := i) hs (by omega)
      cases hbt : s.testBit i with
      | false =>
        rw [if_pos (hb.mpr hbt)]
        refine ⟨_, rfl, ?_, rfl, he⟩
        show nI _ + nI 0 = _
        rw [nI_add, fb_sm_succ]; simp [hbt]
      | true =>
        rw [if_neg (fun z => by rw [hb.mp z] at hbt; cases hbt)]
        obtain ⟨h', rd', h1, h2⟩ := wa_m q' z4 hi ht
        rw [h1]
        refine ⟨_, rfl, ?_, rfl, he.tr h2⟩
        show nI _ + nI _ = _
        rw [nI_add, fb_sm_succ]
        simp [hbt])
    (fun z hI => by
      obtain ⟨z1, z2, z3, z4⟩ := z
      obtain ⟨rfl, rfl, he⟩ := hI
      have he : EM h z3 := he
      have q' : QM n Pm B V z3 := q.em he
      have e4 : z3 0 1 = nI n := q'.2.2.1
      simp only [b_Mo_weightOfAll_5, e4]
      rw [if_pos (nI_le (Nat.le_refl n) (by omega))]
      exact ⟨_, rfl, rfl, he⟩) rh_N 0 (0, 0, h, rd) (Nat.zero_le _) (by unfold rh_N; omega) ⟨rfl, rfl, EM.rf⟩
  unfold f_Mo_weightOfAll
  rw [hr]
  exact ⟨r.2.1, r.2.2, by rw [Option.bind_some, hq.1], hq.2⟩
end WG
