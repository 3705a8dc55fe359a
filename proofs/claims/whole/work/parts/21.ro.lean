/-! two plain runs side by side -/
def RO {α β : Type} (x : Option α) (y : Option β) (Q : α → β → Prop) : Prop := ∃ a b, x = some a ∧ y = some b ∧ Q a b
def OK {α : Type} (x : Option α) (Q : α → Prop) : Prop := ∃ a, x = some a ∧ Q a
section ROS
variable {α β γ δ : Type}
theorem OK.ret {a : α} {Q : α → Prop} (h : Q a) : OK (some a) Q := ⟨a, rfl, h⟩
theorem OK.bind {x : Option α} {f : α → Option γ} {P : α → Prop} {Q : γ → Prop} (h : OK x P) (k : ∀ a, P a → OK (f a) Q) : OK (x.bind f) Q := by
  obtain ⟨a, rfl, hp⟩ := h
  exact k a hp
theorem OK.g {g : Prop} [Decidable g] {x : Option α} {Q : α → Prop} (hg : g) (h : OK x Q) : OK (rh_g g x) Q := by rw [rg_t hg]; exact h
theorem OK.ite {c : Prop} [Decidable c] {x y : Option α} {Q : α → Prop} (h1 : c → OK x Q) (h2 : ¬ c → OK y Q) : OK (if c then x else y) Q := by
  by_cases hc : c
  · rw [if_pos hc]; exact h1 hc
  · rw [if_neg hc]; exact h2 hc
theorem OK.mono {x : Option α} {P Q : α → Prop} (h : OK x P) (k : ∀ a, P a → Q a) : OK x Q := by
  obtain ⟨a, e, hp⟩ := h
  exact ⟨a, e, k a hp⟩
theorem OK.loop {σ ρ : Type} (b : σ → Option (σ ⊕ ρ)) (I : Nat → σ → Prop) (Q : ρ → Prop) (e : Nat) (he : e < 1000000)
    (hs : ∀ i s, i ≤ e → I i s → OK (b s) (fun x => Sum.elim (fun s' => i < e ∧ I (i + 1) s') Q x)) {s : σ} (h0 : I 0 s) : OK (rh_loop b rh_N s) Q := by
  have key : ∀ (n i : Nat) (s : σ), i ≤ e → e - i < n → I i s → OK (rh_loop b n s) Q := by
    intro n
    induction n with
    | zero => intro i s _ h; omega
    | succ n ih =>
      intro i s hi hn hI
      obtain ⟨x, hx, hq⟩ := hs i s hi hI
      cases x with
      | inl s' => rw [lp_go hx]; exact ih (i + 1) s' (by have := hq.1; omega) (by have := hq.1; omega) hq.2
      | inr r => rw [lp_end hx]; exact ⟨r, rfl, hq⟩
  exact key rh_N 0 s (Nat.zero_le _) (by unfold rh_N; omega) h0
theorem RO.ret {a : α} {b : β} {Q : α → β → Prop} (h : Q a b) : RO (some a) (some b) Q := ⟨a, b, rfl, rfl, h⟩
theorem RO.bind {x : Option α} {y : Option β} {f : α → Option γ} {g : β → Option δ} {P : α → β → Prop} {Q : γ → δ → Prop} (h : RO x y P) (k : ∀ a b, P a b → RO (f a) (g b) Q) : RO (x.bind f) (y.bind g) Q := by
  obtain ⟨a, b, rfl, rfl, hp⟩ := h
  exact k a b hp
theorem RO.bl {x : Option α} {y : Option β} {f : α → Option γ} {P : α → Prop} {Q : γ → β → Prop} (h : OK x P) (k : ∀ a, P a → RO (f a) y Q) : RO (x.bind f) y Q := by
  obtain ⟨a, rfl, hp⟩ := h
  exact k a hp
theorem RO.br {x : Option α} {y : Option β} {f : β → Option γ} {P : β → Prop} {Q : α → γ → Prop} (h : OK y P) (k : ∀ a, P a → RO x (f a) Q) : RO x (y.bind f) Q := by
  obtain ⟨a, rfl, hp⟩ := h
  exact k a hp
theorem RO.gl {g : Prop} [Decidable g] {x : Option α} {y : Option β} {Q : α → β → Prop} (hg : g) (h : RO x y Q) : RO (rh_g g x) y Q := by rw [rg_t hg]; exact h
theorem RO.gr {g : Prop} [Decidable g] {x : Option α} {y : Option β} {Q : α → β → Prop} (hg : g) (h : RO x y Q) : RO x (rh_g g y) Q := by rw [rg_t hg]; exact h
theorem RO.il {c : Prop} [Decidable c] {x x' : Option α} {y : Option β} {Q : α → β → Prop} (h1 : c → RO x y Q) (h2 : ¬ c → RO x' y Q) : RO (if c then x else x') y Q := by
  by_cases hc : c
  · rw [if_pos hc]; exact h1 hc
  · rw [if_neg hc]; exact h2 hc
theorem RO.ir {c : Prop} [Decidable c] {x : Option α} {y y' : Option β} {Q : α → β → Prop} (h1 : c → RO x y Q) (h2 : ¬ c → RO x y' Q) : RO x (if c then y else y') Q := by
  by_cases hc : c
  · rw [if_pos hc]; exact h1 hc
  · rw [if_neg hc]; exact h2 hc
theorem RO.ii {c d : Prop} [Decidable c] [Decidable d] {x x' : Option α} {y y' : Option β} {Q : α → β → Prop} (e : c ↔ d) (h1 : c → RO x y Q) (h2 : ¬ c → RO x' y' Q) : RO (if c then x else x') (if d then y else y') Q := by
  by_cases hc : c
  · rw [if_pos hc, if_pos (e.mp hc)]; exact h1 hc
  · rw [if_neg hc, if_neg (fun z => hc (e.mpr z))]; exact h2 hc
/-- the two tests are each other's contrary -/
theorem RO.ix {c d : Prop} [Decidable c] [Decidable d] {x x' : Option α} {y y' : Option β} {Q : α → β → Prop} (e : c ↔ ¬ d) (h1 : c → RO x y' Q) (h2 : ¬ c → RO x' y Q) : RO (if c then x else x') (if d then y else y') Q := by
  by_cases hc : c
  · rw [if_pos hc, if_neg (e.mp hc)]; exact h1 hc
  · rw [if_neg hc, if_pos (Decidable.not_not.mp (fun z => hc (e.mpr z)))]; exact h2 hc
theorem RO.mono {x : Option α} {y : Option β} {P Q : α → β → Prop} (h : RO x y P) (k : ∀ a b, P a b → Q a b) : RO x y Q := by
  obtain ⟨a, b, e1, e2, hp⟩ := h
  exact ⟨a, b, e1, e2, k a b hp⟩
theorem RO.two {x : Option α} {y : Option β} {P : α → Prop} {Q : β → Prop} (h : OK x P) (g : OK y Q) : RO x y (fun a b => P a ∧ Q b) := by
  obtain ⟨a, e1, h1⟩ := h
  obtain ⟨b, e2, h2⟩ := g
  exact ⟨a, b, e1, e2, h1, h2⟩
def LQ {σ τ ρ ω : Type} (J : σ → τ → Prop) (Q : ρ → ω → Prop) : σ ⊕ ρ → τ ⊕ ω → Prop
  | .inl s, .inl t => J s t
  | .inr r, .inr w => Q r w
  | _, _ => False
theorem RO.loop {σ τ ρ ω : Type} (b : σ → Option (σ ⊕ ρ)) (c : τ → Option (τ ⊕ ω)) (I : Nat → σ → τ → Prop) (Q : ρ → ω → Prop) (e : Nat) (he : e < 1000000)
    (hs : ∀ i s t, i ≤ e → I i s t → RO (b s) (c t) (LQ (fun s' t' => i < e ∧ I (i + 1) s' t') Q)) {s : σ} {t : τ} (h0 : I 0 s t) : RO (rh_loop b rh_N s) (rh_loop c rh_N t) Q := by
  have key : ∀ (n i : Nat) (s : σ) (t : τ), i ≤ e → e - i < n → I i s t → RO (rh_loop b n s) (rh_loop c n t) Q := by
    intro n
    induction n with
    | zero => intro i s t _ h; omega
    | succ n ih =>
      intro i s t hi hn hI
      obtain ⟨x, y, hx, hy, hq⟩ := hs i s t hi hI
      cases x with
      | inl s' =>
        cases y with
        | inl t' => rw [lp_go hx, lp_go hy]; exact ih (i + 1) s' t' (by have := hq.1; omega) (by have := hq.1; omega) hq.2
        | inr w => exact hq.elim
      | inr r =>
        cases y with
        | inl t' => exact hq.elim
        | inr w => rw [lp_end hx, lp_end hy]; exact ⟨r, w, rfl, rfl, hq⟩
  exact key rh_N 0 s t (Nat.zero_le _) (by unfold rh_N; omega) h0
end ROS
/-! a question: what stands while one is answered -/
def XC (h h' : HI) : Prop := ∀ o k, (pC o k = true ∨ o = 2 ∨ o = 3) → h' o k = h o k
def XM (h h' : HI) : Prop := ∀ o k, (pM o k = true ∨ o = 5 ∨ (o = 0 ∧ (k = 8 ∨ k = 9))) → h' o k = h o k
theorem XC.rf {h : HI} : XC h h := fun _ _ _ => rfl
theorem XM.rf {h : HI} : XM h h := fun _ _ _ => rfl
theorem XC.tr {a b c : HI} (h : XC a b) (g : XC b c) : XC a c := fun o k q => (g o k q).trans (h o k q)
theorem XM.tr {a b c : HI} (h : XM a b) (g : XM b c) : XM a c := fun o k q => (g o k q).trans (h o k q)
theorem E8.x {h h' : HI} (e : E8 h h') : XC h h' := fun o k q => e o k (fun z => by subst z; rcases q with q | q | q; exact absurd (show false = true from q) (by decide); omega; omega)
theorem sM_no {o k : Nat} (q : pM o k = true ∨ o = 5 ∨ (o = 0 ∧ (k = 8 ∨ k = 9))) : sM o k = false := by
  cases hs : sM o k with
  | false => rfl
  | true =>
    exfalso
    simp only [sM, Bool.and_eq_true, Bool.or_eq_true, beq_iff_eq] at hs
    simp only [pM, Bool.and_eq_true, Bool.or_eq_true, beq_iff_eq] at q
    omega
theorem EM.x {h h' : HI} (e : EM h h') : XM h h' := fun o k q => e o k (sM_no q)
theorem XC.sc {h h' : HI} (e : XC h h') : SC h h' := fun o k q => e o k (Or.inl q)
theorem XM.sm {h h' : HI} (e : XM h h') : SM h h' := fun o k q => e o k (Or.inl q)
theorem XC.up {h g : HI} (e : XC h g) (o k : Nat) (v : Int32) (hp : pC o k = false ∧ o ≠ 2 ∧ o ≠ 3) : XC h (rh_up g o k v) := fun o' k' q => by
  rw [up_f, if_neg (fun z => by rw [z.1, z.2, hp.1] at q; have := hp.2; rcases q with q | q; cases q; omega)]
  exact e o' k' q
theorem XM.up {h g : HI} (e : XM h g) (o k : Nat) (v : Int32) (hp : pM o k = false ∧ o ≠ 5 ∧ (o = 0 → k ≠ 8 ∧ k ≠ 9)) : XM h (rh_up g o k v) := fun o' k' q => by
  rw [up_f, if_neg (fun z => by rw [z.1, z.2, hp.1] at q; have := hp.2; rcases q with q | q; cases q; omega)]
  exact e o' k' q
def RLa (k n Pm : Nat) (B : Nat → Nat) (V : Nat → Nat → Nat → Nat) (T a q : Nat) (c m : HI) : Prop := RQ k n Pm B V (rC c) (rM m) ∧ k ≤ 600 ∧ T ≤ 2400 * k ∧ (c 13 1 = nI T ∧ m 1 10 = nI T) ∧ a < 2 ^ n ∧ (c 13 2 = nI a ∧ m 1 9 = nI a) ∧ m 0 9 = 0 ∧ q ≤ 11 ∧ c 2 1 = nI q ∧ m 0 8 = nI q ∧ ∀ i, i < q → c 3 i = m 5 i
section RLAS
variable {k n Pm : Nat} {B : Nat → Nat} {V : Nat → Nat → Nat → Nat} {T a q : Nat} {c m c' m' : HI}
theorem RLt.la (h : RLt k n Pm B V c m) (hk : k ≤ 600) : ∃ T a q, RLa k n Pm B V T a q c (rh_up m 0 9 0) := by
  have h1 : RLt k n Pm B V c (rh_up m 0 9 0) := ⟨by rw [rM_eq (sm_thr m 0)]; exact h.1, h.2.kept rfl (fun _ => rfl) rfl (fun _ => rfl)⟩
  obtain ⟨h1, q, r1, r2, r3, r4⟩ := h1
  obtain ⟨⟨T, d1, d2, d3⟩, ⟨a, d4, d5, d6⟩, d7⟩ := h1.2.2.2.2.2.1
  exact ⟨T, a, q, h1, hk, d1, ⟨d2, d3⟩, d4, ⟨d5, d6⟩, rfl, r1, r2, r3, r4⟩
theorem RLa.fin (A : RLa k n Pm B V T a q c m) : RLt (k + 1) n Pm B V c m := ⟨A.1.mono (Nat.le_succ k), q, A.2.2.2.2.2.2.2.1, A.2.2.2.2.2.2.2.2.1, A.2.2.2.2.2.2.2.2.2.1, A.2.2.2.2.2.2.2.2.2.2⟩
theorem RLa.k6 (A : RLa k n Pm B V T a q c m) : k ≤ 600 := A.2.1
theorem RLa.Tk (A : RLa k n Pm B V T a q c m) : T ≤ 2400 * k := A.2.2.1
theorem RLa.T30 (A : RLa k n Pm B V T a q c m) : T ≤ 1440000 := by have := A.2.1; have := A.2.2.1; omega
theorem RLa.ct (A : RLa k n Pm B V T a q c m) : c 13 1 = nI T := A.2.2.2.1.1
theorem RLa.mt (A : RLa k n Pm B V T a q c m) : m 1 10 = nI T := A.2.2.2.1.2
theorem RLa.an (A : RLa k n Pm B V T a q c m) : a < 2 ^ n := A.2.2.2.2.1
theorem RLa.ca (A : RLa k n Pm B V T a q c m) : c 13 2 = nI a := A.2.2.2.2.2.1.1
theorem RLa.ma (A : RLa k n Pm B V T a q c m) : m 1 9 = nI a := A.2.2.2.2.2.1.2
theorem RLa.th (A : RLa k n Pm B V T a q c m) : m 0 9 = 0 := A.2.2.2.2.2.2.1
theorem RLa.rowN (A : RLa k n Pm B V T a q c m) : q ≤ 11 := A.2.2.2.2.2.2.2.1
theorem RLa.cq (A : RLa k n Pm B V T a q c m) : c 2 1 = nI q := A.2.2.2.2.2.2.2.2.1
theorem RLa.mq (A : RLa k n Pm B V T a q c m) : m 0 8 = nI q := A.2.2.2.2.2.2.2.2.2.1
theorem RLa.rw1 (A : RLa k n Pm B V T a q c m) : ∀ i, i < q → c 3 i = m 5 i := A.2.2.2.2.2.2.2.2.2.2
theorem RLa.n9 (A : RLa k n Pm B V T a q c m) : n ≤ 9 := A.1.2.1.1
theorem RLa.cn (A : RLa k n Pm B V T a q c m) : c 4 0 = nI n := A.1.2.1.2.1
theorem RLa.mn (A : RLa k n Pm B V T a q c m) : m 0 1 = nI n := A.1.2.1.2.2.1
theorem RLa.cp (A : RLa k n Pm B V T a q c m) : c 4 1 = nI Pm := A.1.2.1.2.2.2.1
theorem RLa.mp (A : RLa k n Pm B V T a q c m) : m 0 2 = nI Pm := A.1.2.1.2.2.2.2.1
theorem RLa.pn (A : RLa k n Pm B V T a q c m) : Pm < 2 ^ n := A.1.2.1.2.2.2.2.2.1
theorem RLa.bs (A : RLa k n Pm B V T a q c m) : ∀ i, i < n → c 5 i = nI (B i) ∧ m 2 i = nI (B i) ∧ 1 ≤ B i ∧ B i ≤ 999 := A.1.2.1.2.2.2.2.2.2
theorem RLa.qc (A : RLa k n Pm B V T a q c m) : QC n Pm B V c := ⟨A.n9, A.pn, A.cn, A.cp, fun i hi => ⟨(A.bs i hi).1, (A.bs i hi).2.2⟩, A.1.2.2.2.2.2.2.2.2.1, A.1.2.2.2.2.2.2.2.2.2.2⟩
theorem RLa.qm (A : RLa k n Pm B V T a q c m) : QM n Pm B V m := ⟨A.n9, A.pn, A.mn, A.mp, fun i hi => ⟨(A.bs i hi).2.1, (A.bs i hi).2.2⟩, A.1.2.2.2.2.2.2.2.2.2.1, A.1.2.2.2.2.2.2.2.2.2.2⟩
theorem RLa.bear (A : RLa k n Pm B V T a q c m) (i : Nat) (hi : i < 3) : ∃ v, v ≤ 9999 ∧ c 40 i = nI v ∧ m 3 i = nI v := by
  obtain ⟨h1, v, h2, h3⟩ := A.1.2.2.1 i hi
  exact ⟨v, h2, h3, h1.symm.trans h3⟩
theorem RLa.pl (A : RLa k n Pm B V T a q c m) (i : Nat) (hi : i < 9) : c 14 i = m 1 i ∧ -4 ≤ (c 14 i).toInt ∧ (c 14 i).toInt ≤ 4 ∧ (n ≤ i → c 14 i = 0) := A.1.2.2.2.2.2.1.2.2 i hi
theorem RLa.fr (A : RLa k n Pm B V T a q c m) (x : XC c c') (y : XM m m') : RLa k n Pm B V T a q c' m' := by
  obtain ⟨a1, a2, a3, ⟨a4, a5⟩, a6, ⟨a7, a8⟩, a9, a10, a11, a12, a13⟩ := A
  refine ⟨by rw [rC_eq x.sc, rM_eq y.sm]; exact a1, a2, a3, ⟨(x 13 1 (Or.inl rfl)).trans a4, (y 1 10 (Or.inl rfl)).trans a5⟩, a6, ⟨(x 13 2 (Or.inl rfl)).trans a7, (y 1 9 (Or.inl rfl)).trans a8⟩, (y 0 9 (by simp)).trans a9, a10, (x 2 1 (by simp)).trans a11, (y 0 8 (by simp)).trans a12, fun i hi => ?_⟩
  rw [x 3 i (by simp), y 5 i (by simp)]
  exact a13 i hi
theorem RLa.l (A : RLa k n Pm B V T a q c m) (x : XC c c') : RLa k n Pm B V T a q c' m := A.fr x XM.rf
theorem RLa.r (A : RLa k n Pm B V T a q c m) (y : XM m m') : RLa k n Pm B V T a q c m' := A.fr XC.rf y
theorem RLa.wt (A : RLa k n Pm B V T a q c m) (rd : Option Nat) {i t : Nat} (hi : i < n) (ht : t < 2 ^ 30) : RO (f_Cr_weightAt c (nI i) (nI t)) (f_Mo_weightOf m rd (nI i) (nI t)) (fun x y => x.1 = nI (Wt Pm B V i t) ∧ y.1 = nI (Wt Pm B V i t) ∧ RLa k n Pm B V T a q x.2 y.2.1) := by
  obtain ⟨h1, e1, g1⟩ := wa_c A.qc hi ht
  obtain ⟨h2, rd2, e2, g2⟩ := wa_m A.qm rd hi ht
  exact ⟨_, _, e1, e2, rfl, rfl, A.fr g1.x g2.x⟩
theorem RLa.tog (A : RLa k n Pm B V T a q c m) (rd : Option Nat) {s t : Nat} (hs : s < 2 ^ 31) (ht : t < 2 ^ 30) : RO (f_Cr_together c (nI s) (nI t)) (f_Mo_weightOfAll m rd (nI s) (nI t)) (fun x y => x.1 = nI (WS n (fun i => Wt Pm B V i t) s) ∧ y.1 = nI (WS n (fun i => Wt Pm B V i t) s) ∧ RLa k n Pm B V T a q x.2 y.2.1) := by
  obtain ⟨h1, e1, g1⟩ := to_c A.qc hs ht
  obtain ⟨h2, rd2, e2, g2⟩ := to_m A.qm rd hs ht
  exact ⟨_, _, e1, e2, rfl, rfl, A.fr g1.x g2.x⟩
theorem RLa.wle (A : RLa k n Pm B V T a q c m) {i t : Nat} (hi : i < n) (ht : t < 2 ^ 30) : Wt Pm B V i t ≤ 9999 := Wt_le A.qc hi ht
theorem RLa.sle (A : RLa k n Pm B V T a q c m) (s : Nat) {t : Nat} (ht : t < 2 ^ 30) : WS n (fun i => Wt Pm B V i t) s ≤ 89991 := by
  have h := fb_sm_bound (f := fun j => if s.testBit j then Wt Pm B V j t else 0) (c := 9999) (n := n) (fun j hj => by
    show (if s.testBit j then Wt Pm B V j t else 0) ≤ 9999
    split
    · exact A.wle hj ht
    · omega)
  have := A.n9
  have h2 : n * 9999 ≤ 9 * 9999 := Nat.mul_le_mul_right _ this
  exact Nat.le_trans h h2
/-- the ROW is begun with one number -/
theorem RLa.tell (A : RLa k n Pm B V T a q c m) (v : Int32) : RO (f_Ro_tell c v) (f_Mo_tell (rh_up m 0 8 0) v) (fun x y => RLa k n Pm B V T a 1 x y) := by
  obtain ⟨a1, a2, a3, ⟨a4, a5⟩, a6, ⟨a7, a8⟩, a9, a10, a11, a12, a13⟩ := A
  refine ⟨rh_up (rh_up (rh_up c 2 1 0) 3 0 v) 2 1 1, rh_up (rh_up (rh_up m 0 8 0) 5 0 v) 0 8 1, rfl, rfl, ?_, a2, a3, ⟨a4, a5⟩, a6, ⟨a7, a8⟩, a9, by omega, rfl, rfl, fun i hi => ?_⟩
  · rw [show rC (rh_up (rh_up (rh_up c 2 1 0) 3 0 v) 2 1 1) = rC c from rC_eq (((SC.rf.up 2 1 0 rfl).up 3 0 v rfl).up 2 1 1 rfl), show rM (rh_up (rh_up (rh_up m 0 8 0) 5 0 v) 0 8 1) = rM m from rM_eq (((SM.rf.up 0 8 0 rfl).up 5 0 v rfl).up 0 8 1 rfl)]
    exact a1
  · rw [show i = 0 by omega]; rfl
theorem RLa.beg (A : RLa k n Pm B V T a q c m) : RLa k n Pm B V T a 0 (f_Ro_begin c) (rh_up m 0 8 0) := by
  obtain ⟨a1, a2, a3, ⟨a4, a5⟩, a6, ⟨a7, a8⟩, a9, a10, a11, a12, a13⟩ := A
  refine ⟨?_, a2, a3, ⟨a4, a5⟩, a6, ⟨a7, a8⟩, a9, by omega, rfl, rfl, fun i hi => by omega⟩
  rw [show rC (f_Ro_begin c) = rC c from rC_eq (SC.rf.up 2 1 0 rfl), show rM (rh_up m 0 8 0) = rM m from rM_eq (SM.rf.up 0 8 0 rfl)]
  exact a1
theorem RLa.add (A : RLa k n Pm B V T a q c m) (hq : q < 11) (v : Int32) : RO (f_Ro_add c v) (f_Mo_tell m v) (fun x y => RLa k n Pm B V T a (q + 1) x y) := by
  obtain ⟨a1, a2, a3, ⟨a4, a5⟩, a6, ⟨a7, a8⟩, a9, a10, a11, a12, a13⟩ := A
  unfold f_Ro_add f_Mo_tell
  rw [a11, a12, if_neg (show ¬ (11 : Int32) ≤ nI q from nI_ge (a := q) (b := 11) hq (by omega)), rg_t (gd_nI (i := q) (N := 11) hq (by omega)), rg_t (gd_nI (i := q) (N := 16) (by omega) (by omega)), nI_clamp (by omega), show nI q + 1 = nI (q + 1) from nI_1 q]
  refine ⟨_, _, rfl, rfl, ?_, a2, a3, ⟨a4, a5⟩, a6, ⟨a7, a8⟩, a9, by omega, rfl, rfl, fun i hi => ?_⟩
  · rw [show rC (rh_up (rh_up c 3 q v) 2 1 (nI (q + 1))) = rC c from rC_eq ((SC.rf.up 3 q v rfl).up 2 1 _ rfl), show rM (rh_up (rh_up m 5 q v) 0 8 (nI (q + 1))) = rM m from rM_eq ((SM.rf.up 5 q v rfl).up 0 8 _ rfl)]
    exact a1
  · show rh_up (rh_up c 3 q v) 2 1 (nI (q + 1)) 3 i = rh_up (rh_up m 5 q v) 0 8 (nI (q + 1)) 5 i
    by_cases e : i = q
    · subst e; simp [up_f]
    · simp [up_f, e]; exact a13 i (by omega)
end RLAS
