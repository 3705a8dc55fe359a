/-! steady: the fewest steps -/
def mnm (f : Nat → Nat) : Nat → Nat
  | 0 => 99
  | j + 1 => min (mnm f j) (f j)
theorem mnm_le {f : Nat → Nat} : ∀ {j i : Nat}, i < j → mnm f j ≤ f i
  | j + 1, i, h => by
    unfold mnm
    rcases (show i < j ∨ i = j by omega) with z | z
    · have := mnm_le (f := f) z; omega
    · subst z; omega
theorem mnm_99 {f : Nat → Nat} : ∀ j, mnm f j ≤ 99
  | 0 => Nat.le_refl _
  | j + 1 => by have := mnm_99 (f := f) j; unfold mnm; omega
theorem mnm_at {f : Nat → Nat} : ∀ {j : Nat}, mnm f j < 99 → ∃ i, i < j ∧ f i = mnm f j ∧ ∀ i', i' < i → f i' ≠ mnm f j
  | 0, h => absurd h (by unfold mnm; omega)
  | j + 1, h => by
    unfold mnm at h ⊢
    by_cases z : mnm f j ≤ f j
    · have e : min (mnm f j) (f j) = mnm f j := by omega
      rw [e] at h ⊢
      obtain ⟨i, h1, h2, h3⟩ := mnm_at h
      exact ⟨i, by omega, h2, h3⟩
    · have e : min (mnm f j) (f j) = f j := by omega
      rw [e]
      exact ⟨j, by omega, rfl, fun i' hi' => by have := mnm_le (f := f) hi'; omega⟩
def cst (mv : Nat) : Nat := if mv = 18 then 0 else 1
/-- by a move, when the rest is known -/
def SBf (a n bt : Nat) (w : Nat → Nat) (R : CFG → Nat) (X : CFG) (mv : Nat) : Nat := match MT a n bt w X mv with
  | none => 99
  | some Y => min 99 (R Y + cst mv)
def DD (a n bt : Nat) (w : Nat → Nat → Nat) : Nat → Nat → CFG → Nat
  | 0, _, _ => 0
  | d + 1, k, X => if BR bt (LEz a n (w (k + 1)) X) = true then mnm (SBf a n bt (w (k + 1)) (DD a n bt w d (k + 1)) X) 19 else 99
section DDS
variable {a n bt : Nat} {w : Nat → Nat → Nat} {X0 X Y : CFG}
theorem DD_bd : ∀ (d k : Nat) (X : CFG), DD a n bt w d k X ≤ d ∨ DD a n bt w d k X = 99
  | 0, _, _ => Or.inl (Nat.le_refl _)
  | d + 1, k, X => by
    unfold DD
    by_cases h : BR bt (LEz a n (w (k + 1)) X) = true
    · rw [if_pos h]
      rcases Nat.lt_or_ge (mnm (SBf a n bt (w (k + 1)) (DD a n bt w d (k + 1)) X) 19) 99 with z | z
      · obtain ⟨i, h1, h2, h3⟩ := mnm_at z
        rw [← h2] at z ⊢
        unfold SBf at z ⊢
        cases hm : MT a n bt (w (k + 1)) X i with
        | none => rw [hm] at z; exact absurd z (Nat.lt_irrefl _)
        | some Y =>
          rw [hm] at z
          dsimp only at z ⊢
          have hb := DD_bd d (k + 1) Y
          have : cst i ≤ 1 := by unfold cst; split <;> omega
          left; omega
      · right
        have := mnm_99 (f := SBf a n bt (w (k + 1)) (DD a n bt w d (k + 1)) X) 19
        omega
    · rw [if_neg h]; exact Or.inr rfl
theorem DD_path {N : Nat} (hN : N ≤ 20) : ∀ {k : Nat} {X : CFG}, k ≤ N → LYS a n bt w X0 k X → DD a n bt w (N - k) k X < 99 → DD a n bt w N 0 X0 < 99
  | 0, X, _, h1, h2 => by have h1 : X = X0 := h1; rw [h1] at h2; exact h2
  | k + 1, Y, hk, ⟨X, mv, h1, h2, h3, h4⟩, h5 => by
    refine DD_path hN (k := k) (X := X) (by omega) h1 ?_
    rw [show N - k = (N - (k + 1)) + 1 by omega]
    unfold DD
    rw [if_pos h2]
    have hle := mnm_le (f := SBf a n bt (w (k + 1)) (DD a n bt w (N - (k + 1)) (k + 1)) X) (show mv < 19 by omega)
    unfold SBf at hle
    rw [h4] at hle
    dsimp only at hle
    have := DD_bd (a := a) (n := n) (bt := bt) (w := w) (N - (k + 1)) (k + 1) Y
    have : cst mv ≤ 1 := by unfold cst; split <;> omega
    unfold SBf
    omega
/-- the move that is told -/
def FMV (a n bt : Nat) (w : Nat → Nat → Nat) (d k : Nat) (X : CFG) (mv : Nat) : Prop := mv ≤ 18 ∧ SBf a n bt (w (k + 1)) (DD a n bt w d (k + 1)) X mv = DD a n bt w (d + 1) k X ∧ ∀ v, v < mv → SBf a n bt (w (k + 1)) (DD a n bt w d (k + 1)) X v ≠ DD a n bt w (d + 1) k X
theorem FMV.one {d k mv mv' : Nat} (h : FMV a n bt w d k X mv) (h' : FMV a n bt w d k X mv') : mv = mv' := by
  rcases Nat.lt_trichotomy mv mv' with z | z | z
  · exact absurd h.2.1 (h'.2.2 mv z)
  · exact z
  · exact absurd h'.2.1 (h.2.2 mv' z)
theorem FMV.ex {d k : Nat} (h : DD a n bt w (d + 1) k X < 99) : BR bt (LEz a n (w (k + 1)) X) = true ∧ ∃ mv, FMV a n bt w d k X mv := by
  have hh := h
  unfold DD at h
  by_cases hb : BR bt (LEz a n (w (k + 1)) X) = true
  · refine ⟨hb, ?_⟩
    rw [if_pos hb] at h
    obtain ⟨i, h1, h2, h3⟩ := mnm_at h
    have e : DD a n bt w (d + 1) k X = mnm (SBf a n bt (w (k + 1)) (DD a n bt w d (k + 1)) X) 19 := by
      show (if BR bt (LEz a n (w (k + 1)) X) = true then _ else 99) = _
      rw [if_pos hb]
    refine ⟨i, by omega, by rw [e]; exact h2, fun v hv => by rw [e]; exact h3 v hv⟩
  · rw [if_neg hb] at h; omega
theorem FMV.next {d k mv : Nat} (hm : FMV a n bt w d k X mv) (h : DD a n bt w (d + 1) k X < 99) : ∃ Y, MT a n bt (w (k + 1)) X mv = some Y ∧ DD a n bt w d (k + 1) Y + cst mv = DD a n bt w (d + 1) k X := by
  have h2 := hm.2.1
  unfold SBf at h2
  cases hmt : MT a n bt (w (k + 1)) X mv with
  | none => rw [hmt] at h2; dsimp only at h2; omega
  | some Y =>
    rw [hmt] at h2
    dsimp only at h2
    exact ⟨Y, rfl, by omega⟩
theorem DD_eq {d k : Nat} (hb : BR bt (LEz a n (w (k + 1)) X) = true) : DD a n bt w (d + 1) k X = mnm (SBf a n bt (w (k + 1)) (DD a n bt w d (k + 1)) X) 19 := by
  show (if BR bt (LEz a n (w (k + 1)) X) = true then _ else 99) = _
  rw [if_pos hb]
end DDS
/-! the class's numbers of the fewest steps and the next move -/
def BVn (s mv : Nat) : Nat := if s = 99 then 1000000000 else 32 * s + mv
def ENC (a n bt : Nat) (w : Nat → Nat → Nat) (d k : Nat) (X : CFG) (e : Nat) : Prop := (DD a n bt w d k X = 99 ∧ e = 1000000000) ∨ (DD a n bt w d k X < 99 ∧ ∃ mv, mv ≤ 18 ∧ e = 32 * DD a n bt w d k X + mv ∧ ∀ d', d = d' + 1 → FMV a n bt w d' k X mv)
theorem ENC.lt {a n bt d k e : Nat} {w : Nat → Nat → Nat} {X : CFG} (hd : d ≤ 20) (h : ENC a n bt w d k X e) : e ≤ 1000000000 ∧ (DD a n bt w d k X < 99 → e / 32 = DD a n bt w d k X ∧ e < 1000) := by
  rcases h with ⟨h1, h2⟩ | ⟨h1, mv, h2, h3, _⟩
  · exact ⟨by omega, fun z => by omega⟩
  · have := DD_bd (a := a) (n := n) (bt := bt) (w := w) d k X
    exact ⟨by omega, fun _ => ⟨by omega, by omega⟩⟩
theorem ENC.of {a n bt d k e : Nat} {w : Nat → Nat → Nat} {X : CFG} (hd : d < 20) (hb : BR bt (LEz a n (w (k + 1)) X) = true) (h1 : ∀ mv, mv ≤ 18 → e ≤ BVn (SBf a n bt (w (k + 1)) (DD a n bt w d (k + 1)) X mv) mv) (h2 : e = 1000000000 ∨ ∃ mv, mv ≤ 18 ∧ e = BVn (SBf a n bt (w (k + 1)) (DD a n bt w d (k + 1)) X mv) mv) : ENC a n bt w (d + 1) k X e := by
  have hDe := DD_eq (d := d) hb
  have hbd := DD_bd (a := a) (n := n) (bt := bt) (w := w) (d + 1) k X
  rcases Nat.lt_or_ge (DD a n bt w (d + 1) k X) 99 with z | z
  · obtain ⟨_, mv0, f1, f2, f3⟩ := FMV.ex z
    refine Or.inr ⟨z, mv0, f1, ?_, fun d' e' => by
      have : d' = d := by omega
      subst this; exact ⟨f1, f2, f3⟩⟩
    have g1 := h1 mv0 f1
    rw [f2] at g1
    unfold BVn at g1
    rw [if_neg (by omega)] at g1
    rcases h2 with h2 | ⟨mv1, m1, m2⟩
    · omega
    · have hle : DD a n bt w (d + 1) k X ≤ SBf a n bt (w (k + 1)) (DD a n bt w d (k + 1)) X mv1 := by
        rw [hDe]; exact mnm_le (by omega)
      have m2' := m2
      unfold BVn at m2'
      by_cases y : SBf a n bt (w (k + 1)) (DD a n bt w d (k + 1)) X mv1 = 99
      · rw [if_pos y] at m2'; omega
      · rw [if_neg y] at m2'
        have e1 : SBf a n bt (w (k + 1)) (DD a n bt w d (k + 1)) X mv1 = DD a n bt w (d + 1) k X := by omega
        rcases Nat.lt_trichotomy mv1 mv0 with q | q | q
        · exact absurd e1 (f3 mv1 q)
        · subst q; omega
        · omega
  · have h99 : DD a n bt w (d + 1) k X = 99 := by omega
    refine Or.inl ⟨h99, ?_⟩
    rcases h2 with h2 | ⟨mv1, m1, m2⟩
    · exact h2
    · have hle := mnm_le (f := SBf a n bt (w (k + 1)) (DD a n bt w d (k + 1)) X) (show mv1 < 19 by omega)
      rw [← hDe, h99] at hle
      have h9 : SBf a n bt (w (k + 1)) (DD a n bt w d (k + 1)) X mv1 ≤ 99 := by
        unfold SBf
        cases MT a n bt (w (k + 1)) X mv1 with
        | none => exact Nat.le_refl _
        | some Y => dsimp only; omega
      rw [m2]
      unfold BVn
      rw [if_pos (by omega)]
