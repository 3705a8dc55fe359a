/-! loops with an invariant; guards; reads behind writes -/
theorem lp_inv {σ ρ : Type} (b : σ → Option (σ ⊕ ρ)) (I : Nat → σ → Prop) (Q : ρ → Prop) (e : Nat)
    (hs : ∀ i s, i < e → I i s → (∃ s', b s = some (.inl s') ∧ I (i + 1) s') ∨ (∃ r, b s = some (.inr r) ∧ Q r))
    (hx : ∀ s, I e s → ∃ r, b s = some (.inr r) ∧ Q r) : ∀ (n i : Nat) (s : σ), i ≤ e → e - i < n → I i s → ∃ r, rh_loop b n s = some r ∧ Q r := by
  intro n
  induction n with
  | zero => intro i s _ h; omega
  | succ n ih =>
    intro i s hi hn hI
    by_cases he : i = e
    · subst he
      obtain ⟨r, hr, hq⟩ := hx s hI
      exact ⟨r, by unfold rh_loop; rw [hr], hq⟩
    · rcases hs i s (by omega) hI with ⟨s', h1, h2⟩ | ⟨r, h1, h2⟩
      · obtain ⟨r, hr, hq⟩ := ih (i + 1) s' (by omega) (by omega) h2
        exact ⟨r, by unfold rh_loop; rw [h1]; exact hr, hq⟩
      · exact ⟨r, by unfold rh_loop; rw [h1], h2⟩
theorem lp_go {σ ρ : Type} {b : σ → Option (σ ⊕ ρ)} {s s' : σ} (h : b s = some (.inl s')) (n : Nat) : rh_loop b (n + 1) s = rh_loop b n s' := by
  show (match b s with | none => none | some (.inl s') => rh_loop b n s' | some (.inr r) => some r) = _
  rw [h]
theorem lp_end {σ ρ : Type} {b : σ → Option (σ ⊕ ρ)} {s : σ} {r : ρ} (h : b s = some (.inr r)) (n : Nat) : rh_loop b (n + 1) s = some r := by
  show (match b s with | none => none | some (.inl s') => rh_loop b n s' | some (.inr r) => some r) = _
  rw [h]
theorem rh_N_eq (k : Nat) (h : k ≤ 1000000) : ∃ n, rh_N = n + k := ⟨1000000 - k, by unfold rh_N; omega⟩
theorem gd_nI {i N : Nat} (h : i < N) (hN : N < 2 ^ 31) : 0 ≤ (nI i).toInt ∧ (nI i).toInt < (N : Int) := by
  rw [nI_toInt (by omega)]
  omega
theorem rg_t {α : Type} {g : Prop} [Decidable g] {x : Option α} (h : g) : rh_g g x = x := if_pos h
theorem up_f {α : Type} (f : Nat → Nat → α) (o k : Nat) (v : α) (o' k' : Nat) : rh_up f o k v o' k' = if o' = o ∧ k' = k then v else f o' k' := rfl
theorem ofI {x : Int32} {n : Nat} (h : x.toInt = n) : x = nI n := by
  have h2 : n < 2 ^ 31 := by have := (fb_rng x).2; omega
  rw [fa_eq, nI_toInt h2, h]
/-- an int between two numbers -/
theorem nI_rng {x : Int32} {lo hi : Nat} (h1 : ¬ x < nI lo) (h2 : ¬ nI hi < x) (hh : hi < 2 ^ 31) (hl : lo ≤ hi) : ∃ j, lo ≤ j ∧ j ≤ hi ∧ x = nI j := by
  rw [fa_lt, nI_toInt (by omega)] at h1
  rw [fa_lt, nI_toInt hh] at h2
  refine ⟨x.toInt.toNat, by omega, by omega, ?_⟩
  apply ofI
  omega
theorem wi_1 {x lo hi : Int32} (h : ¬ f_La_within x lo hi = 0) : ¬ x < lo ∧ ¬ hi < x := by
  unfold f_La_within at h
  split at h
  · exact absurd rfl h
  · split at h
    · exact absurd rfl h
    · exact ⟨by assumption, by assumption⟩
theorem wi_0 {x lo hi : Int32} (h : f_La_within x lo hi = 0) : x < lo ∨ hi < x := by
  unfold f_La_within at h
  split at h
  · left; assumption
  · split at h
    · right; assumption
    · exact absurd h (by decide)
theorem in_wi (x lo hi : Int32) : f_Mo_in x lo hi = f_La_within x lo hi := rfl
theorem wi_01 (x lo hi : Int32) : f_La_within x lo hi = 0 ∨ f_La_within x lo hi = 1 := by
  unfold f_La_within
  split
  · left; rfl
  · split
    · left; rfl
    · right; rfl
theorem mo_isHeavy (x : Int32) : f_Mo_isHeavy x = some (f_La_within x 0 9999) := by
  unfold f_Mo_isHeavy
  rw [in_wi, rg_t (wi_01 _ _ _)]
theorem mo_areFolk (h : Nat → Nat → Int32) (x : Int32) : f_Mo_areFolk h x = some (f_La_within x 0 (f_Mo_everybody h)) := by
  unfold f_Mo_areFolk
  rw [in_wi, rg_t (wi_01 _ _ _)]
