/-! loops of the plain functions, and what they say of runs -/
theorem rh_run_mono {R R' : Nat → List Value → rh_H → Option Value → rh_H → Prop} (hR : ∀ j a h v h', R j a h v h' → R' j a h v h') {L : rh_L} {P : rh_P} : ∀ (n : Nat) (s : rh_S) (v : Option Value) (h' : rh_H), rh_run R L P n s v h' → rh_run R' L P n s v h' := by
  intro n
  induction n with
  | zero => intro s v h' h; exact h
  | succ n ih =>
    intro s v h' h
    unfold rh_run at h ⊢
    obtain ⟨lv, hlf, h⟩ := h
    refine ⟨lv, hlf, ?_⟩
    split at h
    · exact h.elim
    · obtain ⟨s', h1, h2⟩ := h
      exact ⟨s', h1, ih _ _ _ h2⟩
    · obtain ⟨a, r, u, h1, g1, g2, g3, g4, g5, g6⟩ := h
      exact ⟨a, r, u, h1, g1, g2, g3, g4, hR _ _ _ _ _ g5, ih _ _ _ g6⟩
    · exact h
theorem rh_M_succ {PT : Nat → rh_MI} {L : rh_L} : ∀ (d j : Nat) (a : List Value) (h : rh_H) (v : Option Value) (h' : rh_H), rh_M PT L d j a h v h' → rh_M PT L (d + 1) j a h v h' := by
  intro d
  induction d with
  | zero => intro j a h v h' hM; exact hM.elim
  | succ d ih =>
    intro j a h v h' hM
    obtain ⟨hl, n, hn⟩ := hM
    exact ⟨hl, n, rh_run_mono ih n _ _ _ hn⟩
theorem rh_M_le {PT : Nat → rh_MI} {L : rh_L} {d e j : Nat} {a : List Value} {h : rh_H} {v : Option Value} {h' : rh_H} (hde : d ≤ e) (hM : rh_M PT L d j a h v h') : rh_M PT L e j a h v h' := by
  induction hde with
  | refl => exact hM
  | step _ ih => exact rh_M_succ _ _ _ _ _ _ ih
def rh_loop {σ ρ : Type} (b : σ → Option (σ ⊕ ρ)) : Nat → σ → Option ρ
  | 0, _ => none
  | n + 1, s => match b s with
    | none => none
    | some (.inl s') => rh_loop b n s'
    | some (.inr r) => some r
theorem rh_Ex.loop {σ ρ : Type} {R : Nat → List Value → rh_H → Option Value → rh_H → Prop} {L : rh_L} {P : rh_P} {v : Option Value} {h' : rh_H} (b : σ → Option (σ ⊕ ρ)) (St : σ → rh_S) (K : ρ → Prop) (hb : ∀ s x, b s = some x → Sum.elim (fun s' => rh_Ex R L P (St s') v h') K x → rh_Ex R L P (St s) v h') : ∀ (n : Nat) (s : σ) (r : ρ), rh_loop b n s = some r → K r → rh_Ex R L P (St s) v h' := by
  intro n
  induction n with
  | zero => intro s r h; cases h
  | succ n ih =>
    intro s r h hK
    unfold rh_loop at h
    split at h
    · cases h
    · next s' hs' => exact hb s _ hs' (ih s' r h hK)
    · next r' hr' =>
      cases h
      exact hb s _ hr' hK
theorem rh_bq {α β : Type} {x : Option α} {f : α → Option β} {z : β} (h : x.bind f = some z) : ∃ y, x = some y ∧ f y = some z := Option.bind_eq_some_iff.mp h
/-- one step whose answer stands under a condition -/
theorem rh_Ex.stp {R : Nat → List Value → rh_H → Option Value → rh_H → Prop} {L : rh_L} {P : rh_P} {s s' : rh_S} {v : Option Value} {h' : rh_H} {f : rh_X} (hp : rh_at P s.1.1 = some (.inl f)) (h : f L s = some s') (kk : rh_Ex R L P s' v h') : rh_Ex R L P s v h' := by
  refine rh_Ex.blk 1 ?_ kk
  unfold rh_stn
  rw [hp]
  dsimp only
  rw [h]
  rfl
def rh_N : Nat := 1000000
