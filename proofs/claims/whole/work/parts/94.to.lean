/-! runs of R from one place to another, without the end -/
def rh_to (R : Nat → List Value → rh_H → Option Value → rh_H → Prop) (L : rh_L) (P : rh_P) : Nat → rh_S → rh_S → Prop
  | 0, s, t => s = t
  | n + 1, s, t => ∃ lv, rh_lf lv s.1.2.1 ∧ match rh_at P s.1.1 with
    | none => False
    | some (.inl f) => ∃ s', f L ((s.1.1, lv, s.1.2.2), s.2) = some s' ∧ rh_to R L P n s' t
    | some (.inr (.inl c)) => ∃ a r u h1, s.1.2.2 = a.reverse ++ r ∧ a.length = c.2.1 ∧ rh_rc L c.2.2 a ∧ rh_cs r ≤ 8 ∧ R c.1 a s.2 u h1 ∧ rh_to R L P n ((s.1.1 + 3, lv, u.toList ++ r), h1) t
    | some (.inr (.inr _)) => False
def rh_To (R : Nat → List Value → rh_H → Option Value → rh_H → Prop) (L : rh_L) (P : rh_P) (s t : rh_S) : Prop := ∃ n, rh_to R L P n s t
section TO
variable {R : Nat → List Value → rh_H → Option Value → rh_H → Prop} {L : rh_L} {P : rh_P} {s s' t : rh_S}
theorem rh_To.rf : rh_To R L P s s := ⟨0, rfl⟩
theorem rh_To.blk (k : Nat) (h : rh_stn L P k s = some s') (kk : rh_To R L P s' t) : rh_To R L P s t := by
  induction k generalizing s with
  | zero => cases h; exact kk
  | succ k ih =>
    unfold rh_stn at h
    split at h
    · next f hf =>
      split at h
      · next s1 h1 =>
        obtain ⟨n, hn⟩ := ih h
        refine ⟨n + 1, ?_⟩
        unfold rh_to
        refine ⟨s.1.2.1, rh_lf_rf _, ?_⟩
        rw [hf]
        exact ⟨s1, h1, hn⟩
      · cases h
    · cases h
theorem rh_To.stp {f : rh_X} (hp : rh_at P s.1.1 = some (.inl f)) (h : f L s = some s') (kk : rh_To R L P s' t) : rh_To R L P s t := by
  refine rh_To.blk 1 ?_ kk
  unfold rh_stn
  rw [hp]
  dsimp only
  rw [h]
  rfl
theorem rh_To.call {pc : Nat} {lv : List (Option Value)} {st : List Value} {h h1 : rh_H} {j : Nat} {rc : Option Nat} (a r : List Value) (u : Option Value) (hp : rh_at P pc = some (.inr (.inl (j, a.length, rc)))) (hs : st = a.reverse ++ r) (hrc : rh_rc L rc a) (hcs : rh_cs r ≤ 8) (hR : R j a h u h1) (kk : rh_To R L P ((pc + 3, lv, u.toList ++ r), h1) t) : rh_To R L P ((pc, lv, st), h) t := by
  obtain ⟨n, hn⟩ := kk
  refine ⟨n + 1, ?_⟩
  unfold rh_to
  refine ⟨lv, rh_lf_rf _, ?_⟩
  dsimp only
  rw [hp]
  exact ⟨a, r, u, h1, hs, rfl, hrc, hcs, hR, hn⟩
theorem rh_run_to : ∀ (n : Nat) (s : rh_S) (v : Option Value) (h' : rh_H), rh_run R L P n s v h' → ∃ (t : rh_S) (k : Nat), rh_To R L P s t ∧ rh_at P t.1.1 = some (.inr (.inr k)) ∧ rh_ret k t.1.2.2 v ∧ h' = t.2
  | 0, _, _, _, h => h.elim
  | n + 1, s, v, h', hn => by
    unfold rh_run at hn
    obtain ⟨lv, hlf, hn⟩ := hn
    split at hn
    · exact hn.elim
    · next f hf =>
      obtain ⟨s1, h1, hn⟩ := hn
      obtain ⟨t, k, ⟨i, hi⟩, e1, e2, e3⟩ := rh_run_to n s1 v h' hn
      refine ⟨t, k, ⟨i + 1, ?_⟩, e1, e2, e3⟩
      unfold rh_to
      refine ⟨lv, hlf, ?_⟩
      rw [hf]
      exact ⟨s1, h1, hi⟩
    · next c hc =>
      obtain ⟨a, r, u, h1, g1, g2, g3, g4, g5, hn⟩ := hn
      obtain ⟨t, k, ⟨i, hi⟩, e1, e2, e3⟩ := rh_run_to n _ v h' hn
      refine ⟨t, k, ⟨i + 1, ?_⟩, e1, e2, e3⟩
      unfold rh_to
      refine ⟨lv, hlf, ?_⟩
      rw [hc]
      exact ⟨a, r, u, h1, g1, g2, g3, g4, g5, hi⟩
    · next k hk =>
      exact ⟨s, k, rh_To.rf, hk, hn.1, hn.2⟩
end TO
/-! worlds side by side -/
theorem vP_mem {D : va_G} {cl : List vw_C} {ws : va_W} {H : Heap} : va_P D cl ws H ↔ ∀ q ∈ ws, va_at D cl q H := ⟨fun h q hq => by obtain ⟨k, hk⟩ := List.mem_iff_getElem?.mp hq; exact h k q hk, fun h k q hk => h q (List.mem_of_getElem? hk)⟩
theorem vP_app {D : va_G} {cl : List vw_C} {a b : va_W} {H : Heap} : va_P D cl (a ++ b) H ↔ va_P D cl a H ∧ va_P D cl b H := by
  rw [vP_mem, vP_mem, vP_mem]
  exact ⟨fun h => ⟨fun q hq => h q (List.mem_append_left _ hq), fun q hq => h q (List.mem_append_right _ hq)⟩, fun h q hq => (List.mem_append.mp hq).elim (h.1 q) (h.2 q)⟩
theorem vD_pw {A : Nat → Prop} {ws : va_W} : va_D A ws ↔ ws.Pairwise (fun x y => x.1 ≠ y.1) ∧ ∀ q ∈ ws, A q.1 := by
  constructor
  · intro h
    refine ⟨List.pairwise_iff_getElem.mpr (fun i j hi hj hij he => ?_), fun q hq => ?_⟩
    · have := h.1 i j _ _ (List.getElem?_eq_getElem hi) (List.getElem?_eq_getElem hj) he
      omega
    · obtain ⟨k, hk⟩ := List.mem_iff_getElem?.mp hq
      exact h.2 k q hk
  · rintro ⟨h1, h2⟩
    refine ⟨fun i j x y hi hj he => ?_, fun k q hk => h2 q (List.mem_of_getElem? hk)⟩
    obtain ⟨ki, ei⟩ := List.getElem?_eq_some_iff.mp hi
    obtain ⟨kj, ej⟩ := List.getElem?_eq_some_iff.mp hj
    have hp := List.pairwise_iff_getElem.mp h1
    rw [← ei, ← ej] at he
    rcases Nat.lt_trichotomy i j with h | h | h
    · exact absurd he (hp i j ki kj h)
    · exact h
    · exact absurd he.symm (hp j i kj ki h)
theorem vD_app {A : Nat → Prop} {a b : va_W} : va_D A (a ++ b) ↔ va_D A a ∧ va_D A b ∧ ∀ x ∈ a, ∀ y ∈ b, x.1 ≠ y.1 := by
  rw [vD_pw, vD_pw, vD_pw, List.pairwise_append]
  constructor
  · rintro ⟨⟨h1, h2, h3⟩, h4⟩
    exact ⟨⟨h1, fun q hq => h4 q (List.mem_append_left _ hq)⟩, ⟨h2, fun q hq => h4 q (List.mem_append_right _ hq)⟩, h3⟩
  · rintro ⟨⟨h1, h2⟩, ⟨h3, h4⟩, h5⟩
    exact ⟨⟨h1, h3, h5⟩, fun q hq => (List.mem_append.mp hq).elim (h2 q) (h4 q)⟩
theorem vP_comm {D : va_G} {cl : List vw_C} {a b : va_W} {H : Heap} (h : va_P D cl (a ++ b) H) : va_P D cl (b ++ a) H := vP_app.mpr ⟨(vP_app.mp h).2, (vP_app.mp h).1⟩
theorem vD_comm {A : Nat → Prop} {a b : va_W} (h : va_D A (a ++ b)) : va_D A (b ++ a) := by
  obtain ⟨h1, h2, h3⟩ := vD_app.mp h
  exact vD_app.mpr ⟨h2, h1, fun x hx y hy e => h3 y hy x hx e.symm⟩
theorem vA_mem {ws : va_W} {sz q : Nat} : va_A ws sz q ↔ (∃ e, (q, e) ∈ ws) ∨ sz ≤ q := by
  constructor
  · rintro (⟨k, e, hk⟩ | h)
    · exact Or.inl ⟨e, List.mem_of_getElem? hk⟩
    · exact Or.inr h
  · rintro (⟨e, he⟩ | h)
    · obtain ⟨k, hk⟩ := List.mem_iff_getElem?.mp he
      exact Or.inl ⟨k, e, hk⟩
    · exact Or.inr h
theorem vw_out {A0 : Nat → Prop} {D : va_G} {cl : List vw_C} {wa wb : va_W} {H : Heap} (hP : va_P D cl (wa ++ wb) H) (hD : va_D A0 (wa ++ wb)) : ∀ q ∈ wb, q.1 < H.size ∧ ¬ va_A wa H.size q.1 := by
  intro q hq
  have hlt : q.1 < H.size := (vP_mem.mp (vP_app.mp hP).2 q hq).lt
  refine ⟨hlt, fun h => ?_⟩
  rcases vA_mem.mp h with ⟨e, he⟩ | h
  · exact (vD_app.mp hD).2.2 _ he q hq rfl
  · omega
/-- a callee's cells wa have become w1: the others are unchanged -/
theorem vw_join {A0 : Nat → Prop} {D : va_G} {cl : List vw_C} {wa wb w1 : va_W} {H H1 : Heap} (hP : va_P D cl (wa ++ wb) H) (hD : va_D A0 (wa ++ wb)) (hk : ∀ q : Nat, q < H.size → ¬ va_A wa H.size q → H1[q]? = H[q]?) (hF : ∀ q, va_A wa H.size q → A0 q) (hP1 : va_P D cl w1 H1) (hD1 : va_D (va_A wa H.size) w1) : va_P D cl (w1 ++ wb) H1 ∧ va_D A0 (w1 ++ wb) := by
  have ho := vw_out hP hD
  refine ⟨vP_app.mpr ⟨hP1, (vP_app.mp hP).2.kept (fun k q hq => ?_)⟩, vD_app.mpr ⟨?_, (vD_app.mp hD).2.1, fun x hx y hy e => ?_⟩⟩
  · have := ho q (List.mem_of_getElem? hq)
    exact hk q.1 this.1 this.2
  · obtain ⟨h1, h2⟩ := vD_pw.mp hD1
    exact vD_pw.mpr ⟨h1, fun q hq => hF _ (h2 q hq)⟩
  · have h1 := (vD_pw.mp hD1).2 x hx
    rw [e] at h1
    exact (ho y hy).2 h1
theorem vw_free {A0 : Nat → Prop} {wa wb : va_W} {H0 H : Heap} {locs : List Loc} (hD : va_D A0 (wa ++ wb)) (hS : va_S A0 H0 H locs) (hA : ∀ q, H0.size ≤ q → A0 q) : ∀ q, va_A wa H.size q → A0 q := by
  intro q hq
  rcases vA_mem.mp hq with ⟨e, he⟩ | h
  · exact (vD_pw.mp hD).2 (q, e) (List.mem_append_left _ he)
  · exact hA q (Nat.le_trans hS.1 h)
