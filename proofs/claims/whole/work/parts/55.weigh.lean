/-! the class reckons THE RULE -/
def cpI (v : Int32) : Int32 := (if (0 : Int32) < (if v < (9999 : Int32) then v else (9999 : Int32)) then (if v < (9999 : Int32) then v else (9999 : Int32)) else (0 : Int32))
theorem cpI_n (v : Int32) : ∃ x, x ≤ 9999 ∧ cpI v = nI x := by
  unfold cpI
  by_cases h : v < 9999
  · rw [if_pos h]
    by_cases h0 : 0 < v
    · rw [if_pos h0]
      rw [fa_lt, show (9999 : Int32).toInt = 9999 from rfl] at h
      rw [fa_lt, show (0 : Int32).toInt = 0 from rfl] at h0
      exact ⟨v.toInt.toNat, by omega, ofI (by omega)⟩
    · rw [if_neg h0]; exact ⟨0, by omega, rfl⟩
  · rw [if_neg h]
    exact ⟨9999, by omega, rfl⟩
def cpN (v : Int32) : Nat := (cpI v).toNatClampNeg
theorem cpN_ok (v : Int32) : cpI v = nI (cpN v) ∧ cpN v ≤ 9999 := by
  obtain ⟨x, h1, h2⟩ := cpI_n v
  unfold cpN
  rw [h2, nI_clamp (by omega)]
  exact ⟨rfl, h1⟩
theorem STk_shape (e e' : EnV) : ∀ (D : List Int32) (s : List Int32), STk e D = some s → ∃ s', STk e' D = some s' ∧ s'.length = s.length
  | [], s, h => ⟨[], rfl, by rw [← Option.some.inj h]⟩
  | c :: r, s, h => by
    obtain ⟨s0, h1, h2⟩ := rh_bq (show (STk e r).bind (stp e c) = some s from h)
    obtain ⟨t0, g1, g2⟩ := STk_shape e e' r s0 h1
    show ∃ s', (STk e' r).bind (stp e' c) = some s' ∧ _
    rw [g1, Option.bind_some]
    unfold stp at h2 ⊢
    by_cases c0 : 0 ≤ c
    · rw [if_pos c0] at h2 ⊢
      exact ⟨_, rfl, by rw [← Option.some.inj h2, List.length_cons, List.length_cons, g2]⟩
    rw [if_neg c0] at h2 ⊢
    by_cases c1 : c = ng 119
    · rw [if_pos c1] at h2 ⊢
      exact ⟨_, rfl, by rw [← Option.some.inj h2, List.length_cons, List.length_cons, g2]⟩
    rw [if_neg c1] at h2 ⊢
    by_cases c2 : c = ng 98
    · rw [if_pos c2] at h2 ⊢
      exact ⟨_, rfl, by rw [← Option.some.inj h2, List.length_cons, List.length_cons, g2]⟩
    rw [if_neg c2] at h2 ⊢
    by_cases c3 : c = ng 100
    · rw [if_pos c3] at h2 ⊢
      exact ⟨_, rfl, by rw [← Option.some.inj h2, List.length_cons, List.length_cons, g2]⟩
    rw [if_neg c3] at h2 ⊢
    by_cases c4 : c = ng 105
    · rw [if_pos c4] at h2 ⊢
      exact ⟨_, rfl, by rw [← Option.some.inj h2, List.length_cons, List.length_cons, g2]⟩
    rw [if_neg c4] at h2 ⊢
    by_cases c5 : c = ng 126
    · rw [if_pos c5] at h2 ⊢
      cases s0 with
      | nil => cases h2
      | cons x s0 =>
        cases t0 with
        | nil => cases g2
        | cons y t0 => exact ⟨_, rfl, by rw [← Option.some.inj h2]; exact g2⟩
    rw [if_neg c5] at h2 ⊢
    cases s0 with
    | nil => cases h2
    | cons x s0 =>
      cases s0 with
      | nil => cases h2
      | cons x2 s0 =>
        cases t0 with
        | nil => cases g2
        | cons y t0 =>
          cases t0 with
          | nil => cases g2
          | cons y2 t0 =>
            refine ⟨_, rfl, ?_⟩
            rw [← Option.some.inj h2]
            rw [List.length_cons, List.length_cons, List.length_cons, List.length_cons] at g2
            rw [List.length_cons, List.length_cons]
            omega
def valOf (e : EnV) (D : List Int32) : Int32 := ((STk e D).getD []).headD 0
theorem valOf_ok {e0 : EnV} {D : List Int32} {x : Int32} (h : STk e0 D = some [x]) (e : EnV) : STk e D = some [valOf e D] := by
  obtain ⟨s', h1, h2⟩ := STk_shape e0 e D [x] h
  unfold valOf
  rw [h1]
  cases s' with
  | nil => cases h2
  | cons y s' =>
    cases s' with
    | nil => rfl
    | cons z s' => exact absurd h2 (by rw [List.length_cons, List.length_cons, List.length_cons, List.length_nil]; omega)
theorem ng_iff {c : Int32} {a : Nat} (ha : a < 2 ^ 31) : ((a : Int) = (-c).toInt) ↔ c = ng a := by
  constructor
  · intro h
    have : -c = nI a := ofI h.symm
    unfold ng
    rw [← this]; exact Int32.neg_neg.symm
  · intro h
    rw [h]
    unfold ng
    rw [Int32.neg_neg, nI_toInt ha]
theorem LSq.push {f : Nat → Int32} {s : List Int32} (h : LSq f s) (v : Int32) : LSq (fun k => if k = s.length then v else f k) (v :: s) := ⟨if_pos rfl, h.mv (fun i hi => if_neg (by omega))⟩
section WGH
variable {e : EnV}
theorem w214 {h : HI} {u1 u2 u3 u4 j5 j9 v : Int32} {k b : Nat} (hb : b < 48) (hj : j5 + j9 = nI (b + 1)) : j_Ha_weigh_214 h u1 u2 u3 u4 j5 (nI k) v j9 = some (.inl (nI (b + 1), nI (k + 1), rh_up h 8 b v)) := by
  unfold j_Ha_weigh_214
  rw [hj, if_neg (show ¬ nI (b + 1) ≤ 0 from nI_ge (b := b + 1) (a := 0) (by omega) (by omega)), if_neg (show ¬ (48 : Int32) < nI (b + 1) from nltI (x := 48) (by omega) (by omega)), show nI (b + 1) - 1 = nI b from pk_sub (a := b + 1) (b := 1) (by omega), rg_t (gd_nI hb (by omega)), nI_clamp (by omega), nI_1]
theorem up8 (h : HI) (b : Nat) (v : Int32) : rh_up h 8 b v 8 = fun k => if k = b then v else h 8 k := by
  funext k
  rw [up_f]
  by_cases z : k = b
  · rw [if_pos ⟨rfl, z⟩, if_pos z]
  · rw [if_neg (fun q => z q.2), if_neg z]
theorem E8.up {h g : HI} (e : E8 h g) (b : Nat) (v : Int32) : E8 h (rh_up g 8 b v) := fun o k q => by
  rw [up_f, if_neg (fun z => q z.1)]; exact e o k q
theorem w_b (u1 u2 u3 u4 t k : Int32) (h : HI) : b_Ha_weigh_22 u1 u2 u3 u4 (t, k, h) = if (h 6 1) ≤ k then some (.inr h) else rh_g (0 ≤ k.toInt ∧ k.toInt < ((48 : Nat) : Int)) (if 0 ≤ h 7 k.toNatClampNeg then j_Ha_weigh_58 h u1 u2 u3 u4 t k (h 7 k.toNatClampNeg) (1 : Int32) (0 : Int32) else j_Ha_weigh_58 h u1 u2 u3 u4 t k (h 7 k.toNatClampNeg) (1 : Int32) (-(h 7 k.toNatClampNeg))) := rfl
/-- one code -/
theorem w_step {h : HI} {c : Int32} {k : Nat} {s s' : List Int32} (hs : LSq (h 8) s) (hl : s.length ≤ 40) (hst : stp e c s = some s') (hk : k < 48) (h7 : h 7 k = c) (h61 : ¬ h 6 1 ≤ nI k) : ∃ h', b_Ha_weigh_22 e.1 e.2.1 e.2.2.1 e.2.2.2 (nI s.length, nI k, h) = some (.inl (nI s'.length, nI (k + 1), h')) ∧ LSq (h' 8) s' ∧ E8 h h' ∧ s'.length ≤ s.length + 1 := by
  rw [w_b, if_neg h61, rg_t (gd_nI hk (by omega)), nI_clamp (by omega), h7]
  have push : ∀ v : Int32, ∃ h', j_Ha_weigh_214 h e.1 e.2.1 e.2.2.1 e.2.2.2 (nI s.length) (nI k) v 1 = some (.inl (nI (v :: s).length, nI (k + 1), h')) ∧ LSq (h' 8) (v :: s) ∧ E8 h h' ∧ (v :: s).length ≤ s.length + 1 := fun v =>
    ⟨_, w214 (b := s.length) (by omega) (nI_1 _), by rw [up8]; exact hs.push v, E8.rf.up _ _, Nat.le_refl _⟩
  unfold stp at hst
  by_cases c0 : 0 ≤ c
  · rw [if_pos c0] at hst ⊢
    rw [← Option.some.inj hst]
    unfold j_Ha_weigh_58
    rw [if_pos (show (0 : Int) = (0 : Int32).toInt from rfl)]
    exact push c
  · rw [if_neg c0] at hst ⊢
    unfold j_Ha_weigh_58
    have h0 : ¬ (0 : Int) = (-c).toInt := fun z => by
      have := (ng_iff (a := 0) (by omega)).mp z
      rw [this] at c0
      exact c0 (by decide)
    rw [if_neg h0]
    by_cases c1 : c = ng 119
    · rw [if_pos c1] at hst
      rw [← Option.some.inj hst]
      have hw := (ng_iff (a := 119) (by omega)).mpr c1
      rw [show ((119 : Nat) : Int) = 119 from rfl] at hw
      rw [← hw, if_neg (by decide), if_neg (by decide), if_neg (by decide), if_pos rfl]
      exact push e.1
    rw [if_neg c1] at hst
    by_cases c2 : c = ng 98
    · rw [if_pos c2] at hst
      rw [← Option.some.inj hst]
      have hw := (ng_iff (a := 98) (by omega)).mpr c2
      rw [show ((98 : Nat) : Int) = 98 from rfl] at hw
      rw [← hw, if_pos rfl]
      exact push e.2.1
    rw [if_neg c2] at hst
    by_cases c3 : c = ng 100
    · rw [if_pos c3] at hst
      rw [← Option.some.inj hst]
      have hw := (ng_iff (a := 100) (by omega)).mpr c3
      rw [show ((100 : Nat) : Int) = 100 from rfl] at hw
      rw [← hw, if_neg (by decide), if_pos rfl]
      exact push e.2.2.1
    rw [if_neg c3] at hst
    by_cases c4 : c = ng 105
    · rw [if_pos c4] at hst
      rw [← Option.some.inj hst]
      have hw := (ng_iff (a := 105) (by omega)).mpr c4
      rw [show ((105 : Nat) : Int) = 105 from rfl] at hw
      rw [← hw, if_neg (by decide), if_neg (by decide), if_pos rfl]
      exact push e.2.2.2
    rw [if_neg c4] at hst
    have n1 : ¬ (119 : Int) = (-c).toInt := fun z => c1 ((ng_iff (a := 119) (by omega)).mp z)
    have n2 : ¬ (98 : Int) = (-c).toInt := fun z => c2 ((ng_iff (a := 98) (by omega)).mp z)
    have n3 : ¬ (100 : Int) = (-c).toInt := fun z => c3 ((ng_iff (a := 100) (by omega)).mp z)
    have n4 : ¬ (105 : Int) = (-c).toInt := fun z => c4 ((ng_iff (a := 105) (by omega)).mp z)
    rw [if_neg n2, if_neg n3, if_neg n4, if_neg n1]
    by_cases c5 : c = ng 126
    · rw [if_pos c5] at hst
      rw [if_pos (show (126 : Int) = (-c).toInt from (ng_iff (a := 126) (by omega)).mpr c5)]
      cases s with
      | nil => cases hst
      | cons x r =>
        rw [← Option.some.inj hst]
        rw [List.length_cons] at hl ⊢
        rw [if_neg (show ¬ nI (r.length + 1) ≤ 0 from nI_ge (b := r.length + 1) (a := 0) (by omega) (by omega)), show nI (r.length + 1) - 1 = nI r.length from pk_sub (a := r.length + 1) (b := 1) (by omega), rg_t (gd_nI (by omega) (by omega)), nI_clamp (by omega), hs.1]
        unfold j_Ha_weigh_167
        exact ⟨_, w214 (b := r.length) (by omega) (nI_add _ 0), by rw [up8]; exact hs.2.push (-x), E8.rf.up _ _, by rw [List.length_cons]; omega⟩
    rw [if_neg c5] at hst
    rw [if_neg (show ¬ (126 : Int) = (-c).toInt from fun z => c5 ((ng_iff (a := 126) (by omega)).mp z))]
    cases s with
    | nil => cases hst
    | cons y r =>
      cases r with
      | nil => cases hst
      | cons x r =>
        rw [← Option.some.inj hst]
        rw [List.length_cons, List.length_cons] at hl ⊢
        have e1 : nI (r.length + 1 + 1) - 2 = nI r.length := pk_sub (a := r.length + 1 + 1) (b := 2) (by omega)
        have e2 : nI (r.length + 1 + 1) - 1 = nI (r.length + 1) := pk_sub (a := r.length + 1 + 1) (b := 1) (by omega)
        have e3 : h 8 (r.length + 1) = y := hs.1
        rw [if_neg (show ¬ nI (r.length + 1 + 1) ≤ 1 from nI_ge (b := r.length + 1 + 1) (a := 1) (by omega) (by omega)), e1, e2, rg_t (gd_nI (by omega) (by omega)), rg_t (gd_nI (by omega) (by omega)), nI_clamp (by omega), nI_clamp (by omega), e3, hs.2.1, jn_ok, Option.bind_some]
        unfold j_Ha_weigh_209
        refine ⟨_, w214 (b := r.length) (by omega) ?_, by rw [up8]; exact hs.2.2.push _, E8.rf.up _ _, by rw [List.length_cons]; omega⟩
        rw [show nI (r.length + 1 + 1) + (-1 : Int32) = nI (r.length + 1 + 1) - 1 from (Int32.sub_eq_add_neg _ _).symm]
        exact e2
theorem LSq_suf {f : Nat → Int32} : ∀ {pre r : List Int32}, LSq f (pre ++ r) → LSq f r
  | [], _, h => h
  | _ :: pre, r, h => LSq_suf (pre := pre) h.2
theorem w_run {h : HI} {D : List Int32} (hD : D.length ≤ 40) (h7 : LSq (h 7) D) (h61 : h 6 1 = nI D.length) : ∀ (r pre : List Int32), D = pre ++ r → ∀ s, STk e r = some s → ∃ h', (∀ N, r.length < N → rh_loop (b_Ha_weigh_22 e.1 e.2.1 e.2.2.1 e.2.2.2) N ((0 : Int32), (0 : Int32), h) = rh_loop (b_Ha_weigh_22 e.1 e.2.1 e.2.2.1 e.2.2.2) (N - r.length) (nI s.length, nI r.length, h')) ∧ LSq (h' 8) s ∧ E8 h h' ∧ s.length ≤ r.length
  | [], pre, hp, s, hs => by
    have : s = [] := (Option.some.inj hs).symm
    subst this
    exact ⟨h, fun N hN => rfl, trivial, E8.rf, Nat.le_refl _⟩
  | c :: r, pre, hp, s, hs => by
    obtain ⟨s0, g1, g2⟩ := rh_bq (show (STk e r).bind (stp e c) = some s from hs)
    obtain ⟨h0, a1, a2, a3, a4⟩ := w_run hD h7 h61 r (pre ++ [c]) (by rw [hp, List.append_assoc]; rfl) s0 g1
    have hlen : D.length = pre.length + (r.length + 1) := by rw [hp, List.length_append, List.length_cons]
    have hc : h 7 r.length = c := by rw [hp] at h7; exact (LSq_suf h7).1
    obtain ⟨h', b1, b2, b3, b4⟩ := w_step (e := e) a2 (by omega) g2 (k := r.length) (by omega) ((a3 7 _ (by omega)).trans hc) (by rw [a3 6 1 (by omega), h61]; exact nI_ge (by omega) (by omega))
    refine ⟨h', fun N hN => ?_, b2, a3.tr b3, by rw [List.length_cons]; omega⟩
    rw [List.length_cons] at hN ⊢
    rw [a1 N (by omega), st_l b1 (by omega), show N - (r.length + 1) = N - r.length - 1 by omega]
theorem weigh_c {h : HI} {D : List Int32} (hD : D.length ≤ 40) (hD0 : D ≠ []) (h7 : LSq (h 7) D) (h61 : h 6 1 = nI D.length) {v : Int32} (hv : STk e D = some [v]) : ∃ h', f_Ha_weigh h e.1 e.2.1 e.2.2.1 e.2.2.2 = some (cpI v, h') ∧ ∀ o k, o ≠ 8 → h' o k = h o k := by
  have hl : 0 < D.length := List.length_pos_iff.mpr hD0
  obtain ⟨h', a1, a2, a3, a4⟩ := w_run (e := e) hD h7 h61 D [] rfl [v] hv
  refine ⟨h', ?_, a3⟩
  unfold f_Ha_weigh
  rw [h61, if_neg (nz0 (by omega) (by omega)), a1 rh_N (by unfold rh_N; omega), st_e (r := h') ?_ (by unfold rh_N; omega), Option.bind_some]
  · have : h' 8 (0 : Int32).toNatClampNeg = v := a2.1
    rw [this]
    rfl
  · rw [w_b, a3 6 1 (by omega), h61, if_pos (nI_le (Nat.le_refl _) (by omega))]
end WGH
