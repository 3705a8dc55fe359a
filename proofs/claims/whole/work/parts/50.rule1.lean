/-! THE RULE: the class's reader as a pure machine: what waits, the draft (each with its latest first), depth, digits, behind a thing or not, what was compared -/
def bd (a : Nat) : Nat := if a = 42 then 3 else if a = 43 then 2 else if a = 45 then 2 else if a = 47 then 3 else if a = 60 then 1 else if a = 61 then 1 else if a = 62 then 1 else if a = 126 then 4 else 0
def bo (a : Nat) : Nat := if a = 126 then 0 else bd a
def isL (x : Nat) : Bool := x == 119 || x == 98 || x == 100 || x == 105
def ng (a : Nat) : Int32 := -(nI a)
abbrev RT : Type := List Nat × List Int32 × Nat × Nat × Bool × (Nat → Bool)
def pp (k : Nat) : List Nat → List Int32 → List Nat × List Int32
  | [], D => ([], D)
  | a :: r, D => if k ≤ bd a then pp k r (ng a :: D) else (a :: r, D)
def cl : List Nat → List Int32 → List Nat × List Int32
  | [], D => ([], D)
  | a :: r, D => if a = 40 then (a :: r, D) else cl r (ng a :: D)
def tkD (W : List Nat) (D : List Int32) (dp dg : Nat) (bh : Bool) (cm : Nat → Bool) (x : Nat) : Option RT :=
  if dg = 0 ∧ bh = false then some (W, nI (x - 48) :: D, dp, 1, true, cm)
  else if 0 < dg ∧ dg < 3 then (match D with
    | c :: r => some (W, (c * 10 + nI (x - 48)) :: r, dp, dg + 1, bh, cm)
    | [] => none)
  else none
def tkA (W : List Nat) (D : List Int32) (dp : Nat) (cm : Nat → Bool) (x : Nat) : Option RT :=
  if isL x = true then some (W, ng x :: D, dp, 0, true, cm)
  else if x = 45 then some (126 :: W, D, dp, 0, false, cm)
  else if x = 40 ∧ dp < 4 then some (40 :: W, D, dp + 1, 0, false, fun j => if j = dp + 1 then false else cm j)
  else none
def tkB (W : List Nat) (D : List Int32) (dp : Nat) (cm : Nat → Bool) (x : Nat) : Option RT :=
  if x = 41 then (if dp = 0 then none else some ((cl W D).1.tail, (cl W D).2, dp - 1, 0, true, cm))
  else if bo x = 0 ∨ (bo x = 1 ∧ cm dp = true) then none
  else some (x :: (pp (bo x) W D).1, (pp (bo x) W D).2, dp, 0, false, fun j => if j = dp then (cm dp || decide (bo x = 1)) else cm j)
def tk (W : List Nat) (D : List Int32) (dp dg : Nat) (bh : Bool) (cm : Nat → Bool) (x : Nat) : Option RT :=
  if 48 ≤ x ∧ x ≤ 57 then tkD W D dp dg bh cm x
  else if bh = false then tkA W D dp cm x
  else tkB W D dp cm x
def LSq (f : Nat → Int32) : List Int32 → Prop
  | [] => True
  | x :: r => f r.length = x ∧ LSq f r
def LWq (f : Nat → Int32) : List Nat → Prop
  | [] => True
  | a :: r => f r.length = nI a ∧ LWq f r
theorem LSq.mv {f g : Nat → Int32} : ∀ {l : List Int32}, LSq f l → (∀ i, i < l.length → g i = f i) → LSq g l
  | [], _, _ => trivial
  | x :: r, h, e => ⟨(e r.length (by rw [List.length_cons]; omega)).trans h.1, LSq.mv h.2 (fun i hi => e i (by rw [List.length_cons]; omega))⟩
theorem LWq.mv {f g : Nat → Int32} : ∀ {l : List Nat}, LWq f l → (∀ i, i < l.length → g i = f i) → LWq g l
  | [], _, _ => trivial
  | x :: r, h, e => ⟨(e r.length (by rw [List.length_cons]; omega)).trans h.1, LWq.mv h.2 (fun i hi => e i (by rw [List.length_cons]; omega))⟩
/-- what reading changes -/
def hF (o j : Nat) : Prop := o ≠ 9 ∧ o ≠ 10 ∧ o ≠ 11 ∧ (o = 6 → j ≠ 4 ∧ j ≠ 6 ∧ j ≠ 8 ∧ j ≠ 9 ∧ j ≠ 10)
def FH (C0 C : HI) : Prop := ∀ o j, hF o j → C o j = C0 o j
def HS (C0 C : HI) (W : List Nat) (D : List Int32) (dp dg : Nat) (bh : Bool) (cm : Nat → Bool) : Prop := FH C0 C ∧ C 6 4 = nI D.length ∧ C 6 6 = nI W.length ∧ C 6 8 = nI dp ∧ C 6 9 = nI dg ∧ C 6 10 = (if bh = true then 1 else 0) ∧ LSq (C 9) D ∧ LWq (C 10) W ∧ dp ≤ 4 ∧ (dg ≤ 3 ∧ (0 < dg → D ≠ [])) ∧ (∀ a, a ∈ W → a < 256) ∧ ∀ j, j ≤ dp → C 11 j = (if cm j = true then 1 else 0)
def HSt (C0 C : HI) (s : RT) : Prop := HS C0 C s.1 s.2.1 s.2.2.1 s.2.2.2.1 s.2.2.2.2.1 s.2.2.2.2.2
theorem bd_c : ∀ a, a < 256 → f_Ha_bond (nI a) = nI (bd a) ∧ bd a ≤ 4 := by decide +kernel
theorem isL_c : ∀ a, a < 256 → f_Ha_isLetter (nI a) = (if isL a = true then 1 else 0) := by decide +kernel
theorem FH.up {C0 C : HI} (f : FH C0 C) (o k : Nat) (v : Int32) (h : ¬ hF o k) : FH C0 (rh_up C o k v) := fun o' j q => by
  rw [up_f, if_neg (fun z => h (by rw [← z.1, ← z.2]; exact q))]
  exact f o' j q
theorem nh9 (k : Nat) : ¬ hF 9 k := fun h => h.1 rfl
theorem nh10 (k : Nat) : ¬ hF 10 k := fun h => h.2.1 rfl
theorem nh11 (k : Nat) : ¬ hF 11 k := fun h => h.2.2.1 rfl
theorem nh6 {k : Nat} (hk : k = 4 ∨ k = 6 ∨ k = 8 ∨ k = 9 ∨ k = 10) : ¬ hF 6 k := fun h => by have := h.2.2.2 rfl; omega
section HAB
variable {C0 C : HI} {W : List Nat} {D : List Int32} {dp dg : Nat} {bh : Bool} {cm : Nat → Bool}
theorem hs_put (r : HS C0 C W D dp dg bh cm) (v : Int32) : HS C0 (rh_up (rh_up C 9 D.length v) 6 4 (nI (D.length + 1))) W (v :: D) dp dg bh cm := by
  obtain ⟨f, a1, a2, a3, a4, a5, a6, a7, a8, a9, a10, a11⟩ := r
  refine ⟨(f.up 9 _ _ (nh9 _)).up 6 4 _ (nh6 (by omega)), rfl, a2, a3, a4, a5, ⟨?_, a6.mv (fun i hi => ?_)⟩, a7, a8, ⟨a9.1, fun _ => List.cons_ne_nil _ _⟩, a10, a11⟩
  · show rh_up (rh_up C 9 D.length v) 6 4 _ 9 D.length = v
    rw [up_f, if_neg (by omega), up_f, if_pos ⟨rfl, rfl⟩]
  · show rh_up (rh_up C 9 D.length v) 6 4 _ 9 i = C 9 i
    rw [up_f, if_neg (by omega), up_f, if_neg (by omega)]
theorem hs_off (r : HS C0 C W D dp dg bh cm) {a : Nat} (ha : a < 256) : HS C0 (rh_up (rh_up C 10 W.length (nI a)) 6 6 (nI (W.length + 1))) (a :: W) D dp dg bh cm := by
  obtain ⟨f, a1, a2, a3, a4, a5, a6, a7, a8, a9, a10, a11⟩ := r
  refine ⟨(f.up 10 _ _ (nh10 _)).up 6 6 _ (nh6 (by omega)), a1, rfl, a3, a4, a5, a6, ⟨?_, a7.mv (fun i hi => ?_)⟩, a8, a9, ?_, a11⟩
  · show rh_up (rh_up C 10 W.length (nI a)) 6 6 _ 10 W.length = _
    rw [up_f, if_neg (by omega), up_f, if_pos ⟨rfl, rfl⟩]
  · show rh_up (rh_up C 10 W.length (nI a)) 6 6 _ 10 i = C 10 i
    rw [up_f, if_neg (by omega), up_f, if_neg (by omega)]
  · intro b hb
    rcases List.mem_cons.mp hb with rfl | hb
    · exact ha
    · exact a10 b hb
theorem hs_pop {a : Nat} (r : HS C0 C (a :: W) D dp dg bh cm) : HS C0 (rh_up C 6 6 (nI W.length)) W D dp dg bh cm := by
  obtain ⟨f, a1, a2, a3, a4, a5, a6, a7, a8, a9, a10, a11⟩ := r
  exact ⟨f.up 6 6 _ (nh6 (by omega)), a1, rfl, a3, a4, a5, a6, a7.2, a8, a9, fun b hb => a10 b (List.mem_cons_of_mem _ hb), a11⟩
theorem hs_dg (r : HS C0 C W D dp dg bh cm) {d : Nat} (hd : d ≤ 3 ∧ (0 < d → D ≠ [])) : HS C0 (rh_up C 6 9 (nI d)) W D dp d bh cm := by
  obtain ⟨f, a1, a2, a3, a4, a5, a6, a7, a8, a9, a10, a11⟩ := r
  exact ⟨f.up 6 9 _ (nh6 (by omega)), a1, a2, a3, rfl, a5, a6, a7, a8, hd, a10, a11⟩
theorem hs_bh (r : HS C0 C W D dp dg bh cm) (b : Bool) {v : Int32} (hv : v = (if b = true then 1 else 0)) : HS C0 (rh_up C 6 10 v) W D dp dg b cm := by
  obtain ⟨f, a1, a2, a3, a4, a5, a6, a7, a8, a9, a10, a11⟩ := r
  exact ⟨f.up 6 10 _ (nh6 (by omega)), a1, a2, a3, a4, hv, a6, a7, a8, a9, a10, a11⟩
theorem put_c (r : HS C0 C W D dp dg bh cm) (hl : D.length < 48) (v : Int32) : ∃ C', f_Ha_put C v = some C' ∧ HS C0 C' W (v :: D) dp dg bh cm := by
  have a1 := r.2.1
  unfold f_Ha_put
  rw [a1, if_neg (show ¬ (48 : Int32) ≤ nI D.length from nI_ge (b := 48) hl (by omega)), rg_t (gd_nI hl (by omega)), nI_clamp (by omega), nI_1]
  exact ⟨_, rfl, hs_put r v⟩
theorem putOff_c (r : HS C0 C W D dp dg bh cm) (hl : W.length < 48) {a : Nat} (ha : a < 256) : ∃ C', f_Ha_putOff C (nI a) = some C' ∧ HS C0 C' (a :: W) D dp dg bh cm := by
  have a1 := r.2.2.1
  unfold f_Ha_putOff
  rw [a1, if_neg (show ¬ (48 : Int32) ≤ nI W.length from nI_ge (b := 48) hl (by omega)), rg_t (gd_nI hl (by omega)), nI_clamp (by omega), nI_1]
  exact ⟨_, rfl, hs_off r ha⟩
/-- the two loops that put off what waits, and the one of adopt -/
theorem pop1 {a : Nat} (r : HS C0 C (a :: W) D dp dg bh cm) (hl : W.length + D.length < 47) : C 6 6 = nI (W.length + 1) ∧ nI (W.length + 1) - 1 = nI W.length ∧ (¬ nI (W.length + 1) ≤ 0) ∧ (0 ≤ (nI W.length).toInt ∧ (nI W.length).toInt < ((48 : Nat) : Int)) ∧ (nI W.length).toNatClampNeg = W.length ∧ C 10 W.length = nI a ∧ rh_up C 6 6 (nI W.length) 10 W.length = nI a ∧ ∃ C', f_Ha_put (rh_up C 6 6 (nI W.length)) (ng a) = some C' ∧ HS C0 C' W (ng a :: D) dp dg bh cm := by
  have h1 : C 10 W.length = nI a := r.2.2.2.2.2.2.2.1.1
  exact ⟨r.2.2.1, pk_sub (a := W.length + 1) (b := 1) (by omega), nI_ge (a := 0) (b := W.length + 1) (by omega) (by omega), gd_nI (by omega) (by omega), nI_clamp (by omega), h1, by rw [up_f, if_neg (by omega)]; exact h1, put_c (hs_pop r) (by omega) _⟩
theorem pop_k (u : Int32) {k : Nat} (hk : k ≤ 4) : ∀ (W : List Nat) (D : List Int32) (C : HI) (N : Nat), HS C0 C W D dp dg bh cm → W.length + D.length ≤ 47 → W.length + 1 ≤ N → ∃ C', rh_loop (b_Ha_takesBehind_71 u (nI k)) N C = some C' ∧ HS C0 C' (pp k W D).1 (pp k W D).2 dp dg bh cm
  | [], D, C, N, r, hl, hN => by
    refine ⟨C, st_e ?_ (by omega), r⟩
    unfold b_Ha_takesBehind_71
    rw [r.2.2.1, List.length_nil, if_pos (show nI 0 ≤ 0 by decide)]
  | a :: W, D, C, N, r, hl, hN => by
    rw [List.length_cons] at hl hN
    obtain ⟨e1, e2, e3, e4, e5, e6, e7, C', e8, e9⟩ := pop1 r (by omega)
    have ha : a < 256 := r.2.2.2.2.2.2.2.2.2.2.1 a List.mem_cons_self
    unfold pp
    by_cases hb : k ≤ bd a
    · rw [if_pos hb]
      obtain ⟨C2, h1, h2⟩ := pop_k u hk W (ng a :: D) C' (N - 1) e9 (by rw [List.length_cons]; omega) (by omega)
      refine ⟨C2, ?_, h2⟩
      rw [st_l (s' := C') ?_ (by omega), h1]
      unfold b_Ha_takesBehind_71
      rw [e1, if_neg e3, e2, rg_t e4, e5, e6, (bd_c a ha).1, if_neg (nltI (by have := (bd_c a ha).2; omega) (by omega)), rg_t e4, e7, show -(nI a) = ng a from rfl, e8, Option.bind_some]
    · rw [if_neg hb]
      refine ⟨C, st_e ?_ (by omega), r⟩
      unfold b_Ha_takesBehind_71
      rw [e1, if_neg e3, e2, rg_t e4, e5, e6, (bd_c a ha).1, if_pos (ltI (by omega) (by omega))]
theorem cl_k : ∀ (W : List Nat) (D : List Int32) (C : HI) (N : Nat), HS C0 C W D dp dg bh cm → W.length + D.length ≤ 47 → W.length + 1 ≤ N → ∃ C', rh_loop b_Ha_closes_9 N C = some C' ∧ HS C0 C' (cl W D).1 (cl W D).2 dp dg bh cm
  | [], D, C, N, r, hl, hN => by
    refine ⟨C, st_e ?_ (by omega), r⟩
    unfold b_Ha_closes_9
    rw [r.2.2.1, List.length_nil, if_pos (show nI 0 ≤ 0 by decide)]
  | a :: W, D, C, N, r, hl, hN => by
    rw [List.length_cons] at hl hN
    obtain ⟨e1, e2, e3, e4, e5, e6, e7, C', e8, e9⟩ := pop1 r (by omega)
    have ha : a < 256 := r.2.2.2.2.2.2.2.2.2.2.1 a List.mem_cons_self
    unfold cl
    by_cases hb : a = 40
    · rw [if_pos hb]
      refine ⟨C, st_e ?_ (by omega), r⟩
      unfold b_Ha_closes_9
      rw [e1, if_neg e3, e2, rg_t e4, e5, e6, if_pos (show nI a = 40 by rw [hb]; rfl)]
    · rw [if_neg hb]
      obtain ⟨C2, h1, h2⟩ := cl_k W (ng a :: D) C' (N - 1) e9 (by rw [List.length_cons]; omega) (by omega)
      refine ⟨C2, ?_, h2⟩
      rw [st_l (s' := C') ?_ (by omega), h1]
      unfold b_Ha_closes_9
      rw [e1, if_neg e3, e2, rg_t e4, e5, e6, if_neg (show ¬ nI a = 40 from neI (s := 40) (by omega) (by omega) hb), rg_t e4, e7, show -(nI a) = ng a from rfl, e8, Option.bind_some]
/-- all that waits goes to the draft -/
def fl : List Nat → List Int32 → List Int32
  | [], D => D
  | a :: r, D => fl r (ng a :: D)
theorem ad_k : ∀ (W : List Nat) (D : List Int32) (C : HI) (N : Nat), HS C0 C W D dp dg bh cm → W.length + D.length ≤ 47 → W.length + 1 ≤ N → ∃ C', rh_loop b_Ha_adopt_0 N C = some C' ∧ HS C0 C' [] (fl W D) dp dg bh cm
  | [], D, C, N, r, hl, hN => by
    refine ⟨C, st_e ?_ (by omega), r⟩
    unfold b_Ha_adopt_0
    rw [r.2.2.1, List.length_nil, if_pos (show nI 0 ≤ 0 by decide)]
  | a :: W, D, C, N, r, hl, hN => by
    rw [List.length_cons] at hl hN
    obtain ⟨e1, e2, e3, e4, e5, e6, e7, C', e8, e9⟩ := pop1 r (by omega)
    unfold fl
    obtain ⟨C2, h1, h2⟩ := ad_k W (ng a :: D) C' (N - 1) e9 (by rw [List.length_cons]; omega) (by omega)
    refine ⟨C2, ?_, h2⟩
    rw [st_l (s' := C') ?_ (by omega), h1]
    unfold b_Ha_adopt_0
    rw [e1, if_neg e3, e2, rg_t e4, e5, e7, show -(nI a) = ng a from rfl, e8, Option.bind_some]
end HAB
