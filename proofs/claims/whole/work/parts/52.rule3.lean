/-! what a draft makes of a stack -/
abbrev EnV : Type := Int32 × Int32 × Int32 × Int32
def jn (s x y : Int32) : Int32 := (f_Ha_joined s x y).getD 0
theorem jn_ok (s x y : Int32) : f_Ha_joined s x y = some (jn s x y) := by
  unfold jn f_Ha_joined
  split
  · rfl
  split
  · rfl
  split
  · rfl
  split
  · split
    · rfl
    · next h => rw [rg_t h]; rfl
  split
  · split <;> rfl
  split
  · split <;> rfl
  · split <;> rfl
def stp (e : EnV) (c : Int32) (s : List Int32) : Option (List Int32) :=
  if 0 ≤ c then some (c :: s)
  else if c = ng 119 then some (e.1 :: s)
  else if c = ng 98 then some (e.2.1 :: s)
  else if c = ng 100 then some (e.2.2.1 :: s)
  else if c = ng 105 then some (e.2.2.2 :: s)
  else if c = ng 126 then (match s with
    | x :: r => some (-x :: r)
    | [] => none)
  else (match s with
    | y :: x :: r => some (jn (-c) x y :: r)
    | _ => none)
def STk (e : EnV) : List Int32 → Option (List Int32)
  | [] => some []
  | c :: r => (STk e r).bind (stp e c)
def vE (e : EnV) (x : Nat) : Int32 := if x = 119 then e.1 else if x = 98 then e.2.1 else if x = 100 then e.2.2.1 else e.2.2.2
theorem stp_num (e : EnV) {v : Nat} (h : v < 2 ^ 31) (s : List Int32) : stp e (nI v) s = some (nI v :: s) := by
  unfold stp
  rw [if_pos (show (0 : Int32) ≤ nI v from nI_le (a := 0) (by omega) h)]
theorem stp_let (e : EnV) {x : Nat} (h : isL x = true) (s : List Int32) : stp e (ng x) s = some (vE e x :: s) := by
  unfold isL at h
  simp only [Bool.or_eq_true, beq_iff_eq] at h
  rcases h with ((rfl | rfl) | rfl) | rfl
  · unfold stp vE
    rw [if_neg (by decide), if_pos rfl, if_pos rfl]
  · unfold stp vE
    rw [if_neg (by decide), if_neg (by decide), if_pos rfl, if_neg (by decide), if_pos rfl]
  · unfold stp vE
    rw [if_neg (by decide), if_neg (by decide), if_neg (by decide), if_pos rfl, if_neg (by decide), if_neg (by decide), if_pos rfl]
  · unfold stp vE
    rw [if_neg (by decide), if_neg (by decide), if_neg (by decide), if_neg (by decide), if_pos rfl, if_neg (by decide), if_neg (by decide), if_neg (by decide)]
theorem stp_neg (e : EnV) (v : Int32) (s : List Int32) : stp e (ng 126) (v :: s) = some (-v :: s) := by
  unfold stp
  rw [if_neg (by decide), if_neg (by decide), if_neg (by decide), if_neg (by decide), if_neg (by decide), if_pos rfl]
theorem stp_op (e : EnV) {x : Nat} (hx : x = 42 ∨ x = 43 ∨ x = 45 ∨ x = 47 ∨ x = 60 ∨ x = 61 ∨ x = 62) (a b : Int32) (s : List Int32) : stp e (ng x) (b :: a :: s) = some (jn (nI x) a b :: s) := by
  have hn : -(ng x) = nI x := by unfold ng; exact Int32.neg_neg
  rcases hx with rfl | rfl | rfl | rfl | rfl | rfl | rfl <;>
  · unfold stp
    rw [if_neg (by decide), if_neg (by decide), if_neg (by decide), if_neg (by decide), if_neg (by decide), if_neg (by decide), hn]
theorem jn_42 (a b : Int32) : jn (nI 42) a b = a * b := rfl
theorem jn_43 (a b : Int32) : jn (nI 43) a b = a + b := rfl
theorem jn_45 (a b : Int32) : jn (nI 45) a b = a - b := rfl
theorem jn_47 (a b : Int32) : jn (nI 47) a b = (if b = 0 then 0 else a / b) := by
  unfold jn f_Ha_joined
  rw [if_neg (by decide), if_neg (by decide), if_neg (by decide), if_pos (by decide)]
  by_cases h : b = 0
  · rw [if_pos h, if_pos h]; rfl
  · rw [if_neg h, if_neg h, rg_t h]; rfl
theorem jn_60 (a b : Int32) : jn (nI 60) a b = (if b ≤ a then 0 else 1) := by
  unfold jn f_Ha_joined
  rw [if_neg (by decide), if_neg (by decide), if_neg (by decide), if_neg (by decide), if_pos (by decide)]
  by_cases h : b ≤ a
  · rw [if_pos h, if_pos h]; rfl
  · rw [if_neg h, if_neg h]; rfl
theorem jn_62 (a b : Int32) : jn (nI 62) a b = (if a ≤ b then 0 else 1) := by
  unfold jn f_Ha_joined
  rw [if_neg (by decide), if_neg (by decide), if_neg (by decide), if_neg (by decide), if_neg (by decide), if_pos (by decide)]
  by_cases h : a ≤ b
  · rw [if_pos h, if_pos h]; rfl
  · rw [if_neg h, if_neg h]; rfl
theorem jn_61 (a b : Int32) : jn (nI 61) a b = (if a = b then 1 else 0) := by
  unfold jn f_Ha_joined
  rw [if_neg (by decide), if_neg (by decide), if_neg (by decide), if_neg (by decide), if_neg (by decide), if_neg (by decide)]
  by_cases h : a = b
  · rw [if_pos h, if_pos h]; rfl
  · rw [if_neg h, if_neg h]; rfl
theorem fl_app : ∀ (X Y : List Nat) (D : List Int32), fl (X ++ Y) D = fl Y (fl X D)
  | [], Y, D => rfl
  | a :: X, Y, D => by
    show fl (X ++ Y) (ng a :: D) = fl Y (fl X (ng a :: D))
    exact fl_app X Y _
def tbd : List Nat → Nat
  | [] => 0
  | a :: _ => bd a
theorem pp_stop {k : Nat} {W : List Nat} (h : tbd W < k) (D : List Int32) : pp k W D = (W, D) := by
  cases W with
  | nil => rfl
  | cons a W =>
    unfold pp
    rw [if_neg (by have h : bd a < k := h; omega)]
theorem pp_all {k : Nat} {W : List Nat} : ∀ {X : List Nat} (D : List Int32), (∀ a, a ∈ X → k ≤ bd a) → pp k (X ++ W) D = pp k W (fl X D)
  | [], D, _ => rfl
  | a :: X, D, h => by
    show (if k ≤ bd a then pp k (X ++ W) (ng a :: D) else (a :: (X ++ W), D)) = pp k W (fl X (ng a :: D))
    rw [if_pos (h a List.mem_cons_self)]
    exact pp_all (ng a :: D) (fun b hb => h b (List.mem_cons_of_mem _ hb))
theorem cl_all {W : List Nat} : ∀ {X : List Nat} (D : List Int32), (∀ a, a ∈ X → 1 ≤ bd a) → cl (X ++ 40 :: W) D = (40 :: W, fl X D)
  | [], D, _ => by
    show cl (40 :: W) D = _
    unfold cl
    rw [if_pos rfl]; rfl
  | a :: X, D, h => by
    show cl (a :: (X ++ 40 :: W)) D = (40 :: W, fl X (ng a :: D))
    unfold cl
    rw [if_neg (fun z => by have := h a List.mem_cons_self; rw [z] at this; exact absurd this (by decide))]
    exact cl_all (ng a :: D) (fun b hb => h b (List.mem_cons_of_mem _ hb))
section TKS
variable {W X : List Nat} {D : List Int32} {dp dg : Nat} {cm : Nat → Bool}
theorem tks_op {x : Nat} (hd : ¬ (48 ≤ x ∧ x ≤ 57)) (h41 : x ≠ 41) (hb : 2 ≤ bo x) (hX : ∀ a, a ∈ X → bo x ≤ bd a) (hW : tbd W < bo x) : tks (X ++ W, D, dp, dg, true, cm) x = some (x :: W, fl X D, dp, 0, false, cm) := by
  show tk (X ++ W) D dp dg true cm x = _
  unfold tk tkB
  rw [if_neg hd, if_neg (by decide), if_neg h41, if_neg (by omega), pp_all D hX, pp_stop hW]
  rw [decide_eq_false (show ¬ bo x = 1 by omega), Bool.or_false]
  congr 6
  funext j
  by_cases z : j = dp
  · rw [if_pos z, z]
  · rw [if_neg z]
theorem tks_cmp {x : Nat} (hd : ¬ (48 ≤ x ∧ x ≤ 57)) (h41 : x ≠ 41) (hb : bo x = 1) (hX : ∀ a, a ∈ X → 1 ≤ bd a) (hW : tbd W < 1) (hc : cm dp = false) : tks (X ++ W, D, dp, dg, true, cm) x = some (x :: W, fl X D, dp, 0, false, fun j => if j = dp then true else cm j) := by
  show tk (X ++ W) D dp dg true cm x = _
  unfold tk tkB
  rw [if_neg hd, if_neg (by decide), if_neg h41, if_neg (fun z => z.elim (fun z => by omega) (fun z => by rw [hc] at z; exact absurd z.2 (by decide))), hb, pp_all D hX, pp_stop hW]
  rw [decide_eq_true (show (1 : Nat) = 1 from rfl), Bool.or_true]
theorem tks_close (hX : ∀ a, a ∈ X → 1 ≤ bd a) : tks (X ++ 40 :: W, D, dp + 1, dg, true, cm) 41 = some (W, fl X D, dp, 0, true, cm) := by
  show tk (X ++ 40 :: W) D (dp + 1) dg true cm 41 = _
  unfold tk tkB
  rw [if_neg (by omega), if_neg (by decide), if_pos rfl, if_neg (by omega), cl_all D hX]
  rfl
/-- behind a thing nothing goes on -/
theorem tks_end {x : Nat} (h41 : x ≠ 41 ∨ dp = 0) (hdg : 48 ≤ x ∧ x ≤ 57 → dg = 0 ∨ dg = 3) (hb : bo x = 0 ∨ (bo x = 1 ∧ cm dp = true)) : tks (W, D, dp, dg, true, cm) x = none := by
  show tk W D dp dg true cm x = _
  unfold tk
  by_cases hd : 48 ≤ x ∧ x ≤ 57
  · rw [if_pos hd]
    unfold tkD
    have := hdg hd
    rw [if_neg (fun z => absurd z.2 (by decide)), if_neg (by omega)]
  · rw [if_neg hd, if_neg (by decide)]
    unfold tkB
    by_cases h : x = 41
    · rw [if_pos h, if_pos (h41.resolve_left (fun z => z h))]
    · rw [if_neg h, if_pos hb]
theorem tks_neg : tks (W, D, dp, 0, false, cm) 45 = some (126 :: W, D, dp, 0, false, cm) := by
  show tk W D dp 0 false cm 45 = _
  unfold tk tkA
  rw [if_neg (by omega), if_pos rfl, if_neg (by decide), if_pos rfl]
theorem tks_opn (h : dp < 4) : tks (W, D, dp, 0, false, cm) 40 = some (40 :: W, D, dp + 1, 0, false, fun j => if j = dp + 1 then false else cm j) := by
  show tk W D dp 0 false cm 40 = _
  unfold tk tkA
  rw [if_neg (by omega), if_pos rfl, if_neg (by decide), if_neg (by omega), if_pos ⟨rfl, h⟩]
theorem isL_dig {x : Nat} (h : isL x = true) : ¬ (48 ≤ x ∧ x ≤ 57) := by
  unfold isL at h
  simp only [Bool.or_eq_true, beq_iff_eq] at h
  omega
theorem tks_let {x : Nat} (h : isL x = true) : tks (W, D, dp, 0, false, cm) x = some (W, ng x :: D, dp, 0, true, cm) := by
  show tk W D dp 0 false cm x = _
  unfold tk tkA
  rw [if_neg (isL_dig h), if_pos rfl, if_pos h]
theorem tks_no {x : Nat} (hd : ¬ (48 ≤ x ∧ x ≤ 57)) (hL : ¬ isL x = true) (h45 : x ≠ 45) (h40 : x = 40 → 4 ≤ dp) : tks (W, D, dp, 0, false, cm) x = none := by
  show tk W D dp 0 false cm x = _
  unfold tk tkA
  rw [if_neg hd, if_pos rfl, if_neg hL, if_neg h45, if_neg (fun z => by have := h40 z.1; omega)]
theorem tks_d1 {x : Nat} (hd : 48 ≤ x ∧ x ≤ 57) : tks (W, D, dp, 0, false, cm) x = some (W, nI (x - 48) :: D, dp, 1, true, cm) := by
  show tk W D dp 0 false cm x = _
  unfold tk tkD
  rw [if_pos hd, if_pos ⟨rfl, rfl⟩]
theorem tks_d2 {x v : Nat} (hd : 48 ≤ x ∧ x ≤ 57) (h1 : 0 < dg) (h3 : dg < 3) : tks (W, nI v :: D, dp, dg, true, cm) x = some (W, nI (10 * v + (x - 48)) :: D, dp, dg + 1, true, cm) := by
  show tk W (nI v :: D) dp dg true cm x = _
  unfold tk tkD
  rw [if_pos hd, if_neg (fun z => absurd z.2 (by decide)), if_pos ⟨h1, h3⟩]
  dsimp only
  rw [show nI v * 10 = nI (v * 10) from pk_mul v 10, nI_add, Nat.mul_comm v 10]
theorem ks_num {tx : Nat → Nat} {p : Nat} : ∀ d, 0 < d → d ≤ 3 → (∀ i, i < d → 48 ≤ tx (p + i) ∧ tx (p + i) ≤ 57) → ks tx d p (W, D, dp, 0, false, cm) = some (W, nI (vl tx p d) :: D, dp, d, true, cm)
  | 0, h, _, _ => absurd h (by omega)
  | 1, _, _, h => by
    refine ks_one ?_
    have h0 := h 0 (by omega)
    rw [Nat.add_zero] at h0
    rw [tks_d1 h0]
    show _ = some (W, nI (10 * 0 + (tx (p + 0) - 48)) :: D, dp, 1, true, cm)
    rw [Nat.mul_zero, Nat.zero_add]; rfl
  | d + 2, _, h3, h => by
    refine ks_cat (n := d + 1) (m := 1) (ks_num (d + 1) (by omega) (by omega) (fun i hi => h i (by omega))) (ks_one ?_)
    rw [tks_d2 (h (d + 1) (by omega)) (by omega) (by omega)]
    rfl
end TKS
