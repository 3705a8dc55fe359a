/-! day: the class's reader sign by sign, the reference's act by act -/
def FD (C0 C : HI) : Prop := ∀ o j, o ≠ 21 → o ≠ 22 → o ≠ 23 → o ≠ 24 → C o j = C0 o j
def FM (M0 M : HI) : Prop := ∀ o j, o ≠ 13 → (o = 0 → j ≠ 13 ∧ j ≠ 14) → M o j = M0 o j
def AC (C M : HI) (j : Nat) : Prop := C 22 j = M 13 (3 * j) ∧ ((C 22 j = 114 ∧ ∃ v, v ≤ 99 ∧ C 24 j = nI v ∧ M 13 (3 * j + 1) = nI v) ∨ (C 22 j = 98 ∧ C 23 j = M 13 (3 * j + 1) ∧ C 24 j = M 13 (3 * j + 2)) ∨ (C 22 j = 111 ∧ C 23 j = M 13 (3 * j + 1)) ∨ (C 22 j = 115 ∧ C 23 j = M 13 (3 * j + 1) ∧ C 24 j = M 13 (3 * j + 2)))
theorem FD.u {C0 C : HI} (f : FD C0 C) (o k : Nat) (v : Int32) (ho : o = 21 ∨ o = 22 ∨ o = 23 ∨ o = 24) : FD C0 (rh_up C o k v) := fun o' j h1 h2 h3 h4 => by
  rw [up_f, if_neg (by omega)]; exact f o' j h1 h2 h3 h4
theorem FM.u {M0 M : HI} (f : FM M0 M) (k : Nat) (v : Int32) : FM M0 (rh_up M 13 k v) := fun o' j h1 h2 => by
  rw [up_f, if_neg (by omega)]; exact f o' j h1 h2
theorem FM.e {M0 M M' : HI} (f : FM M0 M) (e : E34 M M') : FM M0 M' := fun o j h1 h2 => (e o j h2).trans (f o j h1 h2)
theorem AC.fr {C M C' M' : HI} {j n : Nat} (a : AC C M j) (hj : j < n) (h1 : ∀ i, i < n → C' 22 i = C 22 i ∧ C' 23 i = C 23 i ∧ C' 24 i = C 24 i) (h2 : ∀ i, i < 3 * n → M' 13 i = M 13 i) : AC C' M' j := by
  unfold AC
  rw [(h1 j hj).1, (h1 j hj).2.1, (h1 j hj).2.2, h2 _ (by omega), h2 _ (by omega), h2 _ (by omega)]
  exact a
/-- kinds: the sign that begins an act -/
def kC (C : HI) (n x : Nat) : HI := rh_up (rh_up (rh_up (rh_up (rh_up (rh_up (rh_up C 22 n (nI x)) 23 n 0) 24 n 0) 21 3 (nI (n + 1))) 21 5 0) 21 6 0) 21 4 (if x = 114 then 1 else 2)
section DRD
variable {C0 C : HI} {n : Nat}
theorem dk_1 (s0 : C 21 4 = 0) (hn0 : C 21 3 = nI n) (hn : n < 24) {x : Nat} (hx : x = 114 ∨ x = 98 ∨ x = 111 ∨ x = 115) : f_Dr_takes C (nI x) = some (1, kC C n x) := by
  have g := gd_nI (i := n) (N := 24) hn (by omega)
  have j29 : j_Dr_takesKind_24 C (nI x) = some (1, kC C n x) := by
    unfold j_Dr_takesKind_24 j_Dr_takesKind_29 kC
    rw [if_neg (by decide), hn0, if_pos (show nI n < 24 from ltI (s := 24) (by omega) hn), rg_t g, rg_t g, rg_t g, nI_clamp (by omega), nI_1]
    by_cases h : x = 114
    · rw [if_pos (show nI x = 114 by rw [h]; rfl), if_pos h]
    · rw [if_neg (show ¬ nI x = 114 from neI (s := 114) (by omega) (by omega) h), if_neg h]
  unfold f_Dr_takes f_Dr_takesKind
  rw [if_pos s0, j29]
  have w : (some ((1 : Int32), kC C n x)).bind (fun x2 => rh_g (x2.1 = 0 ∨ x2.1 = 1) (some ((x2.1, x2.2)))) = some (1, kC C n x) := by
    rw [Option.bind_some, rg_t (Or.inr rfl)]
  rcases hx with rfl | rfl | rfl | rfl
  · rw [if_pos (show nI 114 = 114 from rfl), w]
  · rw [if_neg (by decide), if_pos (show nI 98 = 98 from rfl), w]
  · rw [if_neg (by decide), if_neg (by decide), if_pos (show nI 111 = 111 from rfl), w]
  · rw [if_neg (by decide), if_neg (by decide), if_neg (by decide), if_pos (show nI 115 = 115 from rfl), w]
theorem dk_0 (s0 : C 21 4 = 0) {x : Nat} (hx2 : x < 256) (hx : ¬ (x = 114 ∨ x = 98 ∨ x = 111 ∨ x = 115)) : f_Dr_takes C (nI x) = some (0, C) := by
  unfold f_Dr_takes f_Dr_takesKind j_Dr_takesKind_29
  rw [if_pos s0, if_neg (show ¬ nI x = 114 from neI (s := 114) (by omega) (by omega) (by omega)), if_neg (show ¬ nI x = 98 from neI (s := 98) (by omega) (by omega) (by omega)), if_neg (show ¬ nI x = 111 from neI (s := 111) (by omega) (by omega) (by omega)), if_neg (show ¬ nI x = 115 from neI (s := 115) (by omega) (by omega) (by omega)), if_pos rfl, Option.bind_some, rg_t (Or.inl rfl)]
theorem dk_s {s : Nat} (hs : 1 ≤ s) (hs5 : s ≤ 5) (hs0 : C 21 4 = nI s) {x : Nat} (hx : x < 256) : f_Dr_takes C (nI x) = if x = 59 ∧ ¬ f_Dr_canEnd C = 0 then some (1, rh_up C 21 4 0) else j_Dr_takes_33 C (nI x) := by
  unfold f_Dr_takes
  rw [if_neg (show ¬ C 21 4 = 0 by rw [hs0]; exact neI (s := 0) (by omega) (by omega) (by omega))]
  by_cases h : x = 59
  · rw [if_pos (show nI x = 59 by rw [h]; rfl)]
    by_cases h2 : f_Dr_canEnd C = 0
    · rw [if_pos h2, if_neg (fun z => z.2 h2)]
    · rw [if_neg h2, if_pos ⟨h, h2⟩]
  · rw [if_neg (show ¬ nI x = 59 from neI (s := 59) (by omega) (by omega) h), if_neg (fun z => h z.1)]
theorem dk_j (hn0 : C 21 3 = nI (n + 1)) (hn : n < 24) {s : Nat} (hs5 : s ≤ 5) (hs0 : C 21 4 = nI s) (x : Int32) : j_Dr_takes_33 C x = if s = 1 then (f_Dr_takesNumber C x (nI n)).bind (fun x8 => rh_g (x8.1 = 0 ∨ x8.1 = 1) (some ((x8.1, x8.2)))) else if s = 2 then (f_Dr_takesLetter C x (nI n)).bind (fun x8 => rh_g (x8.1 = 0 ∨ x8.1 = 1) (some ((x8.1, x8.2)))) else if s = 3 then (f_Dr_takesPlace C x (nI n)).bind (fun x8 => rh_g (x8.1 = 0 ∨ x8.1 = 1) (some ((x8.1, x8.2)))) else if s = 4 then (f_Dr_takesWay C x (nI n)).bind (fun x8 => rh_g (x8.1 = 0 ∨ x8.1 = 1) (some ((x8.1, x8.2)))) else some (0, C) := by
  unfold j_Dr_takes_33
  rw [hn0, hs0, show nI (n + 1) - 1 = nI n from pk_sub (a := n + 1) (b := 1) (by omega), if_pos (show 0 ≤ nI n from nI_le (a := 0) (by omega) (by omega)), nI_toInt (by omega)]
  rcases (show s = 0 ∨ s = 1 ∨ s = 2 ∨ s = 3 ∨ s = 4 ∨ s = 5 by omega) with rfl | rfl | rfl | rfl | rfl | rfl <;> rfl
theorem ce_s {s d : Nat} (hs5 : s ≤ 5) (hd : d < 100) (hs0 : C 21 4 = nI s) (hd0 : C 21 5 = nI d) : f_Dr_canEnd C = if s = 5 ∨ (s = 1 ∧ 0 < d) then 1 else 0 := by
  unfold f_Dr_canEnd
  rw [hs0, hd0]
  rcases (show s = 0 ∨ s = 1 ∨ s = 2 ∨ s = 3 ∨ s = 4 ∨ s = 5 by omega) with rfl | rfl | rfl | rfl | rfl | rfl
  · rfl
  · rw [if_neg (by decide), if_pos (by decide)]
    by_cases h : 0 < d
    · rw [if_neg (show ¬ nI d ≤ 0 from nI_ge (b := d) (a := 0) h (by omega)), if_pos (Or.inr ⟨rfl, h⟩)]
    · rw [if_pos (show nI d ≤ 0 by rw [show d = 0 by omega]; decide), if_neg (by omega)]
  · rfl
  · rfl
  · rfl
  · rfl
/-- digits of a ring -/
theorem dn_1 (hn0 : C 21 3 = nI (n + 1)) (hn : n < 24) (hs0 : C 21 4 = nI 1) {d : Nat} (hd : d < 2) (hd0 : C 21 5 = nI d) {v : Nat} (hv : C 24 n = nI v) {x : Nat} (hx1 : 48 ≤ x) (hx2 : x ≤ 57) : f_Dr_takes C (nI x) = some (1, rh_up (rh_up C 24 n (nI (10 * v + (x - 48)))) 21 5 (nI (d + 1))) := by
  have g := gd_nI (i := n) (N := 24) hn (by omega)
  rw [dk_s (s := 1) (by omega) (by omega) hs0 (by omega), if_neg (by omega), dk_j hn0 hn (s := 1) (by omega) hs0, if_pos rfl]
  unfold f_Dr_takesNumber
  rw [if_neg (fun z => (isd (by omega)).mp z ⟨hx1, hx2⟩), hd0, if_pos (show nI d < 2 from ltI (s := 2) (by omega) hd), rg_t g, rg_t g, nI_clamp (by omega), hv, show nI v * 10 = nI (v * 10) from pk_mul _ 10, nI_add, show nI (v * 10 + x) - 48 = nI (v * 10 + x - 48) from pk_sub (b := 48) (by omega), nI_1, Option.bind_some, rg_t (Or.inr rfl), show v * 10 + x - 48 = 10 * v + (x - 48) by omega]
theorem dn_0 (hn0 : C 21 3 = nI (n + 1)) (hn : n < 24) (hs0 : C 21 4 = nI 1) {d : Nat} (hd : d ≤ 2) (hd0 : C 21 5 = nI d) {x : Nat} (hx : x < 256) (h1 : ¬ (x = 59 ∧ 0 < d)) (h2 : d = 2 ∨ ¬ (48 ≤ x ∧ x ≤ 57)) : f_Dr_takes C (nI x) = some (0, C) := by
  rw [dk_s (s := 1) (by omega) (by omega) hs0 hx, ce_s (s := 1) (d := d) (by omega) (by omega) hs0 hd0, if_neg ?_, dk_j hn0 hn (s := 1) (by omega) hs0, if_pos rfl]
  · unfold f_Dr_takesNumber
    by_cases h3 : 48 ≤ x ∧ x ≤ 57
    · rw [if_neg (fun z => (isd hx).mp z h3), hd0, if_neg (show ¬ nI d < 2 from nltI (s := 2) (by omega) (by omega)), Option.bind_some, rg_t (Or.inl rfl)]
    · rw [if_pos ((isd hx).mpr h3), Option.bind_some, rg_t (Or.inl rfl)]
  · rintro ⟨h3, h4⟩
    by_cases h5 : 0 < d
    · exact h1 ⟨h3, h5⟩
    · rw [if_neg (by omega)] at h4; exact h4 rfl
/-- a letter -/
theorem dl_1 (hn0 : C 21 3 = nI (n + 1)) (hn : n < 24) (hs0 : C 21 4 = nI 2) {x : Nat} (hx1 : 97 ≤ x) (hx2 : x ≤ 105) {K : Nat} (hK : K = 98 ∨ K = 111 ∨ K = 115) (h22 : C 22 n = nI K) : f_Dr_takes C (nI x) = some (1, rh_up (rh_up C 23 n (nI (x - 97))) 21 4 (if K = 111 then 5 else if K = 98 then 3 else 4)) := by
  have g := gd_nI (i := n) (N := 24) hn (by omega)
  rw [dk_s (s := 2) (by omega) (by omega) hs0 (by omega), if_neg (by omega), dk_j hn0 hn (s := 2) (by omega) hs0, if_neg (by omega), if_pos rfl]
  unfold f_Dr_takesLetter
  rw [if_neg (show ¬ nI x < 97 from nltI (s := 97) (by omega) (by omega)), if_pos (show nI x ≤ 105 from nI_le (b := 105) hx2 (by omega)), rg_t g, rg_t g, rg_t g, nI_clamp (by omega), show nI x - 97 = nI (x - 97) from pk_sub (b := 97) hx1, show rh_up C 23 n (nI (x - 97)) 22 n = nI K from h22]
  rcases hK with rfl | rfl | rfl
  · rw [if_neg (show ¬ nI 98 = 111 by decide), if_pos (show nI 98 = 98 from rfl), Option.bind_some, rg_t (Or.inr rfl)]; rfl
  · rw [if_pos (show nI 111 = 111 from rfl), Option.bind_some, rg_t (Or.inr rfl)]; rfl
  · rw [if_neg (show ¬ nI 115 = 111 by decide), if_neg (show ¬ nI 115 = 98 by decide), Option.bind_some, rg_t (Or.inr rfl)]; rfl
theorem dl_0 (hn0 : C 21 3 = nI (n + 1)) (hn : n < 24) (hs0 : C 21 4 = nI 2) {d : Nat} (hd : d < 100) (hd0 : C 21 5 = nI d) {x : Nat} (hx : x < 256) (h1 : ¬ (97 ≤ x ∧ x ≤ 105)) : f_Dr_takes C (nI x) = some (0, C) := by
  rw [dk_s (s := 2) (by omega) (by omega) hs0 hx, ce_s (s := 2) (d := d) (by omega) (by omega) hs0 hd0, if_neg (fun z => z.2 (if_neg (by omega))), dk_j hn0 hn (s := 2) (by omega) hs0, if_neg (by omega), if_pos rfl]
  unfold f_Dr_takesLetter
  by_cases h2 : x < 97
  · rw [if_pos (show nI x < 97 from ltI (s := 97) (by omega) h2), Option.bind_some, rg_t (Or.inl rfl)]
  · rw [if_neg (show ¬ nI x < 97 from nltI (s := 97) (by omega) h2), if_neg (show ¬ nI x ≤ 105 from nI_ge (a := 105) (by omega) (by omega)), Option.bind_some, rg_t (Or.inl rfl)]
/-- a place -/
theorem dp_m (hn0 : C 21 3 = nI (n + 1)) (hn : n < 24) (hs0 : C 21 4 = nI 3) (h6 : C 21 6 = 0) : f_Dr_takes C (nI 45) = some (1, rh_up C 21 6 1) := by
  rw [dk_s (s := 3) (by omega) (by omega) hs0 (by omega), if_neg (by omega), dk_j hn0 hn (s := 3) (by omega) hs0, if_neg (by omega), if_neg (by omega), if_pos rfl]
  unfold f_Dr_takesPlace
  rw [if_pos (show nI 45 = 45 from rfl), if_pos h6, Option.bind_some, rg_t (Or.inr rfl)]
theorem dp_d (hn0 : C 21 3 = nI (n + 1)) (hn : n < 24) (hs0 : C 21 4 = nI 3) {x : Nat} (hx1 : 48 ≤ x) (hx2 : x ≤ 57) : f_Dr_takes C (nI x) = some (1, rh_up (rh_up C 24 n (if C 21 6 = 0 then nI (x - 48) else -nI (x - 48))) 21 4 5) := by
  have g := gd_nI (i := n) (N := 24) hn (by omega)
  rw [dk_s (s := 3) (by omega) (by omega) hs0 (by omega), if_neg (by omega), dk_j hn0 hn (s := 3) (by omega) hs0, if_neg (by omega), if_neg (by omega), if_pos rfl]
  unfold f_Dr_takesPlace j_Dr_takesPlace_20
  rw [if_neg (show ¬ nI x = 45 from neI (s := 45) (by omega) (by omega) (by omega)), if_neg (fun z => (isd (by omega)).mp z ⟨hx1, hx2⟩), rg_t g, rg_t g, nI_clamp (by omega), show nI x - 48 = nI (x - 48) from pk_sub (b := 48) hx1]
  by_cases h : C 21 6 = 0
  · rw [if_pos h, if_pos h, Option.bind_some, rg_t (Or.inr rfl)]
  · rw [if_neg h, if_neg h, Option.bind_some, rg_t (Or.inr rfl)]
    congr 4
    rw [show nI (x - 48) = nI x - 48 from (pk_sub (b := 48) hx1).symm, Int32.neg_sub]
theorem dp_0 (hn0 : C 21 3 = nI (n + 1)) (hn : n < 24) (hs0 : C 21 4 = nI 3) {d : Nat} (hd : d < 100) (hd0 : C 21 5 = nI d) {x : Nat} (hx : x < 256) (h1 : ¬ (48 ≤ x ∧ x ≤ 57)) (h2 : x = 45 → ¬ C 21 6 = 0) : f_Dr_takes C (nI x) = some (0, C) := by
  rw [dk_s (s := 3) (by omega) (by omega) hs0 hx, ce_s (s := 3) (d := d) (by omega) (by omega) hs0 hd0, if_neg (fun z => z.2 (if_neg (by omega))), dk_j hn0 hn (s := 3) (by omega) hs0, if_neg (by omega), if_neg (by omega), if_pos rfl]
  have j20 : j_Dr_takesPlace_20 C (nI x) (nI n) = some (0, C) := by
    unfold j_Dr_takesPlace_20
    rw [if_pos ((isd hx).mpr h1)]
  unfold f_Dr_takesPlace
  by_cases h3 : x = 45
  · rw [if_pos (show nI x = 45 by rw [h3]; rfl), if_neg (h2 h3), j20, Option.bind_some, rg_t (Or.inl rfl)]
  · rw [if_neg (show ¬ nI x = 45 from neI (s := 45) (by omega) (by omega) h3), j20, Option.bind_some, rg_t (Or.inl rfl)]
/-- a way -/
theorem dw_1 (hn0 : C 21 3 = nI (n + 1)) (hn : n < 24) (hs0 : C 21 4 = nI 4) {x : Nat} (hx : x = 43 ∨ x = 45) : f_Dr_takes C (nI x) = some (1, rh_up (rh_up C 24 n (if x = 45 then -1 else 1)) 21 4 5) := by
  have g := gd_nI (i := n) (N := 24) hn (by omega)
  rw [dk_s (s := 4) (by omega) (by omega) hs0 (by omega), if_neg (by omega), dk_j hn0 hn (s := 4) (by omega) hs0, if_neg (by omega), if_neg (by omega), if_neg (by omega), if_pos rfl]
  unfold f_Dr_takesWay
  rw [rg_t g, rg_t g, nI_clamp (by omega)]
  rcases hx with rfl | rfl
  · rw [if_pos (show nI 43 = 43 from rfl), if_pos (show nI 43 = 43 from rfl), Option.bind_some, rg_t (Or.inr rfl)]; rfl
  · rw [if_neg (show ¬ nI 45 = 43 by decide), if_pos (show nI 45 = 45 from rfl), if_neg (show ¬ nI 45 = 43 by decide), Option.bind_some, rg_t (Or.inr rfl)]; rfl
theorem dw_0 (hn0 : C 21 3 = nI (n + 1)) (hn : n < 24) (hs0 : C 21 4 = nI 4) {d : Nat} (hd : d < 100) (hd0 : C 21 5 = nI d) {x : Nat} (hx : x < 256) (h1 : ¬ (x = 43 ∨ x = 45)) : f_Dr_takes C (nI x) = some (0, C) := by
  rw [dk_s (s := 4) (by omega) (by omega) hs0 hx, ce_s (s := 4) (d := d) (by omega) (by omega) hs0 hd0, if_neg (fun z => z.2 (if_neg (by omega))), dk_j hn0 hn (s := 4) (by omega) hs0, if_neg (by omega), if_neg (by omega), if_neg (by omega), if_pos rfl]
  unfold f_Dr_takesWay
  rw [if_neg (show ¬ nI x = 43 from neI (s := 43) (by omega) (by omega) (by omega)), if_neg (show ¬ nI x = 45 from neI (s := 45) (by omega) (by omega) (by omega)), Option.bind_some, rg_t (Or.inl rfl)]
/-- behind an act -/
theorem de_0 (hn0 : C 21 3 = nI (n + 1)) (hn : n < 24) (hs0 : C 21 4 = nI 5) {x : Nat} (hx : x < 256) (h1 : ¬ x = 59) : f_Dr_takes C (nI x) = some (0, C) := by
  rw [dk_s (s := 5) (by omega) (by omega) hs0 hx, if_neg (fun z => h1 z.1), dk_j hn0 hn (s := 5) (by omega) hs0, if_neg (by omega), if_neg (by omega), if_neg (by omega), if_neg (by omega)]
theorem de_1 {s d : Nat} (hs5 : s ≤ 5) (hd : d < 100) (hs0 : C 21 4 = nI s) (hd0 : C 21 5 = nI d) (h : s = 5 ∨ (s = 1 ∧ 0 < d)) : f_Dr_takes C (nI 59) = some (1, rh_up C 21 4 0) := by
  rw [dk_s (s := s) (by omega) (by omega) hs0 (by omega), ce_s hs5 hd hs0 hd0, if_pos h, if_pos ⟨rfl, by decide⟩]
end DRD
def dPost (t : Int32) : (HI ⊕ (Int32 × HI)) → Option (Int32 × HI) := fun r6 => match r6 with
  | .inl e7 => if t ≤ (60 : Int32) then (if (f_Dr_canEnd e7) = 0 then some (((-1 : Int32) - (f_Re_faultAt_21 t), e7)) else some (((0 : Int32), e7))) else some (((-1 : Int32) - (60 : Int32), e7))
  | .inr t8 => some t8
theorem da_bL (u e x : Int32) (C : HI) : b_Re_readThrough_Dr_21_1_19 u 60 e (x, C) = if e ≤ x then some (.inr (.inl C)) else rh_g (0 ≤ x.toInt ∧ x.toInt < ((80 : Nat) : Int)) ((f_Dr_takes C (C 1 x.toNatClampNeg)).bind (fun x4 => if x4.1 = 0 then some (.inr (.inr ((-1 : Int32) - (f_Re_faultAt_21 x), x4.2))) else some (.inl (x + (1 : Int32), x4.2)))) := rfl
section DLP
variable {C0 C : HI} {t p N : Nat} {tx : Nat → Nat}
theorem da_stop (hC1 : ∀ i, i < t → C0 1 i = nI (tx i)) (ht : t ≤ 80) (f : FD C0 C) (hp : p ≤ min t 60) (h1 : p < min t 60 → f_Dr_takes C (nI (tx p)) = some (0, C)) (h2 : f_Dr_canEnd C = 0 ∨ p < t) (hN : 1 ≤ N) : (rh_loop (b_Re_readThrough_Dr_21_1_19 (nI t) 60 (nI (min t 60))) N (nI p, C)).bind (dPost (nI t)) = some (-1 - nI p, C) := by
  by_cases hpe : p < min t 60
  · rw [st_e (r := .inr (-1 - nI p, C)) ?_ hN]
    · rfl
    · rw [da_bL, if_neg (nI_ge hpe (by omega)), rg_t (gd_nI (by omega) (by omega)), nI_clamp (by omega), f 1 p (by omega) (by omega) (by omega) (by omega), hC1 p (by omega), h1 hpe, Option.bind_some, if_pos rfl]; rfl
  · rw [st_e (r := .inl C) ?_ hN]
    · show dPost (nI t) (.inl C) = _
      unfold dPost
      dsimp only
      by_cases h3 : t ≤ 60
      · rw [if_pos (show nI t ≤ 60 from nI_le (b := 60) h3 (by omega)), if_pos (h2.resolve_right (by omega)), show p = t by omega]; rfl
      · rw [if_neg (show ¬ nI t ≤ 60 from nI_ge (a := 60) (by omega) (by omega)), show p = 60 by omega]; rfl
    · rw [da_bL, if_pos (nI_le (by omega) (by omega))]
theorem da_fin (hp : p = t) (h6 : t ≤ 60) (h2 : ¬ f_Dr_canEnd C = 0) (hN : 1 ≤ N) : (rh_loop (b_Re_readThrough_Dr_21_1_19 (nI t) 60 (nI (min t 60))) N (nI p, C)).bind (dPost (nI t)) = some (0, C) := by
  rw [st_e (r := .inl C) ?_ hN]
  · show dPost (nI t) (.inl C) = _
    unfold dPost
    dsimp only
    rw [if_pos (show nI t ≤ 60 from nI_le (b := 60) h6 (by omega)), if_neg h2]
  · rw [da_bL, if_pos (nI_le (by omega) (by omega))]
theorem da_go {C' : HI} (hC1 : ∀ i, i < t → C0 1 i = nI (tx i)) (ht : t ≤ 80) (f : FD C0 C) (hp : p < min t 60) (h1 : f_Dr_takes C (nI (tx p)) = some (1, C')) (hN : 1 ≤ N) : rh_loop (b_Re_readThrough_Dr_21_1_19 (nI t) 60 (nI (min t 60))) N (nI p, C) = rh_loop (b_Re_readThrough_Dr_21_1_19 (nI t) 60 (nI (min t 60))) (N - 1) (nI (p + 1), C') := by
  refine st_l ?_ hN
  rw [da_bL, if_neg (nI_ge hp (by omega)), rg_t (gd_nI (by omega) (by omega)), nI_clamp (by omega), f 1 p (by omega) (by omega) (by omega) (by omega), hC1 p (by omega), h1, Option.bind_some, if_neg (show ¬ (1 : Int32) = 0 by decide), nI_1]
end DLP
