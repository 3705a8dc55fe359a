def cw_L : rh_L := [.inr 10, .inl (0, 80), .inr 6, .inl (0, 11), .inr 0, .inl (0, 9), .inr 4, .inl (0, 48), .inl (0, 48), .inl (0, 48), .inl (0, 48), .inl (3, 5), .inl (0, 512), .inr 2, .inl (0, 9), .inl (0, 11), .inl (0, 132), .inl (0, 22), .inl (3, 2), .inr 3, .inl (0, 9), .inr 1, .inl (0, 24), .inl (0, 24), .inl (0, 24), .inr 9, .inl (0, 6), .inl (0, 6), .inl (0, 9), .inl (1, 10), .inl (1, 512), .inl (0, 512), .inr 5, .inl (1, 160), .inr 7, .inl (0, 10), .inl (0, 10), .inl (0, 10), .inl (0, 10), .inl (0, 10), .inl (0, 3), .inl (0, 512)]
def cw_X : rh_L := [.inr 8, .inl (0, 9), .inl (0, 9), .inl (0, 10500), .inl (0, 21), .inl (0, 10500), .inl (0, 1024)]
def cw_R (sv : Option Nat) : Nat → Nat → Option Nat := fun o k => (([[some 1, none, some 2, some 4, some 13, some 19, some 21, some 25, some 32, some 34, some 40, some 41, sv], [], [some 3, none], [], [none, none, some 5, some 6, some 12], [], [some 7, none, some 8, some 9, none, some 10, none, some 11, none, none, none], [], [], [], [], [], [], [some 4, none, none, some 14, some 15, some 16, none, some 17, some 18], [], [], [], [], [], [some 20, none, none, none, none, none], [], [some 22, some 23, some 24, none, none, none, none], [], [], [], [none, some 26, some 27, some 28, some 29, some 30, some 31], [], [], [], [], [], [], [some 4, some 33, none, none, none], [], [some 4, none, some 35, some 36, some 37, some 38, some 39, none], [], [], [], [], [], [], [], [some 4, some 13, some 43, none, some 44, some 45, some 46, some 47, some 48, none], [], [], [], [], [], []] : List (List (Option Nat))).getD o []).getD k none
def mw_L : rh_L := [.inr 11, .inl (0, 11), .inl (0, 9), .inl (0, 3), .inl (2, 80), .inl (0, 16), .inl (0, 18), .inl (2, 40), .inl (0, 9), .inl (0, 512), .inl (0, 132), .inl (0, 11), .inl (0, 11), .inl (0, 240), .inl (0, 12), .inl (0, 9), .inl (0, 9), .inl (3, 32768), .inl (3, 10752), .inl (3, 10752), .inl (1, 10500), .inl (0, 21), .inl (0, 11), .inl (0, 30), .inl (0, 10), .inl (0, 81), .inl (0, 9), .inl (0, 9), .inl (0, 22), .inl (3, 2), .inl (0, 2)]
def mw_R (rd : Option Nat) : Nat → Nat → Option Nat := fun o k => (([[some 1, none, none, some 2, some 3, some 4, none, some 5, none, none, rd, none, none, none, none, some 6, some 7, none, none, none, none, some 8, some 9, some 10, none, some 11, some 12, some 13, some 14, none, some 15, some 16, some 17, some 18, some 19, some 20, some 21, some 22, some 23, none, none, none, none, none, some 24, some 25, some 26, some 27, none, none, some 28, some 29, some 30], [], [], [], [], [], [], [], [], [], [], [], [], [], [], [], [], [], [], [], [], [], [], [], [], [], [], [], [], [], []] : List (List (Option Nat))).getD o []).getD k none
theorem rh_go {L : rh_L} {d j nL : Nat} {a : List Value} {h h' : rh_H} {v : Option Value} {y : MethodName} {c : ByteArray} {ret : Option FieldType} {P : rh_P} {lv : List (Option Value)} (e : rh_PT j = (y, c, nL, ret, P)) (hl : (rh_ea a).length ≤ nL) (hlv : rh_ent nL a = lv) (k : rh_Ex (rh_M rh_PT L d) L P ((0, lv, []), h) v h') : rh_M rh_PT L (d + 1) j a h v h' := by
  subst hlv
  unfold rh_M
  rw [e]
  exact ⟨hl, k⟩
theorem rh_gp {α : Type} {g : Prop} [Decidable g] {x : Option α} (h : g) : rh_g g x = x := if_pos h
theorem mw_set (rd : Option Nat) (q : Nat) : rh_up (mw_R rd) 0 10 (some q) = mw_R (some q) := by
  funext o k
  unfold rh_up
  by_cases ho : o = 0
  · subst ho
    by_cases hk : k = 10
    · subst hk; rfl
    · rw [if_neg (by omega)]
      by_cases h1 : k < 10
      · rcases (show k = 0 ∨ k = 1 ∨ k = 2 ∨ k = 3 ∨ k = 4 ∨ k = 5 ∨ k = 6 ∨ k = 7 ∨ k = 8 ∨ k = 9 by omega) with h | h | h | h | h | h | h | h | h | h <;> subst h <;> rfl
      · obtain ⟨j, rfl⟩ : ∃ j, k = j + 11 := ⟨k - 11, by omega⟩
        rfl
  · rw [if_neg (by omega)]
    obtain ⟨j, rfl⟩ : ∃ j, o = j + 1 := ⟨o - 1, by omega⟩
    rfl
theorem mw_set2 (q q' : Nat) : rh_up (mw_R (some q')) 0 10 (some q) = mw_R (some q) := mw_set (some q') q
section ST
variable {L : rh_L} {pc t : Nat} {lv : List (Option Value)} {r : List Value} {h : rh_H}
theorem st_ifeq_p {x : Int32} (q : x = 0) : i_ifeq t L ((pc, lv, .int x :: r), h) = some ((t, lv, r), h) := if_pos q
theorem st_ifeq_n {x : Int32} (q : ¬ (x = 0)) : i_ifeq t L ((pc, lv, .int x :: r), h) = some ((pc + 3, lv, r), h) := if_neg q
theorem st_iceq_p {x y : Int32} (q : x = y) : i_iceq t L ((pc, lv, .int y :: .int x :: r), h) = some ((t, lv, r), h) := if_pos q
theorem st_iceq_n {x y : Int32} (q : ¬ (x = y)) : i_iceq t L ((pc, lv, .int y :: .int x :: r), h) = some ((pc + 3, lv, r), h) := if_neg q
theorem st_ifne_p {x : Int32} (q : x = 0) : i_ifne t L ((pc, lv, .int x :: r), h) = some ((pc + 3, lv, r), h) := if_pos q
theorem st_ifne_n {x : Int32} (q : ¬ (x = 0)) : i_ifne t L ((pc, lv, .int x :: r), h) = some ((t, lv, r), h) := if_neg q
theorem st_icne_p {x y : Int32} (q : x = y) : i_icne t L ((pc, lv, .int y :: .int x :: r), h) = some ((pc + 3, lv, r), h) := if_pos q
theorem st_icne_n {x y : Int32} (q : ¬ (x = y)) : i_icne t L ((pc, lv, .int y :: .int x :: r), h) = some ((t, lv, r), h) := if_neg q
theorem st_iflt_p {x : Int32} (q : x < 0) : i_iflt t L ((pc, lv, .int x :: r), h) = some ((t, lv, r), h) := if_pos q
theorem st_iflt_n {x : Int32} (q : ¬ (x < 0)) : i_iflt t L ((pc, lv, .int x :: r), h) = some ((pc + 3, lv, r), h) := if_neg q
theorem st_iclt_p {x y : Int32} (q : x < y) : i_iclt t L ((pc, lv, .int y :: .int x :: r), h) = some ((t, lv, r), h) := if_pos q
theorem st_iclt_n {x y : Int32} (q : ¬ (x < y)) : i_iclt t L ((pc, lv, .int y :: .int x :: r), h) = some ((pc + 3, lv, r), h) := if_neg q
theorem st_ifge_p {x : Int32} (q : 0 ≤ x) : i_ifge t L ((pc, lv, .int x :: r), h) = some ((t, lv, r), h) := if_pos q
theorem st_ifge_n {x : Int32} (q : ¬ (0 ≤ x)) : i_ifge t L ((pc, lv, .int x :: r), h) = some ((pc + 3, lv, r), h) := if_neg q
theorem st_icge_p {x y : Int32} (q : y ≤ x) : i_icge t L ((pc, lv, .int y :: .int x :: r), h) = some ((t, lv, r), h) := if_pos q
theorem st_icge_n {x y : Int32} (q : ¬ (y ≤ x)) : i_icge t L ((pc, lv, .int y :: .int x :: r), h) = some ((pc + 3, lv, r), h) := if_neg q
theorem st_ifgt_p {x : Int32} (q : 0 < x) : i_ifgt t L ((pc, lv, .int x :: r), h) = some ((t, lv, r), h) := if_pos q
theorem st_ifgt_n {x : Int32} (q : ¬ (0 < x)) : i_ifgt t L ((pc, lv, .int x :: r), h) = some ((pc + 3, lv, r), h) := if_neg q
theorem st_icgt_p {x y : Int32} (q : y < x) : i_icgt t L ((pc, lv, .int y :: .int x :: r), h) = some ((t, lv, r), h) := if_pos q
theorem st_icgt_n {x y : Int32} (q : ¬ (y < x)) : i_icgt t L ((pc, lv, .int y :: .int x :: r), h) = some ((pc + 3, lv, r), h) := if_neg q
theorem st_ifle_p {x : Int32} (q : x ≤ 0) : i_ifle t L ((pc, lv, .int x :: r), h) = some ((t, lv, r), h) := if_pos q
theorem st_ifle_n {x : Int32} (q : ¬ (x ≤ 0)) : i_ifle t L ((pc, lv, .int x :: r), h) = some ((pc + 3, lv, r), h) := if_neg q
theorem st_icle_p {x y : Int32} (q : x ≤ y) : i_icle t L ((pc, lv, .int y :: .int x :: r), h) = some ((t, lv, r), h) := if_pos q
theorem st_icle_n {x y : Int32} (q : ¬ (x ≤ y)) : i_icle t L ((pc, lv, .int y :: .int x :: r), h) = some ((pc + 3, lv, r), h) := if_neg q
theorem st_iald {a n : Nat} {i : Int32} (hL : L[a]? = some (.inl (0, n))) (q : 0 ≤ i.toInt ∧ i.toInt < (n : Int)) : i_iald L ((pc, lv, .int i :: .ref a :: r), h) = some ((pc + 1, lv, .int (h.1 a i.toNatClampNeg) :: r), h) := by
  unfold i_iald rh_pir
  dsimp only
  unfold rh_ka
  rw [hL]
  exact if_pos q
theorem st_bald {a n : Nat} {i : Int32} (hL : L[a]? = some (.inl (2, n))) (q : 0 ≤ i.toInt ∧ i.toInt < (n : Int)) : i_bald L ((pc, lv, .int i :: .ref a :: r), h) = some ((pc + 1, lv, .int (h.1 a i.toNatClampNeg) :: r), h) := by
  unfold i_bald rh_pir
  dsimp only
  unfold rh_ka
  rw [hL]
  exact if_pos q
theorem st_zald {a n : Nat} {i : Int32} (hL : L[a]? = some (.inl (3, n))) (q : 0 ≤ i.toInt ∧ i.toInt < (n : Int)) : i_zald L ((pc, lv, .int i :: .ref a :: r), h) = some ((pc + 1, lv, .int (h.1 a i.toNatClampNeg) :: r), h) := by
  unfold i_zald rh_pir
  dsimp only
  unfold rh_ka
  rw [hL]
  exact if_pos q
theorem st_lald {a n : Nat} {i : Int32} (hL : L[a]? = some (.inl (1, n))) (q : 0 ≤ i.toInt ∧ i.toInt < (n : Int)) : i_lald L ((pc, lv, .int i :: .ref a :: r), h) = some ((pc + 1, lv, .long (h.2.1 a i.toNatClampNeg) :: r), h) := by
  unfold i_lald rh_pir
  dsimp only
  unfold rh_ka
  rw [hL]
  exact if_pos q
theorem st_iast {a n : Nat} {i x : Int32} (hL : L[a]? = some (.inl (0, n))) (q : 0 ≤ i.toInt ∧ i.toInt < (n : Int)) : i_iast L ((pc, lv, .int x :: .int i :: .ref a :: r), h) = some ((pc + 1, lv, r), (rh_up h.1 a i.toNatClampNeg x, h.2)) := by
  unfold i_iast rh_piir
  dsimp only
  unfold rh_ka
  rw [hL]
  exact if_pos q
theorem st_bast {a n : Nat} {i x : Int32} (hL : L[a]? = some (.inl (2, n))) (q : 0 ≤ i.toInt ∧ i.toInt < (n : Int)) : i_bast L ((pc, lv, .int x :: .int i :: .ref a :: r), h) = some ((pc + 1, lv, r), (rh_up h.1 a i.toNatClampNeg x.toInt8.toInt32, h.2)) := by
  unfold i_bast rh_piir
  dsimp only
  unfold rh_ka
  rw [hL]
  exact if_pos q
theorem st_zast {a n : Nat} {i x : Int32} (hL : L[a]? = some (.inl (3, n))) (q : 0 ≤ i.toInt ∧ i.toInt < (n : Int)) : i_zast L ((pc, lv, .int x :: .int i :: .ref a :: r), h) = some ((pc + 1, lv, r), (rh_up h.1 a i.toNatClampNeg (x &&& 1), h.2)) := by
  unfold i_zast rh_piir
  dsimp only
  unfold rh_ka
  rw [hL]
  exact if_pos q
theorem st_last {a n : Nat} {i : Int32} {x : Int64} (hL : L[a]? = some (.inl (1, n))) (q : 0 ≤ i.toInt ∧ i.toInt < (n : Int)) : i_last L ((pc, lv, .long x :: .int i :: .ref a :: r), h) = some ((pc + 1, lv, r), (h.1, rh_up h.2.1 a i.toNatClampNeg x, h.2.2)) := by
  unfold i_last rh_plir
  dsimp only
  unfold rh_ka
  rw [hL]
  exact if_pos q
theorem st_idiv {x y : Int32} (q : ¬ y = 0) : i_idiv L ((pc, lv, .int y :: .int x :: r), h) = some ((pc + 1, lv, .int (x / y) :: r), h) := if_pos q
theorem st_irem {x y : Int32} (q : ¬ y = 0) : i_irem L ((pc, lv, .int y :: .int x :: r), h) = some ((pc + 1, lv, .int (x - x / y * y) :: r), h) := if_pos q
theorem st_ldiv {x y : Int64} (q : ¬ y = 0) : i_ldiv L ((pc, lv, .long y :: .long x :: r), h) = some ((pc + 1, lv, .long (x / y) :: r), h) := if_pos q
theorem st_lrem {x y : Int64} (q : ¬ y = 0) : i_lrem L ((pc, lv, .long y :: .long x :: r), h) = some ((pc + 1, lv, .long (x - x / y * y) :: r), h) := if_pos q
theorem st_putZ {ci k o : Nat} {x : Int32} (hL : L[o]? = some (.inr ci)) (q : x = 0 ∨ x = 1) : i_putZ ci k L ((pc, lv, .int x :: .ref o :: r), h) = some ((pc + 3, lv, r), (rh_up h.1 o k x, h.2)) := by
  unfold i_putZ rh_pir
  dsimp only
  unfold rh_ko
  rw [hL]
  dsimp only
  rw [Nat.beq_refl]
  exact if_pos q
theorem st_mmin {x y : Int32} (q : rh_cs r ≤ 8) : i_mmin L ((pc, lv, .int y :: .int x :: r), h) = some ((pc + 3, lv, .int (if y < x then y else x) :: r), h) := if_pos q
theorem st_mmax {x y : Int32} (q : rh_cs r ≤ 8) : i_mmax L ((pc, lv, .int y :: .int x :: r), h) = some ((pc + 3, lv, .int (if x < y then y else x) :: r), h) := if_pos q
theorem st_mabs {x : Int32} (q : rh_cs r ≤ 8) : i_mabs L ((pc, lv, .int x :: r), h) = some ((pc + 3, lv, .int (if 0 ≤ x then x else 0 - x) :: r), h) := if_pos q
theorem st_lals {i : Int32} (q : 0 ≤ i.toInt ∧ i.toInt < ((6 : Nat) : Int)) : i_lals L ((pc, lv, .int i :: .ref 1000 :: r), h) = some ((pc + 1, lv, .long (rh_GW i.toNatClampNeg) :: r), h) := if_pos ⟨rfl, q⟩
theorem st_ials {i : Int32} (q : 0 ≤ i.toInt ∧ i.toInt < ((9 : Nat) : Int)) : i_ials L ((pc, lv, .int i :: .ref 1001 :: r), h) = some ((pc + 1, lv, .int (rh_UN i.toNatClampNeg) :: r), h) := if_pos ⟨rfl, q⟩
theorem st_cpy {n dp sp : Int32} {a a0 n0 n1 : Nat} (h0 : L[a0]? = some (.inl (0, n0))) (h1 : L[a]? = some (.inl (0, n1))) (q : rh_cs r ≤ 8 ∧ ¬ sp < 0 ∧ ¬ dp < 0 ∧ ¬ n < 0 ∧ sp.toNatClampNeg + n.toNatClampNeg ≤ n0 ∧ dp.toNatClampNeg + n.toNatClampNeg ≤ n1) : i_cpy L ((pc, lv, .int n :: .int dp :: .ref a :: .int sp :: .ref a0 :: r), h) = some ((pc + 3, lv, r), (rh_upA h.1 a (va_cpy (h.1 a0) (h.1 a) sp.toNatClampNeg dp.toNatClampNeg n.toNatClampNeg), h.2)) := by
  unfold i_cpy rh_piirir
  dsimp only
  unfold rh_ka
  rw [h0, h1]
  exact if_pos q
end ST
