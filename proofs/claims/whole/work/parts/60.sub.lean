/-! going through the parts of a set, downward and upward -/
theorem and2 (a b : Nat) : (a &&& b) / 2 = a / 2 &&& b / 2 := by
  apply Nat.eq_of_testBit_eq
  intro i
  rw [← Nat.testBit_succ, Nat.testBit_and, Nat.testBit_and, ← Nat.testBit_succ, ← Nat.testBit_succ]
theorem andm (a b : Nat) : (a &&& b) % 2 = 1 ↔ a % 2 = 1 ∧ b % 2 = 1 := by
  have h := Nat.testBit_and a b 0
  rw [Nat.testBit_zero, Nat.testBit_zero, Nat.testBit_zero] at h
  constructor
  · intro z
    rw [decide_eq_true z] at h
    have h := h.symm
    rw [Bool.and_eq_true, decide_eq_true_eq, decide_eq_true_eq] at h
    exact h
  · rintro ⟨z1, z2⟩
    rw [decide_eq_true z1, decide_eq_true z2] at h
    exact of_decide_eq_true h
theorem pv : ∀ (x M q : Nat), x &&& M = x → q &&& M = q → q < x → q ≤ (x - 1) &&& M := by
  intro x
  induction x using Nat.strongRecOn with
  | _ x ih =>
    intro M q hx hq h
    have x2 := and2 x M
    have q2 := and2 q M
    rw [hx] at x2
    rw [hq] at q2
    have y2 := and2 (x - 1) M
    have y1 := andm (x - 1) M
    by_cases hp : x % 2 = 1
    · rw [show (x - 1) / 2 = x / 2 by omega, ← x2] at y2
      omega
    · have := ih (x / 2) (by omega) (M / 2) (q / 2) x2.symm q2.symm (by omega)
      rw [show (x - 1) / 2 = x / 2 - 1 by omega] at y2
      have q1 := andm q M
      rw [hq] at q1
      rcases (show q % 2 = 1 ∨ q % 2 = 0 by omega) with z | z
      · have := y1.mpr ⟨by omega, (q1.mp z).2⟩
        omega
      · omega
theorem sub_c : ∀ (M q : Nat), q &&& M = q → (M - q) &&& M = M - q ∧ q ≤ M := by
  intro M
  induction M using Nat.strongRecOn with
  | _ M ih =>
    intro q hq
    have q2 := and2 q M
    rw [hq] at q2
    have hle : q ≤ M := by rw [← hq]; exact Nat.and_le_right
    refine ⟨?_, hle⟩
    by_cases h0 : M = 0
    · subst h0; rw [Nat.and_zero]; omega
    have := (ih (M / 2) (by omega) (q / 2) q2.symm)
    have q1 := andm q M
    rw [hq] at q1
    have hm : q % 2 = 1 → M % 2 = 1 := fun z => (q1.mp z).2
    have y2 := and2 (M - q) M
    have y1 := andm (M - q) M
    have e1 : (M - q) / 2 = M / 2 - q / 2 := by
      rcases (show q % 2 = 1 ∨ q % 2 = 0 by omega) with z | z
      · have := hm z; omega
      · omega
    rw [e1, this.1] at y2
    rcases (show (M - q) % 2 = 1 ∨ (M - q) % 2 = 0 by omega) with z | z
    · have hM : M % 2 = 1 := by
        rcases (show q % 2 = 1 ∨ q % 2 = 0 by omega) with w | w
        · exact hm w
        · omega
      have := y1.mpr ⟨z, hM⟩
      omega
    · have : ¬ ((M - q) &&& M) % 2 = 1 := fun w => by have := (y1.mp w).1; omega
      omega
def nxt (x M : Nat) : Nat := M - ((M - x - 1) &&& M)
theorem nxt_ok {x M : Nat} (hx : x &&& M = x) (h : x < M) : x < nxt x M ∧ nxt x M &&& M = nxt x M ∧ nxt x M ≤ M ∧ ∀ q, q &&& M = q → x < q → nxt x M ≤ q := by
  have hs := sub_c M x hx
  have hp : (M - x - 1) &&& M ≤ M - x - 1 := Nat.and_le_left
  have hpm : ((M - x - 1) &&& M) &&& M = (M - x - 1) &&& M := by rw [Nat.and_assoc, Nat.and_self]
  unfold nxt
  refine ⟨by omega, (sub_c M _ hpm).1, by omega, fun q hq hlt => ?_⟩
  have hs2 := sub_c M q hq
  have := pv (M - x) M (M - q) hs.1 hs2.1 (by omega)
  omega
theorem negx {y : Nat} (hy : 0 < y) (hy2 : y < 2 ^ 31) : -(nI y) = nI (y - 1) ^^^ -1 := by
  have h : ∀ b : BitVec 32, -b = (b - 1) ^^^ (-1 : BitVec 32) := by
    intro b
    rw [show (-1 : BitVec 32) = BitVec.allOnes 32 from by decide, BitVec.xor_allOnes]
    exact (BitVec.neg_eq_not_add b).trans (BitVec.not_sub_one_eq_not_add_one).symm
  apply Int32.toBitVec_inj.mp
  rw [show nI (y - 1) = nI y - 1 from (pk_sub (a := y) (b := 1) (by omega)).symm]
  exact h (nI y).toBitVec
theorem nxtI {x M : Nat} (hx : x &&& M = x) (h : x < M) (hM : M < 2 ^ 31) : (nI x - nI M) &&& nI M = nI (nxt x M) := by
  have h1 : nI x - nI M = -(nI (M - x)) := by
    rw [show nI (M - x) = nI M - nI x from (pk_sub (by omega)).symm, Int32.neg_sub]
  rw [h1, negx (by omega) (by omega), Int32.and_comm, andn']
  congr 1
  unfold nxt
  have hpm : ((M - x - 1) &&& M) &&& M = (M - x - 1) &&& M := by rw [Nat.and_assoc, Nat.and_self]
  -- what the mask takes away is a difference
  have key : ∀ (M u : Nat), M < 2 ^ 31 → nand M u + (u &&& M) = M := by
    intro M
    induction M using Nat.strongRecOn with
    | _ M ih =>
      intro u hM
      by_cases h0 : M = 0
      · subst h0; rw [Nat.and_zero]; have := nand_le 0 u; omega
      have e1 := ih (M / 2) (by omega) (u / 2) (by omega)
      have e2 := and2 u M
      have e3 := andm u M
      have e4 : nand M u / 2 = nand (M / 2) (u / 2) := by
        apply Nat.eq_of_testBit_eq
        intro i
        rw [← Nat.testBit_succ, nand_bit M u hM, nand_bit _ _ (by omega), ← Nat.testBit_succ, ← Nat.testBit_succ]
      have e5 : nand M u % 2 = 1 ↔ M % 2 = 1 ∧ ¬ u % 2 = 1 := by
        have h := nand_bit M u hM 0
        rw [Nat.testBit_zero, Nat.testBit_zero, Nat.testBit_zero] at h
        rw [← decide_eq_true_eq (p := nand M u % 2 = 1), h, Bool.and_eq_true, decide_eq_true_eq, Bool.not_eq_true', decide_eq_false_iff_not]
      rcases (show M % 2 = 1 ∨ M % 2 = 0 by omega) with z | z
      · rcases (show u % 2 = 1 ∨ u % 2 = 0 by omega) with w | w
        · have h6 := e3.mpr ⟨w, z⟩
          have h7 : ¬ nand M u % 2 = 1 := fun q => (e5.mp q).2 w
          omega
        · have h6 := e5.mpr ⟨z, by omega⟩
          have h7 : ¬ (u &&& M) % 2 = 1 := fun q => by have := (e3.mp q).1; omega
          omega
      · have h6 : ¬ nand M u % 2 = 1 := fun q => by have := (e5.mp q).1; omega
        have h7 : ¬ (u &&& M) % 2 = 1 := fun q => by have := (e3.mp q).2; omega
        omega
  have := key M (M - x - 1) hM
  omega
theorem nxtI0 (M : Nat) : (nI M - nI M) &&& nI M = 0 := by
  rw [Int32.sub_self, Int32.zero_and]
theorem pvI {x M : Nat} (h : 0 < x) : (nI x - 1) &&& nI M = nI ((x - 1) &&& M) := by
  rw [show nI x - 1 = nI (x - 1) from pk_sub (b := 1) h, fa_and]
