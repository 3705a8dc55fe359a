/-! what class and reference have in common: the relation between their cells -/
abbrev HI : Type := Nat → Nat → Int32
def pC (o k : Nat) : Bool := o == 0 || o == 1 || o == 4 || o == 5 || o == 7 || o == 13 || o == 14 || o == 16 || o == 17 || o == 18 || o == 25 || o == 26 || o == 27 || o == 35 || o == 36 || o == 37 || o == 40 || (o == 6 && k == 1) || (o == 34 && k == 1)
def pM (o k : Nat) : Bool := o == 1 || o == 2 || o == 3 || o == 4 || o == 7 || o == 10 || o == 14 || o == 23 || o == 28 || o == 29 || o == 30 || (o == 0 && (k == 1 || k == 2 || k == 6 || k == 17 || k == 24 || k == 29 || k == 39 || k == 49))
def rC (h : HI) : HI := fun o k => if pC o k = true then h o k else 0
def rM (h : HI) : HI := fun o k => if pM o k = true then h o k else 0
def SC (h h' : HI) : Prop := ∀ o k, pC o k = true → h' o k = h o k
def SM (h h' : HI) : Prop := ∀ o k, pM o k = true → h' o k = h o k
theorem SC.rf {h : HI} : SC h h := fun _ _ _ => rfl
theorem SM.rf {h : HI} : SM h h := fun _ _ _ => rfl
theorem SC.tr {a b c : HI} (h : SC a b) (g : SC b c) : SC a c := fun o k q => (g o k q).trans (h o k q)
theorem SM.tr {a b c : HI} (h : SM a b) (g : SM b c) : SM a c := fun o k q => (g o k q).trans (h o k q)
theorem SC.up {a b : HI} (h : SC a b) (o k : Nat) (v : Int32) (hp : pC o k = false) : SC a (rh_up b o k v) := fun o' k' q => by
  rw [up_f, if_neg (fun e => by rw [e.1, e.2, hp] at q; cases q)]
  exact h o' k' q
theorem SM.up {a b : HI} (h : SM a b) (o k : Nat) (v : Int32) (hp : pM o k = false) : SM a (rh_up b o k v) := fun o' k' q => by
  rw [up_f, if_neg (fun e => by rw [e.1, e.2, hp] at q; cases q)]
  exact h o' k' q
theorem rC_eq {h h' : HI} (g : SC h h') : rC h' = rC h := by
  funext o k
  unfold rC
  by_cases q : pC o k = true
  · rw [if_pos q, if_pos q, g o k q]
  · rw [if_neg q, if_neg q]
theorem rM_eq {h h' : HI} (g : SM h h') : rM h' = rM h := by
  funext o k
  unfold rM
  by_cases q : pM o k = true
  · rw [if_pos q, if_pos q, g o k q]
  · rw [if_neg q, if_neg q]
/-- NOW, who is ABOARD, PLACES, as the class and as the reference hold them -/
def SN (k n : Nat) (cn ca : Int32) (cp m : Nat → Int32) : Prop := (∃ T, T ≤ 2400 * k ∧ cn = nI T ∧ m 10 = nI T) ∧ (∃ a, a < 2 ^ n ∧ ca = nI a ∧ m 9 = nI a) ∧ ∀ i, i < 9 → cp i = m i ∧ -4 ≤ (cp i).toInt ∧ (cp i).toInt ≤ 4 ∧ (n ≤ i → cp i = 0)
theorem SN.mono {k k' n n' : Nat} {cn ca : Int32} {cp m : Nat → Int32} (h : SN k n cn ca cp m) (hk : k ≤ k') (hn : n ≤ n') : SN k' n' cn ca cp m := by
  obtain ⟨⟨T, h1, h2, h3⟩, ⟨a, h4, h5, h6⟩, h7⟩ := h
  refine ⟨⟨T, by omega, h2, h3⟩, ⟨a, Nat.lt_of_lt_of_le h4 (Nat.pow_le_pow_right (by omega) hn), h5, h6⟩, fun i hi => ?_⟩
  obtain ⟨g1, g2, g3, g4⟩ := h7 i hi
  exact ⟨g1, g2, g3, fun h => g4 (by omega)⟩
def RText (c m : HI) : Prop := ∃ t, t ≤ 80 ∧ c 0 1 = nI t ∧ m 0 6 = nI t ∧ ∀ i, i < t → c 1 i = m 4 i &&& 255 ∧ (m 4 i).toInt8.toInt32 = m 4 i
def RFolk (n Pm : Nat) (B : Nat → Nat) (c m : HI) : Prop := n ≤ 9 ∧ c 4 0 = nI n ∧ m 0 1 = nI n ∧ c 4 1 = nI Pm ∧ m 0 2 = nI Pm ∧ Pm < 2 ^ n ∧ ∀ i, i < n → c 5 i = nI (B i) ∧ m 2 i = nI (B i) ∧ 1 ≤ B i ∧ B i ≤ 999
def RBear (c m : HI) : Prop := ∀ i, i < 3 → c 40 i = m 3 i ∧ ∃ v, v ≤ 9999 ∧ c 40 i = nI v
def RTask (c m : HI) : Prop := ∃ q, q ≤ 6 ∧ c 25 0 = nI q ∧ m 0 29 = nI q ∧ ∀ i, i < q → ∃ a b, a ≤ b ∧ b ≤ 9999 ∧ c 26 i = nI a ∧ c 27 i = nI b ∧ m 14 (2 * i) = nI a ∧ m 14 (2 * i + 1) = nI b
def RScal (n : Nat) (c m : HI) : Prop := ∃ q, q ≤ 10 ∧ c 34 1 = nI q ∧ m 0 39 = nI q ∧ ∀ i, i < q → ∃ s a v, s < 2 ^ n ∧ a ≤ 99 ∧ v ≤ 9999 ∧ c 35 i = nI s ∧ c 36 i = nI a ∧ c 37 i = nI v ∧ m 23 (3 * i) = nI s ∧ m 23 (3 * i + 1) = nI a ∧ m 23 (3 * i + 2) = nI v
def RDeck (k n : Nat) (c m : HI) : Prop := SN k n (c 13 1) (c 13 2) (c 14) (m 1)
def RPast (k n : Nat) (c m : HI) : Prop := ∃ q, q ≤ 12 ∧ c 13 6 = nI q ∧ m 0 24 = nI q ∧ ∀ j, j < q → SN k n (c 16 (11 * j)) (c 16 (11 * j + 1)) (fun i => c 16 (11 * j + 2 + i)) (fun i => m 10 (11 * j + i))
def RKept (k n : Nat) (c m : HI) : Prop := ∃ q, q ≤ k ∧ m 0 49 = nI q ∧ ∀ j, j < 2 → ∃ z, z ≤ q ∧ m 30 j = nI z ∧ (m 29 j = 0 ∨ m 29 j = 1) ∧ ((c 18 j = 1 ∧ m 29 j = 1 ∧ z = q ∧ SN k n (c 17 (11 * j)) (c 17 (11 * j + 1)) (fun i => c 17 (11 * j + 2 + i)) (fun i => m 28 (11 * j + i))) ∨ (c 18 j = 0 ∧ (m 29 j = 0 ∨ z ≠ q)))
/-- THE RULE: what a person weighs, out of BASE, BELLS gone by and number, on both sides -/
def RVc (c : HI) (V : Nat → Nat → Nat → Nat) : Prop := ∀ h : HI, h 6 1 = c 6 1 → (∀ i, h 7 i = c 7 i) → ∀ b t w : Nat, 1 ≤ b → b ≤ 999 → t < 2 ^ 30 → w < 9 → ∃ h', f_Ha_weigh h (nI b) (nI (t % 9)) (nI (t / 9)) (nI w) = some (nI (V b t w), h') ∧ ∀ o k, o ≠ 8 → h' o k = h o k
def sM (o k : Nat) : Bool := o == 0 && (k == 11 || k == 12 || k == 13 || k == 14 || k == 18 || k == 19 || k == 20)
def RVm (m : HI) (V : Nat → Nat → Nat → Nat) : Prop := ∀ (h : HI) (rd : Option Nat), h 0 17 = m 0 17 → (∀ i, h 7 i = m 7 i) → ∀ b t w : Nat, 1 ≤ b → b ≤ 999 → t < 2 ^ 30 → w < 9 → ¬ f_Mo_has (h 0 2) (nI w) = 0 → ∃ h' rd', f_Mo_weightBy h rd (nI w) (nI b) (nI t) = some (nI (V b t w), h', rd') ∧ ∀ o k, sM o k = false → h' o k = h o k
def RRule (V : Nat → Nat → Nat → Nat) (c m : HI) : Prop := RVc c V ∧ RVm m V ∧ ∀ b t w, 1 ≤ b → b ≤ 999 → t < 2 ^ 30 → w < 9 → V b t w ≤ 9999
def RQ (k n Pm : Nat) (B : Nat → Nat) (V : Nat → Nat → Nat → Nat) (c m : HI) : Prop := RText c m ∧ RFolk n Pm B c m ∧ RBear c m ∧ RTask c m ∧ RScal n c m ∧ RDeck k n c m ∧ RPast k n c m ∧ RKept k n c m ∧ RRule V c m
def RRow (c m : HI) : Prop := ∃ q, q ≤ 11 ∧ c 2 1 = nI q ∧ m 0 8 = nI q ∧ ∀ i, i < q → c 3 i = m 5 i
/-- the relation, behind at most k calls -/
def RLt (k n Pm : Nat) (B : Nat → Nat) (V : Nat → Nat → Nat → Nat) (hc hm : HI) : Prop := RQ k n Pm B V (rC hc) (rM hm) ∧ RRow hc hm
theorem RQ.mono {k k' n Pm : Nat} {B : Nat → Nat} {V : Nat → Nat → Nat → Nat} {c m : HI} (h : RQ k n Pm B V c m) (hk : k ≤ k') : RQ k' n Pm B V c m := by
  obtain ⟨h1, h2, h3, h4, h5, h6, ⟨q, g1, g2, g3, g4⟩, ⟨q', e1, e2, e3⟩, h9⟩ := h
  refine ⟨h1, h2, h3, h4, h5, h6.mono hk (Nat.le_refl _), ⟨q, g1, g2, g3, fun j hj => (g4 j hj).mono hk (Nat.le_refl _)⟩, ⟨q', by omega, e2, fun j hj => ?_⟩, h9⟩
  obtain ⟨z, a1, a2, a3, a4⟩ := e3 j hj
  refine ⟨z, a1, a2, a3, ?_⟩
  rcases a4 with ⟨b1, b2, b3, b4⟩ | b
  · exact Or.inl ⟨b1, b2, b3, b4.mono hk (Nat.le_refl _)⟩
  · exact Or.inr b
/-- a question: nothing that lasts has changed -/
theorem RLt.ask {k n Pm : Nat} {B : Nat → Nat} {V : Nat → Nat → Nat → Nat} {hc hm hc' hm' : HI} (h : RLt k n Pm B V hc hm) (g1 : SC hc hc') (g2 : SM hm hm') (g3 : RRow hc' hm') : RLt (k + 1) n Pm B V hc' hm' := by
  refine ⟨?_, g3⟩
  rw [rC_eq g1, rM_eq g2]
  exact h.1.mono (Nat.le_succ k)
theorem RRow.kept {c m c' m' : HI} (h : RRow c m) (h1 : c' 2 1 = c 2 1) (h2 : ∀ i, c' 3 i = c 3 i) (h3 : m' 0 8 = m 0 8) (h4 : ∀ i, m' 5 i = m 5 i) : RRow c' m' := by
  obtain ⟨q, g1, g2, g3, g4⟩ := h
  exact ⟨q, g1, h1.trans g2, h3.trans g3, fun i hi => by rw [h2, h4]; exact g4 i hi⟩
