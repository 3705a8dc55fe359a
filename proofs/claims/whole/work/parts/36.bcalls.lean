/-! board, off, step as calls -/
section BCALLS
variable {k n Pm : Nat} {B : Nat → Nat} {V : Nat → Nat → Nat → Nat} {T a q : Nat} {c m : HI}
theorem MK.x {c x : HI} (h : MK c x) : XC c x := fun o j hq => h.1 o j (fun z => by subst z; rcases hq with q | q | q; exact absurd (show false = true from q) (by decide); omega; omega)
theorem ATno.xm {c m c' m' : HI} (h : ATno c m c' m') : XM m m' := fun o j hq => h.2 o j (sM_no hq) (fun z => by subst z; rcases hq with q | q | q; exact absurd (show false = true from q) (by decide); omega; omega)
theorem RLa.load (A : RLa k n Pm B V T a q c m) (rd : Option Nat) : RO (f_La_load c) (f_Mo_weightOfAll m rd (nI a) (nI T)) (fun x y => x.1 = y.1 ∧ RLa k n Pm B V T a q x.2 y.2.1) := by
  have hT := A.T30
  unfold f_La_load
  rw [A.ca, A.ct]
  obtain ⟨x, y, e1, e2, h1, h2, h3⟩ := A.tog rd (s := a) (t := T) (p31 A.n9 A.an) (by omega)
  exact ⟨_, _, by rw [e1]; rfl, e2, h1.trans h2.symm, h3⟩
/-- what was tried is done, and what was is remembered -/
theorem dn_at (A : RLa k n Pm B V T a q c m) {c1 c2 m2 : HI} {a' : Nat} {P' : Nat → Int32} (hm : MK c c1) (h : ATok n T c1 m c2 m2 a' P') : OK (f_De_remember c2) (fun x => OK (f_Mo_remember_1 m2) (fun y1 => OK (f_Mo_doTried y1) (fun y => RLa k n Pm B V T a' q x y ∧ ∀ i, i < 9 → y 1 i = P' i))) := by
  obtain ⟨ha', hP, f1, e1, e2, f2, e3, e4, e5⟩ := h
  obtain ⟨q0, g1, g2, g3, g4⟩ := A.1.2.2.2.2.2.2.1
  have g2 : c 13 6 = nI q0 := g2
  have g3 : m 0 24 = nI q0 := g3
  have g4 : ∀ j, j < q0 → SN k n (c 16 (11 * j)) (c 16 (11 * j + 1)) (fun i => c 16 (11 * j + 2 + i)) (fun i => m 10 (11 * j + i)) := g4
  have c2f : ∀ o j, o ≠ 8 → (o = 13 → j ≠ 2) → o ≠ 14 → o ≠ 15 → c2 o j = c o j := fun o j h1 h2 h3 h4 => (f1 o j h1 h2 h3).trans (hm.1 o j h4)
  have hc6 : c2 13 6 = nI q0 := (c2f 13 6 (by omega) (by omega) (by omega) (by omega)).trans g2
  have hm24 : m2 0 24 = nI q0 := (f2 0 24 rfl (by omega)).trans g3
  have ec : c2 16 = c 16 := funext (fun j => c2f 16 j (by omega) (by omega) (by omega) (by omega))
  have em : m2 10 = m 10 := funext (fun j => f2 10 j rfl (by omega))
  have em1 : m2 1 = m 1 := funext (fun j => f2 1 j rfl (by omega))
  have e15 : ∀ j, c2 15 j = c1 15 j := fun j => f1 15 j (by omega) (by omega) (by omega)
  refine (rem_c g1 hc6).mono (fun x hx => (rem_m g1 hm24).mono (fun y1 hy1 => (dt_m y1).mono (fun y hy => ?_)))
  obtain ⟨x1, x2, x3⟩ := hx
  obtain ⟨z1, z2, z3⟩ := hy1
  obtain ⟨w1, w2⟩ := hy
  have yi : ∀ i, i < 11 → y 1 i = m2 12 i := fun i hi => (w2 i hi).trans (z1 12 i (by omega) (by omega))
  refine ⟨A.deck (Nat.le_refl k) A.k6 (fun o j h8 h13 h14 h15 h16 => ?_) (fun o j hs h1 h10 h11 h12 h24 => ?_) A.Tk ha' ?_ ?_ ?_ ?_ (fun i hi => ?_) ?_, fun i hi => (yi i (by omega)).trans (e3 i hi)⟩
  · exact (x1 o j h16 (fun z => absurd z h13)).trans (c2f o j h8 (fun z => absurd z h13) h14 h15)
  · exact (w1 o j h1).trans ((z1 o j h10 h24).trans (f2 o j hs h12))
  · exact (x1 13 1 (by omega) (by omega)).trans ((c2f 13 1 (by omega) (by omega) (by omega) (by omega)).trans A.ct)
  · exact (yi 10 (by omega)).trans e5
  · exact (x1 13 2 (by omega) (by omega)).trans e1
  · exact (yi 9 (by omega)).trans e4
  · rw [x1 14 i (by omega) (by omega), e2 i hi, yi i (by omega), e3 i hi]
    exact ⟨rfl, hP i hi⟩
  · have ey : y 10 = y1 10 := funext (fun j => w1 10 j (by omega))
    refine RPast.push (k := k) (n := n) (c := c2) (m := m2) (s := c2 15) (t := m2 1) g1 (by rw [ec, em]; exact g4) (Nat.le_refl k) ⟨⟨T, A.Tk, ?_, ?_⟩, ⟨a, A.an, ?_, ?_⟩, fun i hi => ?_⟩ x2 ((w1 0 24 (by omega)).trans z2) x3 (by rw [ey]; exact z3)
    · exact (e15 0).trans (hm.2.1.trans A.ct)
    · rw [em1]; exact A.mt
    · exact (e15 1).trans (hm.2.2.1.trans A.ca)
    · rw [em1]; exact A.ma
    · dsimp only
      rw [e15, hm.2.2.2 i hi, em1]
      exact A.pl i hi
theorem op_board (h : RLt k n Pm B V c m) (hk : k ≤ 600) (rd : Option Nat) (p v : Int32) : RO (f_La_board c p v) (f_Mo_board m rd p v) (FIN k n Pm B V) := by
  obtain ⟨T, a, q, A⟩ := h.la hk
  unfold f_La_board f_Mo_board
  refine RO.bl (mk_c c) (fun c1 hc1 => ?_)
  have A1 := A.l hc1.x
  refine RO.bind (tb A1 rd p v) ?_
  rintro ⟨x1, c2⟩ ⟨y1, m2, rd2⟩ ⟨e, H⟩
  dsimp only at e H ⊢
  rcases H with ⟨e0, a', P', hat⟩ | ⟨n0, n1, hno⟩
  · rw [if_pos e0, if_pos (show 0 ≤ y1 by rw [← e, e0]; decide)]
    refine RO.bl (dn_at A hc1 hat) (fun x hx => RO.br hx (fun y1 hy1 => RO.br hy1 (fun y hy => ?_)))
    rw [hy.1.ma', hy.1.mt']
    exact RO.bind (hy.1.load rd2) (fun x y h => RO.ret ⟨h.1, h.2.fin⟩)
  · rw [if_neg n0, if_neg n1]
    exact RO.ret ⟨e, (A1.fr hno.1.x hno.xm).fin⟩
theorem op_off (h : RLt k n Pm B V c m) (hk : k ≤ 600) (rd : Option Nat) (p : Int32) : RO (f_La_off c p) (f_Mo_off m rd p) (FIN k n Pm B V) := by
  obtain ⟨T, a, q, A⟩ := h.la hk
  unfold f_La_off f_Mo_off
  refine RO.bl (mk_c c) (fun c1 hc1 => ?_)
  have A1 := A.l hc1.x
  refine RO.bind (toff A1 rd p) ?_
  rintro ⟨x1, c2⟩ ⟨y1, m2, rd2⟩ ⟨e, H⟩
  dsimp only at e H ⊢
  rcases H with ⟨e0, a', P', hat⟩ | ⟨n0, n1, hno⟩
  · rw [if_pos e0, if_pos (show 0 ≤ y1 by rw [← e, e0]; decide)]
    refine RO.bl (dn_at A hc1 hat) (fun x hx => RO.br hx (fun y1 hy1 => RO.br hy1 (fun y hy => ?_)))
    rw [hy.1.ma', hy.1.mt']
    exact RO.bind (hy.1.load rd2) (fun x y h => RO.ret ⟨h.1, h.2.fin⟩)
  · rw [if_neg n0, if_neg n1]
    exact RO.ret ⟨e, (A1.fr hno.1.x hno.xm).fin⟩
theorem op_step (h : RLt k n Pm B V c m) (hk : k ≤ 600) (rd : Option Nat) (p v : Int32) : RO (f_La_step c p v) (f_Mo_step m rd p v) (FIN k n Pm B V) := by
  obtain ⟨T, a, q, A⟩ := h.la hk
  have hn := A.n9
  unfold f_La_step f_Mo_step
  refine RO.bl (mk_c c) (fun c1 hc1 => ?_)
  have A1 := A.l hc1.x
  refine RO.bind (ts A1 rd p v) ?_
  rintro ⟨x1, c2⟩ ⟨y1, m2, rd2⟩ H
  dsimp only at H ⊢
  rcases H with ⟨rfl, i, a', P', hi, rfl, hat, e1, e2⟩ | ⟨hh, hno⟩
  · rw [if_neg e2, if_pos (show (0 : Int32) ≤ 0 by decide)]
    refine RO.bl (dn_at A hc1 hat) (fun x hx => RO.br hx (fun y1 hy1 => RO.br hy1 (fun y hy => ?_)))
    refine RO.gr (gd_nI (by omega) (by omega)) (RO.ret ⟨?_, hy.1.fin⟩)
    show x1 = y 1 (nI i).toNatClampNeg
    rw [nI_clamp (by omega), hy.2 i (by omega), e1]
  · have A2 := A1.fr hno.1.x hno.xm
    rcases hh with ⟨rfl, rfl⟩ | ⟨rfl, rfl⟩
    · rw [if_pos (by decide), if_neg (by decide), if_pos rfl]
      exact RO.ret ⟨rfl, A2.fin⟩
    · rw [if_pos (by decide), if_neg (by decide), if_neg (by decide)]
      exact RO.ret ⟨rfl, A2.fin⟩
end BCALLS
