/-! steady: both together -/
def stc (h : HI) (p0 : Int32) : Option (Int32 × HI) := (f_St_widen h p0 (h 40 (1 : Int32).toNatClampNeg)).bind (fun x => if x.1 = 1 then (f_St_narrow x.2 p0).bind (fun y => (f_St_tellSteps y p0).bind (fun z => some (x.1, z))) else some (x.1, x.2))
/-- the whole of steady, where z makes the cells of a new Stance (or leaves those that are there) -/
def stX (z : HI → HI) (h : HI) (p0 : Int32) : Option (Int32 × HI) := if (f_La_within p0 (0 : Int32) (20 : Int32)) = 0 then some ((-1 : Int32), h) else (f_De_leanAt h (h 13 1)).bind (fun x2 => if (f_La_tipsBy x2.2 x2.1) = 0 then stc (z x2.2) p0 else some ((0 : Int32), x2.2))
def mrest (m : HI) (g : Nat → Nat → Int64) (rd : Option Nat) (p0 : Int32) : Option (Int32 × HI × (Nat → Nat → Int64) × Option Nat) := (f_Mo_findWays m g rd p0).bind (fun x4 => if x4.1 = 0 then some (((-3 : Int32), x4.2.1, x4.2.2.1, x4.2.2.2)) else rh_g (0 ≤ p0.toInt ∧ p0.toInt < ((21 : Nat) : Int)) (if (x4.2.1 21 p0.toNatClampNeg) = 0 then some (((0 : Int32), x4.2.1, x4.2.2.1, x4.2.2.2)) else (f_Mo_findSteps x4.2.1 x4.2.2.1 x4.2.2.2 p0).bind (fun x8 => (f_Mo_codeOf_1 (rh_up x8.1 0 8 (0 : Int32))).bind (fun x9 => (f_Mo_leftOf x8.2.1 (0 : Int32) (0 : Int32)).bind (fun x10 => (f_Mo_tell (rh_up x8.1 0 8 (0 : Int32)) x10).bind (fun x11 => (rh_loop (b_Mo_steady_86 p0 x8.2.1) rh_N (x9, x10, (1 : Int32), x11, x8.2.2)).bind (fun r27 => some (((1 : Int32), r27.1, x8.2.1, r27.2)))))))))
theorem sty_b (h : HI) (g : Nat → Nat → Int64) (rd : Option Nat) (p0 : Int32) : f_Mo_steady h g rd p0 = if (f_Mo_in p0 (0 : Int32) (20 : Int32)) = 0 then some (((-1 : Int32), rh_up h 0 9 (0 : Int32), g, rd)) else (f_Mo_isTipping__1 (rh_up h 0 9 (0 : Int32)) rd).bind (fun x2 => if x2.1 = 0 then mrest x2.2.1 g x2.2.2 p0 else some (((0 : Int32), x2.2.1, g, x2.2.2))) := rfl
theorem tips01 (c : HI) (v : Int32) : f_La_tipsBy c v = 0 ∨ f_La_tipsBy c v = 1 := by
  unfold f_La_tipsBy
  by_cases h : (if 0 ≤ v then v else 0 - v) ≤ (c 40 (1 : Int32).toNatClampNeg)
  · exact Or.inl (if_pos h)
  · exact Or.inr (if_neg h)
theorem X0f_es {c c' : HI} (e : ES c c') : X0f c' = X0f c := by
  funext i
  show (if i < 9 then ((c' 14 i).toInt + 4).toNat else 0) = _
  rw [e 14 i (by omega) (by omega)]; rfl
theorem LYS_emp {a n bt : Nat} {w : Nat → Nat → Nat} {X0 : CFG} {b : Nat} (h : ∀ X, ¬ LYS a n bt w X0 b X) : ∀ (d : Nat) (X : CFG), ¬ LYS a n bt w X0 (b + d) X
  | 0, X => h X
  | d + 1, Y => fun ⟨X, _, h1, _⟩ => LYS_emp h d X h1
section RFF
variable {k n Pm : Nat} {B : Nat → Nat} {V : Nat → Nat → Nat → Nat} {T a q : Nat} {c m : HI} {N : Nat}
theorem std_r (A : RLa k n Pm B V T a q c m) (hN : N ≤ 20) (g : Nat → Nat → Int64) (rd : Option Nat) : RO (stc c (nI N)) (mrest m g rd (nI N)) (fun x y => x.1 = y.1 ∧ RLt (k + 1) n Pm B V x.2 y.2.1) := by
  obtain ⟨bt, hbt, b1, b2⟩ := A.bear 1 (by omega)
  unfold stc mrest
  rw [show c 40 (1 : Int32).toNatClampNeg = nI bt from b1]
  obtain ⟨⟨x1, c1⟩, ex, hES, hx⟩ := wid_c A hbt hN
  obtain ⟨⟨y1, m1, g1, rd1⟩, ey, hEQ, hy⟩ := fw_m A b2 hbt hN rd g
  rw [ex, ey, Option.bind_some, Option.bind_some]
  dsimp only at hES hx hEQ hy ⊢
  have A1 := A.fr hES.x hEQ.x
  have gN := gd_nI (i := N) (N := 21) (by omega) (by omega)
  rcases hx with ⟨rfl, sn, h45, hC, hne⟩ | ⟨rfl, b, hb, hS, hno⟩ | ⟨rfl, b, hb, hO⟩
  · rw [if_pos rfl]
    rcases hy with ⟨rfl, hB⟩ | ⟨rfl, b, hb, hO⟩
    · rw [if_neg (show ¬ (1 : Int32) = 0 by decide), nI_clamp (by omega)]
      obtain ⟨cnt, D, p1, p2, p3, p4, p5, p6⟩ := hB N (Nat.le_refl _)
      obtain ⟨X, hX⟩ := hne N (Nat.le_refl _)
      obtain ⟨j, hj, _⟩ := (p6.2 X).mpr hX
      refine RO.gr gN ?_
      rw [if_neg (show ¬ m1 21 N = 0 by rw [p2]; exact nz0 (by omega) (by omega))]
      refine RO.bl (nar_c A1 hbt hN sn hC) ?_
      rintro c2 ⟨hE2, sn2, f2, hV⟩
      have hb3 : m1 3 1 = nI bt := (hEQ 3 1 rfl (by omega) (by omega) (by omega)).trans b2
      refine RO.br (fst_m A1 hb3 hbt hN rd1 hB) ?_
      rintro ⟨m2, g2, rd2⟩ ⟨hE3, hM⟩
      dsimp only at hE3 hM ⊢
      have eX : X0f c2 = X0f c := X0f_es (hES.tr hE2)
      have hD : DD a n bt (wB Pm B V T) N 0 (X0f c) < 99 := DD_path hN (k := N) (Nat.le_refl _) hX (by rw [Nat.sub_self]; exact (show 0 < 99 by omega))
      rw [← eX] at h45 hV hM hD
      obtain ⟨x, y, ex, ey, h1, h2⟩ := tl_r (A1.fr hE2.x hE3.x) ((hE3 3 1 rfl (by omega) (by omega) (by omega)).trans hb3) hbt hN sn2 ((f2 45 0 (by omega) (by omega) (by omega) (by omega)).trans h45) hV hM hD rd2
      exact ⟨(1, x), y, by rw [ex]; rfl, ey, h1.symm, h2⟩
    · exfalso
      obtain ⟨cnt, Ac, q1, _, _, _, q5⟩ := hC b hb
      exact OVF.no q5 q1 hO
  · rw [if_neg (show ¬ (0 : Int32) = 1 by decide)]
    rcases hy with ⟨rfl, hB⟩ | ⟨rfl, b', hb', hO⟩
    · rw [if_neg (show ¬ (1 : Int32) = 0 by decide), nI_clamp (by omega)]
      obtain ⟨cnt, D, p1, p2, p3, p4, p5, p6⟩ := hB N (Nat.le_refl _)
      refine RO.gr gN ?_
      have h0 : cnt = 0 := by
        rcases Nat.eq_zero_or_pos cnt with z | z
        · exact z
        · exfalso
          have h1 := (p6.2 (D 0)).mp ⟨0, z, rfl⟩
          rw [show N = b + (N - b) by omega] at h1
          exact LYS_emp hno _ _ h1
      rw [if_pos (show m1 21 N = 0 by rw [p2, h0]; rfl)]
      exact RO.ret ⟨rfl, A1.fin⟩
    · exfalso
      by_cases z : b' ≤ b
      · obtain ⟨cnt, Ac, q1, q2⟩ := hS b' z
        exact OVF.no q2 q1 hO
      · obtain ⟨E, _, z2⟩ := hO
        have h1 := z2 0 (by omega)
        rw [show b' = b + (b' - b) by omega] at h1
        exact LYS_emp hno _ _ h1
  · rw [if_neg (show ¬ (-3 : Int32) = 1 by decide)]
    rcases hy with ⟨rfl, hB⟩ | ⟨rfl, b', hb', hO'⟩
    · exfalso
      obtain ⟨cnt, D, p1, p2, p3, p4, p5, p6⟩ := hB b hb
      exact OVF.no p6 p1 hO
    · rw [if_pos rfl]
      exact RO.ret ⟨rfl, A1.fin⟩
theorem op_steady (h : RLt k n Pm B V c m) (hk : k ≤ 600) {z : HI → HI} (hz : ∀ h, ES h (z h)) (g : Nat → Nat → Int64) (rd : Option Nat) (p : Int32) : RO (stX z c p) (f_Mo_steady m g rd p) (fun x y => x.1 = y.1 ∧ RLt (k + 1) n Pm B V x.2 y.2.1) := by
  obtain ⟨T, a, q, A⟩ := h.la hk
  have hT := A.T30
  rw [sty_b]
  unfold stX
  rw [in_wi]
  refine RO.ii Iff.rfl (fun _ => RO.ret ⟨rfl, A.fin⟩) (fun h1 => ?_)
  obtain ⟨N, -, hN, rfl⟩ := wi_n (lo := 0) (hi := 20) h1 (by omega) (by omega)
  unfold f_Mo_isTipping__1
  rw [A.ct, show rh_up m 0 9 0 1 (10 : Int32).toNatClampNeg = nI T from A.mt, Option.bind_assoc]
  refine RO.bind (A.ln rd (by omega)) ?_
  rintro ⟨v1, c1⟩ ⟨v2, m1, rd1⟩ ⟨-, h2, A1, -⟩
  dsimp only at h2 A1 ⊢
  subst h2
  rw [A1.tip, rg_t (tips01 c1 v2), Option.bind_some]
  exact RO.ii Iff.rfl (fun _ => std_r (A1.l (hz c1).x) hN g rd1) (fun _ => RO.ret ⟨rfl, A1.fin⟩)
end RFF
