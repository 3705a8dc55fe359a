/-! order: both together -/
def EOR (h h' : HI) : Prop := ∀ o j, sM o j = false → (o = 0 → j ≠ 48) → o ≠ 25 → o ≠ 26 → o ≠ 27 → h' o j = h o j
theorem EOR.x {h h' : HI} (e : EOR h h') : XM h h' := fun o k q => by
  have no : ∀ z, pM z k = false → z ≠ 5 → z ≠ 0 → o ≠ z := fun z z1 z2 z3 w => by
    rw [w] at q
    rcases q with q | q | q
    · rw [z1] at q; cases q
    · exact z2 q
    · exact z3 q.1
  refine e o k (sM_no q) (fun z y => ?_) (no 25 rfl (by omega) (by omega)) (no 26 rfl (by omega) (by omega)) (no 27 rfl (by omega) (by omega))
  rw [z, y] at q
  rcases q with q | q | q
  · exact absurd (show false = true from q) (by decide)
  · omega
  · omega
section ORB
variable {k n Pm : Nat} {B : Nat → Nat} {V : Nat → Nat → Nat → Nat} {T a q : Nat} {c m : HI}
theorem or40_b (u1 u2 u3 v : Int32) (h : HI) (rd : Option Nat) : b_Mo_order_40 u1 u2 u3 (v, h, rd) = if (h 0 1) ≤ v then some (.inr (h, rd)) else (f_Mo_weightOf h rd v ((f_Mo_dawn h) + u3)).bind (fun x8 => rh_g (0 ≤ (((9 : Int32) * u3) + v).toInt ∧ (((9 : Int32) * u3) + v).toInt < ((81 : Nat) : Int)) (some (.inl (v + (1 : Int32), rh_up x8.2.1 25 (((9 : Int32) * u3) + v).toNatClampNeg x8.1, x8.2.2)))) := rfl
theorem or40_m (A : RLa k n Pm B V T a q c m) (rd : Option Nat) {b : Nat} (hb : b < 7) (u1 u2 : Int32) : OK (rh_loop (b_Mo_order_40 u1 u2 (nI b)) rh_N ((0 : Int32), m, rd)) (fun x => (∀ o j, sM o j = false → (o = 25 → j < 9 * b ∨ 9 * b + n ≤ j) → x.1 o j = m o j) ∧ ∀ i, i < n → x.1 25 (9 * b + i) = nI (Wt Pm B V i (9 * (T / 9) + b))) := by
  have hn := A.n9
  have hT := A.T30
  refine OK.loop _ (fun i s => i ≤ n ∧ s.1 = nI i ∧ (∀ o j, sM o j = false → (o = 25 → j < 9 * b ∨ 9 * b + n ≤ j) → s.2.1 o j = m o j) ∧ ∀ j, j < i → s.2.1 25 (9 * b + j) = nI (Wt Pm B V j (9 * (T / 9) + b))) _ n (by omega) ?_ ⟨by omega, rfl, fun _ _ _ _ => rfl, fun j hj => by omega⟩
  rintro i ⟨v, h, rd⟩ - ⟨hi, rfl, hE, h8⟩
  dsimp only at hE h8
  have A' := A.r (show XM m h from (show EOR m h from fun o j h1 h2 h3 _ _ => hE o j h1 (fun z => absurd z h3)).x)
  rw [or40_b, A'.mn, A'.dm]
  refine OK.ite (fun hc => OK.ret ?_) (fun hc => ?_)
  · have : i = n := by have := ple hc (by omega) (by omega); omega
    subst this; exact ⟨hE, h8⟩
  have hi2 : i < n := nle hc (by omega) (by omega)
  rw [nI_add, show (9 : Int32) * nI b = nI (9 * b) from pk_mul 9 b, nI_add, nI_clamp (by omega)]
  obtain ⟨h', rd', e1, e2⟩ := wa_m A'.qm rd hi2 (t := 9 * (T / 9) + b) (by omega)
  rw [e1, Option.bind_some]
  refine OK.g (gd_nI (by omega) (by omega)) (OK.ret ⟨hi2, hi2, nI_1 i, fun o j h1 h2 => ?_, fun j hj => ?_⟩)
  · show rh_up h' 25 (9 * b + i) _ o j = _
    rw [up_f, if_neg (fun z => by have := h2 z.1; omega), e2 o j h1]; exact hE o j h1 h2
  · show rh_up h' 25 (9 * b + i) (nI (Wt Pm B V i (9 * (T / 9) + b))) 25 (9 * b + j) = _
    by_cases z : j = i
    · subst z; rw [rh_up_s]
    · rw [gup _ _ _ _ (by omega), e2 25 _ rfl]; exact h8 j (by omega)
theorem or32_b (u1 u2 v : Int32) (h : HI) (rd : Option Nat) : b_Mo_order_32 u1 u2 (v, h, rd) = if u2 ≤ v then some (.inr (h, rd)) else (rh_loop (b_Mo_order_40 u1 u2 v) rh_N ((0 : Int32), h, rd)).bind (fun r10 => some (.inl (v + (1 : Int32), r10.1, r10.2))) := rfl
theorem or32_m (A : RLa k n Pm B V T a q c m) (rd : Option Nat) {N : Nat} (hN : N ≤ 7) (u1 : Int32) : OK (rh_loop (b_Mo_order_32 u1 (nI N)) rh_N ((0 : Int32), m, rd)) (fun x => (∀ o j, sM o j = false → o ≠ 25 → x.1 o j = m o j) ∧ OBW n N (fun i b => Wt Pm B V i (9 * (T / 9) + b)) x.1) := by
  have hn := A.n9
  refine OK.loop _ (fun i s => i ≤ N ∧ s.1 = nI i ∧ (∀ o j, sM o j = false → o ≠ 25 → s.2.1 o j = m o j) ∧ OBW n i (fun i b => Wt Pm B V i (9 * (T / 9) + b)) s.2.1) _ N (by omega) ?_ ⟨by omega, rfl, fun _ _ _ _ => rfl, fun b i hb _ => by omega⟩
  rintro i ⟨v, h, rd⟩ - ⟨hi, rfl, hE, h8⟩
  dsimp only at hE h8
  have A' := A.r (show XM m h from (show EOR m h from fun o j h1 h2 h3 _ _ => hE o j h1 h3).x)
  rw [or32_b]
  refine OK.ite (fun hc => OK.ret ?_) (fun hc => ?_)
  · have : i = N := by have := ple hc (by omega) (by omega); omega
    subst this; exact ⟨hE, h8⟩
  have hi2 : i < N := nle hc (by omega) (by omega)
  refine OK.bind (or40_m A' rd (b := i) (by omega) u1 (nI N)) ?_
  rintro ⟨h2, rd2⟩ ⟨e1, e2⟩
  dsimp only at e1 e2 ⊢
  refine OK.ret ⟨hi2, hi2, nI_1 i, fun o j h1 h2 => (e1 o j h1 (fun z => absurd z h2)).trans (hE o j h1 h2), fun b j hb hj => ?_⟩
  rcases (show b < i ∨ b = i by omega) with z | z
  · exact (e1 25 _ rfl (fun _ => by omega)).trans (h8 b j z hj)
  · subst z; exact e2 j hj
theorem RLa.addg (A : RLa k n Pm B V T a q c m) (hq : q < 11) (v : Int32) : RO (f_Ro_add c v) (f_Mo_tell m v) (fun x y => RLa k n Pm B V T a (q + 1) x y ∧ (∀ o j, o ≠ 2 → o ≠ 3 → x o j = c o j) ∧ (∀ o j, o ≠ 0 → o ≠ 5 → y o j = m o j) ∧ y 0 48 = m 0 48) := by
  obtain ⟨x, y, ex, ey, h1, h2, h3⟩ := A.addf hq v
  refine ⟨x, y, ex, ey, h1, h2, h3, ?_⟩
  unfold f_Mo_tell at ey
  rw [A.mq, rg_t (gd_nI (i := q) (N := 16) (by omega) (by omega))] at ey
  rw [← Option.some.inj ey, up_f, if_neg (by omega), up_f, if_neg (by omega)]
theorem o80_b (u1 s1 s2 : Int32) (h : HI) : b_La_order_80 u1 (s1, s2, h) = if s2 ≤ 0 then some (.inr h) else (f_La_nextCarried h u1 s1).bind (fun x11 => (f_Ro_add x11.2 x11.1).bind (fun x12 => some (.inl (s1 &&& (((1 : Int32) <<< (x11.1 &&& 31)) ^^^ (-1 : Int32)), s2 + (-1 : Int32), x12)))) := rfl
theorem o106_b (u2 v : Int32) (h : HI) (rd : Option Nat) : b_Mo_order_106 u2 rd (v, h) = if u2 ≤ v then some (.inr h) else rh_g (0 ≤ v.toInt ∧ v.toInt < ((9 : Nat) : Int)) ((f_Mo_tell h (h 27 v.toNatClampNeg)).bind (fun x16 => some (.inl (v + (1 : Int32), x16)))) := rfl
theorem op_order (h : RLt k n Pm B V c m) (hk : k ≤ 600) (rd : Option Nat) (p : Int32) : RO (f_La_order c p) (f_Mo_order m rd p) (FIN k n Pm B V) := by
  obtain ⟨T, a, q, A⟩ := h.la hk
  have hT := A.T30
  have hn := A.n9
  have hp9 := pow9 hn
  unfold f_La_order f_Mo_order
  rw [A.hold, Option.bind_some, in_wi]
  refine RO.ii Iff.rfl (fun _ => RO.ret ⟨rfl, A.fin⟩) (fun h1 => RO.ii Iff.rfl (fun _ => RO.ret ⟨rfl, A.fin⟩) (fun h2 => ?_))
  obtain ⟨s, hs, rfl⟩ := hold_1 hn A.cn h1
  have hpa := pc_all s (by omega)
  rw [hpa.1] at h2 ⊢
  obtain ⟨N, hN1, hN7, eN⟩ := wi_n (lo := 1) (hi := 7) h2 (by omega) (by omega)
  have eN : pc s = N := (nI_eq (by omega) (by omega)).mp eN
  rw [eN]
  generalize hWW : (fun i b => Wt Pm B V i (9 * (T / 9) + b)) = W
  have hW : ∀ i b, i < n → W i (N - (b + 1)) ≤ 9999 := fun i b hi => by rw [← hWW]; exact A.wle hi (by omega)
  refine RO.bl (tb_c A hs) ?_
  rintro c1 ⟨f1, htab⟩
  rw [eN, hWW] at htab
  have A1 := A.l f1.x
  refine RO.br (or32_m A1 rd hN7 (nI s)) ?_
  rintro ⟨m1, rd1⟩ ⟨f2, hO⟩
  rw [hWW] at hO
  dsimp only at f2 hO ⊢
  have A2 := A1.r (show XM _ m1 from (show EOR _ m1 from fun o j h1 h2 h3 _ _ => f2 o j h1 h3).x)
  have hgo := go_m hn hN7 hW N 16 s 0 2147483647 (rh_up m1 0 48 2147483647) (by omega) (Nat.le_refl _) hs eN (by omega) (by omega) (by rw [rh_up_s]; rfl) (by rw [up_f, if_neg (by omega)]; exact A2.mn) (fun b i hb hi => by rw [up_f, if_neg (by omega)]; exact hO b i hb hi)
  rw [Nat.sub_self] at hgo
  have hLO := LO_le hn hW N s hs eN
  refine RO.br (show OK (f_Mo_goOrderw (rh_up m1 0 48 2147483647) (0 : Int32) (nI s) (0 : Int32)) _ from hgo) ?_
  rintro m2 ⟨f3, hx⟩
  have h79 : N * 9999 ≤ 7 * 9999 := Nat.mul_le_mul_right _ hN7
  obtain ⟨_, x2, x3⟩ := hx.resolve_right (fun z => by have := z.1; omega)
  rw [Nat.zero_add] at x2
  have A3 := A2.r (show XM m1 m2 from (show EOR m1 m2 from fun o j h1 h2 h3 h4 h5 => by
    rw [f3 o j h2 (fun z => absurd z h4) h5, up_f, if_neg (fun z => h2 z.1 z.2)]).x)
  have x4 : ∀ j, j < N → m2 27 j = nI (LX n N W N s j) := fun j hj => by
    rw [x3 j hj, if_neg (by omega), Nat.sub_self, Nat.sub_zero]
  refine RO.bind (P := fun x y => RLa k n Pm B V T a N x y ∧ (∀ j, x 41 j = c1 41 j) ∧ y 0 48 = m2 0 48) (RO.loop _ _ (fun i s' t => i ≤ N ∧ t.1 = nI i ∧ RLa k n Pm B V T a i s'.2.2 t.2 ∧ (∀ j, s'.2.2 41 j = c1 41 j) ∧ (∀ j, t.2 27 j = m2 27 j) ∧ t.2 0 48 = m2 0 48 ∧ ∃ S, S < 2 ^ n ∧ SUB S s ∧ S ≤ s ∧ pc S = N - i ∧ s'.1 = nI S ∧ s'.2.1 = nI (N - i) ∧ ∀ j, LX n N W N s (i + j) = LX n N W (N - i) S j) _ N (by omega) ?_ ⟨by omega, rfl, A3.beg, fun j => rfl, fun j => rfl, rfl, s, hs, fun j hj => hj, Nat.le_refl _, eN, rfl, rfl, fun j => by rw [Nat.zero_add, Nat.sub_zero]⟩) ?_
  · rintro i ⟨s1, s2, hc⟩ ⟨t1, hm⟩ - ⟨hi, rfl, A4, g41, g27, g48, S, hS, hSub, hSs, hpc, rfl, rfl, hLX⟩
    dsimp only at A4 g41 g27 g48
    rw [o80_b, o106_b]
    by_cases hiN : i = N
    · subst hiN
      rw [Nat.sub_self, if_pos (show nI 0 ≤ 0 from Int32.le_refl _), if_pos (nI_le (Nat.le_refl _) (by omega))]
      exact RO.ret ⟨A4, g41, g48⟩
    obtain ⟨e, he⟩ : ∃ e, N - i = e + 1 := ⟨N - i - 1, by omega⟩
    rw [he] at hpc hLX ⊢
    have hF := FA_is hn hW hS hpc
    rw [if_neg (show ¬ nI (e + 1) ≤ 0 from nI_ge (b := e + 1) (a := 0) (by omega) (by omega)), if_neg (nI_ge (by omega) (by omega)), nI_clamp (by omega), g27 i, x4 i (by omega), show LX n N W N s i = FA n N W e S from hLX 0]
    have hnx := nx_c A4 hs hS hSub hpc (fun S' z1 z2 => by rw [g41, eN, hWW]; exact htab S' z1 z2) hSs
    rw [eN, hWW] at hnx
    refine RO.gr (gd_nI (by omega) (by omega)) (RO.bl hnx ?_)
    rintro ⟨v, hc2⟩ ⟨hv, f8⟩
    dsimp only at hv f8 ⊢
    subst hv
    refine RO.bind ((A4.l f8.x).addg (by omega) _) ?_
    rintro x y ⟨A5, fx, fy, f48⟩
    have hnd := nd_pc hn hS hF.2.1
    rw [two_n _ (by omega), andn', nI_m1, nI_1]
    refine RO.ret ⟨by omega, by omega, rfl, A5, fun j => (fx 41 j (by omega) (by omega)).trans ((f8 41 j (by omega)).trans (g41 j)), fun j => (fy 27 j (by omega) (by omega)).trans (g27 j), f48.trans g48, nand S (2 ^ FA n N W e S), by omega, hSub.nd (by omega), by omega, by omega, rfl, ?_, fun j => ?_⟩
    · show nI e = _
      congr 1; omega
    · rw [show i + 1 + j = i + (j + 1) by omega, hLX (j + 1), show N - (i + 1) = e by omega]; rfl
  · rintro x y ⟨A6, g41, g48⟩
    rw [nI_clamp (by omega)]
    refine RO.gl (gd_nI (by omega) (by omega)) (RO.ret ⟨?_, A6.fin⟩)
    show x 41 s = y 0 48
    rw [g41, g48, x2, htab s (Nat.le_refl _) (fun j hj => hj), eN]
end ORB
