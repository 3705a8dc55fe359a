/-! steady: the class, back from the last bell -/
theorem mn_I {x y : Nat} (hx : x < 2 ^ 31) (hy : y < 2 ^ 31) : (if nI x < nI y then nI x else nI y) = nI (min x y) := by
  by_cases h : x < y
  · rw [if_pos ((nI_ltI hx hy).mpr h), show min x y = x by omega]
  · rw [if_neg (fun z => h ((nI_ltI hx hy).mp z)), show min x y = y by omega]
def OVn (R : CFG → Nat) (o : Option CFG) (t : Nat) : Nat := match o with
  | none => 99
  | some Y => min 99 (R Y + t)
theorem SBf_ov {a n bt : Nat} {w : Nat → Nat} {R : CFG → Nat} {X : CFG} {mv : Nat} : SBf a n bt w R X mv = OVn R (MT a n bt w X mv) (cst mv) := by
  unfold SBf OVn
  cases MT a n bt w X mv <;> rfl
theorem SBf_99 {a n bt : Nat} {w : Nat → Nat} {R : CFG → Nat} {X : CFG} {mv : Nat} : SBf a n bt w R X mv ≤ 99 := by
  unfold SBf
  cases MT a n bt w X mv with
  | none => exact Nat.le_refl _
  | some Y => dsimp only; omega
theorem BVn_le {s mv : Nat} (h : s ≤ 99) (hm : mv ≤ 18) : BVn s mv ≤ 1000000000 := by
  unfold BVn
  split <;> omega
/-- a bell with its numbers -/
def CVL (a n : Nat) (X0 : CFG) (bt : Nat) (w : Nat → Nat → Nat) (N b : Nat) (c : HI) : Prop := ∃ cnt A, cnt ≤ 500 ∧ c 46 b = nI cnt ∧ LST a n b cnt A c ∧ (∀ j, j < cnt → VX a n X0 (A j)) ∧ SETL cnt A (LYS a n bt w X0 b) ∧ ∀ j, j < cnt → ∃ e, c 47 (500 * b + j) = nI e ∧ ENC a n bt w (N - b) b (A j) e
section RFA
variable {a n bt b cnt d k : Nat} {w : Nat → Nat → Nat} {A : Nat → CFG} {X0 X : CFG} {c : HI}
theorem CVL.fr {N : Nat} {c' : HI} (h : CVL a n X0 bt w N b c) (e1 : c' 46 b = c 46 b) (e2 : ∀ j, j < 500 → c' 45 (500 * b + j) = c 45 (500 * b + j)) (e3 : ∀ j, j < 500 → c' 47 (500 * b + j) = c 47 (500 * b + j)) : CVL a n X0 bt w N b c' := by
  obtain ⟨cnt, A, h1, h2, h3, h4, h5, h6⟩ := h
  refine ⟨cnt, A, h1, e1.trans h2, fun j hj => (e2 j (by omega)).trans (h3 j hj), h4, h5, fun j hj => ?_⟩
  obtain ⟨e, z1, z2⟩ := h6 j hj
  exact ⟨e, (e3 j (by omega)).trans z1, z2⟩
theorem bb_c (hn : n ≤ 9) (hk : k ≤ 20) (hd : d ≤ 20) (tb : TBL a n cnt A c) (ls : LST a n k cnt A c) (hA : ∀ j, j < cnt → VX a n X0 (A j)) (hv : ∀ j, j < cnt → ∃ e, c 47 (500 * k + j) = nI e ∧ ENC a n bt w d k (A j) e) (o : Option CFG) (ho : ∀ Y, o = some Y → ∃ j, j < cnt ∧ A j = Y) {t mv : Nat} (ht : t ≤ 1) (hm : mv ≤ 18) : f_St_bestBy c (nI k) (mvI a n o) (nI t) (nI mv) = some (nI (BVn (OVn (DD a n bt w d k) o t) mv)) := by
  have hc5 := tb.1
  unfold f_St_bestBy
  cases o with
  | none =>
    rw [show mvI a n none = (-1 : Int32) from rfl, if_pos rfl]
    unfold j_St_bestBy_20
    rw [if_pos rfl, if_pos rfl]
    show some (1000000000 : Int32) = some (nI (BVn 99 mv))
    unfold BVn
    rw [if_pos rfl]; rfl
  | some Y =>
    obtain ⟨j, hj, rfl⟩ := ho Y rfl
    have hg := gam_lt (a := a) hn (hA j hj).1
    rw [show mvI a n (some (A j)) = nI (gam a n (A j)) from rfl, if_neg (nI_ne1 (by omega))]
    obtain ⟨x, ex, s, hs, rfl, hh⟩ := so_c hn hk tb ls hA (hA j hj)
    rw [ex, Option.bind_some, rg_t (gd_nI hs (by omega)), nI_clamp (by omega)]
    rcases hh with ⟨j', hj', e, y⟩ | ⟨hno, _⟩
    · rw [y]
      obtain ⟨e', v1, v2⟩ := hv j' hj'
      rw [e] at v2
      unfold j_St_bestBy_20
      rw [if_neg (nz0 (by omega) (by omega)), show nI k * 500 = nI (k * 500) from pk_mul k 500, nI_add, show nI (k * 500 + (j' + 1)) - 1 = nI (500 * k + j') from (pk_sub (a := k * 500 + (j' + 1)) (b := 1) (by omega)).trans (by congr 1; omega), nI_clamp (by omega), v1, rg_t (gd_nI (by omega) (by omega))]
      have hbd := DD_bd (a := a) (n := n) (bt := bt) (w := w) d k (A j)
      show _ = some (nI (BVn (min 99 (DD a n bt w d k (A j) + t)) mv))
      rcases v2 with ⟨z1, z2⟩ | ⟨z1, mv', z2, z3, -⟩
      · rw [z2, if_pos (show nI 1000000000 = 1000000000 from rfl), z1]
        unfold BVn
        rw [if_pos (by omega)]; rfl
      · rw [if_neg (show ¬ nI e' = 1000000000 from neI (s := 1000000000) (by omega) (by omega) (by omega)), show nI e' / 32 = nI (e' / 32) from pk_div (d := 32) (by omega) (by omega) (by omega), nI_add, show nI (e' / 32 + t) * 32 = nI ((e' / 32 + t) * 32) from pk_mul _ 32, nI_add]
        unfold BVn
        rw [if_neg (by omega)]
        congr 2
        omega
    · exact absurd rfl (hno j hj)
theorem bf_b (u1 u2 u3 v i : Int32) (h : HI) : b_St_bestFrom_31 u1 u2 u3 h (v, i) = if (h 42 3) ≤ i then some (.inr v) else rh_g (0 ≤ i.toInt ∧ i.toInt < ((9 : Nat) : Int)) ((f_St_stepped h u2 u3 i (-1 : Int32)).bind (fun x7 => (f_St_bestBy h u1 x7 (1 : Int32) ((2 : Int32) * (h 43 i.toNatClampNeg))).bind (fun x8 => (f_St_stepped h u2 u3 i (1 : Int32)).bind (fun x9 => (f_St_bestBy h u1 x9 (1 : Int32) (((2 : Int32) * (h 43 i.toNatClampNeg)) + (1 : Int32))).bind (fun x10 => some (.inl ((if x10 < (if x8 < v then x8 else v) then x10 else (if x8 < v then x8 else v)), i + (1 : Int32)))))))) := rfl
theorem bf_c (hn : n ≤ 9) (hb : b < 20) (hd : d < 20) (hw : ∀ i, i < n → w (b + 1) i ≤ 9999) (hbt : bt ≤ 9999) (sn : SNC a n bt c) (wc : WC a n (w (b + 1)) c) (tb : TBL a n cnt A c) (ls : LST a n (b + 1) cnt A c) (hA : ∀ j, j < cnt → VX a n X0 (A j)) (hS : SETL cnt A (LYS a n bt w X0 (b + 1))) (hv : ∀ j, j < cnt → ∃ e, c 47 (500 * (b + 1) + j) = nI e ∧ ENC a n bt w d (b + 1) (A j) e) (hX : VX a n X0 X) (hL : LYS a n bt w X0 b X) : OK (f_St_bestFrom c (nI (b + 1)) (nI (gam a n X))) (fun x => ∃ e, x = nI e ∧ ENC a n bt w (d + 1) b X e) := by
  have hq := rk_le a n
  have hbd := LE_bd (a := a) hn hX.1 hw
  unfold f_St_bestFrom
  refine OK.bind (lo_c hn hX.1 hw sn wc) (fun l hl => ?_)
  rw [brl_c sn hbt hl (by omega) (by omega)]
  by_cases hbr : BR bt (LEz a n (w (b + 1)) X) = true
  · rw [if_pos hbr, if_neg (by decide)]
    have hin : ∀ mv, mv ≤ 18 → ∀ Y, MT a n bt (w (b + 1)) X mv = some Y → ∃ j, j < cnt ∧ A j = Y := fun mv hm Y e => (hS.2 Y).mpr ⟨X, mv, hL, hbr, hm, e⟩
    have hbb : ∀ mv, mv ≤ 18 → f_St_bestBy c (nI (b + 1)) (mvI a n (MT a n bt (w (b + 1)) X mv)) (nI (cst mv)) (nI mv) = some (nI (BVn (SBf a n bt (w (b + 1)) (DD a n bt w d (b + 1)) X mv) mv)) := fun mv hm => by
      rw [SBf_ov]
      exact bb_c hn (by omega) (by omega) tb ls hA hv _ (hin mv hm) (by unfold cst; split <;> omega) hm
    have h18 := hbb 18 (by omega)
    rw [MT_18] at h18
    rw [show f_St_bestBy c (nI (b + 1)) (nI (gam a n X)) 0 18 = _ from h18, Option.bind_some]
    generalize hF : (fun mv => BVn (SBf a n bt (w (b + 1)) (DD a n bt w d (b + 1)) X mv) mv) = F
    have hFe : ∀ mv, BVn (SBf a n bt (w (b + 1)) (DD a n bt w d (b + 1)) X mv) mv = F mv := fun mv => by rw [← hF]
    have hFl : ∀ mv, mv ≤ 18 → F mv ≤ 1000000000 := fun mv hm => by rw [← hFe]; exact BVn_le SBf_99 hm
    rw [hFe 18]
    refine OK.bind (P := fun x => ∃ e, x = nI e ∧ ENC a n bt w (d + 1) b X e) (OK.loop _ (fun i s => i ≤ rk a n ∧ s.2 = nI i ∧ ∃ e, s.1 = nI e ∧ e ≤ 1000000000 ∧ e ≤ F 18 ∧ (∀ j, j < i → e ≤ F (2 * stn a n j) ∧ e ≤ F (2 * stn a n j + 1)) ∧ ∃ mv, mv ≤ 18 ∧ e = F mv) _ (rk a n) (by omega) ?_ ⟨by omega, rfl, F 18, rfl, hFl 18 (by omega), Nat.le_refl _, fun j hj => by omega, 18, by omega, rfl⟩) (fun x hx => OK.ret hx)
    rintro i ⟨v, z⟩ - ⟨hi, rfl, e, rfl, he, he18, hej, mv0, hm0, he0⟩
    rw [bf_b, sn.2.1]
    refine OK.ite (fun hc => OK.ret ⟨e, rfl, ENC.of (by omega) hbr (fun mv hm => ?_) (Or.inr ⟨mv0, hm0, by rw [hFe]; exact he0⟩)⟩) (fun hc => ?_)
    · have hii : i = rk a n := by have := ple hc (by omega) (by omega); omega
      rw [hFe]
      by_cases h18' : mv = 18
      · rw [h18']; exact he18
      by_cases h3 : mv / 2 < n ∧ a.testBit (mv / 2) = true
      · have h4 := hej (rk a (mv / 2)) (by rw [hii]; exact rk_lt h3.1 h3.2)
        rw [stn_rk h3.1 h3.2] at h4
        rcases (show mv = 2 * (mv / 2) ∨ mv = 2 * (mv / 2) + 1 by omega) with y | y
        · rw [y]; exact h4.1
        · rw [y]; exact h4.2
      · rw [← hFe]
        have : SBf a n bt (w (b + 1)) (DD a n bt w d (b + 1)) X mv = 99 := by
          unfold SBf; rw [MT_no h18' h3]
        rw [this]
        unfold BVn
        rw [if_pos rfl]; exact he
    have hi2 : i < rk a n := nle hc (by omega) (by omega)
    obtain ⟨s1, s2, s3⟩ := stn_ok hi2
    obtain ⟨sp1, sp2⟩ := sp_c hn hX.1 hw hbt sn wc hi2 hl
    have hb1 := hbb (2 * stn a n i) (by omega)
    have hb2 := hbb (2 * stn a n i + 1) (by omega)
    rw [hFe, show cst (2 * stn a n i) = 1 from if_neg (by omega)] at hb1
    rw [hFe, show cst (2 * stn a n i + 1) = 1 from if_neg (by omega)] at hb2
    have l1 := hFl (2 * stn a n i) (by omega)
    have l2 := hFl (2 * stn a n i + 1) (by omega)
    rw [nI_clamp (by omega), sn.2.2 i hi2, show (2 : Int32) * nI (stn a n i) = nI (2 * stn a n i) from pk_mul 2 _, sp1, sp2, Option.bind_some, show f_St_bestBy c (nI (b + 1)) (mvI a n (MT a n bt (w (b + 1)) X (2 * stn a n i))) 1 (nI (2 * stn a n i)) = _ from hb1, Option.bind_some, Option.bind_some, nI_1, show f_St_bestBy c (nI (b + 1)) (mvI a n (MT a n bt (w (b + 1)) X (2 * stn a n i + 1))) 1 (nI (2 * stn a n i + 1)) = _ from hb2, Option.bind_some, mn_I (by omega) (by omega), mn_I (by omega) (by omega), nI_1]
    refine OK.g (gd_nI (by omega) (by omega)) (OK.ret ⟨hi2, hi2, rfl, _, rfl, by omega, by omega, fun j hj => ?_, ?_⟩)
    · rcases (show j < i ∨ j = i by omega) with y | y
      · have := hej j y
        exact ⟨by omega, by omega⟩
      · subst y; exact ⟨by omega, by omega⟩
    · by_cases q1 : F (2 * stn a n i + 1) < min (F (2 * stn a n i)) e
      · exact ⟨2 * stn a n i + 1, by omega, by omega⟩
      · by_cases q2 : F (2 * stn a n i) < e
        · exact ⟨2 * stn a n i, by omega, by omega⟩
        · exact ⟨mv0, hm0, by omega⟩
  · rw [if_neg hbr, if_pos rfl]
    refine OK.ret ⟨1000000000, rfl, Or.inl ⟨?_, rfl⟩⟩
    unfold DD
    rw [if_neg hbr]
end RFA
