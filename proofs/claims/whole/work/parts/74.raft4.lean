/-! steady: the class goes bell by bell -/
def FAb (b : Nat) (c c' : HI) : Prop := ∀ o j, o ≠ 48 → (o = 45 → j < 500 * b ∨ 500 * (b + 1) ≤ j) → (o = 46 → j ≠ b) → c' o j = c o j
theorem FAb.rf {b : Nat} {c : HI} : FAb b c c := fun _ _ _ _ _ => rfl
theorem FAb.tr {b : Nat} {x y z : HI} (h : FAb b x y) (g : FAb b y z) : FAb b x z := fun o j h1 h2 h3 => (g o j h1 h2 h3).trans (h o j h1 h2 h3)
def BLD (a n : Nat) (X0 : CFG) (b : Nat) (P : CFG → Prop) (c : HI) : Prop := ∃ cnt A, cnt ≤ 500 ∧ c 46 b = nI cnt ∧ LST a n b cnt A c ∧ TBL a n cnt A c ∧ (∀ j, j < cnt → VX a n X0 (A j)) ∧ SETL cnt A P
theorem BLD.iff {a n b : Nat} {X0 : CFG} {P Q : CFG → Prop} {c : HI} (h : BLD a n X0 b P c) (e : ∀ X, P X ↔ Q X) : BLD a n X0 b Q c := by
  obtain ⟨cnt, A, h1, h2, h3, h4, h5, h6⟩ := h
  exact ⟨cnt, A, h1, h2, h3, h4, h5, h6.iff e⟩
section RF4
variable {a n bt b : Nat} {w : Nat → Nat} {X0 X : CFG} {c : HI} {P : CFG → Prop}
theorem SNC.fa {c' : HI} (s : SNC a n bt c) (f : FAb b c c') : SNC a n bt c' := ⟨(f 42 9 (by omega) (by omega) (by omega)).trans s.1, (f 42 3 (by omega) (by omega) (by omega)).trans s.2.1, fun k hk => (f 43 k (by omega) (by omega) (by omega)).trans (s.2.2 k hk)⟩
theorem WC.fa {c' : HI} (s : WC a n w c) (f : FAb b c c') : WC a n w c' := fun k hk => (f 44 k (by omega) (by omega) (by omega)).trans (s k hk)
theorem aw_c (hn : n ≤ 9) (hb : b ≤ 20) (h : BLD a n X0 b P c) (o : Option CFG) (ho : ∀ X, o = some X → VX a n X0 X) : OK (f_St_addWay c (nI b) (mvI a n o)) (fun x => FAb b c x.2 ∧ ((x.1 = 1 ∧ BLD a n X0 b (fun Y => P Y ∨ o = some Y) x.2) ∨ (x.1 = 0 ∧ ∀ Q : CFG → Prop, (∀ Y, P Y ∨ o = some Y → Q Y) → OVF Q))) := by
  unfold f_St_addWay
  cases o with
  | none =>
    rw [show mvI a n none = (-1 : Int32) from rfl, if_pos rfl]
    exact OK.ret ⟨FAb.rf, Or.inl ⟨rfl, h.iff (fun X => ⟨Or.inl, fun z => z.elim id (fun z => by cases z)⟩)⟩⟩
  | some X =>
    have hX := ho X rfl
    have hg := gam_lt (a := a) hn hX.1
    obtain ⟨cnt, A, h1, h2, h3, h4, h5, h6⟩ := h
    rw [show mvI a n (some X) = nI (gam a n X) from rfl, if_neg (nI_ne1 (by omega))]
    refine OK.bind (so_c hn hb h4 h3 h5 hX) ?_
    rintro x ⟨s, hs, rfl, hh⟩
    rw [nI_clamp (n := s) (by omega), nI_clamp (n := b) (by omega)]
    refine OK.g (gd_nI hs (by omega)) ?_
    rcases hh with ⟨j, hj, e, y⟩ | ⟨hno, y, d, hd, hsd, hpre⟩
    · rw [if_neg (by rw [y]; exact nz0 (by omega) (by omega))]
      refine OK.ret ⟨FAb.rf, Or.inl ⟨rfl, cnt, A, h1, h2, h3, h4, h5, h6.iff (fun Y => ⟨Or.inl, fun z => z.elim id (fun z => ?_)⟩)⟩⟩
      rw [← Option.some.inj z]
      exact (h6.2 X).mp ⟨j, hj, e⟩
    · rw [if_pos y, h2]
      have gb := gd_nI (i := b) (N := 21) (by omega) (by omega)
      refine OK.g gb ?_
      by_cases h500 : cnt = 500
      · subst h500
        rw [if_pos (show nI 500 = 500 from rfl)]
        refine OK.ret ⟨FAb.rf, Or.inr ⟨rfl, fun Q hQ => h6.ovf (X := X) (fun z => ?_) (fun Y z => hQ Y (z.elim Or.inl (fun z => Or.inr (by rw [z]))))⟩⟩
        obtain ⟨j, hj, e⟩ := (h6.2 X).mpr z
        exact hno j hj e
      · rw [if_neg (show ¬ nI cnt = 500 from neI (s := 500) (by omega) (by omega) h500), show nI b * 500 = nI (b * 500) from pk_mul b 500, nI_add, nI_clamp (by omega)]
        have g5 := gd_nI (i := b * 500 + cnt) (N := 10500) (by omega) (by omega)
        refine OK.g gb (OK.g g5 (OK.g gb (OK.g gb (OK.g gb (OK.g (gd_nI hs (by omega)) (OK.ret ?_))))))
        rw [show rh_up c 45 (b * 500 + cnt) (nI (gam a n X)) 46 b = nI cnt by rw [up_f, if_neg (by omega)]; exact h2, nI_1, rh_up_s]
        have e45 : ∀ j, rh_up (rh_up (rh_up c 45 (b * 500 + cnt) (nI (gam a n X))) 46 b (nI (cnt + 1))) 48 s (nI (cnt + 1)) 45 j = if j = b * 500 + cnt then nI (gam a n X) else c 45 j := fun j => by
          rw [up_f, if_neg (by omega), up_f, if_neg (by omega)]
          by_cases z : j = b * 500 + cnt
          · rw [if_pos z, z, rh_up_s]
          · rw [if_neg z, gup _ _ _ _ z]
        refine ⟨fun o j ho1 ho2 ho3 => ?_, Or.inl ⟨rfl, cnt + 1, snocA A cnt X, by omega, ?_, fun j hj => ?_, ?_, fun j hj => ?_, (h6.snoc hno).iff (fun Y => ⟨fun z => z.elim Or.inl (fun z => Or.inr (by rw [z])), fun z => z.elim Or.inl (fun z => Or.inr (Option.some.inj z).symm)⟩)⟩⟩
        · show rh_up (rh_up (rh_up c 45 (b * 500 + cnt) (nI (gam a n X))) 46 b (nI (cnt + 1))) 48 s (nI (cnt + 1)) o j = _
          rw [up_f, if_neg (fun z => ho1 z.1), up_f, if_neg (fun z => ho3 z.1 z.2), up_f, if_neg (fun z => by have := ho2 z.1; omega)]
        · show rh_up (rh_up (rh_up c 45 (b * 500 + cnt) (nI (gam a n X))) 46 b (nI (cnt + 1))) 48 s (nI (cnt + 1)) 46 b = _
          rw [up_f, if_neg (by omega), rh_up_s]
        · show rh_up (rh_up (rh_up c 45 (b * 500 + cnt) (nI (gam a n X))) 46 b (nI (cnt + 1))) 48 s (nI (cnt + 1)) 45 (500 * b + j) = nI (gam a n (if j = cnt then X else A j))
          rw [e45]
          by_cases z : j = cnt
          · rw [if_pos (by omega), if_pos z]
          · rw [if_neg (by omega), if_neg z]; exact h3 j (by omega)
        · have h4' : TBL a n cnt (snocA A cnt X) c := by
            refine ⟨h4.1, h4.2.1, h4.2.2.1, fun j hj => ?_⟩
            rw [show snocA A cnt X j = A j from if_neg (by omega)]
            exact h4.2.2.2 j hj
          have eX : snocA A cnt X cnt = X := if_pos rfl
          refine h4'.put (s := s) (d := d) (by omega) (by rw [eX]; exact hsd) hd y (by rw [eX]; exact hpre) ?_ (fun s' hs' => ?_)
          · exact rh_up_s _ _ _ _
          · show rh_up (rh_up (rh_up c 45 (b * 500 + cnt) (nI (gam a n X))) 46 b (nI (cnt + 1))) 48 s (nI (cnt + 1)) 48 s' = _
            rw [gup _ _ _ _ hs', up_f, if_neg (by omega), up_f, if_neg (by omega)]
        · show VX a n X0 (if j = cnt then X else A j)
          by_cases z : j = cnt
          · rw [if_pos z]; exact hX
          · rw [if_neg z]; exact h5 j (by omega)
def SUC (a n bt : Nat) (w : Nat → Nat) (X Y : CFG) : Prop := BR bt (LEz a n w X) = true ∧ ∃ mv, mv ≤ 18 ∧ MT a n bt w X mv = some Y
theorem MT_all (hn : n ≤ 9) {Y : CFG} : (∃ mv, mv ≤ 18 ∧ MT a n bt w X mv = some Y) ↔ (MT a n bt w X 18 = some Y ∨ ∃ k, k < rk a n ∧ (MT a n bt w X (2 * stn a n k) = some Y ∨ MT a n bt w X (2 * stn a n k + 1) = some Y)) := by
  constructor
  · rintro ⟨mv, h1, h2⟩
    by_cases h : mv = 18
    · rw [h] at h2; exact Or.inl h2
    · by_cases h3 : mv / 2 < n ∧ a.testBit (mv / 2) = true
      · refine Or.inr ⟨rk a (mv / 2), rk_lt h3.1 h3.2, ?_⟩
        rw [stn_rk h3.1 h3.2]
        rcases (show mv = 2 * (mv / 2) ∨ mv = 2 * (mv / 2) + 1 by omega) with y | y
        · exact Or.inl (by rw [← y]; exact h2)
        · exact Or.inr (by rw [← y]; exact h2)
      · rw [MT_no h h3] at h2; cases h2
  · rintro (h | ⟨k, hk, h | h⟩)
    · exact ⟨18, by omega, h⟩
    · exact ⟨_, by have := (stn_ok hk).1; omega, h⟩
    · exact ⟨_, by have := (stn_ok hk).1; omega, h⟩
theorem wf_b (u1 u2 u3 v z : Int32) (h : HI) : b_St_widenFrom_27 u1 u2 u3 (v, z, h) = if (h 42 3) ≤ z then some (.inr (v, h)) else if v = 0 then some (.inr (v, h)) else (f_St_stepped h u2 u3 z (-1 : Int32)).bind (fun x7 => (f_St_addWay h u1 x7).bind (fun x8 => if x8.1 = 0 then some (.inl ((0 : Int32), z + (1 : Int32), x8.2)) else (f_St_stepped x8.2 u2 u3 z (1 : Int32)).bind (fun x10 => (f_St_addWay x8.2 u1 x10).bind (fun x11 => if x11.1 = 0 then some (.inl ((0 : Int32), z + (1 : Int32), x11.2)) else some (.inl ((1 : Int32), z + (1 : Int32), x11.2)))))) := rfl
theorem wf_c (hn : n ≤ 9) (hb : b ≤ 20) (hw : ∀ i, i < n → w i ≤ 9999) (hbt : bt ≤ 9999) (hX : VX a n X0 X) (sn : SNC a n bt c) (wc : WC a n w c) (h : BLD a n X0 b P c) : OK (f_St_widenFrom c (nI b) (nI (gam a n X))) (fun x => FAb b c x.2 ∧ ((x.1 = 1 ∧ BLD a n X0 b (fun Y => P Y ∨ SUC a n bt w X Y) x.2) ∨ (x.1 = 0 ∧ ∀ Q : CFG → Prop, (∀ Y, P Y ∨ SUC a n bt w X Y → Q Y) → OVF Q))) := by
  have hq := rk_le a n
  have hbd := LE_bd (a := a) hn hX.1 hw
  unfold f_St_widenFrom
  refine OK.bind (lo_c hn hX.1 hw sn wc) (fun l hl => ?_)
  rw [brl_c sn hbt hl (by omega) (by omega)]
  by_cases hbr : BR bt (LEz a n w X) = true
  · rw [if_pos hbr, if_neg (by decide)]
    refine OK.bind (aw_c hn hb h (some X) (fun Y z => by rw [← Option.some.inj z]; exact hX)) ?_
    rintro ⟨v, c1⟩ ⟨hf, hv⟩
    dsimp only at hf hv ⊢
    refine OK.bind (P := fun r => FAb b c r.2 ∧ ((r.1 = 1 ∧ BLD a n X0 b (fun Y => P Y ∨ SUC a n bt w X Y) r.2) ∨ (r.1 = 0 ∧ ∀ Q : CFG → Prop, (∀ Y, P Y ∨ SUC a n bt w X Y → Q Y) → OVF Q))) (OK.loop _ (fun k r => k ≤ rk a n ∧ r.2.1 = nI k ∧ FAb b c r.2.2 ∧ ((r.1 = 1 ∧ BLD a n X0 b (fun Y => P Y ∨ MT a n bt w X 18 = some Y ∨ ∃ k', k' < k ∧ (MT a n bt w X (2 * stn a n k') = some Y ∨ MT a n bt w X (2 * stn a n k' + 1) = some Y)) r.2.2) ∨ (r.1 = 0 ∧ ∀ Q : CFG → Prop, (∀ Y, P Y ∨ SUC a n bt w X Y → Q Y) → OVF Q))) _ (rk a n) (by omega) ?_ ⟨by omega, rfl, hf, ?_⟩) ?_
    · rintro k ⟨v, z, c2⟩ - ⟨hk, rfl, hf2, hv2⟩
      dsimp only at hf2 hv2
      have sn2 := sn.fa hf2
      have wc2 := wc.fa hf2
      rw [wf_b, sn2.2.1]
      refine OK.ite (fun hc => OK.ret ⟨hf2, ?_⟩) (fun hc => ?_)
      · have : k = rk a n := by have := ple hc (by omega) (by omega); omega
        subst this
        rcases hv2 with ⟨v1, v2⟩ | v2
        · exact Or.inl ⟨v1, v2.iff (fun Y => by unfold SUC; rw [MT_all hn]; exact ⟨fun z => z.elim Or.inl (fun z => Or.inr ⟨hbr, z⟩), fun z => z.elim Or.inl (fun z => Or.inr z.2)⟩)⟩
        · exact Or.inr v2
      have hk2 : k < rk a n := nle hc (by omega) (by omega)
      rcases hv2 with ⟨rfl, hB⟩ | ⟨rfl, hO⟩
      · rw [if_neg (by decide)]
        obtain ⟨sp1, -⟩ := sp_c hn hX.1 hw hbt sn2 wc2 hk2 hl
        rw [sp1, Option.bind_some]
        refine OK.bind (aw_c hn hb hB (MT a n bt w X (2 * stn a n k)) (fun Y z => MT_VX hX z)) ?_
        rintro ⟨v3, c3⟩ ⟨hf3, hv3⟩
        dsimp only at hf3 hv3 ⊢
        have hs1 : ∀ Y, ((P Y ∨ MT a n bt w X 18 = some Y ∨ ∃ k', k' < k ∧ (MT a n bt w X (2 * stn a n k') = some Y ∨ MT a n bt w X (2 * stn a n k' + 1) = some Y)) ∨ MT a n bt w X (2 * stn a n k) = some Y) → (P Y ∨ SUC a n bt w X Y) := fun Y hY => by
          rcases hY with (z | z | ⟨k', z1, z2⟩) | z
          · exact Or.inl z
          · exact Or.inr ⟨hbr, (MT_all hn).mpr (Or.inl z)⟩
          · exact Or.inr ⟨hbr, (MT_all hn).mpr (Or.inr ⟨k', by omega, z2⟩)⟩
          · exact Or.inr ⟨hbr, (MT_all hn).mpr (Or.inr ⟨k, hk2, Or.inl z⟩)⟩
        rcases hv3 with ⟨rfl, hB3⟩ | ⟨rfl, hO⟩
        · rw [if_neg (show ¬ (1 : Int32) = 0 by decide)]
          obtain ⟨-, sp2⟩ := sp_c hn hX.1 hw hbt (sn2.fa hf3) (wc2.fa hf3) hk2 hl
          rw [sp2, Option.bind_some]
          refine OK.bind (aw_c hn hb hB3 (MT a n bt w X (2 * stn a n k + 1)) (fun Y z => MT_VX hX z)) ?_
          rintro ⟨v4, c4⟩ ⟨hf4, hv4⟩
          dsimp only at hf4 hv4 ⊢
          have hfa := (hf2.tr hf3).tr hf4
          rcases hv4 with ⟨rfl, hB4⟩ | ⟨rfl, hO⟩
          · rw [if_neg (show ¬ (1 : Int32) = 0 by decide)]
            refine OK.ret ⟨hk2, hk2, nI_1 k, hfa, Or.inl ⟨rfl, hB4.iff (fun Y => ?_)⟩⟩
            constructor
            · rintro (((z | z | ⟨k', z1, z2⟩) | z) | z)
              · exact Or.inl z
              · exact Or.inr (Or.inl z)
              · exact Or.inr (Or.inr ⟨k', by omega, z2⟩)
              · exact Or.inr (Or.inr ⟨k, by omega, Or.inl z⟩)
              · exact Or.inr (Or.inr ⟨k, by omega, Or.inr z⟩)
            · rintro (z | z | ⟨k', z1, z2⟩)
              · exact Or.inl (Or.inl (Or.inl z))
              · exact Or.inl (Or.inl (Or.inr (Or.inl z)))
              · rcases (show k' < k ∨ k' = k by omega) with y | y
                · exact Or.inl (Or.inl (Or.inr (Or.inr ⟨k', y, z2⟩)))
                · subst y
                  rcases z2 with z2 | z2
                  · exact Or.inl (Or.inr z2)
                  · exact Or.inr z2
          · rw [if_pos rfl]
            refine OK.ret ⟨hk2, hk2, nI_1 k, hfa, Or.inr ⟨rfl, fun Q hQ => hO Q (fun Y hY => ?_)⟩⟩
            rcases hY with z | z
            · exact hQ Y (hs1 Y z)
            · exact hQ Y (Or.inr ⟨hbr, (MT_all hn).mpr (Or.inr ⟨k, hk2, Or.inr z⟩)⟩)
        · rw [if_pos rfl]
          exact OK.ret ⟨hk2, hk2, nI_1 k, hf2.tr hf3, Or.inr ⟨rfl, fun Q hQ => hO Q (fun Y hY => hQ Y (hs1 Y hY))⟩⟩
      · rw [if_pos rfl]
        exact OK.ret ⟨hf2, Or.inr ⟨rfl, hO⟩⟩
    · rcases hv with ⟨v1, v2⟩ | ⟨v1, v2⟩
      · refine Or.inl ⟨v1, v2.iff (fun Y => ?_)⟩
        rw [MT_18]
        exact ⟨fun z => z.elim Or.inl (fun z => Or.inr (Or.inl z)), fun z => z.elim Or.inl (fun z => z.elim Or.inr (fun ⟨k', z, _⟩ => by omega))⟩
      · refine Or.inr ⟨v1, fun Q hQ => v2 Q (fun Y hY => hQ Y (hY.elim Or.inl (fun z => Or.inr ⟨hbr, 18, by omega, by rw [MT_18]; exact z⟩)))⟩
    · rintro ⟨v, c2⟩ hr
      dsimp only at hr ⊢
      rw [rg_t (by rcases hr.2 with z | z; exact Or.inr z.1; exact Or.inl z.1)]
      exact OK.ret hr
  · rw [if_neg hbr, if_pos rfl]
    exact OK.ret ⟨FAb.rf, Or.inl ⟨rfl, h.iff (fun Y => ⟨Or.inl, fun z => z.elim id (fun z => absurd z.1 hbr)⟩)⟩⟩
end RF4
