/-! an act of A DAY, read on both sides -/
theorem he14 (h : HI) (w : Int32) : f_Mo_here_r4 (rh_up h 0 14 w) = f_Mo_here_r4 h := rfl
theorem he13 (h : HI) (k : Nat) (w : Int32) : f_Mo_here_r4 (rh_up h 13 k w) = f_Mo_here_r4 h := rfl
theorem byte_of {x : Int32} {v : Nat} (h1 : x.toInt8.toInt32 = x) (h2 : x &&& 255 = nI v) (hv : v < 128) : x = nI v := by
  rw [← h1, ← fa_byte_low x, h2, fa_byte_small hv]
theorem let4 {t top p : Nat} {tx : Nat → Nat} {h : HI} (r : RS t top tx p h) (hb : ∀ i, i < t → (h 4 i).toInt8.toInt32 = h 4 i) : f_Mo_letter_r4 h = some (if p < t ∧ p < top ∧ 97 ≤ tx p ∧ tx p ≤ 105 then (nI (tx p - 97), rh_up h 0 13 (nI (p + 1))) else (0, rh_up h 0 14 (nI p))) := by
  have r13 := r.2.2.2.2.2.1
  have r14 := r.2.2.2.2.2.2.1
  unfold f_Mo_letter_r4
  rw [fine1 r14, if_neg (by decide), he4 r, Option.bind_some, r13, fault1 r14, nI_1, show nI (p + 1) - 1 = nI p from pk_sub (a := p + 1) (b := 1) (by omega), in_wi]
  by_cases hh : p < t ∧ p < top
  · have h256 := (r.2.2.2.2.2.2.2 p hh.1).1
    have p150 := r.2.2.1
    have t80 := r.1
    have hHR : HR t top tx p = nI (tx p) := if_pos hh
    rw [hHR]
    by_cases h1 : 97 ≤ tx p ∧ tx p ≤ 105
    · rw [if_neg (show ¬ f_La_within (nI (tx p)) 97 105 = 0 by
        unfold f_La_within
        rw [if_neg (show ¬ nI (tx p) < 97 from nltI (s := 97) (by omega) (by omega)), if_neg (show ¬ 105 < nI (tx p) from nltI (x := 105) (by omega) (by omega))]; decide), if_pos ⟨hh.1, hh.2, h1.1, h1.2⟩, rg_t (gd_nI (by omega) (by omega)), nI_clamp (by omega)]
      have e4 : rh_up h 0 13 (nI (p + 1)) 4 p = nI (tx p) := byte_of (hb p hh.1) (r.2.2.2.2.2.2.2 p hh.1).2 (by omega)
      rw [e4, show nI (tx p) - 97 = nI (tx p - 97) from pk_sub (b := 97) h1.1]
    · rw [if_pos (show f_La_within (nI (tx p)) 97 105 = 0 by
        unfold f_La_within
        by_cases h2 : tx p < 97
        · rw [if_pos (show nI (tx p) < 97 from ltI (s := 97) (by omega) h2)]
        · rw [if_neg (show ¬ nI (tx p) < 97 from nltI (s := 97) (by omega) h2), if_pos (show 105 < nI (tx p) from ltI (x := 105) (by omega) (by omega))]), if_neg (fun z => h1 z.2.2)]
  · have hHR : HR t top tx p = -1 := if_neg hh
    rw [hHR, if_pos (by decide), if_neg (fun z => hh ⟨z.1, z.2.1⟩)]
theorem let4n {h : HI} {w : Nat} (hw : w < 2 ^ 31) (r : h 0 14 = nI w) : f_Mo_letter_r4 h = some (0, h) := by
  unfold f_Mo_letter_r4
  rw [fine0 hw r, if_pos rfl]
section DACT
variable {C0 M0 C M : HI} {t n p : Nat} {tx : Nat → Nat}
def dBad (C0 M0 C M : HI) (t n p : Nat) : Prop := ∃ w M' C', w < 200 ∧ f_Mo_readAct_r4 M (nI (3 * n)) = some M' ∧ M' 0 14 = nI w ∧ FM M0 M' ∧ FD C0 C' ∧ ∀ N, 10 ≤ N → (rh_loop (b_Re_readThrough_Dr_21_1_19 (nI t) 60 (nI (min t 60))) N (nI p, C)).bind (dPost (nI t)) = some (-1 - nI w, C')
def dGood (C0 M0 C M : HI) (t n p : Nat) (tx : Nat → Nat) : Prop := ∃ q M' C' s d, p + 2 ≤ q ∧ q ≤ p + 5 ∧ q ≤ min t 60 ∧ f_Mo_readAct_r4 M (nI (3 * n)) = some M' ∧ FM M0 M' ∧ RS t 60 tx q M' ∧ FD C0 C' ∧ C' 21 3 = nI (n + 1) ∧ C' 21 4 = nI s ∧ C' 21 5 = nI d ∧ s ≤ 5 ∧ d < 100 ∧ (s = 5 ∨ (s = 1 ∧ 0 < d)) ∧ (q < min t 60 → tx q ≠ 59 → f_Dr_takes C' (nI (tx q)) = some (0, C')) ∧ AC C' M' n ∧ (∀ j, j < n → C' 22 j = C 22 j ∧ C' 23 j = C 23 j ∧ C' 24 j = C 24 j) ∧ (∀ i, i < 3 * n → M' 13 i = M 13 i) ∧ ∀ N, 10 ≤ N → rh_loop (b_Re_readThrough_Dr_21_1_19 (nI t) 60 (nI (min t 60))) N (nI p, C) = rh_loop (b_Re_readThrough_Dr_21_1_19 (nI t) 60 (nI (min t 60))) (N - (q - p)) (nI q, C')
theorem kC_f {x : Nat} (f : FD C0 C) : FD C0 (kC C n x) := ((((((f.u 22 n _ (by omega)).u 23 n _ (by omega)).u 24 n _ (by omega)).u 21 3 _ (by omega)).u 21 5 _ (by omega)).u 21 6 _ (by omega)).u 21 4 _ (by omega)
theorem kC_o {x j : Nat} (hj : j ≠ n) : kC C n x 22 j = C 22 j ∧ kC C n x 23 j = C 23 j ∧ kC C n x 24 j = C 24 j := by
  refine ⟨?_, ?_, ?_⟩
  · show rh_up C 22 n (nI x) 22 j = _
    rw [up_f, if_neg (by omega)]
  · show rh_up C 23 n 0 23 j = _
    rw [up_f, if_neg (by omega)]
  · show rh_up C 24 n 0 24 j = _
    rw [up_f, if_neg (by omega)]
theorem kC_22 {x : Nat} : kC C n x 22 n = nI x := rh_up_s C 22 n (nI x)
theorem kC_24 {x : Nat} : kC C n x 24 n = nI 0 := rh_up_s C 24 n 0
theorem da_act (hC1 : ∀ i, i < t → C0 1 i = nI (tx i)) (ht : t ≤ 80) (hB : ∀ i, i < t → (M0 4 i).toInt8.toInt32 = M0 4 i) (hn : 3 * n ≤ p) (hp : p ≤ min t 60) (fC : FD C0 C) (s0 : C 21 4 = 0) (n0 : C 21 3 = nI n) (fM : FM M0 M) (rs : RS t 60 tx p M) : dBad C0 M0 C M t n p ∨ dGood C0 M0 C M t n p tx := by
  have r13 := rs.2.2.2.2.2.1
  have r14 := rs.2.2.2.2.2.2.1
  have hn24 : n < 24 := by omega
  have g0 := gd_nI (i := 3 * n) (N := 240) (by omega) (by omega)
  have g1 := gd_nI (i := 3 * n + 1) (N := 240) (by omega) (by omega)
  have g2 := gd_nI (i := 3 * n + 2) (N := 240) (by omega) (by omega)
  have hx256 : ∀ i, i < t → tx i < 256 := fun i hi => (rs.2.2.2.2.2.2.2 i hi).1
  have e3 : nI (3 * n) + 1 = nI (3 * n + 1) := nI_1 _
  have e32 : nI (3 * n) + 2 = nI (3 * n + 2) := nI_add _ 2
  by_cases hk : p < min t 60 ∧ (tx p = 114 ∨ tx p = 98 ∨ tx p = 111 ∨ tx p = 115)
  · obtain ⟨hpe, hx⟩ := hk
    -- the kind
    have hc1 := dk_1 s0 n0 hn24 hx
    have f1 : FD C0 (kC C n (tx p)) := kC_f fC
    have go1 : ∀ N, 10 ≤ N → rh_loop (b_Re_readThrough_Dr_21_1_19 (nI t) 60 (nI (min t 60))) N (nI p, C) = rh_loop (b_Re_readThrough_Dr_21_1_19 (nI t) 60 (nI (min t 60))) (N - 1) (nI (p + 1), kC C n (tx p)) := fun N hN => da_go hC1 ht fC hpe hc1 (by omega)
    have hHR : HR t 60 tx p = nI (tx p) := if_pos ⟨by omega, by omega⟩
    have hxl : tx p < 256 := hx256 p (by omega)
    generalize hM1 : rh_up (rh_up M 0 13 (nI (p + 1))) 13 (3 * n) (nI (tx p)) = M1
    have fM1 : FM M0 M1 := by rw [← hM1]; exact (fM.e (E34.rf.u13 _)).u _ _
    have rs1 : RS t 60 tx (p + 1) M1 := by
      rw [← hM1]
      exact (rs.mv (E34.rf.u13 _) rfl (by omega) r14).u6 _ _ (by omega) (by omega)
    have M1o : ∀ i, i ≠ 3 * n → M1 13 i = M 13 i := fun i hi => by
      rw [← hM1, up_f, if_neg (by omega), up_f, if_neg (by omega)]
    have M1n : M1 13 (3 * n) = nI (tx p) := by rw [← hM1, rh_up_s]
    have hread : f_Mo_readAct_r4 M (nI (3 * n)) = if nI (tx p) = 114 then (f_Mo_number_r4 M1 2).bind (fun x5 => rh_g (0 ≤ (nI (3 * n + 1)).toInt ∧ (nI (3 * n + 1)).toInt < ((240 : Nat) : Int)) (some ((rh_up x5.2 13 (nI (3 * n + 1)).toNatClampNeg x5.1)))) else (f_Mo_letter_r4 M1).bind (fun x7 => rh_g (0 ≤ (nI (3 * n + 1)).toInt ∧ (nI (3 * n + 1)).toInt < ((240 : Nat) : Int)) (if nI (tx p) = (98 : Int32) then (f_Mo_passes_r4 (rh_up x7.2 13 (nI (3 * n + 1)).toNatClampNeg x7.1) (45 : Int32)).bind (fun x10 => (f_Mo_number_r4 x10.2 (1 : Int32)).bind (fun x11 => if x10.1 = 0 then j_Mo_readAct_r4_125 x11.2 (nI (3 * n)) (nI (tx p)) (nI (3 * n + 2)) x11.1 else j_Mo_readAct_r4_125 x11.2 (nI (3 * n)) (nI (tx p)) (nI (3 * n + 2)) (-x11.1))) else j_Mo_readAct_r4_126 (rh_up x7.2 13 (nI (3 * n + 1)).toNatClampNeg x7.1) (nI (3 * n)) (nI (tx p)))) := by
      have hr0 : f_Mo_readAct_r4 M (nI (3 * n)) = j_Mo_readAct_r4_37 M (nI (3 * n)) (nI (tx p)) := by
        unfold f_Mo_readAct_r4
        rw [he4 rs, Option.bind_some, hHR]
        rcases hx with z | z | z | z <;> rw [z]
        · rw [if_pos (show nI 114 = 114 from rfl)]
        · rw [if_neg (show ¬ nI 98 = 114 by decide), if_pos (show nI 98 = 98 from rfl)]
        · rw [if_neg (show ¬ nI 111 = 114 by decide), if_neg (show ¬ nI 111 = 98 by decide), if_pos (show nI 111 = 111 from rfl)]
        · rw [if_neg (show ¬ nI 115 = 114 by decide), if_neg (show ¬ nI 115 = 98 by decide), if_neg (show ¬ nI 115 = 111 by decide), if_pos (show nI 115 = 115 from rfl)]
      rw [hr0]
      unfold j_Mo_readAct_r4_37
      rw [rg_t g0, r13, nI_1 p, nI_clamp (n := 3 * n) (by omega), hM1, e3, e32]
    have kc3 : kC C n (tx p) 21 3 = nI (n + 1) := rfl
    have kc5 : kC C n (tx p) 21 5 = nI 0 := rfl
    have kc6 : kC C n (tx p) 21 6 = 0 := rfl
    rw [nI_clamp (n := 3 * n + 1) (by omega)] at hread
    by_cases h114 : tx p = 114
    · -- r
      have kc4 : kC C n (tx p) 21 4 = nI 1 := if_pos h114
      rw [if_pos (show nI (tx p) = 114 by rw [h114]; rfl)] at hread
      obtain ⟨⟨v, M2⟩, hnum, e, he3, hdg, hdx, hv, e34, e13, e14⟩ := nm4 rs1 (D := 2) (by omega) (by omega)
      dsimp only at hv e34 e13 e14
      subst hv
      rw [show (2 : Int32) = nI 2 from rfl, hnum, Option.bind_some, rg_t g1] at hread
      have v99 : vl tx (p + 1) e ≤ 99 := by
        have := vl_lt (t := t) (top := 60) (tx := tx) (p := p + 1) (fun i _ h => h.2.2.2) e (by omega) hdg
        have h3 : 10 ^ e ≤ 10 ^ 2 := Nat.pow_le_pow_right (by omega) he3
        omega
      have qle : p + 1 + e ≤ min t 60 := by
        rcases Nat.eq_zero_or_pos e with z | z
        · omega
        · have := hdg (e - 1) (by omega); have := this.1; have := (hdg (e - 1) (by omega)).2.1; omega
      -- the class reads the same digits
      have cdig : ∀ i, i ≤ e → ∃ C2, (∀ N, 10 ≤ N → rh_loop (b_Re_readThrough_Dr_21_1_19 (nI t) 60 (nI (min t 60))) N (nI p, C) = rh_loop (b_Re_readThrough_Dr_21_1_19 (nI t) 60 (nI (min t 60))) (N - (1 + i)) (nI (p + 1 + i), C2)) ∧ FD C0 C2 ∧ C2 21 3 = nI (n + 1) ∧ C2 21 4 = nI 1 ∧ C2 21 5 = nI i ∧ C2 24 n = nI (vl tx (p + 1) i) ∧ C2 22 n = nI 114 ∧ ∀ j, j < n → C2 22 j = C 22 j ∧ C2 23 j = C 23 j ∧ C2 24 j = C 24 j := by
        intro i
        induction i with
        | zero =>
          intro _
          exact ⟨_, fun N hN => go1 N hN, f1, kc3, kc4, kc5, kC_24, by rw [kC_22, h114], fun j hj => kC_o (by omega)⟩
        | succ i ih =>
          intro hi
          obtain ⟨C2, a1, a2, a3, a4, a5, a6, a7, a8⟩ := ih (by omega)
          have dg := hdg i (by omega)
          have h1 := dn_1 a3 hn24 a4 (by omega) a5 a6 dg.2.2.1 dg.2.2.2
          refine ⟨_, fun N hN => ?_, (a2.u 24 n _ (by omega)).u 21 5 _ (by omega), a3, a4, rfl, rh_up_s C2 24 n _, a7, fun j hj => ⟨(a8 j hj).1, (a8 j hj).2.1, ?_⟩⟩
          · rw [a1 N hN, da_go hC1 ht a2 (by have := dg.1; have := dg.2.1; omega) h1 (by omega), show N - (1 + i) - 1 = N - (1 + (i + 1)) by omega]; rfl
          · show rh_up C2 24 n _ 24 j = _
            rw [up_f, if_neg (by omega)]; exact (a8 j hj).2.2
      obtain ⟨C2, a1, a2, a3, a4, a5, a6, a7, a8⟩ := cdig e (by omega)
      by_cases he0 : e = 0
      · subst he0
        rw [if_pos rfl] at e14
        left
        refine ⟨p + 1, _, C2, by omega, hread, e14, (fM1.e e34).u _ _, a2, fun N hN => ?_⟩
        rw [a1 N hN]
        refine da_stop hC1 ht a2 (by omega) (fun hq => ?_) (Or.inl ?_) (by omega)
        · exact dn_0 a3 hn24 a4 (by omega) a5 (hx256 _ (by omega)) (by omega) (Or.inr (fun z => (hdx.resolve_left (by omega)) ⟨by omega, by omega, z.1, z.2⟩))
        · rw [ce_s (s := 1) (by omega) (by omega) a4 a5, if_neg (by omega)]
      · rw [if_neg he0] at e14
        right
        refine ⟨p + 1 + e, _, C2, 1, e, by omega, by omega, qle, hread, (fM1.e e34).u _ _, (rs1.mv e34 e13 (by omega) e14).u6 _ _ (by omega) (by omega), a2, a3, a4, a5, by omega, by omega, Or.inr ⟨rfl, by omega⟩, fun hq h59 => ?_, ⟨?_, Or.inl ⟨a7, vl tx (p + 1) e, v99, a6, rh_up_s _ _ _ _⟩⟩, a8, fun i hi => ?_, fun N hN => by rw [a1 N hN, show p + 1 + e - p = 1 + e by omega]⟩
        · refine dn_0 a3 hn24 a4 (by omega) a5 (hx256 _ (by omega)) (fun z => h59 z.1) ?_
          rcases hdx with z | z
          · exact Or.inl z
          · exact Or.inr (fun w => z ⟨by omega, by omega, w.1, w.2⟩)
        · show C2 22 n = rh_up M2 13 (3 * n + 1) _ 13 (3 * n)
          rw [up_f, if_neg (by omega), e34 13 _ (by omega), M1n, a7, h114]
        · show rh_up M2 13 (3 * n + 1) _ 13 i = _
          rw [up_f, if_neg (by omega), e34 13 _ (by omega), M1o i (by omega)]
    · -- a letter follows
      have kc4 : kC C n (tx p) 21 4 = nI 2 := if_neg h114
      rw [if_neg (show ¬ nI (tx p) = 114 from neI (s := 114) (by omega) (by omega) h114)] at hread
      have hK : tx p = 98 ∨ tx p = 111 ∨ tx p = 115 := by omega
      have hlet := let4 rs1 (fun i hi => by rw [fM1 4 i (by omega) (by omega)]; exact hB i hi)
      by_cases hl : p + 1 < t ∧ p + 1 < 60 ∧ 97 ≤ tx (p + 1) ∧ tx (p + 1) ≤ 105
      · rw [if_pos hl] at hlet
        rw [hlet, Option.bind_some, rg_t g1] at hread
        dsimp only at hread
        generalize hM2 : rh_up (rh_up M1 0 13 (nI (p + 1 + 1))) 13 (3 * n + 1) (nI (tx (p + 1) - 97)) = M2 at hread
        have fM2 : FM M0 M2 := by rw [← hM2]; exact (fM1.e (E34.rf.u13 _)).u _ _
        have rs2 : RS t 60 tx (p + 2) M2 := by
          rw [← hM2]
          exact (rs1.mv (E34.rf.u13 _) rfl (by omega) rs1.2.2.2.2.2.2.1).u6 _ _ (by omega) (by omega)
        have r213 := rs2.2.2.2.2.2.1
        have r214 := rs2.2.2.2.2.2.2.1
        have M2o : ∀ i, i ≠ 3 * n → i ≠ 3 * n + 1 → M2 13 i = M 13 i := fun i h1 h2 => by
          rw [← hM2, up_f, if_neg (by omega), up_f, if_neg (by omega), M1o i h1]
        have M2n : M2 13 (3 * n) = nI (tx p) := by rw [← hM2, up_f, if_neg (by omega), up_f, if_neg (by omega), M1n]
        have M2n1 : M2 13 (3 * n + 1) = nI (tx (p + 1) - 97) := by rw [← hM2, rh_up_s]
        have hc2 := dl_1 (C := kC C n (tx p)) kc3 hn24 kc4 hl.2.2.1 hl.2.2.2 hK kC_22
        generalize hC2 : rh_up (rh_up (kC C n (tx p)) 23 n (nI (tx (p + 1) - 97))) 21 4 (if tx p = 111 then 5 else if tx p = 98 then 3 else 4) = C2 at hc2
        have f2 : FD C0 C2 := by rw [← hC2]; exact (f1.u 23 n _ (by omega)).u 21 4 _ (by omega)
        have c23 : C2 21 3 = nI (n + 1) := by rw [← hC2]; rfl
        have c24 : C2 21 4 = if tx p = 111 then 5 else if tx p = 98 then 3 else 4 := by rw [← hC2]; rfl
        have c25 : C2 21 5 = nI 0 := by rw [← hC2]; rfl
        have c26 : C2 21 6 = 0 := by rw [← hC2]; rfl
        have c2k : C2 22 n = nI (tx p) := by rw [← hC2]; exact kC_22
        have c2w : C2 23 n = nI (tx (p + 1) - 97) := by rw [← hC2]; exact rh_up_s _ 23 n _
        have c2o : ∀ j, j < n → C2 22 j = C 22 j ∧ C2 23 j = C 23 j ∧ C2 24 j = C 24 j := fun j hj => by
          have := kC_o (C := C) (n := n) (x := tx p) (j := j) (by omega)
          rw [← hC2]
          refine ⟨this.1, ?_, this.2.2⟩
          show rh_up (kC C n (tx p)) 23 n _ 23 j = _
          rw [up_f, if_neg (by omega)]; exact this.2.1
        have go2 : ∀ N, 10 ≤ N → rh_loop (b_Re_readThrough_Dr_21_1_19 (nI t) 60 (nI (min t 60))) N (nI p, C) = rh_loop (b_Re_readThrough_Dr_21_1_19 (nI t) 60 (nI (min t 60))) (N - 2) (nI (p + 2), C2) := fun N hN => by
          rw [go1 N hN, da_go hC1 ht f1 (by omega) hc2 (by omega), show N - 1 - 1 = N - 2 by omega]
        rcases hK with hK | hK | hK
        · -- b
          have c24 : C2 21 4 = nI 3 := by rw [c24, hK]; rfl
          rw [if_pos (show nI (tx p) = 98 by rw [hK]; rfl)] at hread
          -- perhaps a minus
          have hbm : ∃ (r : Nat) (ng : Bool) (M3 C3 : HI), (r = p + 2 ∨ r = p + 3) ∧ r ≤ min t 60 ∧ f_Mo_passes_r4 M2 45 = some (bI ng, M3) ∧ RS t 60 tx r M3 ∧ E34 M2 M3 ∧ FD C0 C3 ∧ C3 21 3 = nI (n + 1) ∧ C3 21 4 = nI 3 ∧ C3 21 5 = nI 0 ∧ C3 21 6 = bI ng ∧ (∀ o j, o ≠ 21 → C3 o j = C2 o j) ∧ (r < min t 60 → tx r = 45 → ng = true) ∧ ∀ N, 10 ≤ N → rh_loop (b_Re_readThrough_Dr_21_1_19 (nI t) 60 (nI (min t 60))) N (nI p, C) = rh_loop (b_Re_readThrough_Dr_21_1_19 (nI t) 60 (nI (min t 60))) (N - (r - p)) (nI r, C3) := by
            have hps := ps4 rs2 (s := 45) (by omega)
            by_cases hm : p + 2 < t ∧ p + 2 < 60 ∧ tx (p + 2) = 45
            · rw [if_pos hm] at hps
              refine ⟨p + 3, true, _, rh_up C2 21 6 1, Or.inr rfl, by omega, hps, rs2.mv (E34.rf.u13 _) rfl (by omega) r214, E34.rf.u13 _, f2.u 21 6 _ (by omega), c23, c24, c25, rfl, fun o j ho => by rw [up_f, if_neg (by omega)], fun _ _ => rfl, fun N hN => ?_⟩
              rw [go2 N hN, da_go hC1 ht f2 (by omega) (by rw [hm.2.2]; exact dp_m c23 hn24 c24 c26) (by omega), show N - 2 - 1 = N - (p + 3 - p) by omega]
            · rw [if_neg hm] at hps
              exact ⟨p + 2, false, M2, C2, Or.inl rfl, by omega, hps, rs2, E34.rf, f2, c23, c24, c25, c26, fun _ _ _ => rfl, fun h1 h2 => absurd ⟨by omega, by omega, h2⟩ hm, fun N hN => by rw [go2 N hN, show N - 2 = N - (p + 2 - p) by omega]⟩
          obtain ⟨r, ng, M3, C3, hr, hre, hps, rs3, e23, f3, c33, c34, c35, c36, c3o, hng, go3⟩ := hbm
          rw [hps, Option.bind_some] at hread
          obtain ⟨⟨v, M4⟩, hnum, e, he3, hdg, hdx, hv, e34, e13, e14⟩ := nm4 rs3 (D := 1) (by omega) (by omega)
          dsimp only at hv e34 e13 e14
          subst hv
          dsimp only at hread
          rw [show (1 : Int32) = nI 1 from rfl, hnum, Option.bind_some] at hread
          dsimp only at hread
          have hread : f_Mo_readAct_r4 M (nI (3 * n)) = some (rh_up M4 13 (3 * n + 2) (if ng = true then -nI (vl tx r e) else nI (vl tx r e))) := by
            rw [hread]
            unfold j_Mo_readAct_r4_125 j_Mo_readAct_r4_126
            rw [rg_t g2, nI_clamp (by omega), if_neg (show ¬ nI (tx p) = 115 by rw [hK]; decide), rg_t g2, if_neg (show ¬ nI (tx p) = 115 by rw [hK]; decide)]
            cases ng with
            | false => rw [if_pos (show bI false = 0 from rfl), if_neg (by decide)]
            | true => rw [if_neg (show ¬ bI true = 0 by decide), if_pos rfl]
          by_cases he0 : e = 0
          · subst he0
            rw [if_pos rfl] at e14
            left
            refine ⟨r, _, C3, by omega, hread, e14, ((fM2.e e23).e e34).u _ _, f3, fun N hN => ?_⟩
            rw [go3 N hN]
            refine da_stop hC1 ht f3 hre (fun hq => ?_) (Or.inl ?_) (by omega)
            · refine dp_0 c33 hn24 c34 (by omega) c35 (hx256 _ (by omega)) (fun z => (hdx.resolve_left (by omega)) ⟨by omega, by omega, z.1, z.2⟩) (fun h45 => ?_)
              rw [c36, hng hq h45]; decide
            · rw [ce_s (s := 3) (by omega) (by omega) c34 c35, if_neg (by omega)]
          · have he1 : e = 1 := by omega
            subst he1
            rw [if_neg (by omega)] at e14
            have dg := hdg 0 (by omega)
            rw [Nat.add_zero] at dg
            have hd1 := dp_d c33 hn24 c34 dg.2.2.1 dg.2.2.2
            have vl1 : vl tx r 1 = tx r - 48 := by show 10 * 0 + (tx (r + 0) - 48) = _; rw [Nat.add_zero]; omega
            rw [vl1] at hread
            have eam : (if C3 21 6 = 0 then nI (tx r - 48) else -nI (tx r - 48)) = (if ng = true then -nI (tx r - 48) else nI (tx r - 48)) := by
              rw [c36]
              cases ng with
              | false => rw [if_pos (show bI false = 0 from rfl), if_neg (by decide)]
              | true => rw [if_neg (show ¬ bI true = 0 by decide), if_pos rfl]
            rw [eam] at hd1
            right
            refine ⟨r + 1, _, _, 5, 0, by omega, by omega, by have := dg.1; have := dg.2.1; omega, hread, ((fM2.e e23).e e34).u _ _, (rs3.mv e34 e13 (by omega) e14).u6 _ _ (by omega) (by omega), (f3.u 24 n (if ng = true then -nI (tx r - 48) else nI (tx r - 48)) (by omega)).u 21 4 5 (by omega), c33, rfl, c35, by omega, by omega, Or.inl rfl, fun hq h59 => ?_, ⟨?_, Or.inr (Or.inl ⟨?_, ?_, ?_⟩)⟩, fun j hj => ⟨?_, ?_, ?_⟩, fun i hi => ?_, fun N hN => ?_⟩
            · exact de_0 (C := rh_up (rh_up C3 24 n (if ng = true then -nI (tx r - 48) else nI (tx r - 48))) 21 4 5) (n := n) c33 hn24 rfl (hx256 _ (by omega)) h59
            · show C3 22 n = rh_up M4 13 (3 * n + 2) _ 13 (3 * n)
              rw [up_f, if_neg (by omega), e34 13 _ (by omega), e23 13 _ (by omega), M2n, c3o 22 n (by omega), c2k]
            · show C3 22 n = _
              rw [c3o 22 n (by omega), c2k, hK]; rfl
            · show C3 23 n = rh_up M4 13 (3 * n + 2) _ 13 (3 * n + 1)
              rw [up_f, if_neg (by omega), e34 13 _ (by omega), e23 13 _ (by omega), M2n1, c3o 23 n (by omega), c2w]
            · exact (rh_up_s C3 24 n _).trans (rh_up_s M4 13 (3 * n + 2) _).symm
            · exact (c3o 22 j (by omega)).trans (c2o j hj).1
            · exact (c3o 23 j (by omega)).trans (c2o j hj).2.1
            · show rh_up C3 24 n _ 24 j = _
              rw [up_f, if_neg (by omega)]
              exact (c3o 24 j (by omega)).trans (c2o j hj).2.2
            · show rh_up M4 13 (3 * n + 2) _ 13 i = _
              rw [up_f, if_neg (by omega), e34 13 _ (by omega), e23 13 _ (by omega), M2o i (by omega) (by omega)]
            · rw [go3 N hN, da_go hC1 ht f3 (by have := dg.1; have := dg.2.1; omega) hd1 (by omega), show N - (r - p) - 1 = N - (r + 1 - p) by omega]
        · -- o
          have c24 : C2 21 4 = nI 5 := by rw [c24, hK]; rfl
          rw [if_neg (show ¬ nI (tx p) = 98 by rw [hK]; decide)] at hread
          unfold j_Mo_readAct_r4_126 at hread
          rw [if_neg (show ¬ nI (tx p) = 115 by rw [hK]; decide)] at hread
          right
          exact ⟨p + 2, M2, C2, 5, 0, by omega, by omega, by omega, hread, fM2, rs2, f2, c23, c24, c25, by omega, by omega, Or.inl rfl, fun hq h59 => de_0 (n := n) c23 hn24 c24 (hx256 _ (by omega)) h59, ⟨by rw [c2k, M2n], Or.inr (Or.inr (Or.inl ⟨by rw [c2k, hK]; rfl, by rw [c2w, M2n1]⟩))⟩, c2o, fun i hi => M2o i (by omega) (by omega), fun N hN => by rw [go2 N hN, show N - 2 = N - (p + 2 - p) by omega]⟩
        · -- s
          have c24 : C2 21 4 = nI 4 := by rw [c24, hK]; rfl
          rw [if_neg (show ¬ nI (tx p) = 98 by rw [hK]; decide)] at hread
          unfold j_Mo_readAct_r4_126 j_Mo_readAct_r4_153 at hread
          rw [if_pos (show nI (tx p) = 115 by rw [hK]; rfl), he4 rs2, Option.bind_some, e32, nI_clamp (n := 3 * n + 2) (by omega), he13, he13, he4 rs2, rg_t g2, rg_t g2] at hread
          simp only [Option.bind_some] at hread
          by_cases hw : p + 2 < t ∧ p + 2 < 60 ∧ (tx (p + 2) = 43 ∨ tx (p + 2) = 45)
          · have hHR2 : HR t 60 tx (p + 2) = nI (tx (p + 2)) := if_pos ⟨hw.1, hw.2.1⟩
            have hread : f_Mo_readAct_r4 M (nI (3 * n)) = some (rh_up (rh_up M2 13 (3 * n + 2) (if tx (p + 2) = 45 then -1 else 1)) 0 13 (nI (p + 3))) := by
              rw [hread, hHR2, r213, nI_1]
              rcases hw.2.2 with z | z
              · rw [z, if_neg (show ¬ nI 43 = 45 by decide), if_neg (show ¬ nI 43 = 45 by decide), if_pos (show nI 43 = 43 from rfl), if_neg (show ¬ 43 = 45 by omega)]
              · rw [z, if_pos (show nI 45 = 45 from rfl), if_pos (show nI 45 = 45 from rfl), if_pos rfl]
            have hd1 := dw_1 c23 hn24 c24 hw.2.2
            right
            refine ⟨p + 3, _, _, 5, 0, by omega, by omega, by omega, hread, (fM2.u _ _).e (E34.rf.u13 _), (rs2.u6 _ _ (by omega) (by omega)).mv (E34.rf.u13 _) rfl (by omega) r214, (f2.u 24 n (if tx (p + 2) = 45 then -1 else 1) (by omega)).u 21 4 5 (by omega), c23, rfl, c25, by omega, by omega, Or.inl rfl, fun hq h59 => de_0 (C := rh_up (rh_up C2 24 n (if tx (p + 2) = 45 then -1 else 1)) 21 4 5) (n := n) c23 hn24 rfl (hx256 _ (by omega)) h59, ⟨?_, Or.inr (Or.inr (Or.inr ⟨?_, ?_, ?_⟩))⟩, fun j hj => ⟨(c2o j hj).1, (c2o j hj).2.1, ?_⟩, fun i hi => ?_, fun N hN => ?_⟩
            · show C2 22 n = rh_up M2 13 (3 * n + 2) _ 13 (3 * n)
              rw [up_f, if_neg (by omega), M2n, c2k]
            · show C2 22 n = _
              rw [c2k, hK]; rfl
            · show C2 23 n = rh_up M2 13 (3 * n + 2) _ 13 (3 * n + 1)
              rw [up_f, if_neg (by omega), M2n1, c2w]
            · exact (rh_up_s C2 24 n _).trans (rh_up_s M2 13 (3 * n + 2) _).symm
            · show rh_up C2 24 n _ 24 j = _
              rw [up_f, if_neg (by omega)]; exact (c2o j hj).2.2
            · show rh_up M2 13 (3 * n + 2) _ 13 i = _
              rw [up_f, if_neg (by omega), M2o i (by omega) (by omega)]
            · rw [go2 N hN, da_go hC1 ht f2 (by omega) hd1 (by omega), show N - 2 - 1 = N - (p + 3 - p) by omega]
          · have h45 : ¬ HR t 60 tx (p + 2) = 45 := fun z => by
              have := (HR_is rs2 (s := 45) (by omega)).mp z
              exact hw ⟨this.1, this.2.1, Or.inr this.2.2⟩
            have h43 : ¬ HR t 60 tx (p + 2) = 43 := fun z => by
              have := (HR_is rs2 (s := 43) (by omega)).mp z
              exact hw ⟨this.1, this.2.1, Or.inl this.2.2⟩
            rw [if_neg h45, if_neg h45, if_neg h43, fault1 (show rh_up M2 13 (3 * n + 2) 1 0 14 = -1 from r214), r213] at hread
            left
            refine ⟨p + 2, _, C2, by omega, hread, rfl, ((fM2.u _ _).e (E34.rf.u14 _)).e (E34.rf.u13 _), f2, fun N hN => ?_⟩
            rw [go2 N hN]
            refine da_stop hC1 ht f2 (by omega) (fun hq => ?_) (Or.inl ?_) (by omega)
            · exact dw_0 c23 hn24 c24 (by omega) c25 (hx256 _ (by omega)) (fun z => hw ⟨by omega, by omega, z⟩)
            · rw [ce_s (s := 4) (by omega) (by omega) c24 c25, if_neg (by omega)]
      · -- no letter
        rw [if_neg hl] at hlet
        rw [hlet, Option.bind_some, rg_t g1] at hread
        dsimp only at hread
        generalize hM2 : rh_up (rh_up M1 0 14 (nI (p + 1))) 13 (3 * n + 1) 0 = M2 at hread
        have m214 : M2 0 14 = nI (p + 1) := by rw [← hM2]; rfl
        have fM2 : FM M0 M2 := by rw [← hM2]; exact (fM1.e (E34.rf.u14 _)).u _ _
        left
        have hres : ∃ M', f_Mo_readAct_r4 M (nI (3 * n)) = some M' ∧ M' 0 14 = nI (p + 1) ∧ FM M0 M' := by
          rw [hread]
          rcases hK with hK | hK | hK
          · rw [if_pos (show nI (tx p) = 98 by rw [hK]; rfl), ps4n (w := p + 1) (by omega) m214, Option.bind_some]
            dsimp only
            rw [nm4n (w := p + 1) (by omega) m214, Option.bind_some, if_pos rfl]
            unfold j_Mo_readAct_r4_125 j_Mo_readAct_r4_126
            rw [rg_t g2, if_neg (show ¬ nI (tx p) = 115 by rw [hK]; decide)]
            exact ⟨_, rfl, m214, fM2.u _ _⟩
          · rw [if_neg (show ¬ nI (tx p) = 98 by rw [hK]; decide)]
            unfold j_Mo_readAct_r4_126
            rw [if_neg (show ¬ nI (tx p) = 115 by rw [hK]; decide)]
            exact ⟨_, rfl, m214, fM2⟩
          · rw [if_neg (show ¬ nI (tx p) = 98 by rw [hK]; decide)]
            have hh : ∀ v, f_Mo_here_r4 (rh_up M2 13 (3 * n + 2) v) = some (HR t 60 tx (p + 1)) := fun v => by rw [he13, ← hM2, he13, he14, he4 rs1]
            have hh0 : f_Mo_here_r4 M2 = some (HR t 60 tx (p + 1)) := by rw [← hM2, he13, he14, he4 rs1]
            have j153 : ∀ v, ∃ M', j_Mo_readAct_r4_153 M2 (nI (3 * n + 2)) v = some M' ∧ M' 0 14 = nI (p + 1) ∧ FM M0 M' := fun v => by
              unfold j_Mo_readAct_r4_153
              rw [rg_t g2, nI_clamp (by omega), hh, Option.bind_some, Option.bind_some, fault0 (w := p + 1) (by omega) (show rh_up M2 13 (3 * n + 2) v 0 14 = nI (p + 1) from m214)]
              by_cases z1 : HR t 60 tx (p + 1) = 45
              · rw [if_pos z1]; exact ⟨_, rfl, m214, (fM2.u _ _).e (E34.rf.u13 _)⟩
              · rw [if_neg z1]
                by_cases z2 : HR t 60 tx (p + 1) = 43
                · rw [if_pos z2]; exact ⟨_, rfl, m214, (fM2.u _ _).e (E34.rf.u13 _)⟩
                · rw [if_neg z2]; exact ⟨_, rfl, m214, (fM2.u _ _).e (E34.rf.u13 _)⟩
            unfold j_Mo_readAct_r4_126
            rw [if_pos (show nI (tx p) = 115 by rw [hK]; rfl), hh0, Option.bind_some, e32]
            by_cases z1 : HR t 60 tx (p + 1) = 45
            · rw [if_pos z1]; exact j153 _
            · rw [if_neg z1]; exact j153 _
        obtain ⟨M', h1, h2, h3⟩ := hres
        refine ⟨p + 1, M', kC C n (tx p), by omega, h1, h2, h3, f1, fun N hN => ?_⟩
        rw [go1 N hN]
        refine da_stop hC1 ht f1 (by omega) (fun hq => ?_) (Or.inl ?_) (by omega)
        · exact dl_0 kc3 hn24 kc4 (by omega) kc5 (hx256 _ (by omega)) (fun z => hl ⟨by omega, by omega, z.1, z.2⟩)
        · rw [ce_s (s := 2) (by omega) (by omega) kc4 kc5, if_neg (by omega)]
  · -- no kind of act
    left
    have ne : ∀ s, s = 114 ∨ s = 98 ∨ s = 111 ∨ s = 115 → ¬ HR t 60 tx p = nI s := fun s hs z => by
      have := (HR_is rs (s := s) (by omega)).mp z
      exact hk ⟨by omega, by rw [this.2.2]; exact hs⟩
    have hread : f_Mo_readAct_r4 M (nI (3 * n)) = some (rh_up (rh_up (rh_up (rh_up M 0 14 (nI p)) 0 13 (nI (p + 1))) 13 (3 * n) (HR t 60 tx p)) 13 (3 * n + 1) 0) := by
      unfold f_Mo_readAct_r4
      rw [he4 rs, Option.bind_some, if_neg (show ¬ HR t 60 tx p = 114 from ne 114 (by omega)), if_neg (show ¬ HR t 60 tx p = 98 from ne 98 (by omega)), if_neg (show ¬ HR t 60 tx p = 111 from ne 111 (by omega)), if_neg (show ¬ HR t 60 tx p = 115 from ne 115 (by omega)), fault1 r14, r13]
      unfold j_Mo_readAct_r4_37 j_Mo_readAct_r4_126
      rw [rg_t g0, if_neg (show ¬ HR t 60 tx p = 114 from ne 114 (by omega)), show rh_up M 0 14 (nI p) 0 13 = nI p from r13, nI_1 p, nI_clamp (n := 3 * n) (by omega), let4n (w := p) (by omega) rfl, Option.bind_some, e3, rg_t g1, if_neg (show ¬ HR t 60 tx p = 98 from ne 98 (by omega)), if_neg (show ¬ HR t 60 tx p = 115 from ne 115 (by omega)), nI_clamp (n := 3 * n + 1) (by omega)]
    refine ⟨p, _, C, by omega, hread, rfl, (((fM.e (E34.rf.u14 _)).e (E34.rf.u13 _)).u _ _).u _ _, fC, fun N hN => ?_⟩
    refine da_stop hC1 ht fC hp (fun hq => dk_0 s0 (hx256 _ (by omega)) (fun z => hk ⟨hq, z⟩)) (Or.inl ?_) (by omega)
    unfold f_Dr_canEnd
    rw [s0]; rfl
end DACT
