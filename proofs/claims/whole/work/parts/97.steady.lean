/-! steady: the whole method, with the Stance there or made -/
def i_ifnn (t : Nat) : rh_X := fun _ s => match s.1.2.2 with
  | .ref _ :: r => some ((t, s.1.2.1, r), s.2)
  | .null :: r => some ((s.1.1 + 3, s.1.2.1, r), s.2)
  | _ => none
theorem sn_ifnn {own : String} {cc : ByteArray} {nL pc : Nat} {z : Int} {t : Nat} (hd : decode cc pc = .ok (.ifnonnull z, 3)) (ht : (pc : Int) + z = (t : Int)) : rh_Snd own cc nL pc (i_ifnn t) := by
  intro p l e R s m args below meth c D dT A adr Q L lv st h fr h' hC hf H locs ls cells slots hce hsl hG hl kk
  have hx := hC.1
  have hb := hC.2.1
  unfold i_ifnn at hf
  dsimp only at hf
  split at hf
  · cases hf
    exact lv_ifnonnull hx hb hd ht (kk H locs ls hG hl)
  · cases hf
    exact lv_ifnonnullN hx hb hd (kk H locs ls hG hl)
  · cases hf
def pg_st : rh_P := (39, .inl (i_ifnn 61)) :: pg_X11_steady
theorem dS39 : decode cX11_steady 39 = .ok (.ifnonnull 22, 3) := by decide +kernel
theorem dS42 : decode cX11_steady 42 = .ok (.aload_n 0, 1) := by decide +kernel
theorem dS43 : decode cX11_steady 43 = .ok (.new 280, 3) := by decide +kernel
theorem dS46 : decode cX11_steady 46 = .ok (.dup, 1) := by decide +kernel
theorem dS47 : decode cX11_steady 47 = .ok (.aload_n 0, 1) := by decide +kernel
theorem dS48 : decode cX11_steady 48 = .ok (.getfield 23, 3) := by decide +kernel
theorem dS51 : decode cX11_steady 51 = .ok (.aload_n 0, 1) := by decide +kernel
theorem dS52 : decode cX11_steady 52 = .ok (.getfield 32, 3) := by decide +kernel
theorem dS55 : decode cX11_steady 55 = .ok (.invokespecial 286, 3) := by decide +kernel
theorem st_ent : ∀ q ∈ pg_st, rh_Ent rh_PT RX11 cX11_steady 3 (some .int) q := rh_c (sn_ifnn dS39 (by decide)) (by have h := (rh_hall 134).2; rw [pt_134] at h; exact h)
theorem cw_set : rh_up (cw_R none) 0 12 (some 42) = cw_R (some 42) := by
  funext o k
  unfold rh_up
  by_cases ho : o = 0
  · subst ho
    by_cases hk : k = 12
    · subst hk; rfl
    · rw [if_neg (by omega)]
      by_cases h1 : k < 12
      · rcases (show k = 0 ∨ k = 1 ∨ k = 2 ∨ k = 3 ∨ k = 4 ∨ k = 5 ∨ k = 6 ∨ k = 7 ∨ k = 8 ∨ k = 9 ∨ k = 10 ∨ k = 11 by omega) with h | h | h | h | h | h | h | h | h | h | h | h <;> subst h <;> rfl
      · obtain ⟨j, rfl⟩ : ∃ j, k = j + 13 := ⟨k - 13, by omega⟩
        rfl
  · rw [if_neg (by omega)]
    obtain ⟨j, rfl⟩ : ∃ j, o = j + 1 := ⟨o - 1, by omega⟩
    rfl
theorem rh_to.ex {R : Nat → List Value → rh_H → Option Value → rh_H → Prop} {L : rh_L} {P : rh_P} {t : rh_S} {v : Option Value} {h' : rh_H} (hk : rh_Ex R L P t v h') : ∀ (n : Nat) (s : rh_S), rh_to R L P n s t → rh_Ex R L P s v h'
  | 0, s, hs => by
    have hs : s = t := hs
    rw [hs]; exact hk
  | n + 1, s, hs => by
    unfold rh_to at hs
    obtain ⟨lv, hlf, hs⟩ := hs
    split at hs
    · exact hs.elim
    · next f hf =>
      obtain ⟨s1, h1, hs⟩ := hs
      obtain ⟨i, hi⟩ := rh_to.ex hk n s1 hs
      refine ⟨i + 1, ?_⟩
      unfold rh_run
      refine ⟨lv, hlf, ?_⟩
      rw [hf]
      exact ⟨s1, h1, hi⟩
    · next c hc =>
      obtain ⟨a, r, u, h1, g1, g2, g3, g4, g5, hs⟩ := hs
      obtain ⟨i, hi⟩ := rh_to.ex hk n _ hs
      refine ⟨i + 1, ?_⟩
      unfold rh_run
      refine ⟨lv, hlf, ?_⟩
      rw [hc]
      exact ⟨a, r, u, h1, g1, g2, g3, g4, g5, hi⟩
    · exact hs.elim
theorem rh_to.to {R : Nat → List Value → rh_H → Option Value → rh_H → Prop} {L : rh_L} {P : rh_P} {t t' : rh_S} (hk : rh_To R L P t t') : ∀ (n : Nat) (s : rh_S), rh_to R L P n s t → rh_To R L P s t'
  | 0, s, hs => by
    have hs : s = t := hs
    rw [hs]; exact hk
  | n + 1, s, hs => by
    unfold rh_to at hs
    obtain ⟨lv, hlf, hs⟩ := hs
    split at hs
    · exact hs.elim
    · next f hf =>
      obtain ⟨s1, h1, hs⟩ := hs
      obtain ⟨i, hi⟩ := rh_to.to hk n s1 hs
      refine ⟨i + 1, ?_⟩
      unfold rh_to
      refine ⟨lv, hlf, ?_⟩
      rw [hf]
      exact ⟨s1, h1, hi⟩
    · next c hc =>
      obtain ⟨a, r, u, h1, g1, g2, g3, g4, g5, hs⟩ := hs
      obtain ⟨i, hi⟩ := rh_to.to hk n _ hs
      refine ⟨i + 1, ?_⟩
      unfold rh_to
      refine ⟨lv, hlf, ?_⟩
      rw [hc]
      exact ⟨a, r, u, h1, g1, g2, g3, g4, g5, hi⟩
    · exact hs.elim
theorem rh_To.ex {R : Nat → List Value → rh_H → Option Value → rh_H → Prop} {L : rh_L} {P : rh_P} {s t : rh_S} {v : Option Value} {h' : rh_H} (hs : rh_To R L P s t) (hk : rh_Ex R L P t v h') : rh_Ex R L P s v h' := by
  obtain ⟨n, hn⟩ := hs
  exact rh_to.ex hk n s hn
set_option maxRecDepth 20000 in
set_option maxHeartbeats 4000000 in
theorem st61 (d : Nat) (h : HI) (g : Nat → Nat → Int64) (p0 : Int32) {z : Int32 × HI} (hf : stc h p0 = some z) : rh_Ex (rh_M rh_PT (cw_L ++ cw_X) (d + 5)) (cw_L ++ cw_X) pg_st ((61, [some (.ref 0), some (.int p0), none], []), (h, g, cw_R (some 42))) (some (.int z.1)) (z.2, g, cw_R (some 42)) := by
  unfold stc at hf
  refine rh_Ex.blk 6 (s' := ((71, [some (.ref 0), some (.int p0), none], [.int (1 : Int32), .ref 40, .int p0, .ref 42]), (h, g, cw_R (some 42)))) rfl ?_
  refine rh_Ex.stp (s' := ((72, [some (.ref 0), some (.int p0), none], [.int (h 40 (1 : Int32).toNatClampNeg), .int p0, .ref 42]), (h, g, cw_R (some 42)))) rfl (st_iald (n := 3) rfl (by decide)) ?_
  obtain ⟨x, hx, hf⟩ := rh_bq hf
  refine rh_Ex.call (j := 82) (rc := some 8) [.ref 42, .int p0, .int (h 40 (1 : Int32).toNatClampNeg)] [] (some (.int x.1)) rfl rfl rfl (Nat.le_of_ble_eq_true rfl) (R_St_widen d (some 42) h g p0 _ hx) ?_
  show rh_Ex _ _ _ ((75, [some (.ref 0), some (.int p0), none], [.int x.1]), (x.2, g, cw_R (some 42))) _ _
  refine rh_Ex.blk 3 (s' := ((78, [some (.ref 0), some (.int p0), some (.int x.1)], [.int (1 : Int32), .int x.1]), (x.2, g, cw_R (some 42)))) rfl ?_
  by_cases q1 : x.1 = 1
  · rw [if_pos q1] at hf
    refine rh_Ex.stp (s' := ((81, [some (.ref 0), some (.int p0), some (.int x.1)], []), (x.2, g, cw_R (some 42)))) rfl (st_icne_p q1) ?_
    refine rh_Ex.blk 3 (s' := ((86, [some (.ref 0), some (.int p0), some (.int x.1)], [.int p0, .ref 42]), (x.2, g, cw_R (some 42)))) rfl ?_
    obtain ⟨y, hy, hf⟩ := rh_bq hf
    refine rh_Ex.call (j := 84) (rc := some 8) [.ref 42, .int p0] [] none rfl rfl rfl (Nat.le_of_ble_eq_true rfl) (R_St_narrow d (some 42) x.2 g p0 hy) ?_
    show rh_Ex _ _ _ ((89, [some (.ref 0), some (.int p0), some (.int x.1)], []), (y, g, cw_R (some 42))) _ _
    refine rh_Ex.blk 5 (s' := ((98, [some (.ref 0), some (.int p0), some (.int x.1)], [.ref 2, .int p0, .ref 42]), (y, g, cw_R (some 42)))) rfl ?_
    obtain ⟨w, hw, hf⟩ := rh_bq hf
    refine rh_Ex.call (j := 89) (rc := some 8) [.ref 42, .int p0, .ref 2] [] none rfl rfl rfl (Nat.le_of_ble_eq_true rfl) (R_St_tellSteps (d + 2) (some 42) y g p0 hw) ?_
    show rh_Ex _ _ _ ((101, [some (.ref 0), some (.int p0), some (.int x.1)], []), (w, g, cw_R (some 42))) _ _
    refine rh_Ex.blk 1 (s' := ((102, [some (.ref 0), some (.int p0), some (.int x.1)], [.int x.1]), (w, g, cw_R (some 42)))) rfl ?_
    obtain rfl := Option.some.inj hf
    exact rh_Ex.ret rfl rfl
  · rw [if_neg q1] at hf
    refine rh_Ex.stp (s' := ((101, [some (.ref 0), some (.int p0), some (.int x.1)], []), (x.2, g, cw_R (some 42)))) rfl (st_icne_n q1) ?_
    refine rh_Ex.blk 1 (s' := ((102, [some (.ref 0), some (.int p0), some (.int x.1)], [.int x.1]), (x.2, g, cw_R (some 42)))) rfl ?_
    obtain rfl := Option.some.inj hf
    exact rh_Ex.ret rfl rfl
set_option maxRecDepth 20000 in
set_option maxHeartbeats 4000000 in
theorem st_pre (d : Nat) (xx : rh_L) (sv : Option Nat) (h : HI) (g : Nat → Nat → Int64) (p0 : Int32) {z : HI → HI} {y : Int32 × HI} (hf : stX z h p0 = some y) : rh_Ex (rh_M rh_PT (cw_L ++ xx) (d + 5)) (cw_L ++ xx) pg_st ((0, [some (.ref 0), some (.int p0), none], []), (h, g, cw_R sv)) (some (.int y.1)) (y.2, g, cw_R sv) ∨ ∃ h2, stc (z h2) p0 = some y ∧ rh_To (rh_M rh_PT (cw_L ++ xx) (d + 5)) (cw_L ++ xx) pg_st ((0, [some (.ref 0), some (.int p0), none], []), (h, g, cw_R sv)) ((39, [some (.ref 0), some (.int p0), none], [rh_ro sv]), (h2, g, cw_R sv)) := by
  unfold stX at hf
  have hw := R_La_within (d + 4) (cw_L ++ xx) (cw_R sv) h g p0 (0 : Int32) (20 : Int32) rfl
  by_cases q1 : (f_La_within p0 (0 : Int32) (20 : Int32)) = 0
  · rw [if_pos q1] at hf
    refine Or.inl ?_
    refine rh_Ex.blk 3 (s' := ((4, [some (.ref 0), some (.int p0), none], [.int (20 : Int32), .int (0 : Int32), .int p0]), (h, g, cw_R sv))) rfl ?_
    refine rh_Ex.call (j := 155) (rc := none) [.int p0, .int (0 : Int32), .int (20 : Int32)] [] (some (.int (f_La_within p0 (0 : Int32) (20 : Int32)))) rfl rfl trivial (Nat.le_of_ble_eq_true rfl) hw ?_
    refine rh_Ex.stp (s' := ((10, [some (.ref 0), some (.int p0), none], []), (h, g, cw_R sv))) rfl (st_ifne_p q1) ?_
    refine rh_Ex.blk 1 (s' := ((11, [some (.ref 0), some (.int p0), none], [.int (-1 : Int32)]), (h, g, cw_R sv))) rfl ?_
    obtain rfl := Option.some.inj hf
    exact rh_Ex.ret rfl rfl
  · rw [if_neg q1] at hf
    obtain ⟨x2, hx2, hf⟩ := rh_bq hf
    have hle := R_De_leanAt (d + 1) xx sv h g (h 13 1) hx2
    have hti := R_La_tipsBy (d + 4) xx sv x2.2 g x2.1 rfl
    have hto : rh_To (rh_M rh_PT (cw_L ++ xx) (d + 5)) (cw_L ++ xx) pg_st ((0, [some (.ref 0), some (.int p0), none], []), (h, g, cw_R sv)) ((30, [some (.ref 0), some (.int p0), none], [.int (f_La_tipsBy x2.2 x2.1)]), (x2.2, g, cw_R sv)) := by
      refine rh_To.blk 3 (s' := ((4, [some (.ref 0), some (.int p0), none], [.int (20 : Int32), .int (0 : Int32), .int p0]), (h, g, cw_R sv))) rfl ?_
      refine rh_To.call (j := 155) (rc := none) [.int p0, .int (0 : Int32), .int (20 : Int32)] [] (some (.int (f_La_within p0 (0 : Int32) (20 : Int32)))) rfl rfl trivial (Nat.le_of_ble_eq_true rfl) hw ?_
      refine rh_To.stp (s' := ((12, [some (.ref 0), some (.int p0), none], []), (h, g, cw_R sv))) rfl (st_ifne_n q1) ?_
      refine rh_To.blk 6 (s' := ((24, [some (.ref 0), some (.int p0), none], [.int (h 13 1), .ref 13, .ref 0]), (h, g, cw_R sv))) rfl ?_
      refine rh_To.call (j := 20) (rc := some 2) [.ref 13, .int (h 13 1)] [.ref 0] (some (.int x2.1)) rfl rfl rfl (Nat.le_of_ble_eq_true rfl) hle ?_
      refine rh_To.call (j := 161) (rc := some 10) [.ref 0, .int x2.1] [] (some (.int (f_La_tipsBy x2.2 x2.1))) rfl rfl rfl (Nat.le_of_ble_eq_true rfl) hti ?_
      exact rh_To.rf
    by_cases q3 : (f_La_tipsBy x2.2 x2.1) = 0
    · rw [if_pos q3] at hf
      refine Or.inr ⟨x2.2, hf, ?_⟩
      obtain ⟨n, hn⟩ := hto
      exact rh_to.to (rh_To.stp (s' := ((35, [some (.ref 0), some (.int p0), none], []), (x2.2, g, cw_R sv))) rfl (st_ifeq_p q3) (rh_To.blk 2 (s' := ((39, [some (.ref 0), some (.int p0), none], [rh_ro sv]), (x2.2, g, cw_R sv))) rfl rh_To.rf)) n _ hn
    · rw [if_neg q3] at hf
      refine Or.inl (hto.ex ?_)
      refine rh_Ex.stp (s' := ((33, [some (.ref 0), some (.int p0), none], []), (x2.2, g, cw_R sv))) rfl (st_ifeq_n q3) ?_
      refine rh_Ex.blk 1 (s' := ((34, [some (.ref 0), some (.int p0), none], [.int (0 : Int32)]), (x2.2, g, cw_R sv))) rfl ?_
      obtain rfl := Option.some.inj hf
      exact rh_Ex.ret rfl rfl
