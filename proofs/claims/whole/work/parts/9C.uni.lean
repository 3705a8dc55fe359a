/-! each call of the law, both sides in one form -/
def lk_P (k jc jm : Nat) (a : List Value) : Prop := ∀ (xx : rh_L) (sv : Option Nat) (hc : HI) (gc : Nat → Nat → Int64) (hm : HI) (gm : Nat → Nat → Int64) (rd : Option Nat) (n Pm : Nat) (B : Nat → Nat) (V : Nat → Nat → Nat → Nat), RLt k n Pm B V hc hm → ∃ (r : Int32) (hc' : HI) (gc' : Nat → Nat → Int64) (hm' : HI) (gm' : Nat → Nat → Int64) (rd' : Option Nat) (n' Pm' : Nat) (B' : Nat → Nat) (V' : Nat → Nat → Nat → Nat), rh_M rh_PT (cw_L ++ xx) 300 jc (.ref 0 :: a) (hc, gc, cw_R sv) (some (.int r)) (hc', gc', cw_R sv) ∧ rh_M rh_PT mw_L 300 jm (.ref 0 :: a) (hm, gm, mw_R rd) (some (.int r)) (hm', gm', mw_R rd') ∧ RLt (k + 1) n' Pm' B' V' hc' hm'
theorem uu_sign (k : Nat) (hk : k ≤ 599) (p0 : Int32) : lk_P k 101 188 [.int p0] := by
  intro xx sv hc gc hm gm rd n Pm B V h
  obtain ⟨r, hc', hm', e1, e2, h2⟩ := op_sign h p0
  exact ⟨r, hc', gc, hm', gm, rd, n, Pm, B, V, R_La_sign 299 xx sv hc gc p0 e1, R_Mo_sign 299 rd hm gm p0 e2, h2⟩
theorem uu_end (k : Nat) (hk : k ≤ 599) (p0 : Int32) : lk_P k 102 189 [.int p0] := by
  intro xx sv hc gc hm gm rd n Pm B V h
  obtain ⟨h1, h2⟩ := op_end h p0
  refine ⟨(f_La_end hc p0).1, (f_La_end hc p0).2, gc, (f_Mo_end hm p0).2, gm, rd, n, Pm, B, V, R_La_end 299 xx sv hc gc p0 rfl, ?_, h2⟩
  rw [h1]
  exact R_Mo_end 298 rd hm gm p0 rfl
theorem uu_folk (k : Nat) (hk : k ≤ 599) : lk_P k 103 198 [] := by
  intro xx sv hc gc hm gm rd n Pm B V h
  obtain ⟨x, y, e1, e2, h1, n9, Pm9, B9, h2⟩ := op_folk h (by omega) rd
  refine ⟨x.1, x.2, gc, y.2.1, gm, y.2.2, n9, Pm9, B9, V, R_La_folk 296 xx sv hc gc e1, ?_, h2⟩
  rw [h1]
  exact R_Mo_folk 295 rd hm gm e2
theorem uu_rule (k : Nat) (hk : k ≤ 599) : lk_P k 104 204 [] := by
  intro xx sv hc gc hm gm rd n Pm B V h
  obtain ⟨x, y, e1, e2, h1, V9, h2⟩ := op_rule h (by omega) rd
  refine ⟨x.1, x.2, gc, y.2.1, gm, y.2.2, n, Pm, B, V9, R_La_rule 294 xx sv hc gc e1, ?_, h2⟩
  rw [h1]
  exact R_Mo_rule 34 rd hm gm e2
theorem uu_all (k : Nat) (hk : k ≤ 599) (p0 : Int32) (p1 : Int32) : lk_P k 107 212 [.int p0, .int p1] := by
  intro xx sv hc gc hm gm rd n Pm B V h
  obtain ⟨x, y, e1, e2, h1, h2⟩ := op_all h (by omega) rd p0 p1
  refine ⟨x.1, x.2, gc, y.2.1, gm, y.2.2, n, Pm, B, V, R_La_all 295 xx sv hc gc p0 p1 e1, ?_, h2⟩
  rw [h1]
  exact R_Mo_all 31 rd hm gm p0 p1 e2
theorem uu_bear (k : Nat) (hk : k ≤ 599) (p0 : Int32) (p1 : Int32) : lk_P k 108 213 [.int p0, .int p1] := by
  intro xx sv hc gc hm gm rd n Pm B V h
  obtain ⟨r, hc', hm', e1, e2, h2⟩ := op_bear h p0 p1
  exact ⟨r, hc', gc, hm', gm, rd, n, Pm, B, V, R_La_bear 298 xx sv hc gc p0 p1 e1, R_Mo_bear 297 rd hm gm p0 p1 e2, h2⟩
theorem uu_sheet (k : Nat) (hk : k ≤ 599) (p0 : Int32) (p1 : Int32) (p2 : Int32) (p3 : Int32) : lk_P k 109 214 [.int p0, .int p1, .int p2, .int p3] := by
  intro xx sv hc gc hm gm rd n Pm B V h
  obtain ⟨x, y, e1, e2, h1, B9, h2⟩ := op_sheet h (by omega) p0 p1 p2 p3
  refine ⟨x.1, x.2, gc, y.2, gm, rd, n, Pm, B9, V, R_La_sheet 297 xx sv hc gc p0 p1 p2 p3 e1, ?_, h2⟩
  rw [h1]
  exact R_Mo_sheet 298 rd hm gm p0 p1 p2 p3 e2
theorem uu_ring (k : Nat) (hk : k ≤ 599) (p0 : Int32) : lk_P k 110 220 [.int p0] := by
  intro xx sv hc gc hm gm rd n Pm B V h
  obtain ⟨x, y, e1, e2, h1, h2⟩ := op_ring h (by omega) rd p0
  refine ⟨x.1, x.2, gc, y.2.1, gm, y.2.2, n, Pm, B, V, R_La_ring 294 xx sv hc gc p0 e1, ?_, h2⟩
  rw [h1]
  exact R_Mo_ring 30 rd hm gm p0 e2
theorem uu_board (k : Nat) (hk : k ≤ 599) (p0 : Int32) (p1 : Int32) : lk_P k 111 225 [.int p0, .int p1] := by
  intro xx sv hc gc hm gm rd n Pm B V h
  obtain ⟨x, y, e1, e2, h1, h2⟩ := op_board h (by omega) rd p0 p1
  refine ⟨x.1, x.2, gc, y.2.1, gm, y.2.2, n, Pm, B, V, R_La_board 294 xx sv hc gc p0 p1 e1, ?_, h2⟩
  rw [h1]
  exact R_Mo_board 29 rd hm gm p0 p1 e2
theorem uu_off (k : Nat) (hk : k ≤ 599) (p0 : Int32) : lk_P k 112 226 [.int p0] := by
  intro xx sv hc gc hm gm rd n Pm B V h
  obtain ⟨x, y, e1, e2, h1, h2⟩ := op_off h (by omega) rd p0
  refine ⟨x.1, x.2, gc, y.2.1, gm, y.2.2, n, Pm, B, V, R_La_off 294 xx sv hc gc p0 e1, ?_, h2⟩
  rw [h1]
  exact R_Mo_off 29 rd hm gm p0 e2
theorem uu_step (k : Nat) (hk : k ≤ 599) (p0 : Int32) (p1 : Int32) : lk_P k 113 227 [.int p0, .int p1] := by
  intro xx sv hc gc hm gm rd n Pm B V h
  obtain ⟨x, y, e1, e2, h1, h2⟩ := op_step h (by omega) rd p0 p1
  refine ⟨x.1, x.2, gc, y.2.1, gm, y.2.2, n, Pm, B, V, R_La_step 294 xx sv hc gc p0 p1 e1, ?_, h2⟩
  rw [h1]
  exact R_Mo_step 29 rd hm gm p0 p1 e2
theorem uu_day (k : Nat) (hk : k ≤ 599) : lk_P k 114 228 [] := by
  intro xx sv hc gc hm gm rd n Pm B V h
  obtain ⟨x, y, e1, e2, h1, h2⟩ := op_day h (by omega) rd
  refine ⟨x.1, x.2, gc, y.2.1, gm, y.2.2, n, Pm, B, V, R_La_day 293 xx sv hc gc e1, ?_, h2⟩
  rw [h1]
  exact R_Mo_day 28 rd hm gm e2
theorem uu_undo (k : Nat) (hk : k ≤ 599) : lk_P k 115 231 [] := by
  intro xx sv hc gc hm gm rd n Pm B V h
  obtain ⟨x, y, e1, e2, h1, h2⟩ := op_undo h (by omega)
  refine ⟨x.1, x.2, gc, y.2, gm, rd, n, Pm, B, V, R_La_undo 297 xx sv hc gc e1, ?_, h2⟩
  rw [h1]
  exact R_Mo_undo 299 rd hm gm e2
theorem uu_tips (k : Nat) (hk : k ≤ 599) : lk_P k 117 233 [] := by
  intro xx sv hc gc hm gm rd n Pm B V h
  obtain ⟨x, y, e1, e2, h1, h2⟩ := op_tips h (by omega) rd
  refine ⟨x.1, x.2, gc, y.2.1, gm, y.2.2, n, Pm, B, V, R_La_tips 295 xx sv hc gc e1, ?_, h2⟩
  rw [h1]
  exact R_Mo_tips 31 rd hm gm e2
theorem uu_lighter (k : Nat) (hk : k ≤ 599) (p0 : Int32) (p1 : Int32) : lk_P k 118 234 [.int p0, .int p1] := by
  intro xx sv hc gc hm gm rd n Pm B V h
  obtain ⟨x, y, e1, e2, h1, h2⟩ := op_lighter h (by omega) rd p0 p1
  refine ⟨x.1, x.2, gc, y.2.1, gm, y.2.2, n, Pm, B, V, R_La_lighter 295 xx sv hc gc p0 p1 e1, ?_, h2⟩
  rw [h1]
  exact R_Mo_lighter 31 rd hm gm p0 p1 e2
theorem uu_between (k : Nat) (hk : k ≤ 599) (p0 : Int32) (p1 : Int32) (p2 : Int32) : lk_P k 119 235 [.int p0, .int p1, .int p2] := by
  intro xx sv hc gc hm gm rd n Pm B V h
  obtain ⟨x, y, e1, e2, h1, h2⟩ := op_between h (by omega) rd p0 p1 p2
  refine ⟨x.1, x.2, gc, y.2.1, gm, y.2.2, n, Pm, B, V, R_La_between 294 xx sv hc gc p0 p1 p2 e1, ?_, h2⟩
  rw [h1]
  exact R_Mo_between 31 rd hm gm p0 p1 p2 e2
theorem uu_climbs (k : Nat) (hk : k ≤ 599) (p0 : Int32) (p1 : Int32) : lk_P k 120 236 [.int p0, .int p1] := by
  intro xx sv hc gc hm gm rd n Pm B V h
  obtain ⟨x, y, e1, e2, h1, h2⟩ := op_climbs h (by omega) rd p0 p1
  refine ⟨x.1, x.2, gc, y.2.1, gm, y.2.2, n, Pm, B, V, R_La_climbs 295 xx sv hc gc p0 p1 e1, ?_, h2⟩
  rw [h1]
  exact R_Mo_climbs 32 rd hm gm p0 p1 e2
theorem uu_spread (k : Nat) (hk : k ≤ 599) (p0 : Int32) : lk_P k 121 237 [.int p0] := by
  intro xx sv hc gc hm gm rd n Pm B V h
  obtain ⟨x, y, e1, e2, h1, h2⟩ := op_spread h (by omega) rd p0
  refine ⟨x.1, x.2, gc, y.2.1, gm, y.2.2, n, Pm, B, V, R_La_spread 295 xx sv hc gc p0 e1, ?_, h2⟩
  rw [h1]
  exact R_Mo_spread 31 rd hm gm p0 e2
theorem uu_floor (k : Nat) (hk : k ≤ 599) (p0 : Int32) : lk_P k 122 238 [.int p0] := by
  intro xx sv hc gc hm gm rd n Pm B V h
  obtain ⟨x, y, e1, e2, h1, h2⟩ := op_floor h (by omega) rd p0
  refine ⟨x.1, x.2, gc, y.2.1, gm, y.2.2, n, Pm, B, V, R_La_floor 295 xx sv hc gc p0 e1, ?_, h2⟩
  rw [h1]
  exact R_Mo_floor 31 rd hm gm p0 e2
theorem uu_heaviest (k : Nat) (hk : k ≤ 599) (p0 : Int32) : lk_P k 123 239 [.int p0] := by
  intro xx sv hc gc hm gm rd n Pm B V h
  obtain ⟨x, y, e1, e2, h1, h2⟩ := op_heaviest h (by omega) rd p0
  refine ⟨x.1, x.2, gc, y.2.1, gm, y.2.2, n, Pm, B, V, R_La_heaviest 295 xx sv hc gc p0 e1, ?_, h2⟩
  rw [h1]
  exact R_Mo_heaviest 31 rd hm gm p0 e2
theorem uu_timber (k : Nat) (hk : k ≤ 599) (p0 : Int32) (p1 : Int32) : lk_P k 124 240 [.int p0, .int p1] := by
  intro xx sv hc gc hm gm rd n Pm B V h
  obtain ⟨x, y, e1, e2, h1, h2⟩ := op_timber h (by omega) rd p0 p1
  refine ⟨x.1, x.2, gc, y.2.1, gm, y.2.2, n, Pm, B, V, R_La_timber 295 xx sv hc gc p0 p1 e1, ?_, h2⟩
  rw [h1]
  exact R_Mo_timber 31 rd hm gm p0 p1 e2
theorem uu_task (k : Nat) (hk : k ≤ 599) (p0 : Int32) (p1 : Int32) : lk_P k 125 241 [.int p0, .int p1] := by
  intro xx sv hc gc hm gm rd n Pm B V h
  obtain ⟨r, hc', hm', e1, e2, h2⟩ := op_task h p0 p1
  exact ⟨r, hc', gc, hm', gm, rd, n, Pm, B, V, R_La_task 298 xx sv hc gc p0 p1 e1, R_Mo_task 297 rd hm gm p0 p1 e2, h2⟩
theorem uu_forget (k : Nat) (hk : k ≤ 599) : lk_P k 126 242 [] := by
  intro xx sv hc gc hm gm rd n Pm B V h
  obtain ⟨h1, h2⟩ := op_forget h
  refine ⟨(f_La_forget hc).1, (f_La_forget hc).2, gc, (f_Mo_forget hm).2, gm, rd, n, Pm, B, V, R_La_forget 299 xx sv hc gc rfl, ?_, h2⟩
  rw [h1]
  exact R_Mo_forget 299 rd hm gm rfl
theorem uu_crew (k : Nat) (hk : k ≤ 599) (p0 : Int32) (p1 : Int32) : lk_P k 127 245 [.int p0, .int p1] := by
  intro xx sv hc gc hm gm rd n Pm B V h
  obtain ⟨x, y, e1, e2, h1, h2⟩ := op_crew h (by omega) rd p0 p1
  refine ⟨x.1, x.2, gc, y.2.1, gm, y.2.2, n, Pm, B, V, R_La_crew 295 xx sv hc gc p0 p1 e1, ?_, h2⟩
  rw [h1]
  exact R_Mo_crew 31 rd hm gm p0 p1 e2
theorem uu_times (k : Nat) (hk : k ≤ 599) (p0 : Int32) : lk_P k 128 247 [.int p0] := by
  intro xx sv hc gc hm gm rd n Pm B V h
  obtain ⟨x, y, e1, e2, h1, h2⟩ := op_times h (by omega) rd p0
  refine ⟨x.1, x.2, gc, y.2.1, gm, y.2.2, n, Pm, B, V, R_La_times 295 xx sv hc gc p0 e1, ?_, h2⟩
  rw [h1]
  exact R_Mo_times 30 rd hm gm p0 e2
theorem uu_earliest (k : Nat) (hk : k ≤ 599) : lk_P k 129 249 [] := by
  intro xx sv hc gc hm gm rd n Pm B V h
  obtain ⟨x, y, e1, e2, h1, h2⟩ := op_earliest h (by omega) gc rd
  refine ⟨x.1, x.2.1, x.2.2, y.2.1, gm, y.2.2, n, Pm, B, V, R_La_earliest 295 xx sv hc gc e1, ?_, h2⟩
  rw [h1]
  exact R_Mo_earliest 30 rd hm gm e2
theorem uu_most (k : Nat) (hk : k ≤ 599) (p0 : Int32) : lk_P k 130 250 [.int p0] := by
  intro xx sv hc gc hm gm rd n Pm B V h
  obtain ⟨x, y, e1, e2, h1, h2⟩ := op_most h (by omega) gc rd p0
  refine ⟨x.1, x.2.1, x.2.2, y.2.1, gm, y.2.2, n, Pm, B, V, R_La_most 295 xx sv hc gc p0 e1, ?_, h2⟩
  rw [h1]
  exact R_Mo_most 31 rd hm gm p0 e2
theorem uu_goes (k : Nat) (hk : k ≤ 599) (p0 : Int32) : lk_P k 131 255 [.int p0] := by
  intro xx sv hc gc hm gm rd n Pm B V h
  obtain ⟨x, y, e1, e2, h1, h2⟩ := op_goes h (by omega) rd p0
  refine ⟨x.1, x.2, gc, y.2.1, gm, y.2.2, n, Pm, B, V, R_La_goes 294 xx sv hc gc p0 e1, ?_, h2⟩
  rw [h1]
  exact R_Mo_goes 31 rd hm gm p0 e2
theorem uu_cross (k : Nat) (hk : k ≤ 599) (p0 : Int32) (p1 : Int32) : lk_P k 132 256 [.int p0, .int p1] := by
  intro xx sv hc gc hm gm rd n Pm B V h
  obtain ⟨x, y, e1, e2, h1, h2⟩ := op_cross h (by omega) gc rd p0 p1
  refine ⟨x.1, x.2.1, x.2.2, y.2.1, gm, y.2.2, n, Pm, B, V, R_La_cross 293 xx sv hc gc p0 p1 e1, ?_, h2⟩
  rw [h1]
  exact R_Mo_cross 30 rd hm gm p0 p1 e2
theorem uu_start (k : Nat) (hk : k ≤ 599) (p0 : Int32) : lk_P k 133 257 [.int p0] := by
  intro xx sv hc gc hm gm rd n Pm B V h
  obtain ⟨x, y, e1, e2, h1, h2⟩ := op_start h (by omega) gc rd p0
  refine ⟨x.1, x.2.1, x.2.2, y.2.1, gm, y.2.2, n, Pm, B, V, R_La_start 294 xx sv hc gc p0 e1, ?_, h2⟩
  rw [h1]
  exact R_Mo_start 30 rd hm gm p0 e2
theorem uu_trim (k : Nat) (hk : k ≤ 599) (p0 : Int32) : lk_P k 135 271 [.int p0] := by
  intro xx sv hc gc hm gm rd n Pm B V h
  obtain ⟨x, y, e1, e2, h1, h2⟩ := op_trim h (by omega) rd p0
  refine ⟨x.1, x.2, gc, y.2.1, gm, y.2.2, n, Pm, B, V, R_La_trim 295 xx sv hc gc p0 e1, ?_, h2⟩
  rw [h1]
  exact R_Mo_trim 31 rd hm gm p0 e2
theorem uu_even (k : Nat) (hk : k ≤ 599) (p0 : Int32) (p1 : Int32) : lk_P k 137 275 [.int p0, .int p1] := by
  intro xx sv hc gc hm gm rd n Pm B V h
  obtain ⟨x, y, e1, e2, h1, h2⟩ := op_even h (by omega) rd p0 p1
  refine ⟨x.1, x.2, gc, y.2.1, gm, y.2.2, n, Pm, B, V, R_La_even 294 xx sv hc gc p0 p1 e1, ?_, h2⟩
  rw [h1]
  exact R_Mo_even 30 rd hm gm p0 p1 e2
theorem uu_makeup (k : Nat) (hk : k ≤ 599) (p0 : Int32) (p1 : Int32) (p2 : Int32) : lk_P k 138 276 [.int p0, .int p1, .int p2] := by
  intro xx sv hc gc hm gm rd n Pm B V h
  obtain ⟨x, y, e1, e2, h1, h2⟩ := op_makeup h (by omega) rd p0 p1 p2
  refine ⟨x.1, x.2, gc, y.2.1, gm, y.2.2, n, Pm, B, V, R_La_makeup 294 xx sv hc gc p0 p1 p2 e1, ?_, h2⟩
  rw [h1]
  exact R_Mo_makeup 31 rd hm gm p0 p1 p2 e2
theorem uu_split (k : Nat) (hk : k ≤ 599) (p0 : Int32) (p1 : Int32) : lk_P k 139 277 [.int p0, .int p1] := by
  intro xx sv hc gc hm gm rd n Pm B V h
  obtain ⟨x, y, e1, e2, h1, h2⟩ := op_split h (by omega) rd p0 p1
  refine ⟨x.1, x.2, gc, y.2.1, gm, y.2.2, n, Pm, B, V, R_La_split 295 xx sv hc gc p0 p1 e1, ?_, h2⟩
  rw [h1]
  exact R_Mo_split 31 rd hm gm p0 p1 e2
theorem uu_weighed (k : Nat) (hk : k ≤ 599) (p0 : Int32) (p1 : Int32) (p2 : Int32) : lk_P k 141 279 [.int p0, .int p1, .int p2] := by
  intro xx sv hc gc hm gm rd n Pm B V h
  obtain ⟨r, hc', hm', e1, e2, h2⟩ := op_weighed h p0 p1 p2
  exact ⟨r, hc', gc, hm', gm, rd, n, Pm, B, V, R_La_weighed 297 xx sv hc gc p0 p1 p2 e1, R_Mo_weighed 297 rd hm gm p0 p1 p2 e2, h2⟩
theorem uu_unsay (k : Nat) (hk : k ≤ 599) : lk_P k 142 280 [] := by
  intro xx sv hc gc hm gm rd n Pm B V h
  obtain ⟨h1, h2⟩ := op_unsay h
  refine ⟨(f_La_unsay hc).1, (f_La_unsay hc).2, gc, (f_Mo_unsay hm).2, gm, rd, n, Pm, B, V, R_La_unsay 299 xx sv hc gc rfl, ?_, h2⟩
  rw [h1]
  exact R_Mo_unsay 299 rd hm gm rfl
theorem uu_believed (k : Nat) (hk : k ≤ 599) : lk_P k 143 282 [] := by
  intro xx sv hc gc hm gm rd n Pm B V h
  obtain ⟨x, y, e1, e2, h1, h2⟩ := op_believed h (by omega) rd
  refine ⟨x.1, x.2, gc, y.2.1, gm, y.2.2, n, Pm, B, V, R_La_believed 294 xx sv hc gc e1, ?_, h2⟩
  rw [h1]
  exact R_Mo_believed 30 rd hm gm e2
theorem uu_fits (k : Nat) (hk : k ≤ 599) (p0 : Int32) : lk_P k 144 284 [.int p0] := by
  intro xx sv hc gc hm gm rd n Pm B V h
  obtain ⟨x, y, e1, e2, h1, h2⟩ := op_fits h (by omega) rd p0
  refine ⟨x.1, x.2, gc, y.2.1, gm, y.2.2, n, Pm, B, V, R_La_fits 294 xx sv hc gc p0 e1, ?_, h2⟩
  rw [h1]
  exact R_Mo_fits 30 rd hm gm p0 e2
theorem uu_liars (k : Nat) (hk : k ≤ 599) : lk_P k 145 285 [] := by
  intro xx sv hc gc hm gm rd n Pm B V h
  obtain ⟨x, y, e1, e2, h1, h2⟩ := op_liars h (by omega) rd
  refine ⟨x.1, x.2, gc, y.2.1, gm, y.2.2, n, Pm, B, V, R_La_liars 294 xx sv hc gc e1, ?_, h2⟩
  rw [h1]
  exact R_Mo_liars 30 rd hm gm e2
theorem uu_print (k : Nat) (hk : k ≤ 599) (p0 : Int32) (p1 : Int32) (p2 : Int32) : lk_P k 146 286 [.int p0, .int p1, .int p2] := by
  intro xx sv hc gc hm gm rd n Pm B V h
  obtain ⟨x, y, e1, e2, h1, h2⟩ := op_print h (by omega) rd p0 p1 p2
  refine ⟨x.1, x.2, gc, y.2.1, gm, y.2.2, n, Pm, B, V, R_La_print 295 xx sv hc gc p0 p1 p2 e1, ?_, h2⟩
  rw [h1]
  exact R_Mo_print 32 rd hm gm p0 p1 p2 e2
theorem uu_hour (k : Nat) (hk : k ≤ 599) (p0 : Int32) (p1 : Int32) (p2 : Int32) (p3 : Int32) : lk_P k 147 287 [.int p0, .int p1, .int p2, .int p3] := by
  intro xx sv hc gc hm gm rd n Pm B V h
  obtain ⟨x, y, e1, e2, h1, h2⟩ := op_hour h (by omega) rd p0 p1 p2 p3
  refine ⟨x.1, x.2, gc, y.2.1, gm, y.2.2, n, Pm, B, V, R_La_hour 294 xx sv hc gc p0 p1 p2 p3 e1, ?_, h2⟩
  rw [h1]
  exact R_Mo_hour 31 rd hm gm p0 p1 p2 p3 e2
theorem uu_ballast (k : Nat) (hk : k ≤ 599) (p0 : Int32) (p1 : Int32) : lk_P k 148 288 [.int p0, .int p1] := by
  intro xx sv hc gc hm gm rd n Pm B V h
  obtain ⟨x, y, e1, e2, h1, h2⟩ := op_ballast h (by omega) rd p0 p1
  refine ⟨x.1, x.2, gc, y.2.1, gm, y.2.2, n, Pm, B, V, R_La_ballast 295 xx sv hc gc p0 p1 e1, ?_, h2⟩
  rw [h1]
  exact R_Mo_ballast 31 rd hm gm p0 p1 e2
theorem uu_order (k : Nat) (hk : k ≤ 599) (p0 : Int32) : lk_P k 150 292 [.int p0] := by
  intro xx sv hc gc hm gm rd n Pm B V h
  obtain ⟨x, y, e1, e2, h1, h2⟩ := op_order h (by omega) rd p0
  refine ⟨x.1, x.2, gc, y.2.1, gm, y.2.2, n, Pm, B, V, R_La_order 294 xx sv hc gc p0 e1, ?_, h2⟩
  rw [h1]
  exact R_Mo_order 32 rd hm gm p0 e2
theorem uu_keep (k : Nat) (hk : k ≤ 599) (p0 : Int32) : lk_P k 151 293 [.int p0] := by
  intro xx sv hc gc hm gm rd n Pm B V h
  obtain ⟨x, y, e1, e2, h1, h2⟩ := op_keep h (by omega) p0
  refine ⟨x.1, x.2, gc, y.2, gm, rd, n, Pm, B, V, R_La_keep 297 xx sv hc gc p0 e1, ?_, h2⟩
  rw [h1]
  exact R_Mo_keep 298 rd hm gm p0 e2
theorem uu_again (k : Nat) (hk : k ≤ 599) (p0 : Int32) : lk_P k 152 294 [.int p0] := by
  intro xx sv hc gc hm gm rd n Pm B V h
  obtain ⟨x, y, e1, e2, h1, h2⟩ := op_again h (by omega) p0
  refine ⟨x.1, x.2, gc, y.2, gm, rd, n, Pm, B, V, R_La_again 297 xx sv hc gc p0 e1, ?_, h2⟩
  rw [h1]
  exact R_Mo_again 298 rd hm gm p0 e2
theorem uu_count (k : Nat) (hk : k ≤ 599) (p0 : Int32) : lk_P k 153 295 [.int p0] := by
  intro xx sv hc gc hm gm rd n Pm B V h
  obtain ⟨x, y, e1, e2, h1, h2⟩ := op_count h (by omega) rd p0
  refine ⟨x.1, x.2, gc, y.2.1, gm, y.2.2, n, Pm, B, V, R_La_count 294 xx sv hc gc p0 e1, ?_, h2⟩
  rw [h1]
  exact R_Mo_count 31 rd hm gm p0 e2
