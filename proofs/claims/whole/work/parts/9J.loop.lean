/-! THE CLAIM OUT OF ONE WALK OF THE LAW'S BODY. Your part is whole_start (and what it stands on); all else here is the same for every law, but numbers. -/
def R_law : String := "LighterAtDuskLaw"
def lw_P (b : Addr) (xs : List Int32) (args : Array Value) (s : State) : Prop := args = #[.ref b] ∧ s.IntsAt b xs ∧ xs.length ≤ 2560 ∧ (Jvm.Cond.and given_1 narrow_1).before args s = true
def lw_Q (_ : Array Value) (s : State) (o : Outcome) (t : State) : Prop := o = .returned (some (.int 1)) ∧ Framed s o t [] 856089 6527838
def lw_Z (below : List Frame) (a : Array Value) (s : State) : State → Prop := fun t => ∃ o, t.status = .running ∧ Ended t below o ∧ lw_Q a s o t
/-- the law's own end, with 1 on the stack, nothing written that was there before, its room as the claim has it -/
theorem lw_ret {p : Program} {l : Launch} {e : Env} {s : State} {m : MethodId} {below : List Frame} {meth : Method} {c : Code} {b : Nat} (hx : p.tables.exec = Jvm.exec) (hb : c.code = code) (hr : meth.sig.returnType = ret) (hlocks : meth.locks = false) {pc : Nat} {H : Heap} {ls : Array Slot} (hdg : decode code pc = .ok (.ireturn, 1)) : W p l e room_1 s m #[Value.ref b] below meth c H [] 856089 6527838 (lw_Z below #[Value.ref b] s) (F0 m pc ls [.int 1]) := by
  intro T hT X
  obtain ⟨fs, hret, hrun, hended, hW, hframe⟩ := X.leave (v := some (.int 1)) (hlocks := hlocks) (fun h => by rw [hr] at h; cases h)
  have hmeth' : T.vm.method? m = some meth := X.method'
  refine ⟨T.setFrames fs, ?_, .returned (some (.int 1)), hrun, hended, rfl, ⟨_, rfl⟩, hW, hframe⟩
  jvm_step X.here [X.here.top, hx, hb, hdg, hmeth', hr, ret, narrow_b1]
  (try refine ⟨rfl, ?_⟩); (try refine ⟨rfl, ?_⟩)
  first | (intro acts; rw [hret _ acts rfl rfl rfl]) | rw [hret _ _ rfl rfl rfl]
  exact Steps.refl _
/-- what holds at the law's entry: the machine, the code, the tables' words (any of lw_tbl by 'hts w (by decide +kernel)'), the script of L ints xs at the cell b, what the Statement gives of the start (any of its parts by flat_of_before) -/
def lw_At (p : Program) (s : State) (m : MethodId) (meth : Method) (c : Code) (b L : Nat) (xs : Nat → Int32) : Prop :=
  p.tables.exec = Jvm.exec ∧ c.code = code ∧ meth.sig.returnType = ret ∧ c.maxLocals = 7 ∧ s.vm.findClass R_law = some m.cls ∧ (∀ w ∈ lw_tbl, w.before #[Value.ref b] s = true) ∧ va_X b L xs s s.heap ∧ b < s.heap.size ∧ meth.locks = false ∧ (Jvm.Cond.and given_1 narrow_1).before #[Value.ref b] s = true
theorem dw_23 : decode code 23 = .ok (.iload 4, 2) := by decide +kernel
theorem dw_25 : decode code 25 = .ok (.aload_n 0, 1) := by decide +kernel
theorem dw_26 : decode code 26 = .ok (.arraylength, 1) := by decide +kernel
theorem dw_27 : decode code 27 = .ok (.iconst 5, 1) := by decide +kernel
theorem dw_28 : decode code 28 = .ok (.isub, 1) := by decide +kernel
theorem dw_29 : decode code 29 = .ok (.if_icmp .gt 2112, 3) := by decide +kernel
theorem dw_32 : decode code 32 = .ok (.aload_n 0, 1) := by decide +kernel
theorem dw_33 : decode code 33 = .ok (.iload 4, 2) := by decide +kernel
theorem dw_35 : decode code 35 = .ok (.iaload, 1) := by decide +kernel
theorem dw_36 : decode code 36 = .ok (.bipush 63, 2) := by decide +kernel
theorem dw_38 : decode code 38 = .ok (.iand, 1) := by decide +kernel
theorem dw_39 : decode code 39 = .ok (.tableswitch 2096 0 53 #[229, 254, 279, 292, 305, 373, 441, 478, 515, 576, 601, 638, 663, 700, 713, 726, 782, 795, 832, 881, 918, 943, 968, 993, 1030, 1067, 1080, 1117, 1142, 1155, 1180, 1205, 1242, 1267, 1292, 1317, 1397, 1434, 1483, 1520, 1588, 1637, 1650, 1663, 1688, 1701, 1750, 1811, 1848, 1940, 1965, 1990, 2015, 2040], 229) := by decide +kernel
theorem dw_2135 : decode code 2135 = .ok (.iinc 4 5, 3) := by decide +kernel
theorem dw_2138 : decode code 2138 = .ok (.goto (-2115), 3) := by decide +kernel
theorem dw_2141 : decode code 2141 = .ok (.iconst 1, 1) := by decide +kernel
theorem dw_2142 : decode code 2142 = .ok (.ireturn, 1) := by decide +kernel
theorem lw_cond {L k : Nat} (hL : L ≤ 2560) (hk : 5 * k ≤ L) (h : ¬ (Int32.ofNat L - 5 < nI (5 * k))) : 5 * k + 5 ≤ L := by
  by_cases h5 : 5 ≤ L
  · have e : Int32.ofNat L - 5 = nI (L - 5) := by
      have h9 := nI_add (L - 5) 5
      rw [show L - 5 + 5 = L by omega] at h9
      show nI L - nI 5 = _
      rw [← h9, Int32.add_sub_cancel]
    rw [e, nI_ltI (by omega) (by omega)] at h
    omega
  · exfalso
    have h0 : k = 0 := by omega
    subst h0
    apply h
    rcases (show L = 0 ∨ L = 1 ∨ L = 2 ∨ L = 3 ∨ L = 4 by omega) with rfl | rfl | rfl | rfl | rfl <;> decide
section LP
variable {p : Program} {l : Launch} {e : Env} {s : State} {m : MethodId} {below : List Frame} {meth : Method} {c : Code} {b L : Nat} {xs : Nat → Int32} {D : va_G} {dT : Nat → ClassId} {z0 z1 a0 qo : Nat} {aM : Nat → Nat}
set_option maxRecDepth 20000 in
set_option maxHeartbeats 4000000 in
theorem lw_sw {aC : Nat → Nat} {k : Nat} {Q : State → Prop} {H : Heap} {locs : List Loc} {ls : Array Slot} {xx : rh_L} {sv : Option Nat} {hc : HI} {gc : Nat → Nat → Int64} {hm : HI} {gm : Nat → Nat → Int64} {rd : Option Nat} {fo : Nat → Int64} (K : lk_K p l s m c b L xs D dT z0 z1) (m1 : aM 1000 = z0) (m2 : aM 1001 = z1) (hk : 5 * k + 5 ≤ L) (I : lk_I s D dT z0 z1 a0 qo aM k aC xx sv hc gc hm gm rd fo H locs) (hl : lv_has ls 7 (lk_lv b a0 (aM 0) qo k)) (N : lk_N p l e s m below meth c b D dT z0 z1 a0 qo aM k Q) {x : Int32} (t : Nat) (ht : t < 64) (hx9 : x.toInt = (t : Int)) : W p l e room_1 s m #[Value.ref b] below meth c H locs (74 + xx.length + k) (70000 + 4000 * xx.length + 6 * k) Q (F0 m 39 ls [.int x]) := by
  have hx := K.1
  have hb := K.2.1
  match t, ht, hx9 with
  | 0, _, hx9 => exact lv_tableIn (off := 229) (tgt := 268) hx hb dw_39 (by rw [hx9]; decide) (by rw [hx9]; decide) (by rw [hx9]; rfl) (by decide) (lw_c0 K m1 m2 hk I hl N)
  | 1, _, hx9 => exact lv_tableIn (off := 254) (tgt := 293) hx hb dw_39 (by rw [hx9]; decide) (by rw [hx9]; decide) (by rw [hx9]; rfl) (by decide) (lw_c1 K m1 m2 hk I hl N)
  | 2, _, hx9 => exact lv_tableIn (off := 279) (tgt := 318) hx hb dw_39 (by rw [hx9]; decide) (by rw [hx9]; decide) (by rw [hx9]; rfl) (by decide) (lw_c2 K m1 m2 hk I hl N)
  | 3, _, hx9 => exact lv_tableIn (off := 292) (tgt := 331) hx hb dw_39 (by rw [hx9]; decide) (by rw [hx9]; decide) (by rw [hx9]; rfl) (by decide) (lw_c3 K m1 m2 hk I hl N)
  | 4, _, hx9 => exact lv_tableIn (off := 305) (tgt := 344) hx hb dw_39 (by rw [hx9]; decide) (by rw [hx9]; decide) (by rw [hx9]; rfl) (by decide) (lw_c4 K m1 m2 hk I hl N)
  | 5, _, hx9 => exact lv_tableIn (off := 373) (tgt := 412) hx hb dw_39 (by rw [hx9]; decide) (by rw [hx9]; decide) (by rw [hx9]; rfl) (by decide) (lw_c5 K m1 m2 hk I hl N)
  | 6, _, hx9 => exact lv_tableIn (off := 441) (tgt := 480) hx hb dw_39 (by rw [hx9]; decide) (by rw [hx9]; decide) (by rw [hx9]; rfl) (by decide) (lw_c6 K m1 m2 hk I hl N)
  | 7, _, hx9 => exact lv_tableIn (off := 478) (tgt := 517) hx hb dw_39 (by rw [hx9]; decide) (by rw [hx9]; decide) (by rw [hx9]; rfl) (by decide) (lw_c7 K m1 m2 hk I hl N)
  | 8, _, hx9 => exact lv_tableIn (off := 515) (tgt := 554) hx hb dw_39 (by rw [hx9]; decide) (by rw [hx9]; decide) (by rw [hx9]; rfl) (by decide) (lw_c8 K m1 m2 hk I hl N)
  | 9, _, hx9 => exact lv_tableIn (off := 576) (tgt := 615) hx hb dw_39 (by rw [hx9]; decide) (by rw [hx9]; decide) (by rw [hx9]; rfl) (by decide) (lw_c9 K m1 m2 hk I hl N)
  | 10, _, hx9 => exact lv_tableIn (off := 601) (tgt := 640) hx hb dw_39 (by rw [hx9]; decide) (by rw [hx9]; decide) (by rw [hx9]; rfl) (by decide) (lw_c10 K m1 m2 hk I hl N)
  | 11, _, hx9 => exact lv_tableIn (off := 638) (tgt := 677) hx hb dw_39 (by rw [hx9]; decide) (by rw [hx9]; decide) (by rw [hx9]; rfl) (by decide) (lw_c11 K m1 m2 hk I hl N)
  | 12, _, hx9 => exact lv_tableIn (off := 663) (tgt := 702) hx hb dw_39 (by rw [hx9]; decide) (by rw [hx9]; decide) (by rw [hx9]; rfl) (by decide) (lw_c12 K m1 m2 hk I hl N)
  | 13, _, hx9 => exact lv_tableIn (off := 700) (tgt := 739) hx hb dw_39 (by rw [hx9]; decide) (by rw [hx9]; decide) (by rw [hx9]; rfl) (by decide) (lw_c13 K m1 m2 hk I hl N)
  | 14, _, hx9 => exact lv_tableIn (off := 713) (tgt := 752) hx hb dw_39 (by rw [hx9]; decide) (by rw [hx9]; decide) (by rw [hx9]; rfl) (by decide) (lw_c14 K m1 m2 hk I hl N)
  | 15, _, hx9 => exact lv_tableIn (off := 726) (tgt := 765) hx hb dw_39 (by rw [hx9]; decide) (by rw [hx9]; decide) (by rw [hx9]; rfl) (by decide) (lw_c15 K m1 m2 hk I hl N)
  | 16, _, hx9 => exact lv_tableIn (off := 782) (tgt := 821) hx hb dw_39 (by rw [hx9]; decide) (by rw [hx9]; decide) (by rw [hx9]; rfl) (by decide) (lw_c16 K m1 m2 hk I hl N)
  | 17, _, hx9 => exact lv_tableIn (off := 795) (tgt := 834) hx hb dw_39 (by rw [hx9]; decide) (by rw [hx9]; decide) (by rw [hx9]; rfl) (by decide) (lw_c17 K m1 m2 hk I hl N)
  | 18, _, hx9 => exact lv_tableIn (off := 832) (tgt := 871) hx hb dw_39 (by rw [hx9]; decide) (by rw [hx9]; decide) (by rw [hx9]; rfl) (by decide) (lw_c18 K m1 m2 hk I hl N)
  | 19, _, hx9 => exact lv_tableIn (off := 881) (tgt := 920) hx hb dw_39 (by rw [hx9]; decide) (by rw [hx9]; decide) (by rw [hx9]; rfl) (by decide) (lw_c19 K m1 m2 hk I hl N)
  | 20, _, hx9 => exact lv_tableIn (off := 918) (tgt := 957) hx hb dw_39 (by rw [hx9]; decide) (by rw [hx9]; decide) (by rw [hx9]; rfl) (by decide) (lw_c20 K m1 m2 hk I hl N)
  | 21, _, hx9 => exact lv_tableIn (off := 943) (tgt := 982) hx hb dw_39 (by rw [hx9]; decide) (by rw [hx9]; decide) (by rw [hx9]; rfl) (by decide) (lw_c21 K m1 m2 hk I hl N)
  | 22, _, hx9 => exact lv_tableIn (off := 968) (tgt := 1007) hx hb dw_39 (by rw [hx9]; decide) (by rw [hx9]; decide) (by rw [hx9]; rfl) (by decide) (lw_c22 K m1 m2 hk I hl N)
  | 23, _, hx9 => exact lv_tableIn (off := 993) (tgt := 1032) hx hb dw_39 (by rw [hx9]; decide) (by rw [hx9]; decide) (by rw [hx9]; rfl) (by decide) (lw_c23 K m1 m2 hk I hl N)
  | 24, _, hx9 => exact lv_tableIn (off := 1030) (tgt := 1069) hx hb dw_39 (by rw [hx9]; decide) (by rw [hx9]; decide) (by rw [hx9]; rfl) (by decide) (lw_c24 K m1 m2 hk I hl N)
  | 25, _, hx9 => exact lv_tableIn (off := 1067) (tgt := 1106) hx hb dw_39 (by rw [hx9]; decide) (by rw [hx9]; decide) (by rw [hx9]; rfl) (by decide) (lw_c25 K m1 m2 hk I hl N)
  | 26, _, hx9 => exact lv_tableIn (off := 1080) (tgt := 1119) hx hb dw_39 (by rw [hx9]; decide) (by rw [hx9]; decide) (by rw [hx9]; rfl) (by decide) (lw_c26 K m1 m2 hk I hl N)
  | 27, _, hx9 => exact lv_tableIn (off := 1117) (tgt := 1156) hx hb dw_39 (by rw [hx9]; decide) (by rw [hx9]; decide) (by rw [hx9]; rfl) (by decide) (lw_c27 K m1 m2 hk I hl N)
  | 28, _, hx9 => exact lv_tableIn (off := 1142) (tgt := 1181) hx hb dw_39 (by rw [hx9]; decide) (by rw [hx9]; decide) (by rw [hx9]; rfl) (by decide) (lw_c28 K m1 m2 hk I hl N)
  | 29, _, hx9 => exact lv_tableIn (off := 1155) (tgt := 1194) hx hb dw_39 (by rw [hx9]; decide) (by rw [hx9]; decide) (by rw [hx9]; rfl) (by decide) (lw_c29 K m1 m2 hk I hl N)
  | 30, _, hx9 => exact lv_tableIn (off := 1180) (tgt := 1219) hx hb dw_39 (by rw [hx9]; decide) (by rw [hx9]; decide) (by rw [hx9]; rfl) (by decide) (lw_c30 K m1 m2 hk I hl N)
  | 31, _, hx9 => exact lv_tableIn (off := 1205) (tgt := 1244) hx hb dw_39 (by rw [hx9]; decide) (by rw [hx9]; decide) (by rw [hx9]; rfl) (by decide) (lw_c31 K m1 m2 hk I hl N)
  | 32, _, hx9 => exact lv_tableIn (off := 1242) (tgt := 1281) hx hb dw_39 (by rw [hx9]; decide) (by rw [hx9]; decide) (by rw [hx9]; rfl) (by decide) (lw_c32 K m1 m2 hk I hl N)
  | 33, _, hx9 => exact lv_tableIn (off := 1267) (tgt := 1306) hx hb dw_39 (by rw [hx9]; decide) (by rw [hx9]; decide) (by rw [hx9]; rfl) (by decide) (lw_c33 K m1 m2 hk I hl N)
  | 34, _, hx9 => exact lv_tableIn (off := 1292) (tgt := 1331) hx hb dw_39 (by rw [hx9]; decide) (by rw [hx9]; decide) (by rw [hx9]; rfl) (by decide) (lw_c34 K m1 m2 hk I hl N)
  | 35, _, hx9 => exact lv_tableIn (off := 1317) (tgt := 1356) hx hb dw_39 (by rw [hx9]; decide) (by rw [hx9]; decide) (by rw [hx9]; rfl) (by decide) (lw_c35 K m1 m2 hk I hl N)
  | 36, _, hx9 => exact lv_tableIn (off := 1397) (tgt := 1436) hx hb dw_39 (by rw [hx9]; decide) (by rw [hx9]; decide) (by rw [hx9]; rfl) (by decide) (lw_c36 K m1 m2 hk I hl N)
  | 37, _, hx9 => exact lv_tableIn (off := 1434) (tgt := 1473) hx hb dw_39 (by rw [hx9]; decide) (by rw [hx9]; decide) (by rw [hx9]; rfl) (by decide) (lw_c37 K m1 m2 hk I hl N)
  | 38, _, hx9 => exact lv_tableIn (off := 1483) (tgt := 1522) hx hb dw_39 (by rw [hx9]; decide) (by rw [hx9]; decide) (by rw [hx9]; rfl) (by decide) (lw_c38 K m1 m2 hk I hl N)
  | 39, _, hx9 => exact lv_tableIn (off := 1520) (tgt := 1559) hx hb dw_39 (by rw [hx9]; decide) (by rw [hx9]; decide) (by rw [hx9]; rfl) (by decide) (lw_c39 K m1 m2 hk I hl N)
  | 40, _, hx9 => exact lv_tableIn (off := 1588) (tgt := 1627) hx hb dw_39 (by rw [hx9]; decide) (by rw [hx9]; decide) (by rw [hx9]; rfl) (by decide) (lw_c40 K m1 m2 hk I hl N)
  | 41, _, hx9 => exact lv_tableIn (off := 1637) (tgt := 1676) hx hb dw_39 (by rw [hx9]; decide) (by rw [hx9]; decide) (by rw [hx9]; rfl) (by decide) (lw_c41 K m1 m2 hk I hl N)
  | 42, _, hx9 => exact lv_tableIn (off := 1650) (tgt := 1689) hx hb dw_39 (by rw [hx9]; decide) (by rw [hx9]; decide) (by rw [hx9]; rfl) (by decide) (lw_c42 K m1 m2 hk I hl N)
  | 43, _, hx9 => exact lv_tableIn (off := 1663) (tgt := 1702) hx hb dw_39 (by rw [hx9]; decide) (by rw [hx9]; decide) (by rw [hx9]; rfl) (by decide) (lw_c43 K m1 m2 hk I hl N)
  | 44, _, hx9 => exact lv_tableIn (off := 1688) (tgt := 1727) hx hb dw_39 (by rw [hx9]; decide) (by rw [hx9]; decide) (by rw [hx9]; rfl) (by decide) (lw_c44 K m1 m2 hk I hl N)
  | 45, _, hx9 => exact lv_tableIn (off := 1701) (tgt := 1740) hx hb dw_39 (by rw [hx9]; decide) (by rw [hx9]; decide) (by rw [hx9]; rfl) (by decide) (lw_c45 K m1 m2 hk I hl N)
  | 46, _, hx9 => exact lv_tableIn (off := 1750) (tgt := 1789) hx hb dw_39 (by rw [hx9]; decide) (by rw [hx9]; decide) (by rw [hx9]; rfl) (by decide) (lw_c46 K m1 m2 hk I hl N)
  | 47, _, hx9 => exact lv_tableIn (off := 1811) (tgt := 1850) hx hb dw_39 (by rw [hx9]; decide) (by rw [hx9]; decide) (by rw [hx9]; rfl) (by decide) (lw_c47 K m1 m2 hk I hl N)
  | 48, _, hx9 => exact lv_tableIn (off := 1848) (tgt := 1887) hx hb dw_39 (by rw [hx9]; decide) (by rw [hx9]; decide) (by rw [hx9]; rfl) (by decide) (lw_c48 K m1 m2 hk I hl N)
  | 49, _, hx9 => exact lv_tableIn (off := 1940) (tgt := 1979) hx hb dw_39 (by rw [hx9]; decide) (by rw [hx9]; decide) (by rw [hx9]; rfl) (by decide) (lw_c49 K m1 m2 hk I hl N)
  | 50, _, hx9 => exact lv_tableIn (off := 1965) (tgt := 2004) hx hb dw_39 (by rw [hx9]; decide) (by rw [hx9]; decide) (by rw [hx9]; rfl) (by decide) (lw_c50 K m1 m2 hk I hl N)
  | 51, _, hx9 => exact lv_tableIn (off := 1990) (tgt := 2029) hx hb dw_39 (by rw [hx9]; decide) (by rw [hx9]; decide) (by rw [hx9]; rfl) (by decide) (lw_c51 K m1 m2 hk I hl N)
  | 52, _, hx9 => exact lv_tableIn (off := 2015) (tgt := 2054) hx hb dw_39 (by rw [hx9]; decide) (by rw [hx9]; decide) (by rw [hx9]; rfl) (by decide) (lw_c52 K m1 m2 hk I hl N)
  | 53, _, hx9 => exact lv_tableIn (off := 2040) (tgt := 2079) hx hb dw_39 (by rw [hx9]; decide) (by rw [hx9]; decide) (by rw [hx9]; rfl) (by decide) (lw_c53 K m1 m2 hk I hl N)
  | t + 54, _, hx9 =>
    refine lv_tableOut (tgt := 2135) hx hb dw_39 (Or.inr (by rw [hx9]; omega)) (by decide) ?_
    obtain ⟨ok, ⟨n, Pm, B, V, hR⟩, hI⟩ := I
    refine W.widen (k := 74 + xx.length + (k + 1)) (n := 70000 + 4000 * xx.length + 6 * (k + 1)) (by omega) (by omega) ?_
    exact N aC xx sv hc gc hm gm rd fo H locs ls ⟨ok, ⟨n, Pm, B, V, ⟨RQ.mono hR.1 (Nat.le_succ k), hR.2⟩⟩, hI⟩ hl
theorem lw_loop (K : lk_K p l s m c b L xs D dT z0 z1) (m1 : aM 1000 = z0) (m2 : aM 1001 = z1) (hr : meth.sig.returnType = ret) (hlocks : meth.locks = false) : ∀ (f k : Nat), L < 5 * k + f → 5 * k ≤ L → ∀ (aC : Nat → Nat) (xx : rh_L) (sv : Option Nat) (hc : HI) (gc : Nat → Nat → Int64) (hm : HI) (gm : Nat → Nat → Int64) (rd : Option Nat) (fo : Nat → Int64) (H : Heap) (locs : List Loc) (ls : Array Slot), lk_I s D dT z0 z1 a0 qo aM k aC xx sv hc gc hm gm rd fo H locs → lv_has ls 7 (lk_lv b a0 (aM 0) qo k) → W p l e room_1 s m #[Value.ref b] below meth c H locs (74 + xx.length + k) (70000 + 4000 * xx.length + 6 * k) (lw_Z below #[Value.ref b] s) (F0 m 23 ls []) := by
  intro f
  induction f with
  | zero => intro k h1 h2; exact absurd h2 (by omega)
  | succ f ih =>
    intro k h1 h2 aC xx sv hc gc hm gm rd fo H locs ls I hl
    have hL : L ≤ 2560 := K.2.2.2.2.2.2.2.2.2.2.2.2
    have hx := K.1
    have hb := K.2.1
    have hX := K.2.2.2.2.2.2.2.1
    have hbl := K.2.2.2.2.2.2.2.2.1
    have hS : va_S (lk_A s) s.heap H locs := I.2.2.2.2.2.2.2
    have ok := I.1
    refine lv_iload hx hb dw_23 (lv_at hl 4 rfl) ?_
    refine lv_aload_n hx hb dw_25 rfl (lv_at hl 0 rfl) ?_
    refine va_slen hx hb hX hbl (Nat.not_le.mpr hbl) hS dw_26 ?_
    refine lv_iconst (v := 5) hx hb dw_27 (by decide) ?_
    refine lv_isub hx hb dw_28 ?_
    refine lv_icmp_gt (tgt := 2141) hx hb dw_29 (by decide) (fun _ => ?_) (fun hle => ?_)
    · refine lv_iconst (v := 1) hx hb dw_2141 (by decide) ?_
      refine va_forget (fun q hq => hS.2.2 q hq) ?_
      refine W.widen (k := 856089) (n := 6527838) (lk_rC ok (by omega)) (lk_rS ok (by omega)) ?_
      exact lw_ret hx hb hr hlocks dw_2142
    · have hk : 5 * k + 5 ≤ L := lw_cond hL h2 hle
      refine lv_aload_n hx hb dw_32 rfl (lv_at hl 0 rfl) ?_
      refine lv_iload hx hb dw_33 (lv_at hl 4 rfl) ?_
      refine va_sld hx hb hX hbl (Nat.not_le.mpr hbl) hS (vp_in_nI (by omega) (by omega)) dw_35 ?_
      rw [nI_clamp (by omega)]
      refine lv_bipush hx hb dw_36 (v := 63) (by decide) ?_
      refine lv_iand hx hb dw_38 ?_
      obtain ⟨t, ht, et⟩ := pk_andE (xs (5 * k)) (m := 63) 6 (by decide)
      rw [et]
      refine lw_sw K m1 m2 hk I hl ?_ t ht (nI_toInt (by omega))
      intro aC' xx' sv' hc' gc' hm' gm' rd' fo' H' locs' ls' I' hl'
      refine lv_iinc (v := nI (5 * (k + 1))) (lv' := [(4, .int (nI (5 * (k + 1)))), (0, .ref b), (1, .ref a0), (2, .ref (aM 0)), (3, .ref qo)]) hx hb dw_2135 hl' (k := 4) rfl (by rw [show Int32.ofInt 5 = nI 5 from by decide, nI_add]; rfl) (by decide) rfl (fun ls hl => ?_)
      refine lv_goto (tgt := 23) hx hb dw_2138 (by decide) ?_
      exact ih (k + 1) (by omega) (by omega) aC' xx' sv' hc' gc' hm' gm' rd' fo' H' locs' ls I' (lv_sub hl [1, 2, 3, 4, 0] rfl)
end LP
