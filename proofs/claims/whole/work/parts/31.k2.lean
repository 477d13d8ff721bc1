/-! The class: X3_along, X3_reach, X3_rayThrough, X7_forWhite, X0_put, X0_lift, X0_everyone, X0_kingOf, X0_isStruck, X0_isInCheck, X0_passers, X0_takesOn, X0_worthForMover, X0_gainOf, X0_isFifty, X0_isBare, X0_clear, X0_takeOver -/
def m_X3_along (a_rays : Nat → Int64) (p0 : Int32) (p1 : Int32) (p2 : Int64) : Option (Int64) := oin ((p0 * 64) + p1) 512 (ol (a_rays ((p0 * 64) + p1).toNatClampNeg) fun x5_2 => ol (x5_2 &&& p2) fun x7_3 => if 4 ≤ p0 then ol (x7_3 ||| ((x7_3.toUInt64 >>> ((1 : Int32).toInt64.toUInt64 &&& Int64.toUInt64 63)).toInt64)) fun x7_5 => ol (x7_5 ||| ((x7_5.toUInt64 >>> ((2 : Int32).toInt64.toUInt64 &&& Int64.toUInt64 63)).toInt64)) fun x7_6 => ol (x7_6 ||| ((x7_6.toUInt64 >>> ((4 : Int32).toInt64.toUInt64 &&& Int64.toUInt64 63)).toInt64)) fun x7_7 => ol (x7_7 ||| ((x7_7.toUInt64 >>> ((8 : Int32).toInt64.toUInt64 &&& Int64.toUInt64 63)).toInt64)) fun x7_8 => ol (x7_8 ||| ((x7_8.toUInt64 >>> ((16 : Int32).toInt64.toUInt64 &&& Int64.toUInt64 63)).toInt64)) fun x7_9 => ol (x7_9 ||| ((x7_9.toUInt64 >>> ((32 : Int32).toInt64.toUInt64 &&& Int64.toUInt64 63)).toInt64)) fun x7_10 => some (x5_2 &&& (((x7_10.toUInt64 >>> ((1 : Int32).toInt64.toUInt64 &&& Int64.toUInt64 63)).toInt64) ^^^ (-1))) else some (x5_2 &&& (x7_3 ^^^ (x7_3 - 1))))
abbrev rm_X3_along : Room := { frames := 0, cells := 0, slots := 0, locals := 0 }
abbrev wy_X3_along : List Cond := .code yX3_along cX3_along 9 (some .long) :: gT
theorem cv_X3_along {R : Room} {s : State} {args : Array Value} {own : String} {index : Nat} {w0 : Cond} (hts : ∀ w ∈ w0 :: gT, w.before args s = true) (hl : Cond.methodLink own index yX3_along ∈ gT) (hR : 0 + 1 ≤ R.frames ∧ 8 + (9 + 11) + 0 ≤ R.locals) : CallW R s args own RX3 index yX3_along cX3_along 9 (some .long) wy_X3_along rm_X3_along 0 0 3 :=
  cwV 3 hts (gT_call w0 (pre := [.methodLink own index yX3_along, .instanceMethod yX3_along, .selects RX3 yX3_along yX3_along, .initialized RX3]) (gT_lc hl (gT_lc ly_yX3_along (gT_lc lx_yX3_along (gT_l1 li_RX3)))) lc_yX3_along) rfl rfl rfl (by decide +kernel) hR
set_option maxRecDepth 100000 in
set_option maxHeartbeats 4000000 in
theorem c_X3_along (l : Launch) (D : va_G) (ql : Nat → Nat) (cJ : ClassId) (tq : Nat → Nat) (a_rays : Nat → Int64) (a_knights : Nat → Int64) (a_kings : Nat → Int64) (a_pawns : Nat → Int64) (p0 : Int32) (p1 : Int32) (p2 : Int64) (rv : Int64) (hm : m_X3_along a_rays p0 p1 p2 = some rv) : kEl l yX3_along wy_X3_along rm_X3_along D [(cJ, .long)] tq rv (wLi ql cJ a_rays a_knights a_kings a_pawns) (wLi ql cJ a_rays a_knights a_kings a_pawns) [.ref (ql 0), .int p0, .int p1, .long p2] := by
  refine kEl.of cX3_along 9 (some .long) (by decide) rfl rfl (Nat.le_of_ble_eq_true rfl) ?_
  intro p e s m below meth c A Q C hJ hret
  have hin3 : ∀ w ∈ wsX30, w ∈ wy_X3_along := fun w h => List.mem_cons_of_mem _ (inG3 w h)
  unfold m_X3_along at hm
  have h := hm
  refine kv_lv [0, 1, 2, 3] (lv2 := [(0, .ref (ql 0)), (1, .int p0), (2, .int p1), (3, .long p2)]) rfl ?_
  refine kv_aload_n C 0 dX3_along_0 rfl rfl ?_
  refine kv_get C (Cn := RX3) (T := TX3) (N := 4) 0 0 hin3 rfl rfl (by decide) (C.ts _ (List.mem_cons_of_mem _ lf_RX3_11)) rfl rfl dX3_along_1 ?_
  refine kv_iload_n C 1 dX3_along_4 rfl rfl ?_
  refine kv_bipush C 64 dX3_along_5 (by decide) ?_
  refine kv_imul C dX3_along_7 ?_
  refine kv_iload_n C 2 dX3_along_8 rfl rfl ?_
  refine kv_iadd C dX3_along_9 ?_
  obtain ⟨g_1, h⟩ := oin_e h
  refine kv_lald C 1 0 rfl rfl g_1 dX3_along_10 ?_
  obtain ⟨x5_2, ex5_2, h⟩ := ol_e h
  refine kv_topl ex5_2 ?_
  refine kv_lstore C (lv2 := [(1, .int p0), (3, .long p2), (5, .long x5_2)]) [2, 4, 0] dX3_along_11 (by decide) rfl rfl ?_
  refine kv_lload C 2 dX3_along_13 rfl ?_
  refine kv_lload_n C 1 dX3_along_15 rfl rfl ?_
  refine kv_land C dX3_along_16 ?_
  obtain ⟨x7_3, ex7_3, h⟩ := ol_e h
  refine kv_topl ex7_3 ?_
  refine kv_lstore C (lv2 := [(1, .int p0), (5, .long x5_2), (7, .long x7_3)]) [1, 3, 0] dX3_along_17 (by decide) rfl rfl ?_
  refine kv_iload_n C 0 dX3_along_19 rfl rfl ?_
  refine kv_iconst C 4 dX3_along_20 (by decide) ?_
  refine kv_icmp_ge C 35 dX3_along_21 (by decide) (fun c_4 => ?_) (fun c_4 => ?_)
  · have h := oi_t h c_4
    refine kv_lload C 2 dX3_along_35 rfl ?_
    refine kv_lload C 2 dX3_along_37 rfl ?_
    refine kv_iconst C 1 dX3_along_39 (by decide) ?_
    refine kv_lushr C dX3_along_40 ?_
    refine kv_lor C dX3_along_41 ?_
    obtain ⟨x7_5, ex7_5, h⟩ := ol_e h
    refine kv_topl ex7_5 ?_
    refine kv_lstore C (lv2 := [(5, .long x5_2), (7, .long x7_5)]) [2, 0] dX3_along_42 (by decide) rfl rfl ?_
    refine kv_lload C 1 dX3_along_44 rfl ?_
    refine kv_lload C 1 dX3_along_46 rfl ?_
    refine kv_iconst C 2 dX3_along_48 (by decide) ?_
    refine kv_lushr C dX3_along_49 ?_
    refine kv_lor C dX3_along_50 ?_
    obtain ⟨x7_6, ex7_6, h⟩ := ol_e h
    refine kv_topl ex7_6 ?_
    refine kv_lstore C (lv2 := [(5, .long x5_2), (7, .long x7_6)]) [1, 0] dX3_along_51 (by decide) rfl rfl ?_
    refine kv_lload C 1 dX3_along_53 rfl ?_
    refine kv_lload C 1 dX3_along_55 rfl ?_
    refine kv_iconst C 4 dX3_along_57 (by decide) ?_
    refine kv_lushr C dX3_along_58 ?_
    refine kv_lor C dX3_along_59 ?_
    obtain ⟨x7_7, ex7_7, h⟩ := ol_e h
    refine kv_topl ex7_7 ?_
    refine kv_lstore C (lv2 := [(5, .long x5_2), (7, .long x7_7)]) [1, 0] dX3_along_60 (by decide) rfl rfl ?_
    refine kv_lload C 1 dX3_along_62 rfl ?_
    refine kv_lload C 1 dX3_along_64 rfl ?_
    refine kv_bipush C 8 dX3_along_66 (by decide) ?_
    refine kv_lushr C dX3_along_68 ?_
    refine kv_lor C dX3_along_69 ?_
    obtain ⟨x7_8, ex7_8, h⟩ := ol_e h
    refine kv_topl ex7_8 ?_
    refine kv_lstore C (lv2 := [(5, .long x5_2), (7, .long x7_8)]) [1, 0] dX3_along_70 (by decide) rfl rfl ?_
    refine kv_lload C 1 dX3_along_72 rfl ?_
    refine kv_lload C 1 dX3_along_74 rfl ?_
    refine kv_bipush C 16 dX3_along_76 (by decide) ?_
    refine kv_lushr C dX3_along_78 ?_
    refine kv_lor C dX3_along_79 ?_
    obtain ⟨x7_9, ex7_9, h⟩ := ol_e h
    refine kv_topl ex7_9 ?_
    refine kv_lstore C (lv2 := [(5, .long x5_2), (7, .long x7_9)]) [1, 0] dX3_along_80 (by decide) rfl rfl ?_
    refine kv_lload C 1 dX3_along_82 rfl ?_
    refine kv_lload C 1 dX3_along_84 rfl ?_
    refine kv_bipush C 32 dX3_along_86 (by decide) ?_
    refine kv_lushr C dX3_along_88 ?_
    refine kv_lor C dX3_along_89 ?_
    obtain ⟨x7_10, ex7_10, h⟩ := ol_e h
    refine kv_topl ex7_10 ?_
    refine kv_lstore C (lv2 := [(5, .long x5_2), (7, .long x7_10)]) [1, 0] dX3_along_90 (by decide) rfl rfl ?_
    refine kv_lload C 0 dX3_along_92 rfl ?_
    refine kv_lload C 1 dX3_along_94 rfl ?_
    refine kv_iconst C 1 dX3_along_96 (by decide) ?_
    refine kv_lushr C dX3_along_97 ?_
    refine kv_ldc2 C (C.ts _ (List.mem_cons_of_mem _ lkl_RX3_57)) dX3_along_98 ?_
    refine kv_lxor C dX3_along_101 ?_
    refine kv_land C dX3_along_102 ?_
    cases h
    exact hret _ _ dX3_along_103
  · have h := oi_f h c_4
    refine kv_lload C 1 dX3_along_24 rfl ?_
    refine kv_lload C 2 dX3_along_26 rfl ?_
    refine kv_lload C 2 dX3_along_28 rfl ?_
    refine kv_lconst C 1 dX3_along_30 (by decide) ?_
    refine kv_lsub C dX3_along_31 ?_
    refine kv_lxor C dX3_along_32 ?_
    refine kv_land C dX3_along_33 ?_
    cases h
    exact hret _ _ dX3_along_34
def m_X3_reach_b47 (k18 : Int32 → Int32 → Int64 → Int64 → Int32 → Option (Int64)) (a_rays : Nat → Int64) (a_knights : Nat → Int64) (x1 : Int32) (x2 : Int32) (x3 : Int64) (x5 : Int64) (x7 : Int32) : Option (Int64) := ol (x7 + 1) fun x7_1 => k18 x1 x2 x3 x5 x7_1
def m_X3_reach_b18 (k18 : Int32 → Int32 → Int64 → Int64 → Int32 → Option (Int64)) (a_rays : Nat → Int64) (a_knights : Nat → Int64) (x1 : Int32) (x2 : Int32) (x3 : Int64) (x5 : Int64) (x7 : Int32) : Option (Int64) := if 8 ≤ x7 then some x5 else ob (m_X3_goesAlong x1 x7) fun r_3 => if r_3 = 0 then m_X3_reach_b47 k18 a_rays a_knights x1 x2 x3 x5 x7 else ob (m_X3_along a_rays x7 x2 x3) fun r_6 => ol (x5 ||| r_6) fun x5_8 => m_X3_reach_b47 k18 a_rays a_knights x1 x2 x3 x5_8 x7
def m_X3_reach_l18 (a_rays : Nat → Int64) (a_knights : Nat → Int64) (n : Nat) : Int32 → Int32 → Int64 → Int64 → Int32 → Option (Int64) := fz (fun _ _ _ _ _ => none) (fun k18 x1 x2 x3 x5 x7 => m_X3_reach_b18 k18 a_rays a_knights x1 x2 x3 x5 x7) n
def m_X3_reach (a_rays : Nat → Int64) (a_knights : Nat → Int64) (p0 : Int32) (p1 : Int32) (p2 : Int64) : Option (Int64) := if p0 = 2 then oin (p1) 64 (some (a_knights p1.toNatClampNeg)) else m_X3_reach_l18 a_rays a_knights kF p0 p1 p2 0 0
abbrev rm_X3_reach : Room := { frames := 1, cells := 0, slots := 0, locals := 28 }
abbrev wy_X3_reach : List Cond := .code yX3_reach cX3_reach 8 (some .long) :: gT
theorem cv_X3_reach {R : Room} {s : State} {args : Array Value} {own : String} {index : Nat} {w0 : Cond} (hts : ∀ w ∈ w0 :: gT, w.before args s = true) (hl : Cond.methodLink own index yX3_reach ∈ gT) (hR : 1 + 1 ≤ R.frames ∧ 8 + (8 + 11) + 28 ≤ R.locals) : CallW R s args own RX3 index yX3_reach cX3_reach 8 (some .long) wy_X3_reach rm_X3_reach 0 0 3 :=
  cwV 3 hts (gT_call w0 (pre := [.methodLink own index yX3_reach, .instanceMethod yX3_reach, .selects RX3 yX3_reach yX3_reach, .initialized RX3]) (gT_lc hl (gT_lc ly_yX3_reach (gT_lc lx_yX3_reach (gT_l1 li_RX3)))) lc_yX3_reach) rfl rfl rfl (by decide +kernel) hR
set_option maxRecDepth 100000 in
set_option maxHeartbeats 4000000 in
theorem c_X3_reach (l : Launch) (D : va_G) (ql : Nat → Nat) (cJ : ClassId) (tq : Nat → Nat) (a_rays : Nat → Int64) (a_knights : Nat → Int64) (a_kings : Nat → Int64) (a_pawns : Nat → Int64) (p0 : Int32) (p1 : Int32) (p2 : Int64) (rv : Int64) (hm : m_X3_reach a_rays a_knights p0 p1 p2 = some rv) : kEl l yX3_reach wy_X3_reach rm_X3_reach D [(cJ, .long)] tq rv (wLi ql cJ a_rays a_knights a_kings a_pawns) (wLi ql cJ a_rays a_knights a_kings a_pawns) [.ref (ql 0), .int p0, .int p1, .long p2] := by
  refine kEl.of cX3_reach 8 (some .long) (by decide) rfl rfl (Nat.le_of_ble_eq_true rfl) ?_
  intro p e s m below meth c A Q C hJ hret
  have hin3 : ∀ w ∈ wsX30, w ∈ wy_X3_reach := fun w h => List.mem_cons_of_mem _ (inG3 w h)
  have l18 : ∀ (n18 : Nat) (x1 : Int32) (x2 : Int32) (x3 : Int64) (x5 : Int64) (x7 : Int32), m_X3_reach_l18  a_rays a_knights n18 x1 x2 x3 x5 x7 = some rv → kv p l e rm_X3_reach s m ([.ref (ql 0), .int p0, .int p1, .long p2] : List Value).toArray below meth c D A 8 0 0 Q (wLi ql cJ a_rays a_knights a_kings a_pawns) [(0, .ref (ql 0)), (1, .int x1), (2, .int x2), (3, .long x3), (5, .long x5), (7, .int x7)] 18 [] := by
    intro n18
    induction n18 with
    | zero =>
      intro x1 x2 x3 x5 x7 h
      exact kv_no h
    | succ n18 ih18 =>
      have j47 : ∀ (x1 : Int32) (x2 : Int32) (x3 : Int64) (x5 : Int64) (x7 : Int32), m_X3_reach_b47 (m_X3_reach_l18  a_rays a_knights n18) a_rays a_knights x1 x2 x3 x5 x7 = some rv → kv p l e rm_X3_reach s m ([.ref (ql 0), .int p0, .int p1, .long p2] : List Value).toArray below meth c D A 8 0 0 Q (wLi ql cJ a_rays a_knights a_kings a_pawns) [(0, .ref (ql 0)), (1, .int x1), (2, .int x2), (3, .long x3), (5, .long x5), (7, .int x7)] 47 [] := by
        intro x1 x2 x3 x5 x7 h
        unfold m_X3_reach_b47 at h
        obtain ⟨x7_1, ex7_1, h⟩ := ol_e h
        refine kv_iinc C (v := x7_1) (lv2 := [(0, .ref (ql 0)), (1, .int x1), (2, .int x2), (3, .long x3), (5, .long x5), (7, .int x7_1)]) 5 [1, 2, 3, 4, 5, 0] dX3_reach_47 rfl ex7_1.symm (by decide) rfl rfl ?_
        refine kv_goto C 18 dX3_reach_50 (by decide) ?_
        exact kv_lv [0, 1, 2, 3, 4, 5] (lv2 := [(0, .ref (ql 0)), (1, .int x1), (2, .int x2), (3, .long x3), (5, .long x5), (7, .int x7_1)]) rfl (ih18 x1 x2 x3 x5 x7_1 h)
      intro x1 x2 x3 x5 x7 h
      replace h : m_X3_reach_b18  (m_X3_reach_l18  a_rays a_knights n18) a_rays a_knights x1 x2 x3 x5 x7 = some rv := h
      unfold m_X3_reach_b18 at h
      refine kv_iload C 5 dX3_reach_18 rfl ?_
      refine kv_bipush C 8 dX3_reach_20 (by decide) ?_
      refine kv_icmp_ge C 53 dX3_reach_22 (by decide) (fun c_2 => ?_) (fun c_2 => ?_)
      · have h := oi_t h c_2
        refine kv_lload C 4 dX3_reach_53 rfl ?_
        cases h
        exact hret _ _ dX3_reach_55
      · have h := oi_f h c_2
        refine kv_iload_n C 1 dX3_reach_25 rfl rfl ?_
        refine kv_iload C 5 dX3_reach_26 rfl ?_
        obtain ⟨r_3, hm_4, h⟩ := ob_e h
        refine kv_callS0i C [.int x1, .int x7] (c_X3_goesAlong l D x1 x7 r_3 hm_4) (cs_X3_goesAlong C.ts lm_RX3_59 ⟨Nat.le_of_ble_eq_true rfl, Nat.le_of_ble_eq_true rfl⟩) rfl rfl (Nat.le_of_ble_eq_true rfl) dX3_reach_28 ⟨Nat.zero_le _, Nat.zero_le _⟩ ?_
        refine kv_if_eq C 47 dX3_reach_31 (by decide) (fun c_5 => ?_) (fun c_5 => ?_)
        · have h := oi_t h c_5
          exact kv_lv [0, 1, 2, 3, 4, 5] (lv2 := [(0, .ref (ql 0)), (1, .int x1), (2, .int x2), (3, .long x3), (5, .long x5), (7, .int x7)]) rfl (j47 x1 x2 x3 x5 x7 h)
        · have h := oi_f h c_5
          refine kv_lload C 4 dX3_reach_34 rfl ?_
          refine kv_aload_n C 0 dX3_reach_36 rfl rfl ?_
          refine kv_iload C 5 dX3_reach_37 rfl ?_
          refine kv_iload_n C 2 dX3_reach_39 rfl rfl ?_
          refine kv_lload_n C 3 dX3_reach_40 rfl rfl ?_
          obtain ⟨r_6, hm_7, h⟩ := ob_e h
          refine kv_eVl (ws2 := (wLi ql cJ a_rays a_knights a_kings a_pawns)) C hJ [.int x7, .int x2, .long x3] 0 (c_X3_along l D ql cJ tq a_rays a_knights a_kings a_pawns x7 x2 x3 r_6 hm_7) (cv_X3_along C.ts lm_RX3_63 ⟨Nat.le_of_ble_eq_true rfl, Nat.le_of_ble_eq_true rfl⟩) rfl rfl [0, 1, 2, 3, 4] [] [0] [0, 1, 2, 3, 4] rfl rfl rfl rfl rfl (by decide) rfl rfl rfl (Nat.le_of_ble_eq_true rfl) dX3_reach_41 ⟨Nat.zero_le _, Nat.zero_le _⟩ rfl rfl rfl ?_
          refine kv_lor C dX3_reach_44 ?_
          obtain ⟨x5_8, ex5_8, h⟩ := ol_e h
          refine kv_topl ex5_8 ?_
          refine kv_lstore C (lv2 := [(0, .ref (ql 0)), (1, .int x1), (2, .int x2), (3, .long x3), (5, .long x5_8), (7, .int x7)]) [1, 2, 3, 4, 0, 5] dX3_reach_45 (by decide) rfl rfl ?_
          exact kv_lv [0, 1, 2, 3, 4, 5] (lv2 := [(0, .ref (ql 0)), (1, .int x1), (2, .int x2), (3, .long x3), (5, .long x5_8), (7, .int x7)]) rfl (j47 x1 x2 x3 x5_8 x7 h)
  unfold m_X3_reach at hm
  have h := hm
  refine kv_lv [0, 1, 2, 3] (lv2 := [(0, .ref (ql 0)), (1, .int p0), (2, .int p1), (3, .long p2)]) rfl ?_
  refine kv_iload_n C 1 dX3_reach_0 rfl rfl ?_
  refine kv_iconst C 2 dX3_reach_1 (by decide) ?_
  refine kv_icmp_ne C 12 dX3_reach_2 (by decide) (fun c_9 => ?_) (fun c_9 => ?_)
  · have h := oi_f h c_9
    refine kv_lconst C 0 dX3_reach_12 (by decide) ?_
    refine kv_lstore C (lv2 := [(0, .ref (ql 0)), (1, .int p0), (2, .int p1), (3, .long p2), (5, .long 0)]) [1, 2, 3, 4, 0] dX3_reach_13 (by decide) rfl rfl ?_
    refine kv_iconst C 0 dX3_reach_15 (by decide) ?_
    refine kv_istore C (lv2 := [(0, .ref (ql 0)), (1, .int p0), (2, .int p1), (3, .long p2), (5, .long 0), (7, .int 0)]) [1, 2, 3, 4, 5, 0] dX3_reach_16 (by decide) rfl rfl ?_
    exact kv_lv [0, 1, 2, 3, 4, 5] (lv2 := [(0, .ref (ql 0)), (1, .int p0), (2, .int p1), (3, .long p2), (5, .long 0), (7, .int 0)]) rfl (l18 kF p0 p1 p2 0 0 h)
  · have h := oi_t h c_9
    refine kv_aload_n C 0 dX3_reach_5 rfl rfl ?_
    refine kv_get C (Cn := RX3) (T := TX3) (N := 4) 0 1 hin3 rfl rfl (by decide) (C.ts _ (List.mem_cons_of_mem _ lf_RX3_15)) rfl rfl dX3_reach_6 ?_
    refine kv_iload_n C 2 dX3_reach_9 rfl rfl ?_
    obtain ⟨g_10, h⟩ := oin_e h
    refine kv_lald C 2 0 rfl rfl g_10 dX3_reach_10 ?_
    cases h
    exact hret _ _ dX3_reach_11
def m_X3_rayThrough_b2 (k2 : Int32 → Int32 → Int32 → Option (Int64)) (a_rays : Nat → Int64) (x1 : Int32) (x2 : Int32) (x3 : Int32) : Option (Int64) := if 8 ≤ x3 then some (-1) else oin ((x3 * 64) + x1) 512 (ol (a_rays ((x3 * 64) + x1).toNatClampNeg) fun x4_3 => if (lg_cmp (((x4_3.toUInt64 >>> (x2.toInt64.toUInt64 &&& Int64.toUInt64 63)).toInt64) &&& 1) 0) = 0 then ol (x3 + 1) fun x3_5 => k2 x1 x2 x3_5 else some x4_3)
def m_X3_rayThrough_l2 (a_rays : Nat → Int64) (n : Nat) : Int32 → Int32 → Int32 → Option (Int64) := fz (fun _ _ _ => none) (fun k2 x1 x2 x3 => m_X3_rayThrough_b2 k2 a_rays x1 x2 x3) n
def m_X3_rayThrough (a_rays : Nat → Int64) (p0 : Int32) (p1 : Int32) : Option (Int64) := m_X3_rayThrough_l2 a_rays kF p0 p1 0
abbrev rm_X3_rayThrough : Room := { frames := 0, cells := 0, slots := 0, locals := 0 }
abbrev wy_X3_rayThrough : List Cond := .code yX3_rayThrough cX3_rayThrough 6 (some .long) :: gT
theorem cv_X3_rayThrough {R : Room} {s : State} {args : Array Value} {own : String} {index : Nat} {w0 : Cond} (hts : ∀ w ∈ w0 :: gT, w.before args s = true) (hl : Cond.methodLink own index yX3_rayThrough ∈ gT) (hR : 0 + 1 ≤ R.frames ∧ 8 + (6 + 11) + 0 ≤ R.locals) : CallW R s args own RX3 index yX3_rayThrough cX3_rayThrough 6 (some .long) wy_X3_rayThrough rm_X3_rayThrough 0 0 2 :=
  cwV 2 hts (gT_call w0 (pre := [.methodLink own index yX3_rayThrough, .instanceMethod yX3_rayThrough, .selects RX3 yX3_rayThrough yX3_rayThrough, .initialized RX3]) (gT_lc hl (gT_lc ly_yX3_rayThrough (gT_lc lx_yX3_rayThrough (gT_l1 li_RX3)))) lc_yX3_rayThrough) rfl rfl rfl (by decide +kernel) hR
set_option maxRecDepth 100000 in
set_option maxHeartbeats 4000000 in
theorem c_X3_rayThrough (l : Launch) (D : va_G) (ql : Nat → Nat) (cJ : ClassId) (tq : Nat → Nat) (a_rays : Nat → Int64) (a_knights : Nat → Int64) (a_kings : Nat → Int64) (a_pawns : Nat → Int64) (p0 : Int32) (p1 : Int32) (rv : Int64) (hm : m_X3_rayThrough a_rays p0 p1 = some rv) : kEl l yX3_rayThrough wy_X3_rayThrough rm_X3_rayThrough D [(cJ, .long)] tq rv (wLi ql cJ a_rays a_knights a_kings a_pawns) (wLi ql cJ a_rays a_knights a_kings a_pawns) [.ref (ql 0), .int p0, .int p1] := by
  refine kEl.of cX3_rayThrough 6 (some .long) (by decide) rfl rfl (Nat.le_of_ble_eq_true rfl) ?_
  intro p e s m below meth c A Q C hJ hret
  have hin3 : ∀ w ∈ wsX30, w ∈ wy_X3_rayThrough := fun w h => List.mem_cons_of_mem _ (inG3 w h)
  have l2 : ∀ (n2 : Nat) (x1 : Int32) (x2 : Int32) (x3 : Int32), m_X3_rayThrough_l2  a_rays n2 x1 x2 x3 = some rv → kv p l e rm_X3_rayThrough s m ([.ref (ql 0), .int p0, .int p1] : List Value).toArray below meth c D A 6 0 0 Q (wLi ql cJ a_rays a_knights a_kings a_pawns) [(0, .ref (ql 0)), (1, .int x1), (2, .int x2), (3, .int x3)] 2 [] := by
    intro n2
    induction n2 with
    | zero =>
      intro x1 x2 x3 h
      exact kv_no h
    | succ n2 ih2 =>
      intro x1 x2 x3 h
      replace h : m_X3_rayThrough_b2  (m_X3_rayThrough_l2  a_rays n2) a_rays x1 x2 x3 = some rv := h
      unfold m_X3_rayThrough_b2 at h
      refine kv_iload_n C 3 dX3_rayThrough_2 rfl rfl ?_
      refine kv_bipush C 8 dX3_rayThrough_3 (by decide) ?_
      refine kv_icmp_ge C 41 dX3_rayThrough_5 (by decide) (fun c_1 => ?_) (fun c_1 => ?_)
      · have h := oi_t h c_1
        refine kv_ldc2 C (C.ts _ (List.mem_cons_of_mem _ lkl_RX3_57)) dX3_rayThrough_41 ?_
        cases h
        exact hret _ _ dX3_rayThrough_44
      · have h := oi_f h c_1
        refine kv_aload_n C 0 dX3_rayThrough_8 rfl rfl ?_
        refine kv_get C (Cn := RX3) (T := TX3) (N := 4) 0 0 hin3 rfl rfl (by decide) (C.ts _ (List.mem_cons_of_mem _ lf_RX3_11)) rfl rfl dX3_rayThrough_9 ?_
        refine kv_iload_n C 3 dX3_rayThrough_12 rfl rfl ?_
        refine kv_bipush C 64 dX3_rayThrough_13 (by decide) ?_
        refine kv_imul C dX3_rayThrough_15 ?_
        refine kv_iload_n C 1 dX3_rayThrough_16 rfl rfl ?_
        refine kv_iadd C dX3_rayThrough_17 ?_
        obtain ⟨g_2, h⟩ := oin_e h
        refine kv_lald C 1 0 rfl rfl g_2 dX3_rayThrough_18 ?_
        obtain ⟨x4_3, ex4_3, h⟩ := ol_e h
        refine kv_topl ex4_3 ?_
        refine kv_lstore C (lv2 := [(0, .ref (ql 0)), (1, .int x1), (2, .int x2), (3, .int x3), (4, .long x4_3)]) [1, 2, 3, 4, 0] dX3_rayThrough_19 (by decide) rfl rfl ?_
        refine kv_lload C 4 dX3_rayThrough_21 rfl ?_
        refine kv_iload_n C 2 dX3_rayThrough_23 rfl rfl ?_
        refine kv_lushr C dX3_rayThrough_24 ?_
        refine kv_lconst C 1 dX3_rayThrough_25 (by decide) ?_
        refine kv_land C dX3_rayThrough_26 ?_
        refine kv_lconst C 0 dX3_rayThrough_27 (by decide) ?_
        refine kv_lcmp C dX3_rayThrough_28 ?_
        refine kv_if_eq C 35 dX3_rayThrough_29 (by decide) (fun c_4 => ?_) (fun c_4 => ?_)
        · have h := oi_t h c_4
          obtain ⟨x3_5, ex3_5, h⟩ := ol_e h
          refine kv_iinc C (v := x3_5) (lv2 := [(0, .ref (ql 0)), (1, .int x1), (2, .int x2), (3, .int x3_5)]) 3 [1, 2, 3, 0] dX3_rayThrough_35 rfl ex3_5.symm (by decide) rfl rfl ?_
          refine kv_goto C 2 dX3_rayThrough_38 (by decide) ?_
          exact kv_lv [0, 1, 2, 3] (lv2 := [(0, .ref (ql 0)), (1, .int x1), (2, .int x2), (3, .int x3_5)]) rfl (ih2 x1 x2 x3_5 h)
        · have h := oi_f h c_4
          refine kv_lload C 4 dX3_rayThrough_32 rfl ?_
          cases h
          exact hret _ _ dX3_rayThrough_34
  unfold m_X3_rayThrough at hm
  have h := hm
  refine kv_lv [0, 1, 2] (lv2 := [(0, .ref (ql 0)), (1, .int p0), (2, .int p1)]) rfl ?_
  refine kv_iconst C 0 dX3_rayThrough_0 (by decide) ?_
  refine kv_istore_n C (lv2 := [(0, .ref (ql 0)), (1, .int p0), (2, .int p1), (3, .int 0)]) [1, 2, 3, 0] dX3_rayThrough_1 rfl (by decide) rfl rfl ?_
  exact kv_lv [0, 1, 2, 3] (lv2 := [(0, .ref (ql 0)), (1, .int p0), (2, .int p1), (3, .int 0)]) rfl (l2 kF p0 p1 0 h)
def m_X7_forWhite_b34 (a_table : Nat → Int32) (t0 : Int32) : Option (Int32) := some t0
def m_X7_forWhite (a_table : Nat → Int32) (p0 : Int32) (p1 : Int32) : Option (Int32) := if p0 < 0 then oin (((-p0) * 64) + (p1 ^^^ 56)) 448 (m_X7_forWhite_b34 a_table (-(a_table (((-p0) * 64) + (p1 ^^^ 56)).toNatClampNeg))) else oin ((p0 * 64) + p1) 448 (m_X7_forWhite_b34 a_table (a_table ((p0 * 64) + p1).toNatClampNeg))
abbrev rm_X7_forWhite : Room := { frames := 0, cells := 0, slots := 0, locals := 0 }
abbrev wy_X7_forWhite : List Cond := .code yX7_forWhite cX7_forWhite 3 (some .int) :: gT
theorem cv_X7_forWhite {R : Room} {s : State} {args : Array Value} {own : String} {index : Nat} {w0 : Cond} (hts : ∀ w ∈ w0 :: gT, w.before args s = true) (hl : Cond.methodLink own index yX7_forWhite ∈ gT) (hR : 0 + 1 ≤ R.frames ∧ 8 + (3 + 11) + 0 ≤ R.locals) : CallW R s args own RX7 index yX7_forWhite cX7_forWhite 3 (some .int) wy_X7_forWhite rm_X7_forWhite 0 0 2 :=
  cwV 2 hts (gT_call w0 (pre := [.methodLink own index yX7_forWhite, .instanceMethod yX7_forWhite, .selects RX7 yX7_forWhite yX7_forWhite, .initialized RX7]) (gT_lc hl (gT_lc ly_yX7_forWhite (gT_lc lx_yX7_forWhite (gT_l1 li_RX7)))) lc_yX7_forWhite) rfl rfl rfl (by decide +kernel) hR
set_option maxRecDepth 100000 in
set_option maxHeartbeats 4000000 in
theorem c_X7_forWhite (l : Launch) (D : va_G) (qw : Nat → Nat) (cI : ClassId) (tq : Nat → Nat) (a_table : Nat → Int32) (p0 : Int32) (p1 : Int32) (rv : Int32) (hm : m_X7_forWhite a_table p0 p1 = some rv) : kEi l yX7_forWhite wy_X7_forWhite rm_X7_forWhite D [(cI, .int)] tq rv (wWo qw cI a_table) (wWo qw cI a_table) [.ref (qw 0), .int p0, .int p1] := by
  refine kEi.of cX7_forWhite 3 (some .int) (by decide) rfl (Or.inl rfl) (Nat.le_of_ble_eq_true rfl) ?_
  intro p e s m below meth c A Q C hJ hret
  have hin7 : ∀ w ∈ wsX70, w ∈ wy_X7_forWhite := fun w h => List.mem_cons_of_mem _ (inG7 w h)
  have j34 : ∀ (t0 : Int32), m_X7_forWhite_b34  a_table t0 = some rv → kv p l e rm_X7_forWhite s m ([.ref (qw 0), .int p0, .int p1] : List Value).toArray below meth c D A 3 0 0 Q (wWo qw cI a_table) [] 34 [.int t0] := by
    intro t0 h
    unfold m_X7_forWhite_b34 at h
    cases h
    exact hret _ _ dX7_forWhite_34 (fun q => by cases q)
  unfold m_X7_forWhite at hm
  have h := hm
  refine kv_lv [0, 1, 2] (lv2 := [(0, .ref (qw 0)), (1, .int p0), (2, .int p1)]) rfl ?_
  refine kv_iload_n C 1 dX7_forWhite_0 rfl rfl ?_
  refine kv_if_lt C 18 dX7_forWhite_1 (by decide) (fun c_1 => ?_) (fun c_1 => ?_)
  · have h := oi_t h c_1
    refine kv_aload_n C 0 dX7_forWhite_18 rfl rfl ?_
    refine kv_get C (Cn := RX7) (T := TX7) (N := 1) 0 0 hin7 rfl rfl (by decide) (C.ts _ (List.mem_cons_of_mem _ lf_RX7_9)) rfl rfl dX7_forWhite_19 ?_
    refine kv_iload_n C 1 dX7_forWhite_22 rfl rfl ?_
    refine kv_ineg C dX7_forWhite_23 ?_
    refine kv_bipush C 64 dX7_forWhite_24 (by decide) ?_
    refine kv_imul C dX7_forWhite_26 ?_
    refine kv_iload_n C 2 dX7_forWhite_27 rfl rfl ?_
    refine kv_bipush C 56 dX7_forWhite_28 (by decide) ?_
    refine kv_ixor C dX7_forWhite_30 ?_
    refine kv_iadd C dX7_forWhite_31 ?_
    obtain ⟨g_2, h⟩ := oin_e h
    refine kv_iald C 1 0 rfl rfl g_2 dX7_forWhite_32 ?_
    refine kv_ineg C dX7_forWhite_33 ?_
    exact kv_lv [] (lv2 := []) rfl (j34 (-(a_table (((-p0) * 64) + (p1 ^^^ 56)).toNatClampNeg)) h)
  · have h := oi_f h c_1
    refine kv_aload_n C 0 dX7_forWhite_4 rfl rfl ?_
    refine kv_get C (Cn := RX7) (T := TX7) (N := 1) 0 0 hin7 rfl rfl (by decide) (C.ts _ (List.mem_cons_of_mem _ lf_RX7_9)) rfl rfl dX7_forWhite_5 ?_
    refine kv_iload_n C 1 dX7_forWhite_8 rfl rfl ?_
    refine kv_bipush C 64 dX7_forWhite_9 (by decide) ?_
    refine kv_imul C dX7_forWhite_11 ?_
    refine kv_iload_n C 2 dX7_forWhite_12 rfl rfl ?_
    refine kv_iadd C dX7_forWhite_13 ?_
    obtain ⟨g_3, h⟩ := oin_e h
    refine kv_iald C 1 0 rfl rfl g_3 dX7_forWhite_14 ?_
    refine kv_goto C 34 dX7_forWhite_15 (by decide) ?_
    exact kv_lv [] (lv2 := []) rfl (j34 (a_table ((p0 * 64) + p1).toNatClampNeg) h)
def m_X0_put_b37 (v_balance : Int32) (a_men : Nat → Int32) (a_kinds : Nat → Int64) (a_sides : Nat → Int64) (a_table : Nat → Int32) (x1 : Int32) (x2 : Int32) (x3 : Int64) (t1 : Int32) : Option (Int32 × (Nat → Int32) × (Nat → Int64) × (Nat → Int64)) := oin (t1) 2 (ol ((a_sides t1.toNatClampNeg) ||| x3) fun y_2 => oin (t1) 2 (ol (vp_updL a_sides (t1.toNatClampNeg) y_2) fun a_sides_4 => ob (m_X7_forWhite a_table x2 x1) fun r_5 => ol (v_balance + r_5) fun y_7 => some (y_7, a_men, a_kinds, a_sides_4)))
def m_X0_put (v_balance : Int32) (a_men : Nat → Int32) (a_kinds : Nat → Int64) (a_sides : Nat → Int64) (a_table : Nat → Int32) (p0 : Int32) (p1 : Int32) : Option (Int32 × (Nat → Int32) × (Nat → Int64) × (Nat → Int64)) := ol ((1 : Int64) <<< (p0.toInt64 &&& 63)) fun x3_8 => oin (p0) 64 (ol (upd a_men (p0.toNatClampNeg) p1) fun a_men_10 => ob (m_J9_abs_0f7a4 p1) fun r_11 => oin (r_11) 7 (ol ((a_kinds r_11.toNatClampNeg) ||| x3_8) fun y_14 => oin (r_11) 7 (ol (vp_updL a_kinds (r_11.toNatClampNeg) y_14) fun a_kinds_16 => if p1 ≤ 0 then m_X0_put_b37 v_balance a_men_10 a_kinds_16 a_sides a_table p0 p1 x3_8 1 else m_X0_put_b37 v_balance a_men_10 a_kinds_16 a_sides a_table p0 p1 x3_8 0)))
abbrev rm_X0_put : Room := { frames := 1, cells := 0, slots := 0, locals := 22 }
abbrev wy_X0_put : List Cond := .code yX0_put cX0_put 5 none :: gT
theorem cv_X0_put {R : Room} {s : State} {args : Array Value} {own : String} {index : Nat} {w0 : Cond} (hts : ∀ w ∈ w0 :: gT, w.before args s = true) (hl : Cond.methodLink own index yX0_put ∈ gT) (hR : 1 + 1 ≤ R.frames ∧ 8 + (5 + 11) + 22 ≤ R.locals) : CallW R s args own RX0 index yX0_put cX0_put 5 none wy_X0_put rm_X0_put 0 0 2 :=
  cwV 2 hts (gT_call w0 (pre := [.methodLink own index yX0_put, .instanceMethod yX0_put, .selects RX0 yX0_put yX0_put, .initialized RX0]) (gT_lc hl (gT_lc ly_yX0_put (gT_lc lx_yX0_put (gT_l1 li_RX0)))) lc_yX0_put) rfl rfl rfl (by decide +kernel) hR
set_option maxRecDepth 100000 in
set_option maxHeartbeats 4000000 in
theorem c_X0_put (l : Launch) (D : va_G) (qb : Nat → Nat) (ql : Nat → Nat) (qw : Nat → Nat) (cI : ClassId) (cJ : ClassId) (tq : Nat → Nat) (v_mover : Int32) (v_rights : Int32) (v_passed : Int32) (v_halves : Int32) (v_number : Int32) (v_balance : Int32) (a_men : Nat → Int32) (a_kinds : Nat → Int64) (a_sides : Nat → Int64) (a_rays : Nat → Int64) (a_knights : Nat → Int64) (a_kings : Nat → Int64) (a_pawns : Nat → Int64) (a_table : Nat → Int32) (p0 : Int32) (p1 : Int32) (v_balance' : Int32) (a_men' : Nat → Int32) (a_kinds' : Nat → Int64) (a_sides' : Nat → Int64) (hm : m_X0_put v_balance a_men a_kinds a_sides a_table p0 p1 = some (v_balance', a_men', a_kinds', a_sides')) : kEv l yX0_put wy_X0_put rm_X0_put D [(cI, .int), (cJ, .long)] tq (wBo qb ql qw cI cJ v_mover v_rights v_passed v_halves v_number v_balance a_men a_kinds a_sides a_rays a_knights a_kings a_pawns a_table) (wBo qb ql qw cI cJ v_mover v_rights v_passed v_halves v_number v_balance' a_men' a_kinds' a_sides' a_rays a_knights a_kings a_pawns a_table) [.ref (qb 0), .int p0, .int p1] := by
  refine kEv.of cX0_put 5 none (by decide) rfl rfl (Nat.le_of_ble_eq_true rfl) ?_
  intro p e s m below meth c A Q C hJ hret
  have hin0 : ∀ w ∈ wsX00, w ∈ wy_X0_put := fun w h => List.mem_cons_of_mem _ (inG0 w h)
  have hin3 : ∀ w ∈ wsX30, w ∈ wy_X0_put := fun w h => List.mem_cons_of_mem _ (inG3 w h)
  have hin7 : ∀ w ∈ wsX70, w ∈ wy_X0_put := fun w h => List.mem_cons_of_mem _ (inG7 w h)
  have j37 : ∀ (v_balance : Int32) (a_men : Nat → Int32) (a_kinds : Nat → Int64) (a_sides : Nat → Int64) (x1 : Int32) (x2 : Int32) (x3 : Int64) (t1 : Int32), m_X0_put_b37  v_balance a_men a_kinds a_sides a_table x1 x2 x3 t1 = some (v_balance', a_men', a_kinds', a_sides') → kv p l e rm_X0_put s m ([.ref (qb 0), .int p0, .int p1] : List Value).toArray below meth c D A 5 0 0 Q (wBo qb ql qw cI cJ v_mover v_rights v_passed v_halves v_number v_balance a_men a_kinds a_sides a_rays a_knights a_kings a_pawns a_table) [(0, .ref (qb 0)), (1, .int x1), (2, .int x2), (3, .long x3)] 37 [.int t1, .ref (qb 3)] := by
    intro v_balance a_men a_kinds a_sides x1 x2 x3 t1 h
    unfold m_X0_put_b37 at h
    refine kv_dup2_11 C dX0_put_37 rfl rfl ?_
    obtain ⟨g_1, h⟩ := oin_e h
    refine kv_lald C 3 1 rfl rfl g_1 dX0_put_38 ?_
    refine kv_lload_n C 3 dX0_put_39 rfl rfl ?_
    refine kv_lor C dX0_put_40 ?_
    obtain ⟨y_2, ey_2, h⟩ := ol_e h
    refine kv_topl ey_2 ?_
    obtain ⟨g_3, h⟩ := oin_e h
    obtain ⟨a_sides_4, ea_sides_4, h⟩ := ol_e h
    refine kv_last2 C (ws1 := (wBo qb ql qw cI cJ v_mover v_rights v_passed v_halves v_number v_balance a_men a_kinds a_sides_4 a_rays a_knights a_kings a_pawns a_table)) 3 1 rfl rfl g_3 ea_sides_4 rfl dX0_put_41 ?_
    refine kv_aload_n C 0 dX0_put_42 rfl rfl ?_
    refine kv_dup C dX0_put_43 rfl ?_
    refine kv_get C (Cn := RX0) (T := TX0) (N := 11) 0 10 hin0 rfl rfl (by decide) (C.ts _ (List.mem_cons_of_mem _ lf_RX0_53)) rfl rfl dX0_put_44 ?_
    refine kv_aload_n C 0 dX0_put_47 rfl rfl ?_
    refine kv_get C (Cn := RX0) (T := TX0) (N := 11) 0 1 hin0 rfl rfl (by decide) (C.ts _ (List.mem_cons_of_mem _ lf_RX0_15)) rfl rfl dX0_put_48 ?_
    refine kv_iload_n C 2 dX0_put_51 rfl rfl ?_
    refine kv_iload_n C 1 dX0_put_52 rfl rfl ?_
    obtain ⟨r_5, hm_6, h⟩ := ob_e h
    refine kv_eVi (ws2 := (wBo qb ql qw cI cJ v_mover v_rights v_passed v_halves v_number v_balance a_men a_kinds a_sides_4 a_rays a_knights a_kings a_pawns a_table)) C hJ [.int x2, .int x1] 0 (c_X7_forWhite l D qw cI tq a_table x2 x1 r_5 hm_6) (cv_X7_forWhite C.ts lm_RX0_68 ⟨Nat.le_of_ble_eq_true rfl, Nat.le_of_ble_eq_true rfl⟩) rfl rfl [9, 10] [0, 1, 2, 3, 4, 5, 6, 7, 8] [0] [0, 1, 2, 3, 4, 5, 6, 7, 8, 9, 10] rfl rfl rfl rfl rfl (by decide) rfl rfl rfl (Nat.le_of_ble_eq_true rfl) dX0_put_53 ⟨Nat.zero_le _, Nat.zero_le _⟩ rfl rfl rfl ?_
    refine kv_iadd C dX0_put_56 ?_
    obtain ⟨y_7, ey_7, h⟩ := ol_e h
    refine kv_top ey_7 ?_
    refine kv_put C (Cn := RX0) (T := TX0) (N := 11) (ty := .int) (ws1 := (wBo qb ql qw cI cJ v_mover v_rights v_passed v_halves v_number y_7 a_men a_kinds a_sides_4 a_rays a_knights a_kings a_pawns a_table)) 0 10 hin0 tyX0 tyX0_ok nmX0 rfl rfl (by decide) (C.ts _ (List.mem_cons_of_mem _ lf_RX0_53)) rfl rfl (by decide +kernel) rfl rfl (Nat.le_of_ble_eq_true rfl) rfl dX0_put_57 ?_
    cases h
    exact hret _ _ dX0_put_60
  unfold m_X0_put at hm
  have h := hm
  refine kv_lv [0, 1, 2] (lv2 := [(0, .ref (qb 0)), (1, .int p0), (2, .int p1)]) rfl ?_
  refine kv_lconst C 1 dX0_put_0 (by decide) ?_
  refine kv_iload_n C 1 dX0_put_1 rfl rfl ?_
  refine kv_lshl C dX0_put_2 ?_
  obtain ⟨x3_8, ex3_8, h⟩ := ol_e h
  refine kv_topl ex3_8 ?_
  refine kv_lstore_n C (lv2 := [(0, .ref (qb 0)), (1, .int p0), (2, .int p1), (3, .long x3_8)]) [1, 2, 3, 0] dX0_put_3 rfl (by decide) rfl rfl ?_
  refine kv_aload_n C 0 dX0_put_4 rfl rfl ?_
  refine kv_get C (Cn := RX0) (T := TX0) (N := 11) 0 2 hin0 rfl rfl (by decide) (C.ts _ (List.mem_cons_of_mem _ lf_RX0_19)) rfl rfl dX0_put_5 ?_
  refine kv_iload_n C 1 dX0_put_8 rfl rfl ?_
  refine kv_iload_n C 2 dX0_put_9 rfl rfl ?_
  obtain ⟨g_9, h⟩ := oin_e h
  obtain ⟨a_men_10, ea_men_10, h⟩ := ol_e h
  refine kv_iast2 C (ws1 := (wBo qb ql qw cI cJ v_mover v_rights v_passed v_halves v_number v_balance a_men_10 a_kinds a_sides a_rays a_knights a_kings a_pawns a_table)) 1 0 rfl rfl g_9 ea_men_10 rfl dX0_put_10 ?_
  refine kv_aload_n C 0 dX0_put_11 rfl rfl ?_
  refine kv_get C (Cn := RX0) (T := TX0) (N := 11) 0 3 hin0 rfl rfl (by decide) (C.ts _ (List.mem_cons_of_mem _ lf_RX0_23)) rfl rfl dX0_put_12 ?_
  refine kv_iload_n C 2 dX0_put_15 rfl rfl ?_
  obtain ⟨r_11, hm_12, h⟩ := ob_e h
  refine kv_callS0i C [.int p1] (c_J9_abs_0f7a4 l D p1 r_11 hm_12) (cs_J9_abs_0f7a4 C.ts lm_RX0_62 ⟨Nat.le_of_ble_eq_true rfl, Nat.le_of_ble_eq_true rfl⟩) rfl rfl (Nat.le_of_ble_eq_true rfl) dX0_put_16 ⟨Nat.zero_le _, Nat.zero_le _⟩ ?_
  refine kv_dup2_11 C dX0_put_19 rfl rfl ?_
  obtain ⟨g_13, h⟩ := oin_e h
  refine kv_lald C 2 1 rfl rfl g_13 dX0_put_20 ?_
  refine kv_lload_n C 3 dX0_put_21 rfl rfl ?_
  refine kv_lor C dX0_put_22 ?_
  obtain ⟨y_14, ey_14, h⟩ := ol_e h
  refine kv_topl ey_14 ?_
  obtain ⟨g_15, h⟩ := oin_e h
  obtain ⟨a_kinds_16, ea_kinds_16, h⟩ := ol_e h
  refine kv_last2 C (ws1 := (wBo qb ql qw cI cJ v_mover v_rights v_passed v_halves v_number v_balance a_men_10 a_kinds_16 a_sides a_rays a_knights a_kings a_pawns a_table)) 2 1 rfl rfl g_15 ea_kinds_16 rfl dX0_put_23 ?_
  refine kv_aload_n C 0 dX0_put_24 rfl rfl ?_
  refine kv_get C (Cn := RX0) (T := TX0) (N := 11) 0 4 hin0 rfl rfl (by decide) (C.ts _ (List.mem_cons_of_mem _ lf_RX0_27)) rfl rfl dX0_put_25 ?_
  refine kv_iload_n C 2 dX0_put_28 rfl rfl ?_
  refine kv_if_le C 36 dX0_put_29 (by decide) (fun c_17 => ?_) (fun c_17 => ?_)
  · have h := oi_t h c_17
    refine kv_iconst C 1 dX0_put_36 (by decide) ?_
    exact kv_lv [0, 1, 2, 3] (lv2 := [(0, .ref (qb 0)), (1, .int p0), (2, .int p1), (3, .long x3_8)]) rfl (j37 v_balance a_men_10 a_kinds_16 a_sides p0 p1 x3_8 1 h)
  · have h := oi_f h c_17
    refine kv_iconst C 0 dX0_put_32 (by decide) ?_
    refine kv_goto C 37 dX0_put_33 (by decide) ?_
    exact kv_lv [0, 1, 2, 3] (lv2 := [(0, .ref (qb 0)), (1, .int p0), (2, .int p1), (3, .long x3_8)]) rfl (j37 v_balance a_men_10 a_kinds_16 a_sides p0 p1 x3_8 0 h)
def m_X0_lift_b51 (v_balance : Int32) (a_men : Nat → Int32) (a_kinds : Nat → Int64) (a_sides : Nat → Int64) (a_table : Nat → Int32) (x1 : Int32) (x2 : Int64) (x4 : Int32) (t1 : Int32) : Option (Int32 × Int32 × (Nat → Int32) × (Nat → Int64) × (Nat → Int64)) := oin (t1) 2 (ol ((a_sides t1.toNatClampNeg) &&& x2) fun y_2 => oin (t1) 2 (ol (vp_updL a_sides (t1.toNatClampNeg) y_2) fun a_sides_4 => ob (m_X7_forWhite a_table x4 x1) fun r_5 => ol (v_balance - r_5) fun y_7 => some (x4, y_7, a_men, a_kinds, a_sides_4)))
def m_X0_lift (v_balance : Int32) (a_men : Nat → Int32) (a_kinds : Nat → Int64) (a_sides : Nat → Int64) (a_table : Nat → Int32) (p0 : Int32) : Option (Int32 × Int32 × (Nat → Int32) × (Nat → Int64) × (Nat → Int64)) := ol (((1 : Int64) <<< (p0.toInt64 &&& 63)) ^^^ (-1)) fun x2_8 => oin (p0) 64 (ol (a_men p0.toNatClampNeg) fun x4_10 => oin (p0) 64 (ol (upd a_men (p0.toNatClampNeg) 0) fun a_men_12 => ob (m_J9_abs_0f7a4 x4_10) fun r_13 => oin (r_13) 7 (ol ((a_kinds r_13.toNatClampNeg) &&& x2_8) fun y_16 => oin (r_13) 7 (ol (vp_updL a_kinds (r_13.toNatClampNeg) y_16) fun a_kinds_18 => if x4_10 ≤ 0 then m_X0_lift_b51 v_balance a_men_12 a_kinds_18 a_sides a_table p0 x2_8 x4_10 1 else m_X0_lift_b51 v_balance a_men_12 a_kinds_18 a_sides a_table p0 x2_8 x4_10 0))))
abbrev rm_X0_lift : Room := { frames := 1, cells := 0, slots := 0, locals := 22 }
abbrev wy_X0_lift : List Cond := .code yX0_lift cX0_lift 5 (some .int) :: gT
theorem cv_X0_lift {R : Room} {s : State} {args : Array Value} {own : String} {index : Nat} {w0 : Cond} (hts : ∀ w ∈ w0 :: gT, w.before args s = true) (hl : Cond.methodLink own index yX0_lift ∈ gT) (hR : 1 + 1 ≤ R.frames ∧ 8 + (5 + 11) + 22 ≤ R.locals) : CallW R s args own RX0 index yX0_lift cX0_lift 5 (some .int) wy_X0_lift rm_X0_lift 0 0 1 :=
  cwV 1 hts (gT_call w0 (pre := [.methodLink own index yX0_lift, .instanceMethod yX0_lift, .selects RX0 yX0_lift yX0_lift, .initialized RX0]) (gT_lc hl (gT_lc ly_yX0_lift (gT_lc lx_yX0_lift (gT_l1 li_RX0)))) lc_yX0_lift) rfl rfl rfl (by decide +kernel) hR
set_option maxRecDepth 100000 in
set_option maxHeartbeats 4000000 in
theorem c_X0_lift (l : Launch) (D : va_G) (qb : Nat → Nat) (ql : Nat → Nat) (qw : Nat → Nat) (cI : ClassId) (cJ : ClassId) (tq : Nat → Nat) (v_mover : Int32) (v_rights : Int32) (v_passed : Int32) (v_halves : Int32) (v_number : Int32) (v_balance : Int32) (a_men : Nat → Int32) (a_kinds : Nat → Int64) (a_sides : Nat → Int64) (a_rays : Nat → Int64) (a_knights : Nat → Int64) (a_kings : Nat → Int64) (a_pawns : Nat → Int64) (a_table : Nat → Int32) (p0 : Int32) (rv : Int32) (v_balance' : Int32) (a_men' : Nat → Int32) (a_kinds' : Nat → Int64) (a_sides' : Nat → Int64) (hm : m_X0_lift v_balance a_men a_kinds a_sides a_table p0 = some (rv, v_balance', a_men', a_kinds', a_sides')) : kEi l yX0_lift wy_X0_lift rm_X0_lift D [(cI, .int), (cJ, .long)] tq rv (wBo qb ql qw cI cJ v_mover v_rights v_passed v_halves v_number v_balance a_men a_kinds a_sides a_rays a_knights a_kings a_pawns a_table) (wBo qb ql qw cI cJ v_mover v_rights v_passed v_halves v_number v_balance' a_men' a_kinds' a_sides' a_rays a_knights a_kings a_pawns a_table) [.ref (qb 0), .int p0] := by
  refine kEi.of cX0_lift 5 (some .int) (by decide) rfl (Or.inl rfl) (Nat.le_of_ble_eq_true rfl) ?_
  intro p e s m below meth c A Q C hJ hret
  have hin0 : ∀ w ∈ wsX00, w ∈ wy_X0_lift := fun w h => List.mem_cons_of_mem _ (inG0 w h)
  have hin3 : ∀ w ∈ wsX30, w ∈ wy_X0_lift := fun w h => List.mem_cons_of_mem _ (inG3 w h)
  have hin7 : ∀ w ∈ wsX70, w ∈ wy_X0_lift := fun w h => List.mem_cons_of_mem _ (inG7 w h)
  have j51 : ∀ (v_balance : Int32) (a_men : Nat → Int32) (a_kinds : Nat → Int64) (a_sides : Nat → Int64) (x1 : Int32) (x2 : Int64) (x4 : Int32) (t1 : Int32), m_X0_lift_b51  v_balance a_men a_kinds a_sides a_table x1 x2 x4 t1 = some (rv, v_balance', a_men', a_kinds', a_sides') → kv p l e rm_X0_lift s m ([.ref (qb 0), .int p0] : List Value).toArray below meth c D A 5 0 0 Q (wBo qb ql qw cI cJ v_mover v_rights v_passed v_halves v_number v_balance a_men a_kinds a_sides a_rays a_knights a_kings a_pawns a_table) [(0, .ref (qb 0)), (1, .int x1), (2, .long x2), (4, .int x4)] 51 [.int t1, .ref (qb 3)] := by
    intro v_balance a_men a_kinds a_sides x1 x2 x4 t1 h
    unfold m_X0_lift_b51 at h
    refine kv_dup2_11 C dX0_lift_51 rfl rfl ?_
    obtain ⟨g_1, h⟩ := oin_e h
    refine kv_lald C 3 1 rfl rfl g_1 dX0_lift_52 ?_
    refine kv_lload_n C 2 dX0_lift_53 rfl rfl ?_
    refine kv_land C dX0_lift_54 ?_
    obtain ⟨y_2, ey_2, h⟩ := ol_e h
    refine kv_topl ey_2 ?_
    obtain ⟨g_3, h⟩ := oin_e h
    obtain ⟨a_sides_4, ea_sides_4, h⟩ := ol_e h
    refine kv_last2 C (ws1 := (wBo qb ql qw cI cJ v_mover v_rights v_passed v_halves v_number v_balance a_men a_kinds a_sides_4 a_rays a_knights a_kings a_pawns a_table)) 3 1 rfl rfl g_3 ea_sides_4 rfl dX0_lift_55 ?_
    refine kv_aload_n C 0 dX0_lift_56 rfl rfl ?_
    refine kv_dup C dX0_lift_57 rfl ?_
    refine kv_get C (Cn := RX0) (T := TX0) (N := 11) 0 10 hin0 rfl rfl (by decide) (C.ts _ (List.mem_cons_of_mem _ lf_RX0_53)) rfl rfl dX0_lift_58 ?_
    refine kv_aload_n C 0 dX0_lift_61 rfl rfl ?_
    refine kv_get C (Cn := RX0) (T := TX0) (N := 11) 0 1 hin0 rfl rfl (by decide) (C.ts _ (List.mem_cons_of_mem _ lf_RX0_15)) rfl rfl dX0_lift_62 ?_
    refine kv_iload C 3 dX0_lift_65 rfl ?_
    refine kv_iload_n C 1 dX0_lift_67 rfl rfl ?_
    obtain ⟨r_5, hm_6, h⟩ := ob_e h
    refine kv_eVi (ws2 := (wBo qb ql qw cI cJ v_mover v_rights v_passed v_halves v_number v_balance a_men a_kinds a_sides_4 a_rays a_knights a_kings a_pawns a_table)) C hJ [.int x4, .int x1] 0 (c_X7_forWhite l D qw cI tq a_table x4 x1 r_5 hm_6) (cv_X7_forWhite C.ts lm_RX0_68 ⟨Nat.le_of_ble_eq_true rfl, Nat.le_of_ble_eq_true rfl⟩) rfl rfl [9, 10] [0, 1, 2, 3, 4, 5, 6, 7, 8] [0] [0, 1, 2, 3, 4, 5, 6, 7, 8, 9, 10] rfl rfl rfl rfl rfl (by decide) rfl rfl rfl (Nat.le_of_ble_eq_true rfl) dX0_lift_68 ⟨Nat.zero_le _, Nat.zero_le _⟩ rfl rfl rfl ?_
    refine kv_isub C dX0_lift_71 ?_
    obtain ⟨y_7, ey_7, h⟩ := ol_e h
    refine kv_top ey_7 ?_
    refine kv_put C (Cn := RX0) (T := TX0) (N := 11) (ty := .int) (ws1 := (wBo qb ql qw cI cJ v_mover v_rights v_passed v_halves v_number y_7 a_men a_kinds a_sides_4 a_rays a_knights a_kings a_pawns a_table)) 0 10 hin0 tyX0 tyX0_ok nmX0 rfl rfl (by decide) (C.ts _ (List.mem_cons_of_mem _ lf_RX0_53)) rfl rfl (by decide +kernel) rfl rfl (Nat.le_of_ble_eq_true rfl) rfl dX0_lift_72 ?_
    refine kv_iload C 3 dX0_lift_75 rfl ?_
    cases h
    exact hret _ _ dX0_lift_77 (fun q => by cases q)
  unfold m_X0_lift at hm
  have h := hm
  refine kv_lv [0, 1] (lv2 := [(0, .ref (qb 0)), (1, .int p0)]) rfl ?_
  refine kv_lconst C 1 dX0_lift_0 (by decide) ?_
  refine kv_iload_n C 1 dX0_lift_1 rfl rfl ?_
  refine kv_lshl C dX0_lift_2 ?_
  refine kv_ldc2 C (C.ts _ (List.mem_cons_of_mem _ lkl_RX0_74)) dX0_lift_3 ?_
  refine kv_lxor C dX0_lift_6 ?_
  obtain ⟨x2_8, ex2_8, h⟩ := ol_e h
  refine kv_topl ex2_8 ?_
  refine kv_lstore_n C (lv2 := [(0, .ref (qb 0)), (1, .int p0), (2, .long x2_8)]) [1, 2, 0] dX0_lift_7 rfl (by decide) rfl rfl ?_
  refine kv_aload_n C 0 dX0_lift_8 rfl rfl ?_
  refine kv_get C (Cn := RX0) (T := TX0) (N := 11) 0 2 hin0 rfl rfl (by decide) (C.ts _ (List.mem_cons_of_mem _ lf_RX0_19)) rfl rfl dX0_lift_9 ?_
  refine kv_iload_n C 1 dX0_lift_12 rfl rfl ?_
  obtain ⟨g_9, h⟩ := oin_e h
  refine kv_iald C 1 0 rfl rfl g_9 dX0_lift_13 ?_
  obtain ⟨x4_10, ex4_10, h⟩ := ol_e h
  refine kv_top ex4_10 ?_
  refine kv_istore C (lv2 := [(0, .ref (qb 0)), (1, .int p0), (2, .long x2_8), (4, .int x4_10)]) [1, 2, 3, 0] dX0_lift_14 (by decide) rfl rfl ?_
  refine kv_aload_n C 0 dX0_lift_16 rfl rfl ?_
  refine kv_get C (Cn := RX0) (T := TX0) (N := 11) 0 2 hin0 rfl rfl (by decide) (C.ts _ (List.mem_cons_of_mem _ lf_RX0_19)) rfl rfl dX0_lift_17 ?_
  refine kv_iload_n C 1 dX0_lift_20 rfl rfl ?_
  refine kv_iconst C 0 dX0_lift_21 (by decide) ?_
  obtain ⟨g_11, h⟩ := oin_e h
  obtain ⟨a_men_12, ea_men_12, h⟩ := ol_e h
  refine kv_iast2 C (ws1 := (wBo qb ql qw cI cJ v_mover v_rights v_passed v_halves v_number v_balance a_men_12 a_kinds a_sides a_rays a_knights a_kings a_pawns a_table)) 1 0 rfl rfl g_11 ea_men_12 rfl dX0_lift_22 ?_
  refine kv_aload_n C 0 dX0_lift_23 rfl rfl ?_
  refine kv_get C (Cn := RX0) (T := TX0) (N := 11) 0 3 hin0 rfl rfl (by decide) (C.ts _ (List.mem_cons_of_mem _ lf_RX0_23)) rfl rfl dX0_lift_24 ?_
  refine kv_iload C 3 dX0_lift_27 rfl ?_
  obtain ⟨r_13, hm_14, h⟩ := ob_e h
  refine kv_callS0i C [.int x4_10] (c_J9_abs_0f7a4 l D x4_10 r_13 hm_14) (cs_J9_abs_0f7a4 C.ts lm_RX0_62 ⟨Nat.le_of_ble_eq_true rfl, Nat.le_of_ble_eq_true rfl⟩) rfl rfl (Nat.le_of_ble_eq_true rfl) dX0_lift_29 ⟨Nat.zero_le _, Nat.zero_le _⟩ ?_
  refine kv_dup2_11 C dX0_lift_32 rfl rfl ?_
  obtain ⟨g_15, h⟩ := oin_e h
  refine kv_lald C 2 1 rfl rfl g_15 dX0_lift_33 ?_
  refine kv_lload_n C 2 dX0_lift_34 rfl rfl ?_
  refine kv_land C dX0_lift_35 ?_
  obtain ⟨y_16, ey_16, h⟩ := ol_e h
  refine kv_topl ey_16 ?_
  obtain ⟨g_17, h⟩ := oin_e h
  obtain ⟨a_kinds_18, ea_kinds_18, h⟩ := ol_e h
  refine kv_last2 C (ws1 := (wBo qb ql qw cI cJ v_mover v_rights v_passed v_halves v_number v_balance a_men_12 a_kinds_18 a_sides a_rays a_knights a_kings a_pawns a_table)) 2 1 rfl rfl g_17 ea_kinds_18 rfl dX0_lift_36 ?_
  refine kv_aload_n C 0 dX0_lift_37 rfl rfl ?_
  refine kv_get C (Cn := RX0) (T := TX0) (N := 11) 0 4 hin0 rfl rfl (by decide) (C.ts _ (List.mem_cons_of_mem _ lf_RX0_27)) rfl rfl dX0_lift_38 ?_
  refine kv_iload C 3 dX0_lift_41 rfl ?_
  refine kv_if_le C 50 dX0_lift_43 (by decide) (fun c_19 => ?_) (fun c_19 => ?_)
  · have h := oi_t h c_19
    refine kv_iconst C 1 dX0_lift_50 (by decide) ?_
    exact kv_lv [0, 1, 2, 3] (lv2 := [(0, .ref (qb 0)), (1, .int p0), (2, .long x2_8), (4, .int x4_10)]) rfl (j51 v_balance a_men_12 a_kinds_18 a_sides p0 x2_8 x4_10 1 h)
  · have h := oi_f h c_19
    refine kv_iconst C 0 dX0_lift_46 (by decide) ?_
    refine kv_goto C 51 dX0_lift_47 (by decide) ?_
    exact kv_lv [0, 1, 2, 3] (lv2 := [(0, .ref (qb 0)), (1, .int p0), (2, .long x2_8), (4, .int x4_10)]) rfl (j51 v_balance a_men_12 a_kinds_18 a_sides p0 x2_8 x4_10 0 h)
def m_X0_everyone (a_sides : Nat → Int64) : Option (Int64) := some ((a_sides (Int32.toNatClampNeg 0)) ||| (a_sides (Int32.toNatClampNeg 1)))
abbrev rm_X0_everyone : Room := { frames := 0, cells := 0, slots := 0, locals := 0 }
abbrev wy_X0_everyone : List Cond := .code yX0_everyone cX0_everyone 1 (some .long) :: gT
theorem cv_X0_everyone {R : Room} {s : State} {args : Array Value} {own : String} {index : Nat} {w0 : Cond} (hts : ∀ w ∈ w0 :: gT, w.before args s = true) (hl : Cond.methodLink own index yX0_everyone ∈ gT) (hR : 0 + 1 ≤ R.frames ∧ 8 + (1 + 11) + 0 ≤ R.locals) : CallW R s args own RX0 index yX0_everyone cX0_everyone 1 (some .long) wy_X0_everyone rm_X0_everyone 0 0 0 :=
  cwV 0 hts (gT_call w0 (pre := [.methodLink own index yX0_everyone, .instanceMethod yX0_everyone, .selects RX0 yX0_everyone yX0_everyone, .initialized RX0]) (gT_lc hl (gT_lc ly_yX0_everyone (gT_lc lx_yX0_everyone (gT_l1 li_RX0)))) lc_yX0_everyone) rfl rfl rfl (by decide +kernel) hR
set_option maxRecDepth 100000 in
set_option maxHeartbeats 4000000 in
theorem c_X0_everyone (l : Launch) (D : va_G) (qb : Nat → Nat) (ql : Nat → Nat) (qw : Nat → Nat) (cI : ClassId) (cJ : ClassId) (tq : Nat → Nat) (v_mover : Int32) (v_rights : Int32) (v_passed : Int32) (v_halves : Int32) (v_number : Int32) (v_balance : Int32) (a_men : Nat → Int32) (a_kinds : Nat → Int64) (a_sides : Nat → Int64) (a_rays : Nat → Int64) (a_knights : Nat → Int64) (a_kings : Nat → Int64) (a_pawns : Nat → Int64) (a_table : Nat → Int32) (rv : Int64) (hm : m_X0_everyone a_sides = some rv) : kEl l yX0_everyone wy_X0_everyone rm_X0_everyone D [(cI, .int), (cJ, .long)] tq rv (wBo qb ql qw cI cJ v_mover v_rights v_passed v_halves v_number v_balance a_men a_kinds a_sides a_rays a_knights a_kings a_pawns a_table) (wBo qb ql qw cI cJ v_mover v_rights v_passed v_halves v_number v_balance a_men a_kinds a_sides a_rays a_knights a_kings a_pawns a_table) [.ref (qb 0)] := by
  refine kEl.of cX0_everyone 1 (some .long) (by decide) rfl rfl (Nat.le_of_ble_eq_true rfl) ?_
  intro p e s m below meth c A Q C hJ hret
  have hin0 : ∀ w ∈ wsX00, w ∈ wy_X0_everyone := fun w h => List.mem_cons_of_mem _ (inG0 w h)
  have hin3 : ∀ w ∈ wsX30, w ∈ wy_X0_everyone := fun w h => List.mem_cons_of_mem _ (inG3 w h)
  have hin7 : ∀ w ∈ wsX70, w ∈ wy_X0_everyone := fun w h => List.mem_cons_of_mem _ (inG7 w h)
  unfold m_X0_everyone at hm
  have h := hm
  refine kv_lv [0] (lv2 := [(0, .ref (qb 0))]) rfl ?_
  refine kv_aload_n C 0 dX0_everyone_0 rfl rfl ?_
  refine kv_get C (Cn := RX0) (T := TX0) (N := 11) 0 4 hin0 rfl rfl (by decide) (C.ts _ (List.mem_cons_of_mem _ lf_RX0_27)) rfl rfl dX0_everyone_1 ?_
  refine kv_iconst C 0 dX0_everyone_4 (by decide) ?_
  refine kv_lald C 3 1 rfl rfl (by unfold vp_in; decide) dX0_everyone_5 ?_
  refine kv_aload_n C 0 dX0_everyone_6 rfl rfl ?_
  refine kv_get C (Cn := RX0) (T := TX0) (N := 11) 0 4 hin0 rfl rfl (by decide) (C.ts _ (List.mem_cons_of_mem _ lf_RX0_27)) rfl rfl dX0_everyone_7 ?_
  refine kv_iconst C 1 dX0_everyone_10 (by decide) ?_
  refine kv_lald C 3 1 rfl rfl (by unfold vp_in; decide) dX0_everyone_11 ?_
  refine kv_lor C dX0_everyone_12 ?_
  cases h
  exact hret _ _ dX0_everyone_13
def m_X0_kingOf (a_kinds : Nat → Int64) (a_sides : Nat → Int64) (p0 : Int32) : Option (Int32) := oin (p0) 2 (ob (m_X9_leastOf ((a_kinds (Int32.toNatClampNeg 6)) &&& (a_sides p0.toNatClampNeg))) fun r_2 => some r_2)
abbrev rm_X0_kingOf : Room := { frames := 2, cells := 0, slots := 0, locals := 42 }
abbrev wy_X0_kingOf : List Cond := .code yX0_kingOf cX0_kingOf 2 (some .int) :: gT
theorem cv_X0_kingOf {R : Room} {s : State} {args : Array Value} {own : String} {index : Nat} {w0 : Cond} (hts : ∀ w ∈ w0 :: gT, w.before args s = true) (hl : Cond.methodLink own index yX0_kingOf ∈ gT) (hR : 2 + 1 ≤ R.frames ∧ 8 + (2 + 11) + 42 ≤ R.locals) : CallW R s args own RX0 index yX0_kingOf cX0_kingOf 2 (some .int) wy_X0_kingOf rm_X0_kingOf 0 0 1 :=
  cwV 1 hts (gT_call w0 (pre := [.methodLink own index yX0_kingOf, .instanceMethod yX0_kingOf, .selects RX0 yX0_kingOf yX0_kingOf, .initialized RX0]) (gT_lc hl (gT_lc ly_yX0_kingOf (gT_lc lx_yX0_kingOf (gT_l1 li_RX0)))) lc_yX0_kingOf) rfl rfl rfl (by decide +kernel) hR
set_option maxRecDepth 100000 in
set_option maxHeartbeats 4000000 in
theorem c_X0_kingOf (l : Launch) (D : va_G) (qb : Nat → Nat) (ql : Nat → Nat) (qw : Nat → Nat) (cI : ClassId) (cJ : ClassId) (tq : Nat → Nat) (v_mover : Int32) (v_rights : Int32) (v_passed : Int32) (v_halves : Int32) (v_number : Int32) (v_balance : Int32) (a_men : Nat → Int32) (a_kinds : Nat → Int64) (a_sides : Nat → Int64) (a_rays : Nat → Int64) (a_knights : Nat → Int64) (a_kings : Nat → Int64) (a_pawns : Nat → Int64) (a_table : Nat → Int32) (p0 : Int32) (rv : Int32) (hm : m_X0_kingOf a_kinds a_sides p0 = some rv) : kEi l yX0_kingOf wy_X0_kingOf rm_X0_kingOf D [(cI, .int), (cJ, .long)] tq rv (wBo qb ql qw cI cJ v_mover v_rights v_passed v_halves v_number v_balance a_men a_kinds a_sides a_rays a_knights a_kings a_pawns a_table) (wBo qb ql qw cI cJ v_mover v_rights v_passed v_halves v_number v_balance a_men a_kinds a_sides a_rays a_knights a_kings a_pawns a_table) [.ref (qb 0), .int p0] := by
  refine kEi.of cX0_kingOf 2 (some .int) (by decide) rfl (Or.inl rfl) (Nat.le_of_ble_eq_true rfl) ?_
  intro p e s m below meth c A Q C hJ hret
  have hin0 : ∀ w ∈ wsX00, w ∈ wy_X0_kingOf := fun w h => List.mem_cons_of_mem _ (inG0 w h)
  have hin3 : ∀ w ∈ wsX30, w ∈ wy_X0_kingOf := fun w h => List.mem_cons_of_mem _ (inG3 w h)
  have hin7 : ∀ w ∈ wsX70, w ∈ wy_X0_kingOf := fun w h => List.mem_cons_of_mem _ (inG7 w h)
  unfold m_X0_kingOf at hm
  have h := hm
  refine kv_lv [0, 1] (lv2 := [(0, .ref (qb 0)), (1, .int p0)]) rfl ?_
  refine kv_aload_n C 0 dX0_kingOf_0 rfl rfl ?_
  refine kv_get C (Cn := RX0) (T := TX0) (N := 11) 0 3 hin0 rfl rfl (by decide) (C.ts _ (List.mem_cons_of_mem _ lf_RX0_23)) rfl rfl dX0_kingOf_1 ?_
  refine kv_bipush C 6 dX0_kingOf_4 (by decide) ?_
  refine kv_lald C 2 1 rfl rfl (by unfold vp_in; decide) dX0_kingOf_6 ?_
  refine kv_aload_n C 0 dX0_kingOf_7 rfl rfl ?_
  refine kv_get C (Cn := RX0) (T := TX0) (N := 11) 0 4 hin0 rfl rfl (by decide) (C.ts _ (List.mem_cons_of_mem _ lf_RX0_27)) rfl rfl dX0_kingOf_8 ?_
  refine kv_iload_n C 1 dX0_kingOf_11 rfl rfl ?_
  obtain ⟨g_1, h⟩ := oin_e h
  refine kv_lald C 3 1 rfl rfl g_1 dX0_kingOf_12 ?_
  refine kv_land C dX0_kingOf_13 ?_
  obtain ⟨r_2, hm_3, h⟩ := ob_e h
  refine kv_SN0i C [.long ((a_kinds (Int32.toNatClampNeg 6)) &&& (a_sides p0.toNatClampNeg))] (c_X9_leastOf l D ((a_kinds (Int32.toNatClampNeg 6)) &&& (a_sides p0.toNatClampNeg)) r_2 hm_3) (cn_X9_leastOf C.ts (hJ.1 _ (List.mem_of_getElem? (i := 0) rfl)) ⟨Nat.le_of_ble_eq_true rfl, Nat.le_of_ble_eq_true rfl⟩) rfl rfl (Nat.le_of_ble_eq_true rfl) dX0_kingOf_14 ⟨Nat.zero_le _, Nat.zero_le _⟩ ?_
  cases h
  exact hret _ _ dX0_kingOf_17 (fun q => by cases q)
def m_X0_isStruck_b188 (k121 : Int32 → Int64 → Int64 → Int64 → Int32 → Option (Int32)) (a_kinds : Nat → Int64) (a_sides : Nat → Int64) (a_rays : Nat → Int64) (a_knights : Nat → Int64) (a_kings : Nat → Int64) (a_pawns : Nat → Int64) (x1 : Int32) (x3 : Int64) (x9 : Int64) (x11 : Int64) (x13 : Int32) : Option (Int32) := ol (x13 + 1) fun x13_1 => k121 x1 x3 x9 x11 x13_1
def m_X0_isStruck_b157 (k121 : Int32 → Int64 → Int64 → Int64 → Int32 → Option (Int32)) (a_kinds : Nat → Int64) (a_sides : Nat → Int64) (a_rays : Nat → Int64) (a_knights : Nat → Int64) (a_kings : Nat → Int64) (a_pawns : Nat → Int64) (x1 : Int32) (x3 : Int64) (x9 : Int64) (x11 : Int64) (x13 : Int32) (t0 : Int64) (t1 : Int64) : Option (Int32) := ol (t0 &&& t1) fun x14_2 => if (lg_cmp x14_2 0) = 0 then m_X0_isStruck_b188 k121 a_kinds a_sides a_rays a_knights a_kings a_pawns x1 x3 x9 x11 x13 else ob (m_X3_along a_rays x13 x1 x3) fun r_4 => if (lg_cmp (r_4 &&& x14_2) 0) = 0 then m_X0_isStruck_b188 k121 a_kinds a_sides a_rays a_knights a_kings a_pawns x1 x3 x9 x11 x13 else obl (1) (some 1)
def m_X0_isStruck_b121 (k121 : Int32 → Int64 → Int64 → Int64 → Int32 → Option (Int32)) (a_kinds : Nat → Int64) (a_sides : Nat → Int64) (a_rays : Nat → Int64) (a_knights : Nat → Int64) (a_kings : Nat → Int64) (a_pawns : Nat → Int64) (x1 : Int32) (x3 : Int64) (x9 : Int64) (x11 : Int64) (x13 : Int32) : Option (Int32) := if 8 ≤ x13 then obl (0) (some 0) else oin ((x13 * 64) + x1) 512 (if (x13 &&& 2) = 0 then m_X0_isStruck_b157 k121 a_kinds a_sides a_rays a_knights a_kings a_pawns x1 x3 x9 x11 x13 (a_rays ((x13 * 64) + x1).toNatClampNeg) x9 else m_X0_isStruck_b157 k121 a_kinds a_sides a_rays a_knights a_kings a_pawns x1 x3 x9 x11 x13 (a_rays ((x13 * 64) + x1).toNatClampNeg) x11)
def m_X0_isStruck_l121 (a_kinds : Nat → Int64) (a_sides : Nat → Int64) (a_rays : Nat → Int64) (a_knights : Nat → Int64) (a_kings : Nat → Int64) (a_pawns : Nat → Int64) (n : Nat) : Int32 → Int64 → Int64 → Int64 → Int32 → Option (Int32) := fz (fun _ _ _ _ _ => none) (fun k121 x1 x3 x9 x11 x13 => m_X0_isStruck_b121 k121 a_kinds a_sides a_rays a_knights a_kings a_pawns x1 x3 x9 x11 x13) n
def m_X0_isStruck (a_kinds : Nat → Int64) (a_sides : Nat → Int64) (a_rays : Nat → Int64) (a_knights : Nat → Int64) (a_kings : Nat → Int64) (a_pawns : Nat → Int64) (p0 : Int32) (p1 : Int32) (p2 : Int64) : Option (Int32) := oin (p1) 2 (ol ((a_sides p1.toNatClampNeg) &&& p2) fun x5_13 => oin ((((1 : Int32) - p1) * 64) + p0) 128 (oin (p0) 64 (oin (p0) 64 (ol ((((a_pawns ((((1 : Int32) - p1) * 64) + p0).toNatClampNeg) &&& (a_kinds (Int32.toNatClampNeg 1))) ||| ((a_knights p0.toNatClampNeg) &&& (a_kinds (Int32.toNatClampNeg 2)))) ||| ((a_kings p0.toNatClampNeg) &&& (a_kinds (Int32.toNatClampNeg 6)))) fun x7_17 => if (lg_cmp (x7_17 &&& x5_13) 0) = 0 then ol (x5_13 &&& ((a_kinds (Int32.toNatClampNeg 4)) ||| (a_kinds (Int32.toNatClampNeg 5)))) fun x9_19 => ol (x5_13 &&& ((a_kinds (Int32.toNatClampNeg 3)) ||| (a_kinds (Int32.toNatClampNeg 5)))) fun x11_20 => m_X0_isStruck_l121 a_kinds a_sides a_rays a_knights a_kings a_pawns kF p0 p2 x9_19 x11_20 0 else obl (1) (some 1)))))
abbrev rm_X0_isStruck : Room := { frames := 1, cells := 0, slots := 0, locals := 28 }
abbrev wy_X0_isStruck : List Cond := .code yX0_isStruck cX0_isStruck 16 (some .boolean) :: gT
theorem cv_X0_isStruck {R : Room} {s : State} {args : Array Value} {own : String} {index : Nat} {w0 : Cond} (hts : ∀ w ∈ w0 :: gT, w.before args s = true) (hl : Cond.methodLink own index yX0_isStruck ∈ gT) (hR : 1 + 1 ≤ R.frames ∧ 8 + (16 + 11) + 28 ≤ R.locals) : CallW R s args own RX0 index yX0_isStruck cX0_isStruck 16 (some .boolean) wy_X0_isStruck rm_X0_isStruck 0 0 3 :=
  cwV 3 hts (gT_call w0 (pre := [.methodLink own index yX0_isStruck, .instanceMethod yX0_isStruck, .selects RX0 yX0_isStruck yX0_isStruck, .initialized RX0]) (gT_lc hl (gT_lc ly_yX0_isStruck (gT_lc lx_yX0_isStruck (gT_l1 li_RX0)))) lc_yX0_isStruck) rfl rfl rfl (by decide +kernel) hR
set_option maxRecDepth 100000 in
set_option maxHeartbeats 4000000 in
theorem c_X0_isStruck (l : Launch) (D : va_G) (qb : Nat → Nat) (ql : Nat → Nat) (qw : Nat → Nat) (cI : ClassId) (cJ : ClassId) (tq : Nat → Nat) (v_mover : Int32) (v_rights : Int32) (v_passed : Int32) (v_halves : Int32) (v_number : Int32) (v_balance : Int32) (a_men : Nat → Int32) (a_kinds : Nat → Int64) (a_sides : Nat → Int64) (a_rays : Nat → Int64) (a_knights : Nat → Int64) (a_kings : Nat → Int64) (a_pawns : Nat → Int64) (a_table : Nat → Int32) (p0 : Int32) (p1 : Int32) (p2 : Int64) (rv : Int32) (hm : m_X0_isStruck a_kinds a_sides a_rays a_knights a_kings a_pawns p0 p1 p2 = some rv) : kEi l yX0_isStruck wy_X0_isStruck rm_X0_isStruck D [(cI, .int), (cJ, .long)] tq rv (wBo qb ql qw cI cJ v_mover v_rights v_passed v_halves v_number v_balance a_men a_kinds a_sides a_rays a_knights a_kings a_pawns a_table) (wBo qb ql qw cI cJ v_mover v_rights v_passed v_halves v_number v_balance a_men a_kinds a_sides a_rays a_knights a_kings a_pawns a_table) [.ref (qb 0), .int p0, .int p1, .long p2] := by
  refine kEi.of cX0_isStruck 16 (some .boolean) (by decide) rfl (Or.inr rfl) (Nat.le_of_ble_eq_true rfl) ?_
  intro p e s m below meth c A Q C hJ hret
  have hin0 : ∀ w ∈ wsX00, w ∈ wy_X0_isStruck := fun w h => List.mem_cons_of_mem _ (inG0 w h)
  have hin3 : ∀ w ∈ wsX30, w ∈ wy_X0_isStruck := fun w h => List.mem_cons_of_mem _ (inG3 w h)
  have hin7 : ∀ w ∈ wsX70, w ∈ wy_X0_isStruck := fun w h => List.mem_cons_of_mem _ (inG7 w h)
  have l121 : ∀ (n121 : Nat) (x1 : Int32) (x3 : Int64) (x9 : Int64) (x11 : Int64) (x13 : Int32), m_X0_isStruck_l121  a_kinds a_sides a_rays a_knights a_kings a_pawns n121 x1 x3 x9 x11 x13 = some rv → kv p l e rm_X0_isStruck s m ([.ref (qb 0), .int p0, .int p1, .long p2] : List Value).toArray below meth c D A 16 0 0 Q (wBo qb ql qw cI cJ v_mover v_rights v_passed v_halves v_number v_balance a_men a_kinds a_sides a_rays a_knights a_kings a_pawns a_table) [(0, .ref (qb 0)), (1, .int x1), (3, .long x3), (9, .long x9), (11, .long x11), (13, .int x13)] 121 [] := by
    intro n121
    induction n121 with
    | zero =>
      intro x1 x3 x9 x11 x13 h
      exact kv_no h
    | succ n121 ih121 =>
      have j188 : ∀ (x1 : Int32) (x3 : Int64) (x9 : Int64) (x11 : Int64) (x13 : Int32), m_X0_isStruck_b188 (m_X0_isStruck_l121  a_kinds a_sides a_rays a_knights a_kings a_pawns n121) a_kinds a_sides a_rays a_knights a_kings a_pawns x1 x3 x9 x11 x13 = some rv → kv p l e rm_X0_isStruck s m ([.ref (qb 0), .int p0, .int p1, .long p2] : List Value).toArray below meth c D A 16 0 0 Q (wBo qb ql qw cI cJ v_mover v_rights v_passed v_halves v_number v_balance a_men a_kinds a_sides a_rays a_knights a_kings a_pawns a_table) [(0, .ref (qb 0)), (1, .int x1), (3, .long x3), (9, .long x9), (11, .long x11), (13, .int x13)] 188 [] := by
        intro x1 x3 x9 x11 x13 h
        unfold m_X0_isStruck_b188 at h
        obtain ⟨x13_1, ex13_1, h⟩ := ol_e h
        refine kv_iinc C (v := x13_1) (lv2 := [(0, .ref (qb 0)), (1, .int x1), (3, .long x3), (9, .long x9), (11, .long x11), (13, .int x13_1)]) 5 [1, 2, 3, 4, 5, 0] dX0_isStruck_188 rfl ex13_1.symm (by decide) rfl rfl ?_
        refine kv_goto C 121 dX0_isStruck_191 (by decide) ?_
        exact kv_lv [0, 1, 2, 3, 4, 5] (lv2 := [(0, .ref (qb 0)), (1, .int x1), (3, .long x3), (9, .long x9), (11, .long x11), (13, .int x13_1)]) rfl (ih121 x1 x3 x9 x11 x13_1 h)
      have j157 : ∀ (x1 : Int32) (x3 : Int64) (x9 : Int64) (x11 : Int64) (x13 : Int32) (t0 : Int64) (t1 : Int64), m_X0_isStruck_b157 (m_X0_isStruck_l121  a_kinds a_sides a_rays a_knights a_kings a_pawns n121) a_kinds a_sides a_rays a_knights a_kings a_pawns x1 x3 x9 x11 x13 t0 t1 = some rv → kv p l e rm_X0_isStruck s m ([.ref (qb 0), .int p0, .int p1, .long p2] : List Value).toArray below meth c D A 16 0 0 Q (wBo qb ql qw cI cJ v_mover v_rights v_passed v_halves v_number v_balance a_men a_kinds a_sides a_rays a_knights a_kings a_pawns a_table) [(0, .ref (qb 0)), (1, .int x1), (3, .long x3), (9, .long x9), (11, .long x11), (13, .int x13)] 157 [.long t1, .long t0] := by
        intro x1 x3 x9 x11 x13 t0 t1 h
        unfold m_X0_isStruck_b157 at h
        refine kv_land C dX0_isStruck_157 ?_
        obtain ⟨x14_2, ex14_2, h⟩ := ol_e h
        refine kv_topl ex14_2 ?_
        refine kv_lstore C (lv2 := [(0, .ref (qb 0)), (1, .int x1), (3, .long x3), (9, .long x9), (11, .long x11), (13, .int x13), (14, .long x14_2)]) [1, 2, 3, 4, 5, 6, 0] dX0_isStruck_158 (by decide) rfl rfl ?_
        refine kv_lload C 6 dX0_isStruck_160 rfl ?_
        refine kv_lconst C 0 dX0_isStruck_162 (by decide) ?_
        refine kv_lcmp C dX0_isStruck_163 ?_
        refine kv_if_eq C 188 dX0_isStruck_164 (by decide) (fun c_3 => ?_) (fun c_3 => ?_)
        · have h := oi_t h c_3
          exact kv_lv [0, 1, 2, 3, 4, 5] (lv2 := [(0, .ref (qb 0)), (1, .int x1), (3, .long x3), (9, .long x9), (11, .long x11), (13, .int x13)]) rfl (j188 x1 x3 x9 x11 x13 h)
        · have h := oi_f h c_3
          refine kv_aload_n C 0 dX0_isStruck_167 rfl rfl ?_
          refine kv_get C (Cn := RX0) (T := TX0) (N := 11) 0 0 hin0 rfl rfl (by decide) (C.ts _ (List.mem_cons_of_mem _ lf_RX0_9)) rfl rfl dX0_isStruck_168 ?_
          refine kv_iload C 5 dX0_isStruck_171 rfl ?_
          refine kv_iload_n C 1 dX0_isStruck_173 rfl rfl ?_
          refine kv_lload_n C 2 dX0_isStruck_174 rfl rfl ?_
          obtain ⟨r_4, hm_5, h⟩ := ob_e h
          refine kv_eVl (ws2 := (wBo qb ql qw cI cJ v_mover v_rights v_passed v_halves v_number v_balance a_men a_kinds a_sides a_rays a_knights a_kings a_pawns a_table)) C hJ [.int x13, .int x1, .long x3] 0 (c_X3_along l D ql cJ tq a_rays a_knights a_kings a_pawns x13 x1 x3 r_4 hm_5) (cv_X3_along C.ts lm_RX0_105 ⟨Nat.le_of_ble_eq_true rfl, Nat.le_of_ble_eq_true rfl⟩) rfl rfl [4, 5, 6, 7, 8] [0, 1, 2, 3, 9, 10] [1] [0, 1, 2, 3, 6, 7, 8, 9, 10, 4, 5] rfl rfl rfl rfl rfl (by decide) rfl rfl rfl (Nat.le_of_ble_eq_true rfl) dX0_isStruck_175 ⟨Nat.zero_le _, Nat.zero_le _⟩ rfl rfl rfl ?_
          refine kv_lload C 6 dX0_isStruck_178 rfl ?_
          refine kv_land C dX0_isStruck_180 ?_
          refine kv_lconst C 0 dX0_isStruck_181 (by decide) ?_
          refine kv_lcmp C dX0_isStruck_182 ?_
          refine kv_if_eq C 188 dX0_isStruck_183 (by decide) (fun c_6 => ?_) (fun c_6 => ?_)
          · have h := oi_t h c_6
            exact kv_lv [0, 1, 2, 3, 4, 5] (lv2 := [(0, .ref (qb 0)), (1, .int x1), (3, .long x3), (9, .long x9), (11, .long x11), (13, .int x13)]) rfl (j188 x1 x3 x9 x11 x13 h)
          · have h := oi_f h c_6
            refine kv_iconst C 1 dX0_isStruck_186 (by decide) ?_
            obtain ⟨g_7, h⟩ := obl_e h
            cases h
            exact hret _ _ dX0_isStruck_187 (fun _ => g_7)
      intro x1 x3 x9 x11 x13 h
      replace h : m_X0_isStruck_b121  (m_X0_isStruck_l121  a_kinds a_sides a_rays a_knights a_kings a_pawns n121) a_kinds a_sides a_rays a_knights a_kings a_pawns x1 x3 x9 x11 x13 = some rv := h
      unfold m_X0_isStruck_b121 at h
      refine kv_iload C 5 dX0_isStruck_121 rfl ?_
      refine kv_bipush C 8 dX0_isStruck_123 (by decide) ?_
      refine kv_icmp_ge C 194 dX0_isStruck_125 (by decide) (fun c_8 => ?_) (fun c_8 => ?_)
      · have h := oi_t h c_8
        refine kv_iconst C 0 dX0_isStruck_194 (by decide) ?_
        obtain ⟨g_9, h⟩ := obl_e h
        cases h
        exact hret _ _ dX0_isStruck_195 (fun _ => g_9)
      · have h := oi_f h c_8
        refine kv_aload_n C 0 dX0_isStruck_128 rfl rfl ?_
        refine kv_get C (Cn := RX0) (T := TX0) (N := 11) 0 0 hin0 rfl rfl (by decide) (C.ts _ (List.mem_cons_of_mem _ lf_RX0_9)) rfl rfl dX0_isStruck_129 ?_
        refine kv_get C (Cn := RX3) (T := TX3) (N := 4) 4 0 hin3 rfl rfl (by decide) (C.ts _ (List.mem_cons_of_mem _ lf_RX0_102)) rfl rfl dX0_isStruck_132 ?_
        refine kv_iload C 5 dX0_isStruck_135 rfl ?_
        refine kv_bipush C 64 dX0_isStruck_137 (by decide) ?_
        refine kv_imul C dX0_isStruck_139 ?_
        refine kv_iload_n C 1 dX0_isStruck_140 rfl rfl ?_
        refine kv_iadd C dX0_isStruck_141 ?_
        obtain ⟨g_10, h⟩ := oin_e h
        refine kv_lald C 5 1 rfl rfl g_10 dX0_isStruck_142 ?_
        refine kv_iload C 5 dX0_isStruck_143 rfl ?_
        refine kv_iconst C 2 dX0_isStruck_145 (by decide) ?_
        refine kv_iand C dX0_isStruck_146 ?_
        refine kv_if_eq C 155 dX0_isStruck_147 (by decide) (fun c_11 => ?_) (fun c_11 => ?_)
        · have h := oi_t h c_11
          refine kv_lload C 3 dX0_isStruck_155 rfl ?_
          exact kv_lv [0, 1, 2, 3, 4, 5] (lv2 := [(0, .ref (qb 0)), (1, .int x1), (3, .long x3), (9, .long x9), (11, .long x11), (13, .int x13)]) rfl (j157 x1 x3 x9 x11 x13 (a_rays ((x13 * 64) + x1).toNatClampNeg) x9 h)
        · have h := oi_f h c_11
          refine kv_lload C 4 dX0_isStruck_150 rfl ?_
          refine kv_goto C 157 dX0_isStruck_152 (by decide) ?_
          exact kv_lv [0, 1, 2, 3, 4, 5] (lv2 := [(0, .ref (qb 0)), (1, .int x1), (3, .long x3), (9, .long x9), (11, .long x11), (13, .int x13)]) rfl (j157 x1 x3 x9 x11 x13 (a_rays ((x13 * 64) + x1).toNatClampNeg) x11 h)
  unfold m_X0_isStruck at hm
  have h := hm
  refine kv_lv [0, 1, 2, 3] (lv2 := [(0, .ref (qb 0)), (1, .int p0), (2, .int p1), (3, .long p2)]) rfl ?_
  refine kv_aload_n C 0 dX0_isStruck_0 rfl rfl ?_
  refine kv_get C (Cn := RX0) (T := TX0) (N := 11) 0 4 hin0 rfl rfl (by decide) (C.ts _ (List.mem_cons_of_mem _ lf_RX0_27)) rfl rfl dX0_isStruck_1 ?_
  refine kv_iload_n C 2 dX0_isStruck_4 rfl rfl ?_
  obtain ⟨g_12, h⟩ := oin_e h
  refine kv_lald C 3 1 rfl rfl g_12 dX0_isStruck_5 ?_
  refine kv_lload_n C 3 dX0_isStruck_6 rfl rfl ?_
  refine kv_land C dX0_isStruck_7 ?_
  obtain ⟨x5_13, ex5_13, h⟩ := ol_e h
  refine kv_topl ex5_13 ?_
  refine kv_lstore C (lv2 := [(0, .ref (qb 0)), (1, .int p0), (2, .int p1), (3, .long p2), (5, .long x5_13)]) [1, 2, 3, 4, 0] dX0_isStruck_8 (by decide) rfl rfl ?_
  refine kv_aload_n C 0 dX0_isStruck_10 rfl rfl ?_
  refine kv_get C (Cn := RX0) (T := TX0) (N := 11) 0 0 hin0 rfl rfl (by decide) (C.ts _ (List.mem_cons_of_mem _ lf_RX0_9)) rfl rfl dX0_isStruck_11 ?_
  refine kv_get C (Cn := RX3) (T := TX3) (N := 4) 4 3 hin3 rfl rfl (by decide) (C.ts _ (List.mem_cons_of_mem _ lf_RX0_91)) rfl rfl dX0_isStruck_14 ?_
  refine kv_iconst C 1 dX0_isStruck_17 (by decide) ?_
  refine kv_iload_n C 2 dX0_isStruck_18 rfl rfl ?_
  refine kv_isub C dX0_isStruck_19 ?_
  refine kv_bipush C 64 dX0_isStruck_20 (by decide) ?_
  refine kv_imul C dX0_isStruck_22 ?_
  refine kv_iload_n C 1 dX0_isStruck_23 rfl rfl ?_
  refine kv_iadd C dX0_isStruck_24 ?_
  obtain ⟨g_14, h⟩ := oin_e h
  refine kv_lald C 8 1 rfl rfl g_14 dX0_isStruck_25 ?_
  refine kv_aload_n C 0 dX0_isStruck_26 rfl rfl ?_
  refine kv_get C (Cn := RX0) (T := TX0) (N := 11) 0 3 hin0 rfl rfl (by decide) (C.ts _ (List.mem_cons_of_mem _ lf_RX0_23)) rfl rfl dX0_isStruck_27 ?_
  refine kv_iconst C 1 dX0_isStruck_30 (by decide) ?_
  refine kv_lald C 2 1 rfl rfl (by unfold vp_in; decide) dX0_isStruck_31 ?_
  refine kv_land C dX0_isStruck_32 ?_
  refine kv_aload_n C 0 dX0_isStruck_33 rfl rfl ?_
  refine kv_get C (Cn := RX0) (T := TX0) (N := 11) 0 0 hin0 rfl rfl (by decide) (C.ts _ (List.mem_cons_of_mem _ lf_RX0_9)) rfl rfl dX0_isStruck_34 ?_
  refine kv_get C (Cn := RX3) (T := TX3) (N := 4) 4 1 hin3 rfl rfl (by decide) (C.ts _ (List.mem_cons_of_mem _ lf_RX0_96)) rfl rfl dX0_isStruck_37 ?_
  refine kv_iload_n C 1 dX0_isStruck_40 rfl rfl ?_
  obtain ⟨g_15, h⟩ := oin_e h
  refine kv_lald C 6 1 rfl rfl g_15 dX0_isStruck_41 ?_
  refine kv_aload_n C 0 dX0_isStruck_42 rfl rfl ?_
  refine kv_get C (Cn := RX0) (T := TX0) (N := 11) 0 3 hin0 rfl rfl (by decide) (C.ts _ (List.mem_cons_of_mem _ lf_RX0_23)) rfl rfl dX0_isStruck_43 ?_
  refine kv_iconst C 2 dX0_isStruck_46 (by decide) ?_
  refine kv_lald C 2 1 rfl rfl (by unfold vp_in; decide) dX0_isStruck_47 ?_
  refine kv_land C dX0_isStruck_48 ?_
  refine kv_lor C dX0_isStruck_49 ?_
  refine kv_aload_n C 0 dX0_isStruck_50 rfl rfl ?_
  refine kv_get C (Cn := RX0) (T := TX0) (N := 11) 0 0 hin0 rfl rfl (by decide) (C.ts _ (List.mem_cons_of_mem _ lf_RX0_9)) rfl rfl dX0_isStruck_51 ?_
  refine kv_get C (Cn := RX3) (T := TX3) (N := 4) 4 2 hin3 rfl rfl (by decide) (C.ts _ (List.mem_cons_of_mem _ lf_RX0_99)) rfl rfl dX0_isStruck_54 ?_
  refine kv_iload_n C 1 dX0_isStruck_57 rfl rfl ?_
  obtain ⟨g_16, h⟩ := oin_e h
  refine kv_lald C 7 1 rfl rfl g_16 dX0_isStruck_58 ?_
  refine kv_aload_n C 0 dX0_isStruck_59 rfl rfl ?_
  refine kv_get C (Cn := RX0) (T := TX0) (N := 11) 0 3 hin0 rfl rfl (by decide) (C.ts _ (List.mem_cons_of_mem _ lf_RX0_23)) rfl rfl dX0_isStruck_60 ?_
  refine kv_bipush C 6 dX0_isStruck_63 (by decide) ?_
  refine kv_lald C 2 1 rfl rfl (by unfold vp_in; decide) dX0_isStruck_65 ?_
  refine kv_land C dX0_isStruck_66 ?_
  refine kv_lor C dX0_isStruck_67 ?_
  obtain ⟨x7_17, ex7_17, h⟩ := ol_e h
  refine kv_topl ex7_17 ?_
  refine kv_lstore C (lv2 := [(0, .ref (qb 0)), (1, .int p0), (3, .long p2), (5, .long x5_13), (7, .long x7_17)]) [1, 2, 4, 5, 0] dX0_isStruck_68 (by decide) rfl rfl ?_
  refine kv_lload C 4 dX0_isStruck_70 rfl ?_
  refine kv_lload C 3 dX0_isStruck_72 rfl ?_
  refine kv_land C dX0_isStruck_74 ?_
  refine kv_lconst C 0 dX0_isStruck_75 (by decide) ?_
  refine kv_lcmp C dX0_isStruck_76 ?_
  refine kv_if_eq C 82 dX0_isStruck_77 (by decide) (fun c_18 => ?_) (fun c_18 => ?_)
  · have h := oi_t h c_18
    refine kv_lload C 3 dX0_isStruck_82 rfl ?_
    refine kv_aload_n C 0 dX0_isStruck_84 rfl rfl ?_
    refine kv_get C (Cn := RX0) (T := TX0) (N := 11) 0 3 hin0 rfl rfl (by decide) (C.ts _ (List.mem_cons_of_mem _ lf_RX0_23)) rfl rfl dX0_isStruck_85 ?_
    refine kv_iconst C 4 dX0_isStruck_88 (by decide) ?_
    refine kv_lald C 2 1 rfl rfl (by unfold vp_in; decide) dX0_isStruck_89 ?_
    refine kv_aload_n C 0 dX0_isStruck_90 rfl rfl ?_
    refine kv_get C (Cn := RX0) (T := TX0) (N := 11) 0 3 hin0 rfl rfl (by decide) (C.ts _ (List.mem_cons_of_mem _ lf_RX0_23)) rfl rfl dX0_isStruck_91 ?_
    refine kv_iconst C 5 dX0_isStruck_94 (by decide) ?_
    refine kv_lald C 2 1 rfl rfl (by unfold vp_in; decide) dX0_isStruck_95 ?_
    refine kv_lor C dX0_isStruck_96 ?_
    refine kv_land C dX0_isStruck_97 ?_
    obtain ⟨x9_19, ex9_19, h⟩ := ol_e h
    refine kv_topl ex9_19 ?_
    refine kv_lstore C (lv2 := [(0, .ref (qb 0)), (1, .int p0), (3, .long p2), (5, .long x5_13), (9, .long x9_19)]) [1, 2, 3, 4, 0] dX0_isStruck_98 (by decide) rfl rfl ?_
    refine kv_lload C 3 dX0_isStruck_100 rfl ?_
    refine kv_aload_n C 0 dX0_isStruck_102 rfl rfl ?_
    refine kv_get C (Cn := RX0) (T := TX0) (N := 11) 0 3 hin0 rfl rfl (by decide) (C.ts _ (List.mem_cons_of_mem _ lf_RX0_23)) rfl rfl dX0_isStruck_103 ?_
    refine kv_iconst C 3 dX0_isStruck_106 (by decide) ?_
    refine kv_lald C 2 1 rfl rfl (by unfold vp_in; decide) dX0_isStruck_107 ?_
    refine kv_aload_n C 0 dX0_isStruck_108 rfl rfl ?_
    refine kv_get C (Cn := RX0) (T := TX0) (N := 11) 0 3 hin0 rfl rfl (by decide) (C.ts _ (List.mem_cons_of_mem _ lf_RX0_23)) rfl rfl dX0_isStruck_109 ?_
    refine kv_iconst C 5 dX0_isStruck_112 (by decide) ?_
    refine kv_lald C 2 1 rfl rfl (by unfold vp_in; decide) dX0_isStruck_113 ?_
    refine kv_lor C dX0_isStruck_114 ?_
    refine kv_land C dX0_isStruck_115 ?_
    obtain ⟨x11_20, ex11_20, h⟩ := ol_e h
    refine kv_topl ex11_20 ?_
    refine kv_lstore C (lv2 := [(0, .ref (qb 0)), (1, .int p0), (3, .long p2), (9, .long x9_19), (11, .long x11_20)]) [1, 2, 3, 5, 0] dX0_isStruck_116 (by decide) rfl rfl ?_
    refine kv_iconst C 0 dX0_isStruck_118 (by decide) ?_
    refine kv_istore C (lv2 := [(0, .ref (qb 0)), (1, .int p0), (3, .long p2), (9, .long x9_19), (11, .long x11_20), (13, .int 0)]) [1, 2, 3, 4, 5, 0] dX0_isStruck_119 (by decide) rfl rfl ?_
    exact kv_lv [0, 1, 2, 3, 4, 5] (lv2 := [(0, .ref (qb 0)), (1, .int p0), (3, .long p2), (9, .long x9_19), (11, .long x11_20), (13, .int 0)]) rfl (l121 kF p0 p2 x9_19 x11_20 0 h)
  · have h := oi_f h c_18
    refine kv_iconst C 1 dX0_isStruck_80 (by decide) ?_
    obtain ⟨g_21, h⟩ := obl_e h
    cases h
    exact hret _ _ dX0_isStruck_81 (fun _ => g_21)
def m_X0_isInCheck (a_kinds : Nat → Int64) (a_sides : Nat → Int64) (a_rays : Nat → Int64) (a_knights : Nat → Int64) (a_kings : Nat → Int64) (a_pawns : Nat → Int64) (p0 : Int32) : Option (Int32) := ob (m_X0_kingOf a_kinds a_sides p0) fun r_1 => ob (m_X0_everyone a_sides ) fun r_3 => ob (m_X0_isStruck a_kinds a_sides a_rays a_knights a_kings a_pawns r_1 ((1 : Int32) - p0) r_3) fun r_5 => obl (r_5) (some r_5)
abbrev rm_X0_isInCheck : Room := { frames := 3, cells := 0, slots := 0, locals := 63 }
abbrev wy_X0_isInCheck : List Cond := .code yX0_isInCheck cX0_isInCheck 2 (some .boolean) :: gT
theorem cv_X0_isInCheck {R : Room} {s : State} {args : Array Value} {own : String} {index : Nat} {w0 : Cond} (hts : ∀ w ∈ w0 :: gT, w.before args s = true) (hl : Cond.methodLink own index yX0_isInCheck ∈ gT) (hR : 3 + 1 ≤ R.frames ∧ 8 + (2 + 11) + 63 ≤ R.locals) : CallW R s args own RX0 index yX0_isInCheck cX0_isInCheck 2 (some .boolean) wy_X0_isInCheck rm_X0_isInCheck 0 0 1 :=
  cwV 1 hts (gT_call w0 (pre := [.methodLink own index yX0_isInCheck, .instanceMethod yX0_isInCheck, .selects RX0 yX0_isInCheck yX0_isInCheck, .initialized RX0]) (gT_lc hl (gT_lc ly_yX0_isInCheck (gT_lc lx_yX0_isInCheck (gT_l1 li_RX0)))) lc_yX0_isInCheck) rfl rfl rfl (by decide +kernel) hR
set_option maxRecDepth 100000 in
set_option maxHeartbeats 4000000 in
theorem c_X0_isInCheck (l : Launch) (D : va_G) (qb : Nat → Nat) (ql : Nat → Nat) (qw : Nat → Nat) (cI : ClassId) (cJ : ClassId) (tq : Nat → Nat) (v_mover : Int32) (v_rights : Int32) (v_passed : Int32) (v_halves : Int32) (v_number : Int32) (v_balance : Int32) (a_men : Nat → Int32) (a_kinds : Nat → Int64) (a_sides : Nat → Int64) (a_rays : Nat → Int64) (a_knights : Nat → Int64) (a_kings : Nat → Int64) (a_pawns : Nat → Int64) (a_table : Nat → Int32) (p0 : Int32) (rv : Int32) (hm : m_X0_isInCheck a_kinds a_sides a_rays a_knights a_kings a_pawns p0 = some rv) : kEi l yX0_isInCheck wy_X0_isInCheck rm_X0_isInCheck D [(cI, .int), (cJ, .long)] tq rv (wBo qb ql qw cI cJ v_mover v_rights v_passed v_halves v_number v_balance a_men a_kinds a_sides a_rays a_knights a_kings a_pawns a_table) (wBo qb ql qw cI cJ v_mover v_rights v_passed v_halves v_number v_balance a_men a_kinds a_sides a_rays a_knights a_kings a_pawns a_table) [.ref (qb 0), .int p0] := by
  refine kEi.of cX0_isInCheck 2 (some .boolean) (by decide) rfl (Or.inr rfl) (Nat.le_of_ble_eq_true rfl) ?_
  intro p e s m below meth c A Q C hJ hret
  have hin0 : ∀ w ∈ wsX00, w ∈ wy_X0_isInCheck := fun w h => List.mem_cons_of_mem _ (inG0 w h)
  have hin3 : ∀ w ∈ wsX30, w ∈ wy_X0_isInCheck := fun w h => List.mem_cons_of_mem _ (inG3 w h)
  have hin7 : ∀ w ∈ wsX70, w ∈ wy_X0_isInCheck := fun w h => List.mem_cons_of_mem _ (inG7 w h)
  unfold m_X0_isInCheck at hm
  have h := hm
  refine kv_lv [0, 1] (lv2 := [(0, .ref (qb 0)), (1, .int p0)]) rfl ?_
  refine kv_aload_n C 0 dX0_isInCheck_0 rfl rfl ?_
  refine kv_aload_n C 0 dX0_isInCheck_1 rfl rfl ?_
  refine kv_iload_n C 1 dX0_isInCheck_2 rfl rfl ?_
  obtain ⟨r_1, hm_2, h⟩ := ob_e h
  refine kv_eVi (ws2 := (wBo qb ql qw cI cJ v_mover v_rights v_passed v_halves v_number v_balance a_men a_kinds a_sides a_rays a_knights a_kings a_pawns a_table)) C hJ [.int p0] 0 (c_X0_kingOf l D qb ql qw cI cJ tq v_mover v_rights v_passed v_halves v_number v_balance a_men a_kinds a_sides a_rays a_knights a_kings a_pawns a_table p0 r_1 hm_2) (cv_X0_kingOf C.ts lm_RX0_80 ⟨Nat.le_of_ble_eq_true rfl, Nat.le_of_ble_eq_true rfl⟩) rfl rfl [0, 1, 2, 3, 4, 5, 6, 7, 8, 9, 10] [] [0, 1] [0, 1, 2, 3, 4, 5, 6, 7, 8, 9, 10] rfl rfl rfl rfl rfl (by decide) rfl rfl rfl (Nat.le_of_ble_eq_true rfl) dX0_isInCheck_3 ⟨Nat.zero_le _, Nat.zero_le _⟩ rfl rfl rfl ?_
  refine kv_iconst C 1 dX0_isInCheck_6 (by decide) ?_
  refine kv_iload_n C 1 dX0_isInCheck_7 rfl rfl ?_
  refine kv_isub C dX0_isInCheck_8 ?_
  refine kv_aload_n C 0 dX0_isInCheck_9 rfl rfl ?_
  obtain ⟨r_3, hm_4, h⟩ := ob_e h
  refine kv_eVl (ws2 := (wBo qb ql qw cI cJ v_mover v_rights v_passed v_halves v_number v_balance a_men a_kinds a_sides a_rays a_knights a_kings a_pawns a_table)) C hJ [] 0 (c_X0_everyone l D qb ql qw cI cJ tq v_mover v_rights v_passed v_halves v_number v_balance a_men a_kinds a_sides a_rays a_knights a_kings a_pawns a_table  r_3 hm_4) (cv_X0_everyone C.ts lm_RX0_83 ⟨Nat.le_of_ble_eq_true rfl, Nat.le_of_ble_eq_true rfl⟩) rfl rfl [0, 1, 2, 3, 4, 5, 6, 7, 8, 9, 10] [] [0, 1] [0, 1, 2, 3, 4, 5, 6, 7, 8, 9, 10] rfl rfl rfl rfl rfl (by decide) rfl rfl rfl (Nat.le_of_ble_eq_true rfl) dX0_isInCheck_10 ⟨Nat.zero_le _, Nat.zero_le _⟩ rfl rfl rfl ?_
  obtain ⟨r_5, hm_6, h⟩ := ob_e h
  refine kv_eVi (ws2 := (wBo qb ql qw cI cJ v_mover v_rights v_passed v_halves v_number v_balance a_men a_kinds a_sides a_rays a_knights a_kings a_pawns a_table)) C hJ [.int r_1, .int ((1 : Int32) - p0), .long r_3] 0 (c_X0_isStruck l D qb ql qw cI cJ tq v_mover v_rights v_passed v_halves v_number v_balance a_men a_kinds a_sides a_rays a_knights a_kings a_pawns a_table r_1 ((1 : Int32) - p0) r_3 r_5 hm_6) (cv_X0_isStruck C.ts lm_RX0_87 ⟨Nat.le_of_ble_eq_true rfl, Nat.le_of_ble_eq_true rfl⟩) rfl rfl [0, 1, 2, 3, 4, 5, 6, 7, 8, 9, 10] [] [0, 1] [0, 1, 2, 3, 4, 5, 6, 7, 8, 9, 10] rfl rfl rfl rfl rfl (by decide) rfl rfl rfl (Nat.le_of_ble_eq_true rfl) dX0_isInCheck_13 ⟨Nat.zero_le _, Nat.zero_le _⟩ rfl rfl rfl ?_
  obtain ⟨g_7, h⟩ := obl_e h
  cases h
  exact hret _ _ dX0_isInCheck_16 (fun _ => g_7)
def m_X0_passers_b145 (k93 : Int32 → Int64 → Int64 → Int64 → Int32 → Option (Int64)) (v_mover : Int32) (v_passed : Int32) (a_kinds : Nat → Int64) (a_sides : Nat → Int64) (a_rays : Nat → Int64) (a_knights : Nat → Int64) (a_kings : Nat → Int64) (a_pawns : Nat → Int64) (x1 : Int32) (x2 : Int64) (x4 : Int64) (x6 : Int64) (x8 : Int32) : Option (Int64) := ol (x8 + (-1)) fun x8_1 => k93 x1 x2 x4 x6 x8_1
def m_X0_passers_b93 (k93 : Int32 → Int64 → Int64 → Int64 → Int32 → Option (Int64)) (v_mover : Int32) (v_passed : Int32) (a_kinds : Nat → Int64) (a_sides : Nat → Int64) (a_rays : Nat → Int64) (a_knights : Nat → Int64) (a_kings : Nat → Int64) (a_pawns : Nat → Int64) (x1 : Int32) (x2 : Int64) (x4 : Int64) (x6 : Int64) (x8 : Int32) : Option (Int64) := if x8 ≤ 0 then some x6 else ol (x2 &&& (-x2)) fun x9_3 => ol (x2 &&& (x9_3 ^^^ (-1))) fun x2_4 => ob (m_X0_kingOf a_kinds a_sides v_mover) fun r_5 => ob (m_X0_isStruck a_kinds a_sides a_rays a_knights a_kings a_pawns r_5 x1 (x4 &&& (x9_3 ^^^ (-1)))) fun r_7 => if r_7 = 0 then ol (x6 ||| x9_3) fun x6_10 => m_X0_passers_b145 k93 v_mover v_passed a_kinds a_sides a_rays a_knights a_kings a_pawns x1 x2_4 x4 x6_10 x8 else m_X0_passers_b145 k93 v_mover v_passed a_kinds a_sides a_rays a_knights a_kings a_pawns x1 x2_4 x4 x6 x8
def m_X0_passers_l93 (v_mover : Int32) (v_passed : Int32) (a_kinds : Nat → Int64) (a_sides : Nat → Int64) (a_rays : Nat → Int64) (a_knights : Nat → Int64) (a_kings : Nat → Int64) (a_pawns : Nat → Int64) (n : Nat) : Int32 → Int64 → Int64 → Int64 → Int32 → Option (Int64) := fz (fun _ _ _ _ _ => none) (fun k93 x1 x2 x4 x6 x8 => m_X0_passers_b93 k93 v_mover v_passed a_kinds a_sides a_rays a_knights a_kings a_pawns x1 x2 x4 x6 x8) n
def m_X0_passers (v_mover : Int32) (v_passed : Int32) (a_kinds : Nat → Int64) (a_sides : Nat → Int64) (a_rays : Nat → Int64) (a_knights : Nat → Int64) (a_kings : Nat → Int64) (a_pawns : Nat → Int64) : Option (Int64) := if v_passed = (-1) then some 0 else ol ((1 : Int32) - v_mover) fun x1_12 => oin ((x1_12 * 64) + v_passed) 128 (oin (v_mover) 2 (ol (((a_pawns ((x1_12 * 64) + v_passed).toNatClampNeg) &&& (a_kinds (Int32.toNatClampNeg 1))) &&& (a_sides v_mover.toNatClampNeg)) fun x2_15 => ob (m_X0_everyone a_sides ) fun r_16 => ob (m_X9_upOf v_mover) fun r_18 => ol ((r_16 &&& (((1 : Int64) <<< ((v_passed - r_18).toInt64 &&& 63)) ^^^ (-1))) ||| ((1 : Int64) <<< (v_passed.toInt64 &&& 63))) fun x4_20 => ob (m_J13_bitCount_95d88 x2_15) fun r_21 => m_X0_passers_l93 v_mover v_passed a_kinds a_sides a_rays a_knights a_kings a_pawns kF x1_12 x2_15 x4_20 0 r_21))
abbrev rm_X0_passers : Room := { frames := 3, cells := 0, slots := 0, locals := 63 }
abbrev wy_X0_passers : List Cond := .code yX0_passers cX0_passers 11 (some .long) :: gT
theorem cv_X0_passers {R : Room} {s : State} {args : Array Value} {own : String} {index : Nat} {w0 : Cond} (hts : ∀ w ∈ w0 :: gT, w.before args s = true) (hl : Cond.methodLink own index yX0_passers ∈ gT) (hR : 3 + 1 ≤ R.frames ∧ 8 + (11 + 11) + 63 ≤ R.locals) : CallW R s args own RX0 index yX0_passers cX0_passers 11 (some .long) wy_X0_passers rm_X0_passers 0 0 0 :=
  cwV 0 hts (gT_call w0 (pre := [.methodLink own index yX0_passers, .instanceMethod yX0_passers, .selects RX0 yX0_passers yX0_passers, .initialized RX0]) (gT_lc hl (gT_lc ly_yX0_passers (gT_lc lx_yX0_passers (gT_l1 li_RX0)))) lc_yX0_passers) rfl rfl rfl (by decide +kernel) hR
set_option maxRecDepth 100000 in
set_option maxHeartbeats 4000000 in
theorem c_X0_passers (l : Launch) (D : va_G) (qb : Nat → Nat) (ql : Nat → Nat) (qw : Nat → Nat) (cI : ClassId) (cJ : ClassId) (tq : Nat → Nat) (v_mover : Int32) (v_rights : Int32) (v_passed : Int32) (v_halves : Int32) (v_number : Int32) (v_balance : Int32) (a_men : Nat → Int32) (a_kinds : Nat → Int64) (a_sides : Nat → Int64) (a_rays : Nat → Int64) (a_knights : Nat → Int64) (a_kings : Nat → Int64) (a_pawns : Nat → Int64) (a_table : Nat → Int32) (rv : Int64) (hm : m_X0_passers v_mover v_passed a_kinds a_sides a_rays a_knights a_kings a_pawns = some rv) : kEl l yX0_passers wy_X0_passers rm_X0_passers D [(cI, .int), (cJ, .long)] tq rv (wBo qb ql qw cI cJ v_mover v_rights v_passed v_halves v_number v_balance a_men a_kinds a_sides a_rays a_knights a_kings a_pawns a_table) (wBo qb ql qw cI cJ v_mover v_rights v_passed v_halves v_number v_balance a_men a_kinds a_sides a_rays a_knights a_kings a_pawns a_table) [.ref (qb 0)] := by
  refine kEl.of cX0_passers 11 (some .long) (by decide) rfl rfl (Nat.le_of_ble_eq_true rfl) ?_
  intro p e s m below meth c A Q C hJ hret
  have hin0 : ∀ w ∈ wsX00, w ∈ wy_X0_passers := fun w h => List.mem_cons_of_mem _ (inG0 w h)
  have hin3 : ∀ w ∈ wsX30, w ∈ wy_X0_passers := fun w h => List.mem_cons_of_mem _ (inG3 w h)
  have hin7 : ∀ w ∈ wsX70, w ∈ wy_X0_passers := fun w h => List.mem_cons_of_mem _ (inG7 w h)
  have l93 : ∀ (n93 : Nat) (x1 : Int32) (x2 : Int64) (x4 : Int64) (x6 : Int64) (x8 : Int32), m_X0_passers_l93  v_mover v_passed a_kinds a_sides a_rays a_knights a_kings a_pawns n93 x1 x2 x4 x6 x8 = some rv → kv p l e rm_X0_passers s m ([.ref (qb 0)] : List Value).toArray below meth c D A 11 0 0 Q (wBo qb ql qw cI cJ v_mover v_rights v_passed v_halves v_number v_balance a_men a_kinds a_sides a_rays a_knights a_kings a_pawns a_table) [(0, .ref (qb 0)), (1, .int x1), (2, .long x2), (4, .long x4), (6, .long x6), (8, .int x8)] 93 [] := by
    intro n93
    induction n93 with
    | zero =>
      intro x1 x2 x4 x6 x8 h
      exact kv_no h
    | succ n93 ih93 =>
      have j145 : ∀ (x1 : Int32) (x2 : Int64) (x4 : Int64) (x6 : Int64) (x8 : Int32), m_X0_passers_b145 (m_X0_passers_l93  v_mover v_passed a_kinds a_sides a_rays a_knights a_kings a_pawns n93) v_mover v_passed a_kinds a_sides a_rays a_knights a_kings a_pawns x1 x2 x4 x6 x8 = some rv → kv p l e rm_X0_passers s m ([.ref (qb 0)] : List Value).toArray below meth c D A 11 0 0 Q (wBo qb ql qw cI cJ v_mover v_rights v_passed v_halves v_number v_balance a_men a_kinds a_sides a_rays a_knights a_kings a_pawns a_table) [(0, .ref (qb 0)), (1, .int x1), (2, .long x2), (4, .long x4), (6, .long x6), (8, .int x8)] 145 [] := by
        intro x1 x2 x4 x6 x8 h
        unfold m_X0_passers_b145 at h
        obtain ⟨x8_1, ex8_1, h⟩ := ol_e h
        refine kv_iinc C (v := x8_1) (lv2 := [(0, .ref (qb 0)), (1, .int x1), (2, .long x2), (4, .long x4), (6, .long x6), (8, .int x8_1)]) 5 [1, 2, 3, 4, 5, 0] dX0_passers_145 rfl ex8_1.symm (by decide) rfl rfl ?_
        refine kv_goto C 93 dX0_passers_148 (by decide) ?_
        exact kv_lv [0, 1, 2, 3, 4, 5] (lv2 := [(0, .ref (qb 0)), (1, .int x1), (2, .long x2), (4, .long x4), (6, .long x6), (8, .int x8_1)]) rfl (ih93 x1 x2 x4 x6 x8_1 h)
      intro x1 x2 x4 x6 x8 h
      replace h : m_X0_passers_b93  (m_X0_passers_l93  v_mover v_passed a_kinds a_sides a_rays a_knights a_kings a_pawns n93) v_mover v_passed a_kinds a_sides a_rays a_knights a_kings a_pawns x1 x2 x4 x6 x8 = some rv := h
      unfold m_X0_passers_b93 at h
      refine kv_iload C 5 dX0_passers_93 rfl ?_
      refine kv_if_le C 151 dX0_passers_95 (by decide) (fun c_2 => ?_) (fun c_2 => ?_)
      · have h := oi_t h c_2
        refine kv_lload C 4 dX0_passers_151 rfl ?_
        cases h
        exact hret _ _ dX0_passers_153
      · have h := oi_f h c_2
        refine kv_lload_n C 2 dX0_passers_98 rfl rfl ?_
        refine kv_lload_n C 2 dX0_passers_99 rfl rfl ?_
        refine kv_lneg C dX0_passers_100 ?_
        refine kv_land C dX0_passers_101 ?_
        obtain ⟨x9_3, ex9_3, h⟩ := ol_e h
        refine kv_topl ex9_3 ?_
        refine kv_lstore C (lv2 := [(0, .ref (qb 0)), (1, .int x1), (2, .long x2), (4, .long x4), (6, .long x6), (8, .int x8), (9, .long x9_3)]) [1, 2, 3, 4, 5, 6, 0] dX0_passers_102 (by decide) rfl rfl ?_
        refine kv_lload_n C 2 dX0_passers_104 rfl rfl ?_
        refine kv_lload C 6 dX0_passers_105 rfl ?_
        refine kv_ldc2 C (C.ts _ (List.mem_cons_of_mem _ lkl_RX0_74)) dX0_passers_107 ?_
        refine kv_lxor C dX0_passers_110 ?_
        refine kv_land C dX0_passers_111 ?_
        obtain ⟨x2_4, ex2_4, h⟩ := ol_e h
        refine kv_topl ex2_4 ?_
        refine kv_lstore_n C (lv2 := [(0, .ref (qb 0)), (1, .int x1), (2, .long x2_4), (4, .long x4), (6, .long x6), (8, .int x8), (9, .long x9_3)]) [1, 2, 0, 3, 4, 5, 6] dX0_passers_112 rfl (by decide) rfl rfl ?_
        refine kv_aload_n C 0 dX0_passers_113 rfl rfl ?_
        refine kv_aload_n C 0 dX0_passers_114 rfl rfl ?_
        refine kv_aload_n C 0 dX0_passers_115 rfl rfl ?_
        refine kv_get C (Cn := RX0) (T := TX0) (N := 11) 0 5 hin0 rfl rfl (by decide) (C.ts _ (List.mem_cons_of_mem _ lf_RX0_47)) rfl rfl dX0_passers_116 ?_
        obtain ⟨r_5, hm_6, h⟩ := ob_e h
        refine kv_eVi (ws2 := (wBo qb ql qw cI cJ v_mover v_rights v_passed v_halves v_number v_balance a_men a_kinds a_sides a_rays a_knights a_kings a_pawns a_table)) C hJ [.int v_mover] 0 (c_X0_kingOf l D qb ql qw cI cJ tq v_mover v_rights v_passed v_halves v_number v_balance a_men a_kinds a_sides a_rays a_knights a_kings a_pawns a_table v_mover r_5 hm_6) (cv_X0_kingOf C.ts lm_RX0_80 ⟨Nat.le_of_ble_eq_true rfl, Nat.le_of_ble_eq_true rfl⟩) rfl rfl [0, 1, 2, 3, 4, 5, 6, 7, 8, 9, 10] [] [0, 1] [0, 1, 2, 3, 4, 5, 6, 7, 8, 9, 10] rfl rfl rfl rfl rfl (by decide) rfl rfl rfl (Nat.le_of_ble_eq_true rfl) dX0_passers_119 ⟨Nat.zero_le _, Nat.zero_le _⟩ rfl rfl rfl ?_
        refine kv_iload_n C 1 dX0_passers_122 rfl rfl ?_
        refine kv_lload C 3 dX0_passers_123 rfl ?_
        refine kv_lload C 6 dX0_passers_125 rfl ?_
        refine kv_ldc2 C (C.ts _ (List.mem_cons_of_mem _ lkl_RX0_74)) dX0_passers_127 ?_
        refine kv_lxor C dX0_passers_130 ?_
        refine kv_land C dX0_passers_131 ?_
        obtain ⟨r_7, hm_8, h⟩ := ob_e h
        refine kv_eVi (ws2 := (wBo qb ql qw cI cJ v_mover v_rights v_passed v_halves v_number v_balance a_men a_kinds a_sides a_rays a_knights a_kings a_pawns a_table)) C hJ [.int r_5, .int x1, .long (x4 &&& (x9_3 ^^^ (-1)))] 0 (c_X0_isStruck l D qb ql qw cI cJ tq v_mover v_rights v_passed v_halves v_number v_balance a_men a_kinds a_sides a_rays a_knights a_kings a_pawns a_table r_5 x1 (x4 &&& (x9_3 ^^^ (-1))) r_7 hm_8) (cv_X0_isStruck C.ts lm_RX0_87 ⟨Nat.le_of_ble_eq_true rfl, Nat.le_of_ble_eq_true rfl⟩) rfl rfl [0, 1, 2, 3, 4, 5, 6, 7, 8, 9, 10] [] [0, 1] [0, 1, 2, 3, 4, 5, 6, 7, 8, 9, 10] rfl rfl rfl rfl rfl (by decide) rfl rfl rfl (Nat.le_of_ble_eq_true rfl) dX0_passers_132 ⟨Nat.zero_le _, Nat.zero_le _⟩ rfl rfl rfl ?_
        refine kv_if_ne C 145 dX0_passers_135 (by decide) (fun c_9 => ?_) (fun c_9 => ?_)
        · have h := oi_f h c_9
          exact kv_lv [0, 1, 2, 3, 4, 5] (lv2 := [(0, .ref (qb 0)), (1, .int x1), (2, .long x2_4), (4, .long x4), (6, .long x6), (8, .int x8)]) rfl (j145 x1 x2_4 x4 x6 x8 h)
        · have h := oi_t h c_9
          refine kv_lload C 4 dX0_passers_138 rfl ?_
          refine kv_lload C 6 dX0_passers_140 rfl ?_
          refine kv_lor C dX0_passers_142 ?_
          obtain ⟨x6_10, ex6_10, h⟩ := ol_e h
          refine kv_topl ex6_10 ?_
          refine kv_lstore C (lv2 := [(0, .ref (qb 0)), (1, .int x1), (2, .long x2_4), (4, .long x4), (6, .long x6_10), (8, .int x8)]) [1, 2, 3, 4, 0, 5] dX0_passers_143 (by decide) rfl rfl ?_
          exact kv_lv [0, 1, 2, 3, 4, 5] (lv2 := [(0, .ref (qb 0)), (1, .int x1), (2, .long x2_4), (4, .long x4), (6, .long x6_10), (8, .int x8)]) rfl (j145 x1 x2_4 x4 x6_10 x8 h)
  unfold m_X0_passers at hm
  have h := hm
  refine kv_lv [0] (lv2 := [(0, .ref (qb 0))]) rfl ?_
  refine kv_aload_n C 0 dX0_passers_0 rfl rfl ?_
  refine kv_get C (Cn := RX0) (T := TX0) (N := 11) 0 7 hin0 rfl rfl (by decide) (C.ts _ (List.mem_cons_of_mem _ lf_RX0_30)) rfl rfl dX0_passers_1 ?_
  refine kv_iconst C (-1) dX0_passers_4 (by decide) ?_
  refine kv_icmp_ne C 10 dX0_passers_5 (by decide) (fun c_11 => ?_) (fun c_11 => ?_)
  · have h := oi_f h c_11
    refine kv_iconst C 1 dX0_passers_10 (by decide) ?_
    refine kv_aload_n C 0 dX0_passers_11 rfl rfl ?_
    refine kv_get C (Cn := RX0) (T := TX0) (N := 11) 0 5 hin0 rfl rfl (by decide) (C.ts _ (List.mem_cons_of_mem _ lf_RX0_47)) rfl rfl dX0_passers_12 ?_
    refine kv_isub C dX0_passers_15 ?_
    obtain ⟨x1_12, ex1_12, h⟩ := ol_e h
    refine kv_top ex1_12 ?_
    refine kv_istore_n C (lv2 := [(0, .ref (qb 0)), (1, .int x1_12)]) [1, 0] dX0_passers_16 rfl (by decide) rfl rfl ?_
    refine kv_aload_n C 0 dX0_passers_17 rfl rfl ?_
    refine kv_get C (Cn := RX0) (T := TX0) (N := 11) 0 0 hin0 rfl rfl (by decide) (C.ts _ (List.mem_cons_of_mem _ lf_RX0_9)) rfl rfl dX0_passers_18 ?_
    refine kv_get C (Cn := RX3) (T := TX3) (N := 4) 4 3 hin3 rfl rfl (by decide) (C.ts _ (List.mem_cons_of_mem _ lf_RX0_91)) rfl rfl dX0_passers_21 ?_
    refine kv_iload_n C 1 dX0_passers_24 rfl rfl ?_
    refine kv_bipush C 64 dX0_passers_25 (by decide) ?_
    refine kv_imul C dX0_passers_27 ?_
    refine kv_aload_n C 0 dX0_passers_28 rfl rfl ?_
    refine kv_get C (Cn := RX0) (T := TX0) (N := 11) 0 7 hin0 rfl rfl (by decide) (C.ts _ (List.mem_cons_of_mem _ lf_RX0_30)) rfl rfl dX0_passers_29 ?_
    refine kv_iadd C dX0_passers_32 ?_
    obtain ⟨g_13, h⟩ := oin_e h
    refine kv_lald C 8 1 rfl rfl g_13 dX0_passers_33 ?_
    refine kv_aload_n C 0 dX0_passers_34 rfl rfl ?_
    refine kv_get C (Cn := RX0) (T := TX0) (N := 11) 0 3 hin0 rfl rfl (by decide) (C.ts _ (List.mem_cons_of_mem _ lf_RX0_23)) rfl rfl dX0_passers_35 ?_
    refine kv_iconst C 1 dX0_passers_38 (by decide) ?_
    refine kv_lald C 2 1 rfl rfl (by unfold vp_in; decide) dX0_passers_39 ?_
    refine kv_land C dX0_passers_40 ?_
    refine kv_aload_n C 0 dX0_passers_41 rfl rfl ?_
    refine kv_get C (Cn := RX0) (T := TX0) (N := 11) 0 4 hin0 rfl rfl (by decide) (C.ts _ (List.mem_cons_of_mem _ lf_RX0_27)) rfl rfl dX0_passers_42 ?_
    refine kv_aload_n C 0 dX0_passers_45 rfl rfl ?_
    refine kv_get C (Cn := RX0) (T := TX0) (N := 11) 0 5 hin0 rfl rfl (by decide) (C.ts _ (List.mem_cons_of_mem _ lf_RX0_47)) rfl rfl dX0_passers_46 ?_
    obtain ⟨g_14, h⟩ := oin_e h
    refine kv_lald C 3 1 rfl rfl g_14 dX0_passers_49 ?_
    refine kv_land C dX0_passers_50 ?_
    obtain ⟨x2_15, ex2_15, h⟩ := ol_e h
    refine kv_topl ex2_15 ?_
    refine kv_lstore_n C (lv2 := [(0, .ref (qb 0)), (1, .int x1_12), (2, .long x2_15)]) [1, 2, 0] dX0_passers_51 rfl (by decide) rfl rfl ?_
    refine kv_aload_n C 0 dX0_passers_52 rfl rfl ?_
    obtain ⟨r_16, hm_17, h⟩ := ob_e h
    refine kv_eVl (ws2 := (wBo qb ql qw cI cJ v_mover v_rights v_passed v_halves v_number v_balance a_men a_kinds a_sides a_rays a_knights a_kings a_pawns a_table)) C hJ [] 0 (c_X0_everyone l D qb ql qw cI cJ tq v_mover v_rights v_passed v_halves v_number v_balance a_men a_kinds a_sides a_rays a_knights a_kings a_pawns a_table  r_16 hm_17) (cv_X0_everyone C.ts lm_RX0_83 ⟨Nat.le_of_ble_eq_true rfl, Nat.le_of_ble_eq_true rfl⟩) rfl rfl [0, 1, 2, 3, 4, 5, 6, 7, 8, 9, 10] [] [0, 1] [0, 1, 2, 3, 4, 5, 6, 7, 8, 9, 10] rfl rfl rfl rfl rfl (by decide) rfl rfl rfl (Nat.le_of_ble_eq_true rfl) dX0_passers_53 ⟨Nat.zero_le _, Nat.zero_le _⟩ rfl rfl rfl ?_
    refine kv_lconst C 1 dX0_passers_56 (by decide) ?_
    refine kv_aload_n C 0 dX0_passers_57 rfl rfl ?_
    refine kv_get C (Cn := RX0) (T := TX0) (N := 11) 0 7 hin0 rfl rfl (by decide) (C.ts _ (List.mem_cons_of_mem _ lf_RX0_30)) rfl rfl dX0_passers_58 ?_
    refine kv_aload_n C 0 dX0_passers_61 rfl rfl ?_
    refine kv_get C (Cn := RX0) (T := TX0) (N := 11) 0 5 hin0 rfl rfl (by decide) (C.ts _ (List.mem_cons_of_mem _ lf_RX0_47)) rfl rfl dX0_passers_62 ?_
    obtain ⟨r_18, hm_19, h⟩ := ob_e h
    refine kv_SN0i C [.int v_mover] (c_X9_upOf l D v_mover r_18 hm_19) (cn_X9_upOf C.ts (hJ.1 _ (List.mem_of_getElem? (i := 2) rfl)) ⟨Nat.le_of_ble_eq_true rfl, Nat.le_of_ble_eq_true rfl⟩) rfl rfl (Nat.le_of_ble_eq_true rfl) dX0_passers_65 ⟨Nat.zero_le _, Nat.zero_le _⟩ ?_
    refine kv_isub C dX0_passers_68 ?_
    refine kv_lshl C dX0_passers_69 ?_
    refine kv_ldc2 C (C.ts _ (List.mem_cons_of_mem _ lkl_RX0_74)) dX0_passers_70 ?_
    refine kv_lxor C dX0_passers_73 ?_
    refine kv_land C dX0_passers_74 ?_
    refine kv_lconst C 1 dX0_passers_75 (by decide) ?_
    refine kv_aload_n C 0 dX0_passers_76 rfl rfl ?_
    refine kv_get C (Cn := RX0) (T := TX0) (N := 11) 0 7 hin0 rfl rfl (by decide) (C.ts _ (List.mem_cons_of_mem _ lf_RX0_30)) rfl rfl dX0_passers_77 ?_
    refine kv_lshl C dX0_passers_80 ?_
    refine kv_lor C dX0_passers_81 ?_
    obtain ⟨x4_20, ex4_20, h⟩ := ol_e h
    refine kv_topl ex4_20 ?_
    refine kv_lstore C (lv2 := [(0, .ref (qb 0)), (1, .int x1_12), (2, .long x2_15), (4, .long x4_20)]) [1, 2, 3, 0] dX0_passers_82 (by decide) rfl rfl ?_
    refine kv_lconst C 0 dX0_passers_84 (by decide) ?_
    refine kv_lstore C (lv2 := [(0, .ref (qb 0)), (1, .int x1_12), (2, .long x2_15), (4, .long x4_20), (6, .long 0)]) [1, 2, 3, 4, 0] dX0_passers_85 (by decide) rfl rfl ?_
    refine kv_lload_n C 2 dX0_passers_87 rfl rfl ?_
    obtain ⟨r_21, hm_22, h⟩ := ob_e h
    refine kv_callS0i C [.long x2_15] (c_J13_bitCount_95d88 l D x2_15 r_21 hm_22) (cs_J13_bitCount_95d88 C.ts lm_RX0_112 ⟨Nat.le_of_ble_eq_true rfl, Nat.le_of_ble_eq_true rfl⟩) rfl rfl (Nat.le_of_ble_eq_true rfl) dX0_passers_88 ⟨Nat.zero_le _, Nat.zero_le _⟩ ?_
    refine kv_istore C (lv2 := [(0, .ref (qb 0)), (1, .int x1_12), (2, .long x2_15), (4, .long x4_20), (6, .long 0), (8, .int r_21)]) [1, 2, 3, 4, 5, 0] dX0_passers_91 (by decide) rfl rfl ?_
    exact kv_lv [0, 1, 2, 3, 4, 5] (lv2 := [(0, .ref (qb 0)), (1, .int x1_12), (2, .long x2_15), (4, .long x4_20), (6, .long 0), (8, .int r_21)]) rfl (l93 kF x1_12 x2_15 x4_20 0 r_21 h)
  · have h := oi_t h c_11
    refine kv_lconst C 0 dX0_passers_8 (by decide) ?_
    cases h
    exact hret _ _ dX0_passers_9
def m_X0_takesOn_b52 (v_mover : Int32) (v_passed : Int32) (a_men : Nat → Int32) (t0 : Int32) : Option (Int32) := some t0
def m_X0_takesOn_b34 (v_mover : Int32) (v_passed : Int32) (a_men : Nat → Int32) (x2 : Int32) (t0 : Int32) : Option (Int32) := if t0 = 0 then m_X0_takesOn_b52 v_mover v_passed a_men x2 else ob (m_X9_upOf v_mover) fun r_2 => m_X0_takesOn_b52 v_mover v_passed a_men (x2 - r_2)
def m_X0_takesOn_b33 (v_mover : Int32) (v_passed : Int32) (a_men : Nat → Int32) (x2 : Int32) : Option (Int32) := m_X0_takesOn_b34 v_mover v_passed a_men x2 0
def m_X0_takesOn (v_mover : Int32) (v_passed : Int32) (a_men : Nat → Int32) (p0 : Int32) : Option (Int32) := ob (m_X9_toOf p0) fun r_4 => if r_4 = v_passed then ob (m_X9_fromOf p0) fun r_7 => oin (r_7) 64 (ob (m_J9_abs_0f7a4 (a_men r_7.toNatClampNeg)) fun r_10 => if r_10 = 1 then m_X0_takesOn_b34 v_mover v_passed a_men r_4 1 else m_X0_takesOn_b33 v_mover v_passed a_men r_4) else m_X0_takesOn_b33 v_mover v_passed a_men r_4
abbrev rm_X0_takesOn : Room := { frames := 1, cells := 0, slots := 0, locals := 20 }
abbrev wy_X0_takesOn : List Cond := .code yX0_takesOn cX0_takesOn 4 (some .int) :: gT
theorem cv_X0_takesOn {R : Room} {s : State} {args : Array Value} {own : String} {index : Nat} {w0 : Cond} (hts : ∀ w ∈ w0 :: gT, w.before args s = true) (hl : Cond.methodLink own index yX0_takesOn ∈ gT) (hR : 1 + 1 ≤ R.frames ∧ 8 + (4 + 11) + 20 ≤ R.locals) : CallW R s args own RX0 index yX0_takesOn cX0_takesOn 4 (some .int) wy_X0_takesOn rm_X0_takesOn 0 0 1 :=
  cwV 1 hts (gT_call w0 (pre := [.methodLink own index yX0_takesOn, .instanceMethod yX0_takesOn, .selects RX0 yX0_takesOn yX0_takesOn, .initialized RX0]) (gT_lc hl (gT_lc ly_yX0_takesOn (gT_lc lx_yX0_takesOn (gT_l1 li_RX0)))) lc_yX0_takesOn) rfl rfl rfl (by decide +kernel) hR
set_option maxRecDepth 100000 in
set_option maxHeartbeats 4000000 in
theorem c_X0_takesOn (l : Launch) (D : va_G) (qb : Nat → Nat) (ql : Nat → Nat) (qw : Nat → Nat) (cI : ClassId) (cJ : ClassId) (tq : Nat → Nat) (v_mover : Int32) (v_rights : Int32) (v_passed : Int32) (v_halves : Int32) (v_number : Int32) (v_balance : Int32) (a_men : Nat → Int32) (a_kinds : Nat → Int64) (a_sides : Nat → Int64) (a_rays : Nat → Int64) (a_knights : Nat → Int64) (a_kings : Nat → Int64) (a_pawns : Nat → Int64) (a_table : Nat → Int32) (p0 : Int32) (rv : Int32) (hm : m_X0_takesOn v_mover v_passed a_men p0 = some rv) : kEi l yX0_takesOn wy_X0_takesOn rm_X0_takesOn D [(cI, .int), (cJ, .long)] tq rv (wBo qb ql qw cI cJ v_mover v_rights v_passed v_halves v_number v_balance a_men a_kinds a_sides a_rays a_knights a_kings a_pawns a_table) (wBo qb ql qw cI cJ v_mover v_rights v_passed v_halves v_number v_balance a_men a_kinds a_sides a_rays a_knights a_kings a_pawns a_table) [.ref (qb 0), .int p0] := by
  refine kEi.of cX0_takesOn 4 (some .int) (by decide) rfl (Or.inl rfl) (Nat.le_of_ble_eq_true rfl) ?_
  intro p e s m below meth c A Q C hJ hret
  have hin0 : ∀ w ∈ wsX00, w ∈ wy_X0_takesOn := fun w h => List.mem_cons_of_mem _ (inG0 w h)
  have hin3 : ∀ w ∈ wsX30, w ∈ wy_X0_takesOn := fun w h => List.mem_cons_of_mem _ (inG3 w h)
  have hin7 : ∀ w ∈ wsX70, w ∈ wy_X0_takesOn := fun w h => List.mem_cons_of_mem _ (inG7 w h)
  have j52 : ∀ (t0 : Int32), m_X0_takesOn_b52  v_mover v_passed a_men t0 = some rv → kv p l e rm_X0_takesOn s m ([.ref (qb 0), .int p0] : List Value).toArray below meth c D A 4 0 0 Q (wBo qb ql qw cI cJ v_mover v_rights v_passed v_halves v_number v_balance a_men a_kinds a_sides a_rays a_knights a_kings a_pawns a_table) [] 52 [.int t0] := by
    intro t0 h
    unfold m_X0_takesOn_b52 at h
    cases h
    exact hret _ _ dX0_takesOn_52 (fun q => by cases q)
  have j34 : ∀ (x2 : Int32) (t0 : Int32), m_X0_takesOn_b34  v_mover v_passed a_men x2 t0 = some rv → kv p l e rm_X0_takesOn s m ([.ref (qb 0), .int p0] : List Value).toArray below meth c D A 4 0 0 Q (wBo qb ql qw cI cJ v_mover v_rights v_passed v_halves v_number v_balance a_men a_kinds a_sides a_rays a_knights a_kings a_pawns a_table) [(0, .ref (qb 0)), (2, .int x2)] 34 [.int t0] := by
    intro x2 t0 h
    unfold m_X0_takesOn_b34 at h
    refine kv_istore_n C (lv2 := [(0, .ref (qb 0)), (2, .int x2), (3, .int t0)]) [1, 2, 0] dX0_takesOn_34 rfl (by decide) rfl rfl ?_
    refine kv_iload_n C 2 dX0_takesOn_35 rfl rfl ?_
    refine kv_if_eq C 51 dX0_takesOn_36 (by decide) (fun c_1 => ?_) (fun c_1 => ?_)
    · have h := oi_t h c_1
      refine kv_iload_n C 1 dX0_takesOn_51 rfl rfl ?_
      exact kv_lv [] (lv2 := []) rfl (j52 x2 h)
    · have h := oi_f h c_1
      refine kv_iload_n C 1 dX0_takesOn_39 rfl rfl ?_
      refine kv_aload_n C 0 dX0_takesOn_40 rfl rfl ?_
      refine kv_get C (Cn := RX0) (T := TX0) (N := 11) 0 5 hin0 rfl rfl (by decide) (C.ts _ (List.mem_cons_of_mem _ lf_RX0_47)) rfl rfl dX0_takesOn_41 ?_
      obtain ⟨r_2, hm_3, h⟩ := ob_e h
      refine kv_SN0i C [.int v_mover] (c_X9_upOf l D v_mover r_2 hm_3) (cn_X9_upOf C.ts (hJ.1 _ (List.mem_of_getElem? (i := 2) rfl)) ⟨Nat.le_of_ble_eq_true rfl, Nat.le_of_ble_eq_true rfl⟩) rfl rfl (Nat.le_of_ble_eq_true rfl) dX0_takesOn_44 ⟨Nat.zero_le _, Nat.zero_le _⟩ ?_
      refine kv_isub C dX0_takesOn_47 ?_
      refine kv_goto C 52 dX0_takesOn_48 (by decide) ?_
      exact kv_lv [] (lv2 := []) rfl (j52 (x2 - r_2) h)
  have j33 : ∀ (x2 : Int32), m_X0_takesOn_b33  v_mover v_passed a_men x2 = some rv → kv p l e rm_X0_takesOn s m ([.ref (qb 0), .int p0] : List Value).toArray below meth c D A 4 0 0 Q (wBo qb ql qw cI cJ v_mover v_rights v_passed v_halves v_number v_balance a_men a_kinds a_sides a_rays a_knights a_kings a_pawns a_table) [(0, .ref (qb 0)), (2, .int x2)] 33 [] := by
    intro x2 h
    unfold m_X0_takesOn_b33 at h
    refine kv_iconst C 0 dX0_takesOn_33 (by decide) ?_
    exact kv_lv [0, 1] (lv2 := [(0, .ref (qb 0)), (2, .int x2)]) rfl (j34 x2 0 h)
  unfold m_X0_takesOn at hm
  have h := hm
  refine kv_lv [0, 1] (lv2 := [(0, .ref (qb 0)), (1, .int p0)]) rfl ?_
  refine kv_iload_n C 1 dX0_takesOn_0 rfl rfl ?_
  obtain ⟨r_4, hm_5, h⟩ := ob_e h
  refine kv_SN0i C [.int p0] (c_X9_toOf l D p0 r_4 hm_5) (cn_X9_toOf C.ts (hJ.1 _ (List.mem_of_getElem? (i := 8) rfl)) ⟨Nat.le_of_ble_eq_true rfl, Nat.le_of_ble_eq_true rfl⟩) rfl rfl (Nat.le_of_ble_eq_true rfl) dX0_takesOn_1 ⟨Nat.zero_le _, Nat.zero_le _⟩ ?_
  refine kv_istore_n C (lv2 := [(0, .ref (qb 0)), (1, .int p0), (2, .int r_4)]) [1, 2, 0] dX0_takesOn_4 rfl (by decide) rfl rfl ?_
  refine kv_iload_n C 2 dX0_takesOn_5 rfl rfl ?_
  refine kv_aload_n C 0 dX0_takesOn_6 rfl rfl ?_
  refine kv_get C (Cn := RX0) (T := TX0) (N := 11) 0 7 hin0 rfl rfl (by decide) (C.ts _ (List.mem_cons_of_mem _ lf_RX0_30)) rfl rfl dX0_takesOn_7 ?_
  refine kv_icmp_ne C 33 dX0_takesOn_10 (by decide) (fun c_6 => ?_) (fun c_6 => ?_)
  · have h := oi_f h c_6
    exact kv_lv [0, 2] (lv2 := [(0, .ref (qb 0)), (2, .int r_4)]) rfl (j33 r_4 h)
  · have h := oi_t h c_6
    refine kv_aload_n C 0 dX0_takesOn_13 rfl rfl ?_
    refine kv_get C (Cn := RX0) (T := TX0) (N := 11) 0 2 hin0 rfl rfl (by decide) (C.ts _ (List.mem_cons_of_mem _ lf_RX0_19)) rfl rfl dX0_takesOn_14 ?_
    refine kv_iload_n C 1 dX0_takesOn_17 rfl rfl ?_
    obtain ⟨r_7, hm_8, h⟩ := ob_e h
    refine kv_SN0i C [.int p0] (c_X9_fromOf l D p0 r_7 hm_8) (cn_X9_fromOf C.ts (hJ.1 _ (List.mem_of_getElem? (i := 9) rfl)) ⟨Nat.le_of_ble_eq_true rfl, Nat.le_of_ble_eq_true rfl⟩) rfl rfl (Nat.le_of_ble_eq_true rfl) dX0_takesOn_18 ⟨Nat.zero_le _, Nat.zero_le _⟩ ?_
    obtain ⟨g_9, h⟩ := oin_e h
    refine kv_iald C 1 0 rfl rfl g_9 dX0_takesOn_21 ?_
    obtain ⟨r_10, hm_11, h⟩ := ob_e h
    refine kv_callS0i C [.int (a_men r_7.toNatClampNeg)] (c_J9_abs_0f7a4 l D (a_men r_7.toNatClampNeg) r_10 hm_11) (cs_J9_abs_0f7a4 C.ts lm_RX0_62 ⟨Nat.le_of_ble_eq_true rfl, Nat.le_of_ble_eq_true rfl⟩) rfl rfl (Nat.le_of_ble_eq_true rfl) dX0_takesOn_22 ⟨Nat.zero_le _, Nat.zero_le _⟩ ?_
    refine kv_iconst C 1 dX0_takesOn_25 (by decide) ?_
    refine kv_icmp_ne C 33 dX0_takesOn_26 (by decide) (fun c_12 => ?_) (fun c_12 => ?_)
    · have h := oi_f h c_12
      exact kv_lv [0, 2] (lv2 := [(0, .ref (qb 0)), (2, .int r_4)]) rfl (j33 r_4 h)
    · have h := oi_t h c_12
      refine kv_iconst C 1 dX0_takesOn_29 (by decide) ?_
      refine kv_goto C 34 dX0_takesOn_30 (by decide) ?_
      exact kv_lv [0, 2] (lv2 := [(0, .ref (qb 0)), (2, .int r_4)]) rfl (j34 r_4 1 h)
def m_X0_worthForMover_b19 (v_mover : Int32) (v_balance : Int32) (t0 : Int32) : Option (Int32) := some t0
def m_X0_worthForMover (v_mover : Int32) (v_balance : Int32) : Option (Int32) := if v_mover = 0 then m_X0_worthForMover_b19 v_mover v_balance v_balance else m_X0_worthForMover_b19 v_mover v_balance (-v_balance)
abbrev rm_X0_worthForMover : Room := { frames := 0, cells := 0, slots := 0, locals := 0 }
abbrev wy_X0_worthForMover : List Cond := .code yX0_worthForMover cX0_worthForMover 1 (some .int) :: gT
theorem cv_X0_worthForMover {R : Room} {s : State} {args : Array Value} {own : String} {index : Nat} {w0 : Cond} (hts : ∀ w ∈ w0 :: gT, w.before args s = true) (hl : Cond.methodLink own index yX0_worthForMover ∈ gT) (hR : 0 + 1 ≤ R.frames ∧ 8 + (1 + 11) + 0 ≤ R.locals) : CallW R s args own RX0 index yX0_worthForMover cX0_worthForMover 1 (some .int) wy_X0_worthForMover rm_X0_worthForMover 0 0 0 :=
  cwV 0 hts (gT_call w0 (pre := [.methodLink own index yX0_worthForMover, .instanceMethod yX0_worthForMover, .selects RX0 yX0_worthForMover yX0_worthForMover, .initialized RX0]) (gT_lc hl (gT_lc ly_yX0_worthForMover (gT_lc lx_yX0_worthForMover (gT_l1 li_RX0)))) lc_yX0_worthForMover) rfl rfl rfl (by decide +kernel) hR
set_option maxRecDepth 100000 in
set_option maxHeartbeats 4000000 in
theorem c_X0_worthForMover (l : Launch) (D : va_G) (qb : Nat → Nat) (ql : Nat → Nat) (qw : Nat → Nat) (cI : ClassId) (cJ : ClassId) (tq : Nat → Nat) (v_mover : Int32) (v_rights : Int32) (v_passed : Int32) (v_halves : Int32) (v_number : Int32) (v_balance : Int32) (a_men : Nat → Int32) (a_kinds : Nat → Int64) (a_sides : Nat → Int64) (a_rays : Nat → Int64) (a_knights : Nat → Int64) (a_kings : Nat → Int64) (a_pawns : Nat → Int64) (a_table : Nat → Int32) (rv : Int32) (hm : m_X0_worthForMover v_mover v_balance = some rv) : kEi l yX0_worthForMover wy_X0_worthForMover rm_X0_worthForMover D [(cI, .int), (cJ, .long)] tq rv (wBo qb ql qw cI cJ v_mover v_rights v_passed v_halves v_number v_balance a_men a_kinds a_sides a_rays a_knights a_kings a_pawns a_table) (wBo qb ql qw cI cJ v_mover v_rights v_passed v_halves v_number v_balance a_men a_kinds a_sides a_rays a_knights a_kings a_pawns a_table) [.ref (qb 0)] := by
  refine kEi.of cX0_worthForMover 1 (some .int) (by decide) rfl (Or.inl rfl) (Nat.le_of_ble_eq_true rfl) ?_
  intro p e s m below meth c A Q C hJ hret
  have hin0 : ∀ w ∈ wsX00, w ∈ wy_X0_worthForMover := fun w h => List.mem_cons_of_mem _ (inG0 w h)
  have hin3 : ∀ w ∈ wsX30, w ∈ wy_X0_worthForMover := fun w h => List.mem_cons_of_mem _ (inG3 w h)
  have hin7 : ∀ w ∈ wsX70, w ∈ wy_X0_worthForMover := fun w h => List.mem_cons_of_mem _ (inG7 w h)
  have j19 : ∀ (t0 : Int32), m_X0_worthForMover_b19  v_mover v_balance t0 = some rv → kv p l e rm_X0_worthForMover s m ([.ref (qb 0)] : List Value).toArray below meth c D A 1 0 0 Q (wBo qb ql qw cI cJ v_mover v_rights v_passed v_halves v_number v_balance a_men a_kinds a_sides a_rays a_knights a_kings a_pawns a_table) [] 19 [.int t0] := by
    intro t0 h
    unfold m_X0_worthForMover_b19 at h
    cases h
    exact hret _ _ dX0_worthForMover_19 (fun q => by cases q)
  unfold m_X0_worthForMover at hm
  have h := hm
  refine kv_lv [0] (lv2 := [(0, .ref (qb 0))]) rfl ?_
  refine kv_aload_n C 0 dX0_worthForMover_0 rfl rfl ?_
  refine kv_get C (Cn := RX0) (T := TX0) (N := 11) 0 5 hin0 rfl rfl (by decide) (C.ts _ (List.mem_cons_of_mem _ lf_RX0_47)) rfl rfl dX0_worthForMover_1 ?_
  refine kv_if_ne C 14 dX0_worthForMover_4 (by decide) (fun c_1 => ?_) (fun c_1 => ?_)
  · have h := oi_f h c_1
    refine kv_aload_n C 0 dX0_worthForMover_14 rfl rfl ?_
    refine kv_get C (Cn := RX0) (T := TX0) (N := 11) 0 10 hin0 rfl rfl (by decide) (C.ts _ (List.mem_cons_of_mem _ lf_RX0_53)) rfl rfl dX0_worthForMover_15 ?_
    refine kv_ineg C dX0_worthForMover_18 ?_
    exact kv_lv [] (lv2 := []) rfl (j19 (-v_balance) h)
  · have h := oi_t h c_1
    refine kv_aload_n C 0 dX0_worthForMover_7 rfl rfl ?_
    refine kv_get C (Cn := RX0) (T := TX0) (N := 11) 0 10 hin0 rfl rfl (by decide) (C.ts _ (List.mem_cons_of_mem _ lf_RX0_53)) rfl rfl dX0_worthForMover_8 ?_
    refine kv_goto C 19 dX0_worthForMover_11 (by decide) ?_
    exact kv_lv [] (lv2 := []) rfl (j19 v_balance h)
def m_X0_gainOf_b101 (v_mover : Int32) (v_passed : Int32) (a_men : Nat → Int32) (a_table : Nat → Int32) (t0 : Int32) : Option (Int32) := some t0
def m_X0_gainOf_b44 (v_mover : Int32) (v_passed : Int32) (a_men : Nat → Int32) (a_table : Nat → Int32) (x2 : Int32) (x3 : Int32) (x4 : Int32) (x5 : Int32) (t0 : Int32) : Option (Int32) := ob (m_X7_forWhite a_table t0 x3) fun r_1 => ob (m_X7_forWhite a_table x5 x2) fun r_3 => oin (x4) 64 (ob (m_X7_forWhite a_table (a_men x4.toNatClampNeg) x4) fun r_6 => ol ((r_1 - r_3) - r_6) fun x7_8 => if v_mover = 0 then m_X0_gainOf_b101 v_mover v_passed a_men a_table x7_8 else m_X0_gainOf_b101 v_mover v_passed a_men a_table (-x7_8))
def m_X0_gainOf (v_mover : Int32) (v_passed : Int32) (a_men : Nat → Int32) (a_table : Nat → Int32) (p0 : Int32) : Option (Int32) := ob (m_X9_fromOf p0) fun r_10 => ob (m_X9_toOf p0) fun r_12 => ob (m_X0_takesOn v_mover v_passed a_men p0) fun r_14 => oin (r_10) 64 (ol (a_men r_10.toNatClampNeg) fun x5_17 => ob (m_X9_becomesOf p0) fun r_18 => if r_18 = 0 then m_X0_gainOf_b44 v_mover v_passed a_men a_table r_10 r_12 r_14 x5_17 x5_17 else ob (m_X9_becomesOf p0) fun r_21 => m_X0_gainOf_b44 v_mover v_passed a_men a_table r_10 r_12 r_14 x5_17 (x5_17 * r_21))
abbrev rm_X0_gainOf : Room := { frames := 2, cells := 0, slots := 0, locals := 43 }
abbrev wy_X0_gainOf : List Cond := .code yX0_gainOf cX0_gainOf 8 (some .int) :: gT
theorem cv_X0_gainOf {R : Room} {s : State} {args : Array Value} {own : String} {index : Nat} {w0 : Cond} (hts : ∀ w ∈ w0 :: gT, w.before args s = true) (hl : Cond.methodLink own index yX0_gainOf ∈ gT) (hR : 2 + 1 ≤ R.frames ∧ 8 + (8 + 11) + 43 ≤ R.locals) : CallW R s args own RX0 index yX0_gainOf cX0_gainOf 8 (some .int) wy_X0_gainOf rm_X0_gainOf 0 0 1 :=
  cwV 1 hts (gT_call w0 (pre := [.methodLink own index yX0_gainOf, .instanceMethod yX0_gainOf, .selects RX0 yX0_gainOf yX0_gainOf, .initialized RX0]) (gT_lc hl (gT_lc ly_yX0_gainOf (gT_lc lx_yX0_gainOf (gT_l1 li_RX0)))) lc_yX0_gainOf) rfl rfl rfl (by decide +kernel) hR
set_option maxRecDepth 100000 in
set_option maxHeartbeats 4000000 in
theorem c_X0_gainOf (l : Launch) (D : va_G) (qb : Nat → Nat) (ql : Nat → Nat) (qw : Nat → Nat) (cI : ClassId) (cJ : ClassId) (tq : Nat → Nat) (v_mover : Int32) (v_rights : Int32) (v_passed : Int32) (v_halves : Int32) (v_number : Int32) (v_balance : Int32) (a_men : Nat → Int32) (a_kinds : Nat → Int64) (a_sides : Nat → Int64) (a_rays : Nat → Int64) (a_knights : Nat → Int64) (a_kings : Nat → Int64) (a_pawns : Nat → Int64) (a_table : Nat → Int32) (p0 : Int32) (rv : Int32) (hm : m_X0_gainOf v_mover v_passed a_men a_table p0 = some rv) : kEi l yX0_gainOf wy_X0_gainOf rm_X0_gainOf D [(cI, .int), (cJ, .long)] tq rv (wBo qb ql qw cI cJ v_mover v_rights v_passed v_halves v_number v_balance a_men a_kinds a_sides a_rays a_knights a_kings a_pawns a_table) (wBo qb ql qw cI cJ v_mover v_rights v_passed v_halves v_number v_balance a_men a_kinds a_sides a_rays a_knights a_kings a_pawns a_table) [.ref (qb 0), .int p0] := by
  refine kEi.of cX0_gainOf 8 (some .int) (by decide) rfl (Or.inl rfl) (Nat.le_of_ble_eq_true rfl) ?_
  intro p e s m below meth c A Q C hJ hret
  have hin0 : ∀ w ∈ wsX00, w ∈ wy_X0_gainOf := fun w h => List.mem_cons_of_mem _ (inG0 w h)
  have hin3 : ∀ w ∈ wsX30, w ∈ wy_X0_gainOf := fun w h => List.mem_cons_of_mem _ (inG3 w h)
  have hin7 : ∀ w ∈ wsX70, w ∈ wy_X0_gainOf := fun w h => List.mem_cons_of_mem _ (inG7 w h)
  have j101 : ∀ (t0 : Int32), m_X0_gainOf_b101  v_mover v_passed a_men a_table t0 = some rv → kv p l e rm_X0_gainOf s m ([.ref (qb 0), .int p0] : List Value).toArray below meth c D A 8 0 0 Q (wBo qb ql qw cI cJ v_mover v_rights v_passed v_halves v_number v_balance a_men a_kinds a_sides a_rays a_knights a_kings a_pawns a_table) [] 101 [.int t0] := by
    intro t0 h
    unfold m_X0_gainOf_b101 at h
    cases h
    exact hret _ _ dX0_gainOf_101 (fun q => by cases q)
  have j44 : ∀ (x2 : Int32) (x3 : Int32) (x4 : Int32) (x5 : Int32) (t0 : Int32), m_X0_gainOf_b44  v_mover v_passed a_men a_table x2 x3 x4 x5 t0 = some rv → kv p l e rm_X0_gainOf s m ([.ref (qb 0), .int p0] : List Value).toArray below meth c D A 8 0 0 Q (wBo qb ql qw cI cJ v_mover v_rights v_passed v_halves v_number v_balance a_men a_kinds a_sides a_rays a_knights a_kings a_pawns a_table) [(0, .ref (qb 0)), (2, .int x2), (3, .int x3), (4, .int x4), (5, .int x5)] 44 [.int t0] := by
    intro x2 x3 x4 x5 t0 h
    unfold m_X0_gainOf_b44 at h
    refine kv_istore C (lv2 := [(0, .ref (qb 0)), (2, .int x2), (3, .int x3), (4, .int x4), (5, .int x5), (6, .int t0)]) [1, 2, 3, 4, 5, 0] dX0_gainOf_44 (by decide) rfl rfl ?_
    refine kv_aload_n C 0 dX0_gainOf_46 rfl rfl ?_
    refine kv_get C (Cn := RX0) (T := TX0) (N := 11) 0 1 hin0 rfl rfl (by decide) (C.ts _ (List.mem_cons_of_mem _ lf_RX0_15)) rfl rfl dX0_gainOf_47 ?_
    refine kv_iload C 5 dX0_gainOf_50 rfl ?_
    refine kv_iload_n C 2 dX0_gainOf_52 rfl rfl ?_
    obtain ⟨r_1, hm_2, h⟩ := ob_e h
    refine kv_eVi (ws2 := (wBo qb ql qw cI cJ v_mover v_rights v_passed v_halves v_number v_balance a_men a_kinds a_sides a_rays a_knights a_kings a_pawns a_table)) C hJ [.int t0, .int x3] 0 (c_X7_forWhite l D qw cI tq a_table t0 x3 r_1 hm_2) (cv_X7_forWhite C.ts lm_RX0_68 ⟨Nat.le_of_ble_eq_true rfl, Nat.le_of_ble_eq_true rfl⟩) rfl rfl [9, 10] [0, 1, 2, 3, 4, 5, 6, 7, 8] [0] [0, 1, 2, 3, 4, 5, 6, 7, 8, 9, 10] rfl rfl rfl rfl rfl (by decide) rfl rfl rfl (Nat.le_of_ble_eq_true rfl) dX0_gainOf_53 ⟨Nat.zero_le _, Nat.zero_le _⟩ rfl rfl rfl ?_
    refine kv_aload_n C 0 dX0_gainOf_56 rfl rfl ?_
    refine kv_get C (Cn := RX0) (T := TX0) (N := 11) 0 1 hin0 rfl rfl (by decide) (C.ts _ (List.mem_cons_of_mem _ lf_RX0_15)) rfl rfl dX0_gainOf_57 ?_
    refine kv_iload C 4 dX0_gainOf_60 rfl ?_
    refine kv_iload_n C 1 dX0_gainOf_62 rfl rfl ?_
    obtain ⟨r_3, hm_4, h⟩ := ob_e h
    refine kv_eVi (ws2 := (wBo qb ql qw cI cJ v_mover v_rights v_passed v_halves v_number v_balance a_men a_kinds a_sides a_rays a_knights a_kings a_pawns a_table)) C hJ [.int x5, .int x2] 0 (c_X7_forWhite l D qw cI tq a_table x5 x2 r_3 hm_4) (cv_X7_forWhite C.ts lm_RX0_68 ⟨Nat.le_of_ble_eq_true rfl, Nat.le_of_ble_eq_true rfl⟩) rfl rfl [9, 10] [0, 1, 2, 3, 4, 5, 6, 7, 8] [0] [0, 1, 2, 3, 4, 5, 6, 7, 8, 9, 10] rfl rfl rfl rfl rfl (by decide) rfl rfl rfl (Nat.le_of_ble_eq_true rfl) dX0_gainOf_63 ⟨Nat.zero_le _, Nat.zero_le _⟩ rfl rfl rfl ?_
    refine kv_isub C dX0_gainOf_66 ?_
    refine kv_aload_n C 0 dX0_gainOf_67 rfl rfl ?_
    refine kv_get C (Cn := RX0) (T := TX0) (N := 11) 0 1 hin0 rfl rfl (by decide) (C.ts _ (List.mem_cons_of_mem _ lf_RX0_15)) rfl rfl dX0_gainOf_68 ?_
    refine kv_aload_n C 0 dX0_gainOf_71 rfl rfl ?_
    refine kv_get C (Cn := RX0) (T := TX0) (N := 11) 0 2 hin0 rfl rfl (by decide) (C.ts _ (List.mem_cons_of_mem _ lf_RX0_19)) rfl rfl dX0_gainOf_72 ?_
    refine kv_iload C 3 dX0_gainOf_75 rfl ?_
    obtain ⟨g_5, h⟩ := oin_e h
    refine kv_iald C 1 0 rfl rfl g_5 dX0_gainOf_77 ?_
    refine kv_iload C 3 dX0_gainOf_78 rfl ?_
    obtain ⟨r_6, hm_7, h⟩ := ob_e h
    refine kv_eVi (ws2 := (wBo qb ql qw cI cJ v_mover v_rights v_passed v_halves v_number v_balance a_men a_kinds a_sides a_rays a_knights a_kings a_pawns a_table)) C hJ [.int (a_men x4.toNatClampNeg), .int x4] 0 (c_X7_forWhite l D qw cI tq a_table (a_men x4.toNatClampNeg) x4 r_6 hm_7) (cv_X7_forWhite C.ts lm_RX0_68 ⟨Nat.le_of_ble_eq_true rfl, Nat.le_of_ble_eq_true rfl⟩) rfl rfl [9, 10] [0, 1, 2, 3, 4, 5, 6, 7, 8] [0] [0, 1, 2, 3, 4, 5, 6, 7, 8, 9, 10] rfl rfl rfl rfl rfl (by decide) rfl rfl rfl (Nat.le_of_ble_eq_true rfl) dX0_gainOf_80 ⟨Nat.zero_le _, Nat.zero_le _⟩ rfl rfl rfl ?_
    refine kv_isub C dX0_gainOf_83 ?_
    obtain ⟨x7_8, ex7_8, h⟩ := ol_e h
    refine kv_top ex7_8 ?_
    refine kv_istore C (lv2 := [(0, .ref (qb 0)), (7, .int x7_8)]) [1, 0] dX0_gainOf_84 (by decide) rfl rfl ?_
    refine kv_aload_n C 0 dX0_gainOf_86 rfl rfl ?_
    refine kv_get C (Cn := RX0) (T := TX0) (N := 11) 0 5 hin0 rfl rfl (by decide) (C.ts _ (List.mem_cons_of_mem _ lf_RX0_47)) rfl rfl dX0_gainOf_87 ?_
    refine kv_if_ne C 98 dX0_gainOf_90 (by decide) (fun c_9 => ?_) (fun c_9 => ?_)
    · have h := oi_f h c_9
      refine kv_iload C 1 dX0_gainOf_98 rfl ?_
      refine kv_ineg C dX0_gainOf_100 ?_
      exact kv_lv [] (lv2 := []) rfl (j101 (-x7_8) h)
    · have h := oi_t h c_9
      refine kv_iload C 1 dX0_gainOf_93 rfl ?_
      refine kv_goto C 101 dX0_gainOf_95 (by decide) ?_
      exact kv_lv [] (lv2 := []) rfl (j101 x7_8 h)
  unfold m_X0_gainOf at hm
  have h := hm
  refine kv_lv [0, 1] (lv2 := [(0, .ref (qb 0)), (1, .int p0)]) rfl ?_
  refine kv_iload_n C 1 dX0_gainOf_0 rfl rfl ?_
  obtain ⟨r_10, hm_11, h⟩ := ob_e h
  refine kv_SN0i C [.int p0] (c_X9_fromOf l D p0 r_10 hm_11) (cn_X9_fromOf C.ts (hJ.1 _ (List.mem_of_getElem? (i := 9) rfl)) ⟨Nat.le_of_ble_eq_true rfl, Nat.le_of_ble_eq_true rfl⟩) rfl rfl (Nat.le_of_ble_eq_true rfl) dX0_gainOf_1 ⟨Nat.zero_le _, Nat.zero_le _⟩ ?_
  refine kv_istore_n C (lv2 := [(0, .ref (qb 0)), (1, .int p0), (2, .int r_10)]) [1, 2, 0] dX0_gainOf_4 rfl (by decide) rfl rfl ?_
  refine kv_iload_n C 1 dX0_gainOf_5 rfl rfl ?_
  obtain ⟨r_12, hm_13, h⟩ := ob_e h
  refine kv_SN0i C [.int p0] (c_X9_toOf l D p0 r_12 hm_13) (cn_X9_toOf C.ts (hJ.1 _ (List.mem_of_getElem? (i := 8) rfl)) ⟨Nat.le_of_ble_eq_true rfl, Nat.le_of_ble_eq_true rfl⟩) rfl rfl (Nat.le_of_ble_eq_true rfl) dX0_gainOf_6 ⟨Nat.zero_le _, Nat.zero_le _⟩ ?_
  refine kv_istore_n C (lv2 := [(0, .ref (qb 0)), (1, .int p0), (2, .int r_10), (3, .int r_12)]) [1, 2, 3, 0] dX0_gainOf_9 rfl (by decide) rfl rfl ?_
  refine kv_aload_n C 0 dX0_gainOf_10 rfl rfl ?_
  refine kv_iload_n C 1 dX0_gainOf_11 rfl rfl ?_
  obtain ⟨r_14, hm_15, h⟩ := ob_e h
  refine kv_eVi (ws2 := (wBo qb ql qw cI cJ v_mover v_rights v_passed v_halves v_number v_balance a_men a_kinds a_sides a_rays a_knights a_kings a_pawns a_table)) C hJ [.int p0] 0 (c_X0_takesOn l D qb ql qw cI cJ tq v_mover v_rights v_passed v_halves v_number v_balance a_men a_kinds a_sides a_rays a_knights a_kings a_pawns a_table p0 r_14 hm_15) (cv_X0_takesOn C.ts lm_RX0_123 ⟨Nat.le_of_ble_eq_true rfl, Nat.le_of_ble_eq_true rfl⟩) rfl rfl [0, 1, 2, 3, 4, 5, 6, 7, 8, 9, 10] [] [0, 1] [0, 1, 2, 3, 4, 5, 6, 7, 8, 9, 10] rfl rfl rfl rfl rfl (by decide) rfl rfl rfl (Nat.le_of_ble_eq_true rfl) dX0_gainOf_12 ⟨Nat.zero_le _, Nat.zero_le _⟩ rfl rfl rfl ?_
  refine kv_istore C (lv2 := [(0, .ref (qb 0)), (1, .int p0), (2, .int r_10), (3, .int r_12), (4, .int r_14)]) [1, 2, 3, 4, 0] dX0_gainOf_15 (by decide) rfl rfl ?_
  refine kv_aload_n C 0 dX0_gainOf_17 rfl rfl ?_
  refine kv_get C (Cn := RX0) (T := TX0) (N := 11) 0 2 hin0 rfl rfl (by decide) (C.ts _ (List.mem_cons_of_mem _ lf_RX0_19)) rfl rfl dX0_gainOf_18 ?_
  refine kv_iload_n C 2 dX0_gainOf_21 rfl rfl ?_
  obtain ⟨g_16, h⟩ := oin_e h
  refine kv_iald C 1 0 rfl rfl g_16 dX0_gainOf_22 ?_
  obtain ⟨x5_17, ex5_17, h⟩ := ol_e h
  refine kv_top ex5_17 ?_
  refine kv_istore C (lv2 := [(0, .ref (qb 0)), (1, .int p0), (2, .int r_10), (3, .int r_12), (4, .int r_14), (5, .int x5_17)]) [1, 2, 3, 4, 5, 0] dX0_gainOf_23 (by decide) rfl rfl ?_
  refine kv_iload_n C 1 dX0_gainOf_25 rfl rfl ?_
  obtain ⟨r_18, hm_19, h⟩ := ob_e h
  refine kv_SN0i C [.int p0] (c_X9_becomesOf l D p0 r_18 hm_19) (cn_X9_becomesOf C.ts (hJ.1 _ (List.mem_of_getElem? (i := 12) rfl)) ⟨Nat.le_of_ble_eq_true rfl, Nat.le_of_ble_eq_true rfl⟩) rfl rfl (Nat.le_of_ble_eq_true rfl) dX0_gainOf_26 ⟨Nat.zero_le _, Nat.zero_le _⟩ ?_
  refine kv_if_ne C 37 dX0_gainOf_29 (by decide) (fun c_20 => ?_) (fun c_20 => ?_)
  · have h := oi_f h c_20
    refine kv_iload C 5 dX0_gainOf_37 rfl ?_
    refine kv_iload_n C 1 dX0_gainOf_39 rfl rfl ?_
    obtain ⟨r_21, hm_22, h⟩ := ob_e h
    refine kv_SN0i C [.int p0] (c_X9_becomesOf l D p0 r_21 hm_22) (cn_X9_becomesOf C.ts (hJ.1 _ (List.mem_of_getElem? (i := 12) rfl)) ⟨Nat.le_of_ble_eq_true rfl, Nat.le_of_ble_eq_true rfl⟩) rfl rfl (Nat.le_of_ble_eq_true rfl) dX0_gainOf_40 ⟨Nat.zero_le _, Nat.zero_le _⟩ ?_
    refine kv_imul C dX0_gainOf_43 ?_
    exact kv_lv [0, 2, 3, 4, 5] (lv2 := [(0, .ref (qb 0)), (2, .int r_10), (3, .int r_12), (4, .int r_14), (5, .int x5_17)]) rfl (j44 r_10 r_12 r_14 x5_17 (x5_17 * r_21) h)
  · have h := oi_t h c_20
    refine kv_iload C 5 dX0_gainOf_32 rfl ?_
    refine kv_goto C 44 dX0_gainOf_34 (by decide) ?_
    exact kv_lv [0, 2, 3, 4, 5] (lv2 := [(0, .ref (qb 0)), (2, .int r_10), (3, .int r_12), (4, .int r_14), (5, .int x5_17)]) rfl (j44 r_10 r_12 r_14 x5_17 x5_17 h)
def m_X0_isFifty_b14 (v_halves : Int32) (t0 : Int32) : Option (Int32) := obl (t0) (some t0)
def m_X0_isFifty (v_halves : Int32) : Option (Int32) := if v_halves < 100 then m_X0_isFifty_b14 v_halves 0 else m_X0_isFifty_b14 v_halves 1
abbrev rm_X0_isFifty : Room := { frames := 0, cells := 0, slots := 0, locals := 0 }
abbrev wy_X0_isFifty : List Cond := .code yX0_isFifty cX0_isFifty 1 (some .boolean) :: gT
theorem cv_X0_isFifty {R : Room} {s : State} {args : Array Value} {own : String} {index : Nat} {w0 : Cond} (hts : ∀ w ∈ w0 :: gT, w.before args s = true) (hl : Cond.methodLink own index yX0_isFifty ∈ gT) (hR : 0 + 1 ≤ R.frames ∧ 8 + (1 + 11) + 0 ≤ R.locals) : CallW R s args own RX0 index yX0_isFifty cX0_isFifty 1 (some .boolean) wy_X0_isFifty rm_X0_isFifty 0 0 0 :=
  cwV 0 hts (gT_call w0 (pre := [.methodLink own index yX0_isFifty, .instanceMethod yX0_isFifty, .selects RX0 yX0_isFifty yX0_isFifty, .initialized RX0]) (gT_lc hl (gT_lc ly_yX0_isFifty (gT_lc lx_yX0_isFifty (gT_l1 li_RX0)))) lc_yX0_isFifty) rfl rfl rfl (by decide +kernel) hR
set_option maxRecDepth 100000 in
set_option maxHeartbeats 4000000 in
theorem c_X0_isFifty (l : Launch) (D : va_G) (qb : Nat → Nat) (ql : Nat → Nat) (qw : Nat → Nat) (cI : ClassId) (cJ : ClassId) (tq : Nat → Nat) (v_mover : Int32) (v_rights : Int32) (v_passed : Int32) (v_halves : Int32) (v_number : Int32) (v_balance : Int32) (a_men : Nat → Int32) (a_kinds : Nat → Int64) (a_sides : Nat → Int64) (a_rays : Nat → Int64) (a_knights : Nat → Int64) (a_kings : Nat → Int64) (a_pawns : Nat → Int64) (a_table : Nat → Int32) (rv : Int32) (hm : m_X0_isFifty v_halves = some rv) : kEi l yX0_isFifty wy_X0_isFifty rm_X0_isFifty D [(cI, .int), (cJ, .long)] tq rv (wBo qb ql qw cI cJ v_mover v_rights v_passed v_halves v_number v_balance a_men a_kinds a_sides a_rays a_knights a_kings a_pawns a_table) (wBo qb ql qw cI cJ v_mover v_rights v_passed v_halves v_number v_balance a_men a_kinds a_sides a_rays a_knights a_kings a_pawns a_table) [.ref (qb 0)] := by
  refine kEi.of cX0_isFifty 1 (some .boolean) (by decide) rfl (Or.inr rfl) (Nat.le_of_ble_eq_true rfl) ?_
  intro p e s m below meth c A Q C hJ hret
  have hin0 : ∀ w ∈ wsX00, w ∈ wy_X0_isFifty := fun w h => List.mem_cons_of_mem _ (inG0 w h)
  have hin3 : ∀ w ∈ wsX30, w ∈ wy_X0_isFifty := fun w h => List.mem_cons_of_mem _ (inG3 w h)
  have hin7 : ∀ w ∈ wsX70, w ∈ wy_X0_isFifty := fun w h => List.mem_cons_of_mem _ (inG7 w h)
  have j14 : ∀ (t0 : Int32), m_X0_isFifty_b14  v_halves t0 = some rv → kv p l e rm_X0_isFifty s m ([.ref (qb 0)] : List Value).toArray below meth c D A 1 0 0 Q (wBo qb ql qw cI cJ v_mover v_rights v_passed v_halves v_number v_balance a_men a_kinds a_sides a_rays a_knights a_kings a_pawns a_table) [] 14 [.int t0] := by
    intro t0 h
    unfold m_X0_isFifty_b14 at h
    obtain ⟨g_1, h⟩ := obl_e h
    cases h
    exact hret _ _ dX0_isFifty_14 (fun _ => g_1)
  unfold m_X0_isFifty at hm
  have h := hm
  refine kv_lv [0] (lv2 := [(0, .ref (qb 0))]) rfl ?_
  refine kv_aload_n C 0 dX0_isFifty_0 rfl rfl ?_
  refine kv_get C (Cn := RX0) (T := TX0) (N := 11) 0 8 hin0 rfl rfl (by decide) (C.ts _ (List.mem_cons_of_mem _ lf_RX0_50)) rfl rfl dX0_isFifty_1 ?_
  refine kv_bipush C 100 dX0_isFifty_4 (by decide) ?_
  refine kv_icmp_lt C 13 dX0_isFifty_6 (by decide) (fun c_2 => ?_) (fun c_2 => ?_)
  · have h := oi_t h c_2
    refine kv_iconst C 0 dX0_isFifty_13 (by decide) ?_
    exact kv_lv [] (lv2 := []) rfl (j14 0 h)
  · have h := oi_f h c_2
    refine kv_iconst C 1 dX0_isFifty_9 (by decide) ?_
    refine kv_goto C 14 dX0_isFifty_10 (by decide) ?_
    exact kv_lv [] (lv2 := []) rfl (j14 1 h)
def m_X0_isBare_b103 (a_kinds : Nat → Int64) (t0 : Int32) : Option (Int32) := obl (t0) (some t0)
def m_X0_isBare_b98 (a_kinds : Nat → Int64) : Option (Int32) := m_X0_isBare_b103 a_kinds 1
def m_X0_isBare_b67 (a_kinds : Nat → Int64) (t0 : Int32) : Option (Int32) := obl (t0) (some t0)
def m_X0_isBare_b66 (a_kinds : Nat → Int64) : Option (Int32) := m_X0_isBare_b67 a_kinds 0
def m_X0_isBare (a_kinds : Nat → Int64) : Option (Int32) := if (lg_cmp (((a_kinds (Int32.toNatClampNeg 1)) ||| (a_kinds (Int32.toNatClampNeg 4))) ||| (a_kinds (Int32.toNatClampNeg 5))) 0) = 0 then if (lg_cmp (a_kinds (Int32.toNatClampNeg 2)) 0) = 0 then if (lg_cmp ((a_kinds (Int32.toNatClampNeg 3)) &&& (-6172840429334713771)) 0) = 0 then m_X0_isBare_b98 a_kinds else if (lg_cmp ((a_kinds (Int32.toNatClampNeg 3)) &&& 6172840429334713770) 0) = 0 then m_X0_isBare_b98 a_kinds else m_X0_isBare_b103 a_kinds 0 else if (lg_cmp (a_kinds (Int32.toNatClampNeg 3)) 0) = 0 then ob (m_J13_bitCount_95d88 (a_kinds (Int32.toNatClampNeg 2))) fun r_8 => if r_8 = 1 then m_X0_isBare_b67 a_kinds 1 else m_X0_isBare_b66 a_kinds else m_X0_isBare_b66 a_kinds else obl (0) (some 0)
abbrev rm_X0_isBare : Room := { frames := 1, cells := 0, slots := 0, locals := 21 }
abbrev wy_X0_isBare : List Cond := .code yX0_isBare cX0_isBare 1 (some .boolean) :: gT
theorem cv_X0_isBare {R : Room} {s : State} {args : Array Value} {own : String} {index : Nat} {w0 : Cond} (hts : ∀ w ∈ w0 :: gT, w.before args s = true) (hl : Cond.methodLink own index yX0_isBare ∈ gT) (hR : 1 + 1 ≤ R.frames ∧ 8 + (1 + 11) + 21 ≤ R.locals) : CallW R s args own RX0 index yX0_isBare cX0_isBare 1 (some .boolean) wy_X0_isBare rm_X0_isBare 0 0 0 :=
  cwV 0 hts (gT_call w0 (pre := [.methodLink own index yX0_isBare, .instanceMethod yX0_isBare, .selects RX0 yX0_isBare yX0_isBare, .initialized RX0]) (gT_lc hl (gT_lc ly_yX0_isBare (gT_lc lx_yX0_isBare (gT_l1 li_RX0)))) lc_yX0_isBare) rfl rfl rfl (by decide +kernel) hR
set_option maxRecDepth 100000 in
set_option maxHeartbeats 4000000 in
theorem c_X0_isBare (l : Launch) (D : va_G) (qb : Nat → Nat) (ql : Nat → Nat) (qw : Nat → Nat) (cI : ClassId) (cJ : ClassId) (tq : Nat → Nat) (v_mover : Int32) (v_rights : Int32) (v_passed : Int32) (v_halves : Int32) (v_number : Int32) (v_balance : Int32) (a_men : Nat → Int32) (a_kinds : Nat → Int64) (a_sides : Nat → Int64) (a_rays : Nat → Int64) (a_knights : Nat → Int64) (a_kings : Nat → Int64) (a_pawns : Nat → Int64) (a_table : Nat → Int32) (rv : Int32) (hm : m_X0_isBare a_kinds = some rv) : kEi l yX0_isBare wy_X0_isBare rm_X0_isBare D [(cI, .int), (cJ, .long)] tq rv (wBo qb ql qw cI cJ v_mover v_rights v_passed v_halves v_number v_balance a_men a_kinds a_sides a_rays a_knights a_kings a_pawns a_table) (wBo qb ql qw cI cJ v_mover v_rights v_passed v_halves v_number v_balance a_men a_kinds a_sides a_rays a_knights a_kings a_pawns a_table) [.ref (qb 0)] := by
  refine kEi.of cX0_isBare 1 (some .boolean) (by decide) rfl (Or.inr rfl) (Nat.le_of_ble_eq_true rfl) ?_
  intro p e s m below meth c A Q C hJ hret
  have hin0 : ∀ w ∈ wsX00, w ∈ wy_X0_isBare := fun w h => List.mem_cons_of_mem _ (inG0 w h)
  have hin3 : ∀ w ∈ wsX30, w ∈ wy_X0_isBare := fun w h => List.mem_cons_of_mem _ (inG3 w h)
  have hin7 : ∀ w ∈ wsX70, w ∈ wy_X0_isBare := fun w h => List.mem_cons_of_mem _ (inG7 w h)
  have j103 : ∀ (t0 : Int32), m_X0_isBare_b103  a_kinds t0 = some rv → kv p l e rm_X0_isBare s m ([.ref (qb 0)] : List Value).toArray below meth c D A 1 0 0 Q (wBo qb ql qw cI cJ v_mover v_rights v_passed v_halves v_number v_balance a_men a_kinds a_sides a_rays a_knights a_kings a_pawns a_table) [] 103 [.int t0] := by
    intro t0 h
    unfold m_X0_isBare_b103 at h
    obtain ⟨g_1, h⟩ := obl_e h
    cases h
    exact hret _ _ dX0_isBare_103 (fun _ => g_1)
  have j98 : m_X0_isBare_b98  a_kinds  = some rv → kv p l e rm_X0_isBare s m ([.ref (qb 0)] : List Value).toArray below meth c D A 1 0 0 Q (wBo qb ql qw cI cJ v_mover v_rights v_passed v_halves v_number v_balance a_men a_kinds a_sides a_rays a_knights a_kings a_pawns a_table) [] 98 [] := by
    intro  h
    unfold m_X0_isBare_b98 at h
    refine kv_iconst C 1 dX0_isBare_98 (by decide) ?_
    refine kv_goto C 103 dX0_isBare_99 (by decide) ?_
    exact kv_lv [] (lv2 := []) rfl (j103 1 h)
  have j67 : ∀ (t0 : Int32), m_X0_isBare_b67  a_kinds t0 = some rv → kv p l e rm_X0_isBare s m ([.ref (qb 0)] : List Value).toArray below meth c D A 1 0 0 Q (wBo qb ql qw cI cJ v_mover v_rights v_passed v_halves v_number v_balance a_men a_kinds a_sides a_rays a_knights a_kings a_pawns a_table) [] 67 [.int t0] := by
    intro t0 h
    unfold m_X0_isBare_b67 at h
    obtain ⟨g_2, h⟩ := obl_e h
    cases h
    exact hret _ _ dX0_isBare_67 (fun _ => g_2)
  have j66 : m_X0_isBare_b66  a_kinds  = some rv → kv p l e rm_X0_isBare s m ([.ref (qb 0)] : List Value).toArray below meth c D A 1 0 0 Q (wBo qb ql qw cI cJ v_mover v_rights v_passed v_halves v_number v_balance a_men a_kinds a_sides a_rays a_knights a_kings a_pawns a_table) [] 66 [] := by
    intro  h
    unfold m_X0_isBare_b66 at h
    refine kv_iconst C 0 dX0_isBare_66 (by decide) ?_
    exact kv_lv [] (lv2 := []) rfl (j67 0 h)
  unfold m_X0_isBare at hm
  have h := hm
  refine kv_lv [0] (lv2 := [(0, .ref (qb 0))]) rfl ?_
  refine kv_aload_n C 0 dX0_isBare_0 rfl rfl ?_
  refine kv_get C (Cn := RX0) (T := TX0) (N := 11) 0 3 hin0 rfl rfl (by decide) (C.ts _ (List.mem_cons_of_mem _ lf_RX0_23)) rfl rfl dX0_isBare_1 ?_
  refine kv_iconst C 1 dX0_isBare_4 (by decide) ?_
  refine kv_lald C 2 1 rfl rfl (by unfold vp_in; decide) dX0_isBare_5 ?_
  refine kv_aload_n C 0 dX0_isBare_6 rfl rfl ?_
  refine kv_get C (Cn := RX0) (T := TX0) (N := 11) 0 3 hin0 rfl rfl (by decide) (C.ts _ (List.mem_cons_of_mem _ lf_RX0_23)) rfl rfl dX0_isBare_7 ?_
  refine kv_iconst C 4 dX0_isBare_10 (by decide) ?_
  refine kv_lald C 2 1 rfl rfl (by unfold vp_in; decide) dX0_isBare_11 ?_
  refine kv_lor C dX0_isBare_12 ?_
  refine kv_aload_n C 0 dX0_isBare_13 rfl rfl ?_
  refine kv_get C (Cn := RX0) (T := TX0) (N := 11) 0 3 hin0 rfl rfl (by decide) (C.ts _ (List.mem_cons_of_mem _ lf_RX0_23)) rfl rfl dX0_isBare_14 ?_
  refine kv_iconst C 5 dX0_isBare_17 (by decide) ?_
  refine kv_lald C 2 1 rfl rfl (by unfold vp_in; decide) dX0_isBare_18 ?_
  refine kv_lor C dX0_isBare_19 ?_
  refine kv_lconst C 0 dX0_isBare_20 (by decide) ?_
  refine kv_lcmp C dX0_isBare_21 ?_
  refine kv_if_eq C 27 dX0_isBare_22 (by decide) (fun c_3 => ?_) (fun c_3 => ?_)
  · have h := oi_t h c_3
    refine kv_aload_n C 0 dX0_isBare_27 rfl rfl ?_
    refine kv_get C (Cn := RX0) (T := TX0) (N := 11) 0 3 hin0 rfl rfl (by decide) (C.ts _ (List.mem_cons_of_mem _ lf_RX0_23)) rfl rfl dX0_isBare_28 ?_
    refine kv_iconst C 2 dX0_isBare_31 (by decide) ?_
    refine kv_lald C 2 1 rfl rfl (by unfold vp_in; decide) dX0_isBare_32 ?_
    refine kv_lconst C 0 dX0_isBare_33 (by decide) ?_
    refine kv_lcmp C dX0_isBare_34 ?_
    refine kv_if_eq C 68 dX0_isBare_35 (by decide) (fun c_4 => ?_) (fun c_4 => ?_)
    · have h := oi_t h c_4
      refine kv_aload_n C 0 dX0_isBare_68 rfl rfl ?_
      refine kv_get C (Cn := RX0) (T := TX0) (N := 11) 0 3 hin0 rfl rfl (by decide) (C.ts _ (List.mem_cons_of_mem _ lf_RX0_23)) rfl rfl dX0_isBare_69 ?_
      refine kv_iconst C 3 dX0_isBare_72 (by decide) ?_
      refine kv_lald C 2 1 rfl rfl (by unfold vp_in; decide) dX0_isBare_73 ?_
      refine kv_ldc2 C (C.ts _ (List.mem_cons_of_mem _ lkl_RX0_129)) dX0_isBare_74 ?_
      refine kv_land C dX0_isBare_77 ?_
      refine kv_lconst C 0 dX0_isBare_78 (by decide) ?_
      refine kv_lcmp C dX0_isBare_79 ?_
      refine kv_if_eq C 98 dX0_isBare_80 (by decide) (fun c_5 => ?_) (fun c_5 => ?_)
      · have h := oi_t h c_5
        exact kv_lv [] (lv2 := []) rfl (j98  h)
      · have h := oi_f h c_5
        refine kv_aload_n C 0 dX0_isBare_83 rfl rfl ?_
        refine kv_get C (Cn := RX0) (T := TX0) (N := 11) 0 3 hin0 rfl rfl (by decide) (C.ts _ (List.mem_cons_of_mem _ lf_RX0_23)) rfl rfl dX0_isBare_84 ?_
        refine kv_iconst C 3 dX0_isBare_87 (by decide) ?_
        refine kv_lald C 2 1 rfl rfl (by unfold vp_in; decide) dX0_isBare_88 ?_
        refine kv_ldc2 C (C.ts _ (List.mem_cons_of_mem _ lkl_RX0_131)) dX0_isBare_89 ?_
        refine kv_land C dX0_isBare_92 ?_
        refine kv_lconst C 0 dX0_isBare_93 (by decide) ?_
        refine kv_lcmp C dX0_isBare_94 ?_
        refine kv_if_ne C 102 dX0_isBare_95 (by decide) (fun c_6 => ?_) (fun c_6 => ?_)
        · have h := oi_f h c_6
          refine kv_iconst C 0 dX0_isBare_102 (by decide) ?_
          exact kv_lv [] (lv2 := []) rfl (j103 0 h)
        · have h := oi_t h c_6
          exact kv_lv [] (lv2 := []) rfl (j98  h)
    · have h := oi_f h c_4
      refine kv_aload_n C 0 dX0_isBare_38 rfl rfl ?_
      refine kv_get C (Cn := RX0) (T := TX0) (N := 11) 0 3 hin0 rfl rfl (by decide) (C.ts _ (List.mem_cons_of_mem _ lf_RX0_23)) rfl rfl dX0_isBare_39 ?_
      refine kv_iconst C 3 dX0_isBare_42 (by decide) ?_
      refine kv_lald C 2 1 rfl rfl (by unfold vp_in; decide) dX0_isBare_43 ?_
      refine kv_lconst C 0 dX0_isBare_44 (by decide) ?_
      refine kv_lcmp C dX0_isBare_45 ?_
      refine kv_if_ne C 66 dX0_isBare_46 (by decide) (fun c_7 => ?_) (fun c_7 => ?_)
      · have h := oi_f h c_7
        exact kv_lv [] (lv2 := []) rfl (j66  h)
      · have h := oi_t h c_7
        refine kv_aload_n C 0 dX0_isBare_49 rfl rfl ?_
        refine kv_get C (Cn := RX0) (T := TX0) (N := 11) 0 3 hin0 rfl rfl (by decide) (C.ts _ (List.mem_cons_of_mem _ lf_RX0_23)) rfl rfl dX0_isBare_50 ?_
        refine kv_iconst C 2 dX0_isBare_53 (by decide) ?_
        refine kv_lald C 2 1 rfl rfl (by unfold vp_in; decide) dX0_isBare_54 ?_
        obtain ⟨r_8, hm_9, h⟩ := ob_e h
        refine kv_callS0i C [.long (a_kinds (Int32.toNatClampNeg 2))] (c_J13_bitCount_95d88 l D (a_kinds (Int32.toNatClampNeg 2)) r_8 hm_9) (cs_J13_bitCount_95d88 C.ts lm_RX0_112 ⟨Nat.le_of_ble_eq_true rfl, Nat.le_of_ble_eq_true rfl⟩) rfl rfl (Nat.le_of_ble_eq_true rfl) dX0_isBare_55 ⟨Nat.zero_le _, Nat.zero_le _⟩ ?_
        refine kv_iconst C 1 dX0_isBare_58 (by decide) ?_
        refine kv_icmp_ne C 66 dX0_isBare_59 (by decide) (fun c_10 => ?_) (fun c_10 => ?_)
        · have h := oi_f h c_10
          exact kv_lv [] (lv2 := []) rfl (j66  h)
        · have h := oi_t h c_10
          refine kv_iconst C 1 dX0_isBare_62 (by decide) ?_
          refine kv_goto C 67 dX0_isBare_63 (by decide) ?_
          exact kv_lv [] (lv2 := []) rfl (j67 1 h)
  · have h := oi_f h c_3
    refine kv_iconst C 0 dX0_isBare_25 (by decide) ?_
    obtain ⟨g_11, h⟩ := obl_e h
    cases h
    exact hret _ _ dX0_isBare_26 (fun _ => g_11)
def m_X0_clear_b23 (k23 : Int32 → Int32 → Int32 → Int32 → Int32 → Int32 → (Nat → Int32) → (Nat → Int64) → (Nat → Int64) → Int32 → Option (Int32 × Int32 × Int32 × Int32 × Int32 × Int32 × (Nat → Int32) × (Nat → Int64) × (Nat → Int64))) (v_mover : Int32) (v_rights : Int32) (v_passed : Int32) (v_halves : Int32) (v_number : Int32) (v_balance : Int32) (a_men : Nat → Int32) (a_kinds : Nat → Int64) (a_sides : Nat → Int64) (x1 : Int32) : Option (Int32 × Int32 × Int32 × Int32 × Int32 × Int32 × (Nat → Int32) × (Nat → Int64) × (Nat → Int64)) := if 7 ≤ x1 then ol (vp_updL a_sides (Int32.toNatClampNeg 0) 0) fun a_sides_2 => ol (vp_updL a_sides_2 (Int32.toNatClampNeg 1) 0) fun a_sides_3 => some (0, 0, (-1), 0, 1, 0, a_men, a_kinds, a_sides_3) else oin (x1) 7 (ol (vp_updL a_kinds (x1.toNatClampNeg) 0) fun a_kinds_5 => ol (x1 + 1) fun x1_6 => k23 v_mover v_rights v_passed v_halves v_number v_balance a_men a_kinds_5 a_sides x1_6)
def m_X0_clear_l23 (n : Nat) : Int32 → Int32 → Int32 → Int32 → Int32 → Int32 → (Nat → Int32) → (Nat → Int64) → (Nat → Int64) → Int32 → Option (Int32 × Int32 × Int32 × Int32 × Int32 × Int32 × (Nat → Int32) × (Nat → Int64) × (Nat → Int64)) := fz (fun _ _ _ _ _ _ _ _ _ _ => none) (fun k23 v_mover v_rights v_passed v_halves v_number v_balance a_men a_kinds a_sides x1 => m_X0_clear_b23 k23 v_mover v_rights v_passed v_halves v_number v_balance a_men a_kinds a_sides x1) n
def m_X0_clear_b2 (k2 : Int32 → Int32 → Int32 → Int32 → Int32 → Int32 → (Nat → Int32) → (Nat → Int64) → (Nat → Int64) → Int32 → Option (Int32 × Int32 × Int32 × Int32 × Int32 × Int32 × (Nat → Int32) × (Nat → Int64) × (Nat → Int64))) (v_mover : Int32) (v_rights : Int32) (v_passed : Int32) (v_halves : Int32) (v_number : Int32) (v_balance : Int32) (a_men : Nat → Int32) (a_kinds : Nat → Int64) (a_sides : Nat → Int64) (x1 : Int32) : Option (Int32 × Int32 × Int32 × Int32 × Int32 × Int32 × (Nat → Int32) × (Nat → Int64) × (Nat → Int64)) := if 64 ≤ x1 then m_X0_clear_l23 kF v_mover v_rights v_passed v_halves v_number v_balance a_men a_kinds a_sides 0 else oin (x1) 64 (ol (upd a_men (x1.toNatClampNeg) 0) fun a_men_9 => ol (x1 + 1) fun x1_10 => k2 v_mover v_rights v_passed v_halves v_number v_balance a_men_9 a_kinds a_sides x1_10)
def m_X0_clear_l2 (n : Nat) : Int32 → Int32 → Int32 → Int32 → Int32 → Int32 → (Nat → Int32) → (Nat → Int64) → (Nat → Int64) → Int32 → Option (Int32 × Int32 × Int32 × Int32 × Int32 × Int32 × (Nat → Int32) × (Nat → Int64) × (Nat → Int64)) := fz (fun _ _ _ _ _ _ _ _ _ _ => none) (fun k2 v_mover v_rights v_passed v_halves v_number v_balance a_men a_kinds a_sides x1 => m_X0_clear_b2 k2 v_mover v_rights v_passed v_halves v_number v_balance a_men a_kinds a_sides x1) n
def m_X0_clear (v_mover : Int32) (v_rights : Int32) (v_passed : Int32) (v_halves : Int32) (v_number : Int32) (v_balance : Int32) (a_men : Nat → Int32) (a_kinds : Nat → Int64) (a_sides : Nat → Int64) : Option (Int32 × Int32 × Int32 × Int32 × Int32 × Int32 × (Nat → Int32) × (Nat → Int64) × (Nat → Int64)) := m_X0_clear_l2 kF v_mover v_rights v_passed v_halves v_number v_balance a_men a_kinds a_sides 0
abbrev rm_X0_clear : Room := { frames := 0, cells := 0, slots := 0, locals := 0 }
abbrev wy_X0_clear : List Cond := .code yX0_clear cX0_clear 2 none :: gT
theorem cv_X0_clear {R : Room} {s : State} {args : Array Value} {own : String} {index : Nat} {w0 : Cond} (hts : ∀ w ∈ w0 :: gT, w.before args s = true) (hl : Cond.methodLink own index yX0_clear ∈ gT) (hR : 0 + 1 ≤ R.frames ∧ 8 + (2 + 11) + 0 ≤ R.locals) : CallW R s args own RX0 index yX0_clear cX0_clear 2 none wy_X0_clear rm_X0_clear 0 0 0 :=
  cwV 0 hts (gT_call w0 (pre := [.methodLink own index yX0_clear, .instanceMethod yX0_clear, .selects RX0 yX0_clear yX0_clear, .initialized RX0]) (gT_lc hl (gT_lc ly_yX0_clear (gT_lc lx_yX0_clear (gT_l1 li_RX0)))) lc_yX0_clear) rfl rfl rfl (by decide +kernel) hR
set_option maxRecDepth 100000 in
set_option maxHeartbeats 4000000 in
theorem c_X0_clear (l : Launch) (D : va_G) (qb : Nat → Nat) (ql : Nat → Nat) (qw : Nat → Nat) (cI : ClassId) (cJ : ClassId) (tq : Nat → Nat) (v_mover : Int32) (v_rights : Int32) (v_passed : Int32) (v_halves : Int32) (v_number : Int32) (v_balance : Int32) (a_men : Nat → Int32) (a_kinds : Nat → Int64) (a_sides : Nat → Int64) (a_rays : Nat → Int64) (a_knights : Nat → Int64) (a_kings : Nat → Int64) (a_pawns : Nat → Int64) (a_table : Nat → Int32) (v_mover' : Int32) (v_rights' : Int32) (v_passed' : Int32) (v_halves' : Int32) (v_number' : Int32) (v_balance' : Int32) (a_men' : Nat → Int32) (a_kinds' : Nat → Int64) (a_sides' : Nat → Int64) (hm : m_X0_clear v_mover v_rights v_passed v_halves v_number v_balance a_men a_kinds a_sides = some (v_mover', v_rights', v_passed', v_halves', v_number', v_balance', a_men', a_kinds', a_sides')) : kEv l yX0_clear wy_X0_clear rm_X0_clear D [(cI, .int), (cJ, .long)] tq (wBo qb ql qw cI cJ v_mover v_rights v_passed v_halves v_number v_balance a_men a_kinds a_sides a_rays a_knights a_kings a_pawns a_table) (wBo qb ql qw cI cJ v_mover' v_rights' v_passed' v_halves' v_number' v_balance' a_men' a_kinds' a_sides' a_rays a_knights a_kings a_pawns a_table) [.ref (qb 0)] := by
  refine kEv.of cX0_clear 2 none (by decide) rfl rfl (Nat.le_of_ble_eq_true rfl) ?_
  intro p e s m below meth c A Q C hJ hret
  have hin0 : ∀ w ∈ wsX00, w ∈ wy_X0_clear := fun w h => List.mem_cons_of_mem _ (inG0 w h)
  have hin3 : ∀ w ∈ wsX30, w ∈ wy_X0_clear := fun w h => List.mem_cons_of_mem _ (inG3 w h)
  have hin7 : ∀ w ∈ wsX70, w ∈ wy_X0_clear := fun w h => List.mem_cons_of_mem _ (inG7 w h)
  have l23 : ∀ (n23 : Nat) (v_mover : Int32) (v_rights : Int32) (v_passed : Int32) (v_halves : Int32) (v_number : Int32) (v_balance : Int32) (a_men : Nat → Int32) (a_kinds : Nat → Int64) (a_sides : Nat → Int64) (x1 : Int32), m_X0_clear_l23   n23 v_mover v_rights v_passed v_halves v_number v_balance a_men a_kinds a_sides x1 = some (v_mover', v_rights', v_passed', v_halves', v_number', v_balance', a_men', a_kinds', a_sides') → kv p l e rm_X0_clear s m ([.ref (qb 0)] : List Value).toArray below meth c D A 2 0 0 Q (wBo qb ql qw cI cJ v_mover v_rights v_passed v_halves v_number v_balance a_men a_kinds a_sides a_rays a_knights a_kings a_pawns a_table) [(0, .ref (qb 0)), (1, .int x1)] 23 [] := by
    intro n23
    induction n23 with
    | zero =>
      intro v_mover v_rights v_passed v_halves v_number v_balance a_men a_kinds a_sides x1 h
      exact kv_no h
    | succ n23 ih23 =>
      intro v_mover v_rights v_passed v_halves v_number v_balance a_men a_kinds a_sides x1 h
      replace h : m_X0_clear_b23  (m_X0_clear_l23   n23) v_mover v_rights v_passed v_halves v_number v_balance a_men a_kinds a_sides x1 = some (v_mover', v_rights', v_passed', v_halves', v_number', v_balance', a_men', a_kinds', a_sides') := h
      unfold m_X0_clear_b23 at h
      refine kv_iload_n C 1 dX0_clear_23 rfl rfl ?_
      refine kv_aload_n C 0 dX0_clear_24 rfl rfl ?_
      refine kv_get C (Cn := RX0) (T := TX0) (N := 11) 0 3 hin0 rfl rfl (by decide) (C.ts _ (List.mem_cons_of_mem _ lf_RX0_23)) rfl rfl dX0_clear_25 ?_
      refine kv_alen C (v := 7) 2 1 rfl rfl rfl dX0_clear_28 ?_
      refine kv_icmp_ge C 45 dX0_clear_29 (by decide) (fun c_1 => ?_) (fun c_1 => ?_)
      · have h := oi_t h c_1
        refine kv_aload_n C 0 dX0_clear_45 rfl rfl ?_
        refine kv_get C (Cn := RX0) (T := TX0) (N := 11) 0 4 hin0 rfl rfl (by decide) (C.ts _ (List.mem_cons_of_mem _ lf_RX0_27)) rfl rfl dX0_clear_46 ?_
        refine kv_iconst C 0 dX0_clear_49 (by decide) ?_
        refine kv_lconst C 0 dX0_clear_50 (by decide) ?_
        obtain ⟨a_sides_2, ea_sides_2, h⟩ := ol_e h
        refine kv_last2 C (ws1 := (wBo qb ql qw cI cJ v_mover v_rights v_passed v_halves v_number v_balance a_men a_kinds a_sides_2 a_rays a_knights a_kings a_pawns a_table)) 3 1 rfl rfl (by unfold vp_in; decide) ea_sides_2 rfl dX0_clear_51 ?_
        refine kv_aload_n C 0 dX0_clear_52 rfl rfl ?_
        refine kv_get C (Cn := RX0) (T := TX0) (N := 11) 0 4 hin0 rfl rfl (by decide) (C.ts _ (List.mem_cons_of_mem _ lf_RX0_27)) rfl rfl dX0_clear_53 ?_
        refine kv_iconst C 1 dX0_clear_56 (by decide) ?_
        refine kv_lconst C 0 dX0_clear_57 (by decide) ?_
        obtain ⟨a_sides_3, ea_sides_3, h⟩ := ol_e h
        refine kv_last2 C (ws1 := (wBo qb ql qw cI cJ v_mover v_rights v_passed v_halves v_number v_balance a_men a_kinds a_sides_3 a_rays a_knights a_kings a_pawns a_table)) 3 1 rfl rfl (by unfold vp_in; decide) ea_sides_3 rfl dX0_clear_58 ?_
        refine kv_aload_n C 0 dX0_clear_59 rfl rfl ?_
        refine kv_iconst C 0 dX0_clear_60 (by decide) ?_
        refine kv_put C (Cn := RX0) (T := TX0) (N := 11) (ty := .int) (ws1 := (wBo qb ql qw cI cJ 0 v_rights v_passed v_halves v_number v_balance a_men a_kinds a_sides_3 a_rays a_knights a_kings a_pawns a_table)) 0 5 hin0 tyX0 tyX0_ok nmX0 rfl rfl (by decide) (C.ts _ (List.mem_cons_of_mem _ lf_RX0_47)) rfl rfl (by decide +kernel) rfl rfl (Nat.le_of_ble_eq_true rfl) rfl dX0_clear_61 ?_
        refine kv_aload_n C 0 dX0_clear_64 rfl rfl ?_
        refine kv_iconst C 0 dX0_clear_65 (by decide) ?_
        refine kv_put C (Cn := RX0) (T := TX0) (N := 11) (ty := .int) (ws1 := (wBo qb ql qw cI cJ 0 0 v_passed v_halves v_number v_balance a_men a_kinds a_sides_3 a_rays a_knights a_kings a_pawns a_table)) 0 6 hin0 tyX0 tyX0_ok nmX0 rfl rfl (by decide) (C.ts _ (List.mem_cons_of_mem _ lf_RX0_44)) rfl rfl (by decide +kernel) rfl rfl (Nat.le_of_ble_eq_true rfl) rfl dX0_clear_66 ?_
        refine kv_aload_n C 0 dX0_clear_69 rfl rfl ?_
        refine kv_iconst C (-1) dX0_clear_70 (by decide) ?_
        refine kv_put C (Cn := RX0) (T := TX0) (N := 11) (ty := .int) (ws1 := (wBo qb ql qw cI cJ 0 0 (-1) v_halves v_number v_balance a_men a_kinds a_sides_3 a_rays a_knights a_kings a_pawns a_table)) 0 7 hin0 tyX0 tyX0_ok nmX0 rfl rfl (by decide) (C.ts _ (List.mem_cons_of_mem _ lf_RX0_30)) rfl rfl (by decide +kernel) rfl rfl (Nat.le_of_ble_eq_true rfl) rfl dX0_clear_71 ?_
        refine kv_aload_n C 0 dX0_clear_74 rfl rfl ?_
        refine kv_iconst C 0 dX0_clear_75 (by decide) ?_
        refine kv_put C (Cn := RX0) (T := TX0) (N := 11) (ty := .int) (ws1 := (wBo qb ql qw cI cJ 0 0 (-1) 0 v_number v_balance a_men a_kinds a_sides_3 a_rays a_knights a_kings a_pawns a_table)) 0 8 hin0 tyX0 tyX0_ok nmX0 rfl rfl (by decide) (C.ts _ (List.mem_cons_of_mem _ lf_RX0_50)) rfl rfl (by decide +kernel) rfl rfl (Nat.le_of_ble_eq_true rfl) rfl dX0_clear_76 ?_
        refine kv_aload_n C 0 dX0_clear_79 rfl rfl ?_
        refine kv_iconst C 1 dX0_clear_80 (by decide) ?_
        refine kv_put C (Cn := RX0) (T := TX0) (N := 11) (ty := .int) (ws1 := (wBo qb ql qw cI cJ 0 0 (-1) 0 1 v_balance a_men a_kinds a_sides_3 a_rays a_knights a_kings a_pawns a_table)) 0 9 hin0 tyX0 tyX0_ok nmX0 rfl rfl (by decide) (C.ts _ (List.mem_cons_of_mem _ lf_RX0_34)) rfl rfl (by decide +kernel) rfl rfl (Nat.le_of_ble_eq_true rfl) rfl dX0_clear_81 ?_
        refine kv_aload_n C 0 dX0_clear_84 rfl rfl ?_
        refine kv_iconst C 0 dX0_clear_85 (by decide) ?_
        refine kv_put C (Cn := RX0) (T := TX0) (N := 11) (ty := .int) (ws1 := (wBo qb ql qw cI cJ 0 0 (-1) 0 1 0 a_men a_kinds a_sides_3 a_rays a_knights a_kings a_pawns a_table)) 0 10 hin0 tyX0 tyX0_ok nmX0 rfl rfl (by decide) (C.ts _ (List.mem_cons_of_mem _ lf_RX0_53)) rfl rfl (by decide +kernel) rfl rfl (Nat.le_of_ble_eq_true rfl) rfl dX0_clear_86 ?_
        cases h
        exact hret _ _ dX0_clear_89
      · have h := oi_f h c_1
        refine kv_aload_n C 0 dX0_clear_32 rfl rfl ?_
        refine kv_get C (Cn := RX0) (T := TX0) (N := 11) 0 3 hin0 rfl rfl (by decide) (C.ts _ (List.mem_cons_of_mem _ lf_RX0_23)) rfl rfl dX0_clear_33 ?_
        refine kv_iload_n C 1 dX0_clear_36 rfl rfl ?_
        refine kv_lconst C 0 dX0_clear_37 (by decide) ?_
        obtain ⟨g_4, h⟩ := oin_e h
        obtain ⟨a_kinds_5, ea_kinds_5, h⟩ := ol_e h
        refine kv_last2 C (ws1 := (wBo qb ql qw cI cJ v_mover v_rights v_passed v_halves v_number v_balance a_men a_kinds_5 a_sides a_rays a_knights a_kings a_pawns a_table)) 2 1 rfl rfl g_4 ea_kinds_5 rfl dX0_clear_38 ?_
        obtain ⟨x1_6, ex1_6, h⟩ := ol_e h
        refine kv_iinc C (v := x1_6) (lv2 := [(0, .ref (qb 0)), (1, .int x1_6)]) 1 [1, 0] dX0_clear_39 rfl ex1_6.symm (by decide) rfl rfl ?_
        refine kv_goto C 23 dX0_clear_42 (by decide) ?_
        exact kv_lv [0, 1] (lv2 := [(0, .ref (qb 0)), (1, .int x1_6)]) rfl (ih23 v_mover v_rights v_passed v_halves v_number v_balance a_men a_kinds_5 a_sides x1_6 h)
  have l2 : ∀ (n2 : Nat) (v_mover : Int32) (v_rights : Int32) (v_passed : Int32) (v_halves : Int32) (v_number : Int32) (v_balance : Int32) (a_men : Nat → Int32) (a_kinds : Nat → Int64) (a_sides : Nat → Int64) (x1 : Int32), m_X0_clear_l2   n2 v_mover v_rights v_passed v_halves v_number v_balance a_men a_kinds a_sides x1 = some (v_mover', v_rights', v_passed', v_halves', v_number', v_balance', a_men', a_kinds', a_sides') → kv p l e rm_X0_clear s m ([.ref (qb 0)] : List Value).toArray below meth c D A 2 0 0 Q (wBo qb ql qw cI cJ v_mover v_rights v_passed v_halves v_number v_balance a_men a_kinds a_sides a_rays a_knights a_kings a_pawns a_table) [(0, .ref (qb 0)), (1, .int x1)] 2 [] := by
    intro n2
    induction n2 with
    | zero =>
      intro v_mover v_rights v_passed v_halves v_number v_balance a_men a_kinds a_sides x1 h
      exact kv_no h
    | succ n2 ih2 =>
      intro v_mover v_rights v_passed v_halves v_number v_balance a_men a_kinds a_sides x1 h
      replace h : m_X0_clear_b2  (m_X0_clear_l2   n2) v_mover v_rights v_passed v_halves v_number v_balance a_men a_kinds a_sides x1 = some (v_mover', v_rights', v_passed', v_halves', v_number', v_balance', a_men', a_kinds', a_sides') := h
      unfold m_X0_clear_b2 at h
      refine kv_iload_n C 1 dX0_clear_2 rfl rfl ?_
      refine kv_bipush C 64 dX0_clear_3 (by decide) ?_
      refine kv_icmp_ge C 21 dX0_clear_5 (by decide) (fun c_7 => ?_) (fun c_7 => ?_)
      · have h := oi_t h c_7
        refine kv_iconst C 0 dX0_clear_21 (by decide) ?_
        refine kv_istore_n C (lv2 := [(0, .ref (qb 0)), (1, .int 0)]) [1, 0] dX0_clear_22 rfl (by decide) rfl rfl ?_
        exact kv_lv [0, 1] (lv2 := [(0, .ref (qb 0)), (1, .int 0)]) rfl (l23 kF v_mover v_rights v_passed v_halves v_number v_balance a_men a_kinds a_sides 0 h)
      · have h := oi_f h c_7
        refine kv_aload_n C 0 dX0_clear_8 rfl rfl ?_
        refine kv_get C (Cn := RX0) (T := TX0) (N := 11) 0 2 hin0 rfl rfl (by decide) (C.ts _ (List.mem_cons_of_mem _ lf_RX0_19)) rfl rfl dX0_clear_9 ?_
        refine kv_iload_n C 1 dX0_clear_12 rfl rfl ?_
        refine kv_iconst C 0 dX0_clear_13 (by decide) ?_
        obtain ⟨g_8, h⟩ := oin_e h
        obtain ⟨a_men_9, ea_men_9, h⟩ := ol_e h
        refine kv_iast2 C (ws1 := (wBo qb ql qw cI cJ v_mover v_rights v_passed v_halves v_number v_balance a_men_9 a_kinds a_sides a_rays a_knights a_kings a_pawns a_table)) 1 0 rfl rfl g_8 ea_men_9 rfl dX0_clear_14 ?_
        obtain ⟨x1_10, ex1_10, h⟩ := ol_e h
        refine kv_iinc C (v := x1_10) (lv2 := [(0, .ref (qb 0)), (1, .int x1_10)]) 1 [1, 0] dX0_clear_15 rfl ex1_10.symm (by decide) rfl rfl ?_
        refine kv_goto C 2 dX0_clear_18 (by decide) ?_
        exact kv_lv [0, 1] (lv2 := [(0, .ref (qb 0)), (1, .int x1_10)]) rfl (ih2 v_mover v_rights v_passed v_halves v_number v_balance a_men_9 a_kinds a_sides x1_10 h)
  unfold m_X0_clear at hm
  have h := hm
  refine kv_lv [0] (lv2 := [(0, .ref (qb 0))]) rfl ?_
  refine kv_iconst C 0 dX0_clear_0 (by decide) ?_
  refine kv_istore_n C (lv2 := [(0, .ref (qb 0)), (1, .int 0)]) [1, 0] dX0_clear_1 rfl (by decide) rfl rfl ?_
  exact kv_lv [0, 1] (lv2 := [(0, .ref (qb 0)), (1, .int 0)]) rfl (l2 kF v_mover v_rights v_passed v_halves v_number v_balance a_men a_kinds a_sides 0 h)
def m_X0_takeOver (v_mover : Int32) (v_rights : Int32) (v_passed : Int32) (v_halves : Int32) (v_number : Int32) (v_balance : Int32) (a_men : Nat → Int32) (a_kinds : Nat → Int64) (a_sides : Nat → Int64) (d_mover : Int32) (d_rights : Int32) (d_passed : Int32) (d_halves : Int32) (d_number : Int32) (d_balance : Int32) (da_men : Nat → Int32) (da_kinds : Nat → Int64) (da_sides : Nat → Int64) : Option (Int32 × Int32 × Int32 × Int32 × Int32 × Int32 × (Nat → Int32) × (Nat → Int64) × (Nat → Int64)) := ol (va_cpy da_men a_men 0 0 64) fun a_men_1 => ol (va_cpy da_kinds a_kinds 0 0 7) fun a_kinds_2 => ol (va_cpy da_sides a_sides 0 0 2) fun a_sides_3 => some (d_mover, d_rights, d_passed, d_halves, d_number, d_balance, a_men_1, a_kinds_2, a_sides_3)
abbrev rm_X0_takeOver : Room := { frames := 1, cells := 0, slots := 0, locals := 100 }
abbrev wy_X0_takeOver : List Cond := .code yX0_takeOver cX0_takeOver 2 none :: gT
theorem cv_X0_takeOver {R : Room} {s : State} {args : Array Value} {own : String} {index : Nat} {w0 : Cond} (hts : ∀ w ∈ w0 :: gT, w.before args s = true) (hl : Cond.methodLink own index yX0_takeOver ∈ gT) (hR : 1 + 1 ≤ R.frames ∧ 8 + (2 + 11) + 100 ≤ R.locals) : CallW R s args own RX0 index yX0_takeOver cX0_takeOver 2 none wy_X0_takeOver rm_X0_takeOver 0 0 1 :=
  cwV 1 hts (gT_call w0 (pre := [.methodLink own index yX0_takeOver, .instanceMethod yX0_takeOver, .selects RX0 yX0_takeOver yX0_takeOver, .initialized RX0]) (gT_lc hl (gT_lc ly_yX0_takeOver (gT_lc lx_yX0_takeOver (gT_l1 li_RX0)))) lc_yX0_takeOver) rfl rfl rfl (by decide +kernel) hR
set_option maxRecDepth 100000 in
set_option maxHeartbeats 4000000 in
theorem c_X0_takeOver (l : Launch) (D : va_G) (qb : Nat → Nat) (ql : Nat → Nat) (qw : Nat → Nat) (qd : Nat → Nat) (cI : ClassId) (cJ : ClassId) (tq : Nat → Nat) (v_mover : Int32) (v_rights : Int32) (v_passed : Int32) (v_halves : Int32) (v_number : Int32) (v_balance : Int32) (a_men : Nat → Int32) (a_kinds : Nat → Int64) (a_sides : Nat → Int64) (d_mover : Int32) (d_rights : Int32) (d_passed : Int32) (d_halves : Int32) (d_number : Int32) (d_balance : Int32) (da_men : Nat → Int32) (da_kinds : Nat → Int64) (da_sides : Nat → Int64) (a_rays : Nat → Int64) (a_knights : Nat → Int64) (a_kings : Nat → Int64) (a_pawns : Nat → Int64) (a_table : Nat → Int32) (v_mover' : Int32) (v_rights' : Int32) (v_passed' : Int32) (v_halves' : Int32) (v_number' : Int32) (v_balance' : Int32) (a_men' : Nat → Int32) (a_kinds' : Nat → Int64) (a_sides' : Nat → Int64) (hm : m_X0_takeOver v_mover v_rights v_passed v_halves v_number v_balance a_men a_kinds a_sides d_mover d_rights d_passed d_halves d_number d_balance da_men da_kinds da_sides = some (v_mover', v_rights', v_passed', v_halves', v_number', v_balance', a_men', a_kinds', a_sides')) : kEv l yX0_takeOver wy_X0_takeOver rm_X0_takeOver D [(cI, .int), (cJ, .long)] tq (wBoBo qb ql qw qd cI cJ v_mover v_rights v_passed v_halves v_number v_balance a_men a_kinds a_sides d_mover d_rights d_passed d_halves d_number d_balance da_men da_kinds da_sides a_rays a_knights a_kings a_pawns a_table) (wBoBo qb ql qw qd cI cJ v_mover' v_rights' v_passed' v_halves' v_number' v_balance' a_men' a_kinds' a_sides' d_mover d_rights d_passed d_halves d_number d_balance da_men da_kinds da_sides a_rays a_knights a_kings a_pawns a_table) [.ref (qb 0), .ref (qd 0)] := by
  refine kEv.of cX0_takeOver 2 none (by decide) rfl rfl (Nat.le_of_ble_eq_true rfl) ?_
  intro p e s m below meth c A Q C hJ hret
  have hin0 : ∀ w ∈ wsX00, w ∈ wy_X0_takeOver := fun w h => List.mem_cons_of_mem _ (inG0 w h)
  have hin3 : ∀ w ∈ wsX30, w ∈ wy_X0_takeOver := fun w h => List.mem_cons_of_mem _ (inG3 w h)
  have hin7 : ∀ w ∈ wsX70, w ∈ wy_X0_takeOver := fun w h => List.mem_cons_of_mem _ (inG7 w h)
  unfold m_X0_takeOver at hm
  have h := hm
  refine kv_lv [0, 1] (lv2 := [(0, .ref (qb 0)), (1, .ref (qd 0))]) rfl ?_
  refine kv_aload_n C 1 dX0_takeOver_0 rfl rfl ?_
  refine kv_get C (Cn := RX0) (T := TX0) (N := 11) 4 2 hin0 rfl rfl (by decide) (C.ts _ (List.mem_cons_of_mem _ lf_RX0_19)) rfl rfl dX0_takeOver_1 ?_
  refine kv_iconst C 0 dX0_takeOver_4 (by decide) ?_
  refine kv_aload_n C 0 dX0_takeOver_5 rfl rfl ?_
  refine kv_get C (Cn := RX0) (T := TX0) (N := 11) 0 2 hin0 rfl rfl (by decide) (C.ts _ (List.mem_cons_of_mem _ lf_RX0_19)) rfl rfl dX0_takeOver_6 ?_
  refine kv_iconst C 0 dX0_takeOver_9 (by decide) ?_
  refine kv_aload_n C 0 dX0_takeOver_10 rfl rfl ?_
  refine kv_get C (Cn := RX0) (T := TX0) (N := 11) 0 2 hin0 rfl rfl (by decide) (C.ts _ (List.mem_cons_of_mem _ lf_RX0_19)) rfl rfl dX0_takeOver_11 ?_
  refine kv_alen C (v := 64) 1 0 rfl rfl rfl dX0_takeOver_14 ?_
  obtain ⟨a_men_1, ea_men_1, h⟩ := ol_e h
  refine kv_copyi C (ws1 := (wBoBo qb ql qw qd cI cJ v_mover v_rights v_passed v_halves v_number v_balance a_men_1 a_kinds a_sides d_mover d_rights d_passed d_halves d_number d_balance da_men da_kinds da_sides a_rays a_knights a_kings a_pawns a_table)) 5 1 0 64 (C.ts _ (List.mem_cons_of_mem _ lcp_RX0_56)) (C.ts _ (List.mem_cons_of_mem _ lcp_nat)) (C.ts _ (List.mem_cons_of_mem _ lcp_stat)) (C.ts _ (List.mem_cons_of_mem _ lcp_init)) rfl rfl rfl (by decide) (by decide) (by decide) ea_men_1 rfl (Nat.le_of_ble_eq_true rfl) (by decide +kernel) dX0_takeOver_15 ?_
  refine kv_aload_n C 1 dX0_takeOver_18 rfl rfl ?_
  refine kv_get C (Cn := RX0) (T := TX0) (N := 11) 4 3 hin0 rfl rfl (by decide) (C.ts _ (List.mem_cons_of_mem _ lf_RX0_23)) rfl rfl dX0_takeOver_19 ?_
  refine kv_iconst C 0 dX0_takeOver_22 (by decide) ?_
  refine kv_aload_n C 0 dX0_takeOver_23 rfl rfl ?_
  refine kv_get C (Cn := RX0) (T := TX0) (N := 11) 0 3 hin0 rfl rfl (by decide) (C.ts _ (List.mem_cons_of_mem _ lf_RX0_23)) rfl rfl dX0_takeOver_24 ?_
  refine kv_iconst C 0 dX0_takeOver_27 (by decide) ?_
  refine kv_aload_n C 0 dX0_takeOver_28 rfl rfl ?_
  refine kv_get C (Cn := RX0) (T := TX0) (N := 11) 0 3 hin0 rfl rfl (by decide) (C.ts _ (List.mem_cons_of_mem _ lf_RX0_23)) rfl rfl dX0_takeOver_29 ?_
  refine kv_alen C (v := 7) 2 1 rfl rfl rfl dX0_takeOver_32 ?_
  obtain ⟨a_kinds_2, ea_kinds_2, h⟩ := ol_e h
  refine kv_copyl C (ws1 := (wBoBo qb ql qw qd cI cJ v_mover v_rights v_passed v_halves v_number v_balance a_men_1 a_kinds_2 a_sides d_mover d_rights d_passed d_halves d_number d_balance da_men da_kinds da_sides a_rays a_knights a_kings a_pawns a_table)) 6 2 1 7 (C.ts _ (List.mem_cons_of_mem _ lcp_RX0_56)) (C.ts _ (List.mem_cons_of_mem _ lcp_nat)) (C.ts _ (List.mem_cons_of_mem _ lcp_stat)) (C.ts _ (List.mem_cons_of_mem _ lcp_init)) rfl rfl rfl (by decide) (by decide) (by decide) ea_kinds_2 rfl (Nat.le_of_ble_eq_true rfl) (by decide +kernel) dX0_takeOver_33 ?_
  refine kv_aload_n C 1 dX0_takeOver_36 rfl rfl ?_
  refine kv_get C (Cn := RX0) (T := TX0) (N := 11) 4 4 hin0 rfl rfl (by decide) (C.ts _ (List.mem_cons_of_mem _ lf_RX0_27)) rfl rfl dX0_takeOver_37 ?_
  refine kv_iconst C 0 dX0_takeOver_40 (by decide) ?_
  refine kv_aload_n C 0 dX0_takeOver_41 rfl rfl ?_
  refine kv_get C (Cn := RX0) (T := TX0) (N := 11) 0 4 hin0 rfl rfl (by decide) (C.ts _ (List.mem_cons_of_mem _ lf_RX0_27)) rfl rfl dX0_takeOver_42 ?_
  refine kv_iconst C 0 dX0_takeOver_45 (by decide) ?_
  refine kv_aload_n C 0 dX0_takeOver_46 rfl rfl ?_
  refine kv_get C (Cn := RX0) (T := TX0) (N := 11) 0 4 hin0 rfl rfl (by decide) (C.ts _ (List.mem_cons_of_mem _ lf_RX0_27)) rfl rfl dX0_takeOver_47 ?_
  refine kv_alen C (v := 2) 3 1 rfl rfl rfl dX0_takeOver_50 ?_
  obtain ⟨a_sides_3, ea_sides_3, h⟩ := ol_e h
  refine kv_copyl C (ws1 := (wBoBo qb ql qw qd cI cJ v_mover v_rights v_passed v_halves v_number v_balance a_men_1 a_kinds_2 a_sides_3 d_mover d_rights d_passed d_halves d_number d_balance da_men da_kinds da_sides a_rays a_knights a_kings a_pawns a_table)) 7 3 1 2 (C.ts _ (List.mem_cons_of_mem _ lcp_RX0_56)) (C.ts _ (List.mem_cons_of_mem _ lcp_nat)) (C.ts _ (List.mem_cons_of_mem _ lcp_stat)) (C.ts _ (List.mem_cons_of_mem _ lcp_init)) rfl rfl rfl (by decide) (by decide) (by decide) ea_sides_3 rfl (Nat.le_of_ble_eq_true rfl) (by decide +kernel) dX0_takeOver_51 ?_
  refine kv_aload_n C 0 dX0_takeOver_54 rfl rfl ?_
  refine kv_aload_n C 1 dX0_takeOver_55 rfl rfl ?_
  refine kv_get C (Cn := RX0) (T := TX0) (N := 11) 4 5 hin0 rfl rfl (by decide) (C.ts _ (List.mem_cons_of_mem _ lf_RX0_47)) rfl rfl dX0_takeOver_56 ?_
  refine kv_put C (Cn := RX0) (T := TX0) (N := 11) (ty := .int) (ws1 := (wBoBo qb ql qw qd cI cJ d_mover v_rights v_passed v_halves v_number v_balance a_men_1 a_kinds_2 a_sides_3 d_mover d_rights d_passed d_halves d_number d_balance da_men da_kinds da_sides a_rays a_knights a_kings a_pawns a_table)) 0 5 hin0 tyX0 tyX0_ok nmX0 rfl rfl (by decide) (C.ts _ (List.mem_cons_of_mem _ lf_RX0_47)) rfl rfl (by decide +kernel) rfl rfl (Nat.le_of_ble_eq_true rfl) rfl dX0_takeOver_59 ?_
  refine kv_aload_n C 0 dX0_takeOver_62 rfl rfl ?_
  refine kv_aload_n C 1 dX0_takeOver_63 rfl rfl ?_
  refine kv_get C (Cn := RX0) (T := TX0) (N := 11) 4 6 hin0 rfl rfl (by decide) (C.ts _ (List.mem_cons_of_mem _ lf_RX0_44)) rfl rfl dX0_takeOver_64 ?_
  refine kv_put C (Cn := RX0) (T := TX0) (N := 11) (ty := .int) (ws1 := (wBoBo qb ql qw qd cI cJ d_mover d_rights v_passed v_halves v_number v_balance a_men_1 a_kinds_2 a_sides_3 d_mover d_rights d_passed d_halves d_number d_balance da_men da_kinds da_sides a_rays a_knights a_kings a_pawns a_table)) 0 6 hin0 tyX0 tyX0_ok nmX0 rfl rfl (by decide) (C.ts _ (List.mem_cons_of_mem _ lf_RX0_44)) rfl rfl (by decide +kernel) rfl rfl (Nat.le_of_ble_eq_true rfl) rfl dX0_takeOver_67 ?_
  refine kv_aload_n C 0 dX0_takeOver_70 rfl rfl ?_
  refine kv_aload_n C 1 dX0_takeOver_71 rfl rfl ?_
  refine kv_get C (Cn := RX0) (T := TX0) (N := 11) 4 7 hin0 rfl rfl (by decide) (C.ts _ (List.mem_cons_of_mem _ lf_RX0_30)) rfl rfl dX0_takeOver_72 ?_
  refine kv_put C (Cn := RX0) (T := TX0) (N := 11) (ty := .int) (ws1 := (wBoBo qb ql qw qd cI cJ d_mover d_rights d_passed v_halves v_number v_balance a_men_1 a_kinds_2 a_sides_3 d_mover d_rights d_passed d_halves d_number d_balance da_men da_kinds da_sides a_rays a_knights a_kings a_pawns a_table)) 0 7 hin0 tyX0 tyX0_ok nmX0 rfl rfl (by decide) (C.ts _ (List.mem_cons_of_mem _ lf_RX0_30)) rfl rfl (by decide +kernel) rfl rfl (Nat.le_of_ble_eq_true rfl) rfl dX0_takeOver_75 ?_
  refine kv_aload_n C 0 dX0_takeOver_78 rfl rfl ?_
  refine kv_aload_n C 1 dX0_takeOver_79 rfl rfl ?_
  refine kv_get C (Cn := RX0) (T := TX0) (N := 11) 4 8 hin0 rfl rfl (by decide) (C.ts _ (List.mem_cons_of_mem _ lf_RX0_50)) rfl rfl dX0_takeOver_80 ?_
  refine kv_put C (Cn := RX0) (T := TX0) (N := 11) (ty := .int) (ws1 := (wBoBo qb ql qw qd cI cJ d_mover d_rights d_passed d_halves v_number v_balance a_men_1 a_kinds_2 a_sides_3 d_mover d_rights d_passed d_halves d_number d_balance da_men da_kinds da_sides a_rays a_knights a_kings a_pawns a_table)) 0 8 hin0 tyX0 tyX0_ok nmX0 rfl rfl (by decide) (C.ts _ (List.mem_cons_of_mem _ lf_RX0_50)) rfl rfl (by decide +kernel) rfl rfl (Nat.le_of_ble_eq_true rfl) rfl dX0_takeOver_83 ?_
  refine kv_aload_n C 0 dX0_takeOver_86 rfl rfl ?_
  refine kv_aload_n C 1 dX0_takeOver_87 rfl rfl ?_
  refine kv_get C (Cn := RX0) (T := TX0) (N := 11) 4 9 hin0 rfl rfl (by decide) (C.ts _ (List.mem_cons_of_mem _ lf_RX0_34)) rfl rfl dX0_takeOver_88 ?_
  refine kv_put C (Cn := RX0) (T := TX0) (N := 11) (ty := .int) (ws1 := (wBoBo qb ql qw qd cI cJ d_mover d_rights d_passed d_halves d_number v_balance a_men_1 a_kinds_2 a_sides_3 d_mover d_rights d_passed d_halves d_number d_balance da_men da_kinds da_sides a_rays a_knights a_kings a_pawns a_table)) 0 9 hin0 tyX0 tyX0_ok nmX0 rfl rfl (by decide) (C.ts _ (List.mem_cons_of_mem _ lf_RX0_34)) rfl rfl (by decide +kernel) rfl rfl (Nat.le_of_ble_eq_true rfl) rfl dX0_takeOver_91 ?_
  refine kv_aload_n C 0 dX0_takeOver_94 rfl rfl ?_
  refine kv_aload_n C 1 dX0_takeOver_95 rfl rfl ?_
  refine kv_get C (Cn := RX0) (T := TX0) (N := 11) 4 10 hin0 rfl rfl (by decide) (C.ts _ (List.mem_cons_of_mem _ lf_RX0_53)) rfl rfl dX0_takeOver_96 ?_
  refine kv_put C (Cn := RX0) (T := TX0) (N := 11) (ty := .int) (ws1 := (wBoBo qb ql qw qd cI cJ d_mover d_rights d_passed d_halves d_number d_balance a_men_1 a_kinds_2 a_sides_3 d_mover d_rights d_passed d_halves d_number d_balance da_men da_kinds da_sides a_rays a_knights a_kings a_pawns a_table)) 0 10 hin0 tyX0 tyX0_ok nmX0 rfl rfl (by decide) (C.ts _ (List.mem_cons_of_mem _ lf_RX0_53)) rfl rfl (by decide +kernel) rfl rfl (Nat.le_of_ble_eq_true rfl) rfl dX0_takeOver_99 ?_
  cases h
  exact hret _ _ dX0_takeOver_102
