/-! X10: X10_type, X10_next, X10_takes, X10_manOf, X10_isDigit, X10_readRow, X10_readSquares, X10_readMover, X10_readCastles, X10_readSquare, X10_numberFrom, X10_isWritten -/
def m_X10_type_b121 (k121 : Int32 → Int32 → (Nat → Int32) → Int64 → Int32 → Int32 → Option (Int32 × Int32 × Int32 × (Nat → Int32))) (v_code : Int32) (v_typedCount : Int32) (a_typed : Nat → Int32) (x1 : Int64) (x3 : Int32) (x5 : Int32) : Option (Int32 × Int32 × Int32 × (Nat → Int32)) := if x3 ≤ x5 then some (v_typedCount, v_code, v_typedCount, a_typed) else ol (((x1 >>> ((8 * x5).toInt64 &&& 63)).toInt32) &&& 255) fun y_2 => oin (v_typedCount) 128 (ol (upd a_typed (v_typedCount.toNatClampNeg) y_2) fun a_typed_4 => ol (v_typedCount + 1) fun y_5 => ol (x5 + 1) fun x5_6 => k121 v_code y_5 a_typed_4 x1 x3 x5_6)
def m_X10_type_l121 (n : Nat) : Int32 → Int32 → (Nat → Int32) → Int64 → Int32 → Int32 → Option (Int32 × Int32 × Int32 × (Nat → Int32)) := fz (fun _ _ _ _ _ _ => none) (fun k121 v_code v_typedCount a_typed x1 x3 x5 => m_X10_type_b121 k121 v_code v_typedCount a_typed x1 x3 x5) n
def m_X10_type_b106 (v_code : Int32) (v_typedCount : Int32) (a_typed : Nat → Int32) (x1 : Int64) (x3 : Int32) (t1 : Int32) : Option (Int32 × Int32 × Int32 × (Nat → Int32)) := if t1 ≤ 0 then m_X10_type_l121 kF t1 v_typedCount a_typed x1 x3 0 else some (0, t1, v_typedCount, a_typed)
def m_X10_type_b79 (v_code : Int32) (v_typedCount : Int32) (a_typed : Nat → Int32) (x1 : Int64) (x3 : Int32) (x4 : Int32) : Option (Int32 × Int32 × Int32 × (Nat → Int32)) := if x4 = 0 then m_X10_type_b106 v_code v_typedCount a_typed x1 x3 1 else if (v_typedCount + x3) ≤ 128 then m_X10_type_b106 v_code v_typedCount a_typed x1 x3 0 else m_X10_type_b106 v_code v_typedCount a_typed x1 x3 2
def m_X10_type_b71 (k20 : Int32 → Int32 → (Nat → Int32) → Int64 → Int32 → Int32 → Int32 → Option (Int32 × Int32 × Int32 × (Nat → Int32))) (v_code : Int32) (v_typedCount : Int32) (a_typed : Nat → Int32) (x1 : Int64) (x3 : Int32) (x5 : Int32) (t0 : Int32) : Option (Int32 × Int32 × Int32 × (Nat → Int32)) := ol (x5 + 1) fun x5_10 => k20 v_code v_typedCount a_typed x1 x3 t0 x5_10
def m_X10_type_b70 (k20 : Int32 → Int32 → (Nat → Int32) → Int64 → Int32 → Int32 → Int32 → Option (Int32 × Int32 × Int32 × (Nat → Int32))) (v_code : Int32) (v_typedCount : Int32) (a_typed : Nat → Int32) (x1 : Int64) (x3 : Int32) (x5 : Int32) : Option (Int32 × Int32 × Int32 × (Nat → Int32)) := m_X10_type_b71 k20 v_code v_typedCount a_typed x1 x3 x5 0
def m_X10_type_b20 (k20 : Int32 → Int32 → (Nat → Int32) → Int64 → Int32 → Int32 → Int32 → Option (Int32 × Int32 × Int32 × (Nat → Int32))) (v_code : Int32) (v_typedCount : Int32) (a_typed : Nat → Int32) (x1 : Int64) (x3 : Int32) (x4 : Int32) (x5 : Int32) : Option (Int32 × Int32 × Int32 × (Nat → Int32)) := if x3 ≤ x5 then m_X10_type_b79 v_code v_typedCount a_typed x1 x3 x4 else if 8 ≤ x5 then m_X10_type_b79 v_code v_typedCount a_typed x1 x3 x4 else ol (((x1 >>> ((8 * x5).toInt64 &&& 63)).toInt32) &&& 255) fun x6_13 => if x4 = 0 then m_X10_type_b70 k20 v_code v_typedCount a_typed x1 x3 x5 else if x6_13 ≤ 31 then m_X10_type_b70 k20 v_code v_typedCount a_typed x1 x3 x5 else if 127 ≤ x6_13 then m_X10_type_b70 k20 v_code v_typedCount a_typed x1 x3 x5 else m_X10_type_b71 k20 v_code v_typedCount a_typed x1 x3 x5 1
def m_X10_type_l20 (n : Nat) : Int32 → Int32 → (Nat → Int32) → Int64 → Int32 → Int32 → Int32 → Option (Int32 × Int32 × Int32 × (Nat → Int32)) := fz (fun _ _ _ _ _ _ _ => none) (fun k20 v_code v_typedCount a_typed x1 x3 x4 x5 => m_X10_type_b20 k20 v_code v_typedCount a_typed x1 x3 x4 x5) n
def m_X10_type_b15 (v_code : Int32) (v_typedCount : Int32) (a_typed : Nat → Int32) (x1 : Int64) (x3 : Int32) (t0 : Int32) : Option (Int32 × Int32 × Int32 × (Nat → Int32)) := m_X10_type_l20 kF v_code v_typedCount a_typed x1 x3 t0 0
def m_X10_type_b14 (v_code : Int32) (v_typedCount : Int32) (a_typed : Nat → Int32) (x1 : Int64) (x3 : Int32) : Option (Int32 × Int32 × Int32 × (Nat → Int32)) := m_X10_type_b15 v_code v_typedCount a_typed x1 x3 0
def m_X10_type (v_code : Int32) (v_typedCount : Int32) (a_typed : Nat → Int32) (p0 : Int64) (p1 : Int32) : Option (Int32 × Int32 × Int32 × (Nat → Int32)) := if p1 ≤ 0 then m_X10_type_b14 v_code v_typedCount a_typed p0 p1 else if 9 ≤ p1 then m_X10_type_b14 v_code v_typedCount a_typed p0 p1 else m_X10_type_b15 v_code v_typedCount a_typed p0 p1 1
abbrev rm_X10_type : Room := { frames := 0, cells := 0, slots := 0, locals := 0 }
abbrev wy_X10_type : List Cond := .code yX10_type cX10_type 7 (some .int) :: gT
theorem cv_X10_type {R : Room} {s : State} {args : Array Value} {own : String} {index : Nat} {w0 : Cond} (hts : ∀ w ∈ w0 :: gT, w.before args s = true) (hl : Cond.methodLink own index yX10_type ∈ gT) (hR : 0 + 1 ≤ R.frames ∧ 8 + (7 + 11) + 0 ≤ R.locals) : CallW R s args own RX10 index yX10_type cX10_type 7 (some .int) wy_X10_type rm_X10_type 0 0 2 :=
  cwV 2 hts (gT_call w0 (pre := [.methodLink own index yX10_type, .instanceMethod yX10_type, .selects RX10 yX10_type yX10_type, .initialized RX10]) (gT_lc hl (gT_lc ly_yX10_type (gT_lc lx_yX10_type (gT_l1 li_RX10)))) lc_yX10_type) rfl rfl rfl (by decide +kernel) hR
set_option maxRecDepth 100000 in
set_option maxHeartbeats 4000000 in
theorem c_X10_type (l : Launch) (D : va_G) (h0 : Nat) (q : Nat → Nat) (cI : ClassId) (v_code : Int32) (v_side : Int32) (v_rights : Int32) (v_passed : Int32) (v_halves : Int32) (v_number : Int32) (v_top : Int32) (v_typedCount : Int32) (v_readAt : Int32) (v_place : Int32) (v_writtenCount : Int32) (v_chosenFrom : Int32) (v_chosenTo : Int32) (v_chosenTurn : Int32) (v_changed : Int32) (v_readSide : Int32) (v_readRights : Int32) (v_readPassed : Int32) (v_readHalves : Int32) (v_readNumber : Int32) (a_board : Nat → Int32) (a_before : Nat → Int32) (a_typed : Nat → Int32) (a_written : Nat → Int32) (a_froms : Nat → Int32) (a_tos : Nat → Int32) (a_turns : Nat → Int32) (a_counts : Nat → Int32) (a_changedSquare : Nat → Int32) (a_changedMan : Nat → Int32) (a_readBoard : Nat → Int32) (p0 : Int64) (p1 : Int32) (rv : Int32) (v_code' : Int32) (v_typedCount' : Int32) (a_typed' : Nat → Int32) (hm : m_X10_type v_code v_typedCount a_typed p0 p1 = some (rv, v_code', v_typedCount', a_typed')) : kDi l yX10_type wy_X10_type rm_X10_type D [(cI, .int)] rv (wM h0 q cI v_code v_side v_rights v_passed v_halves v_number v_top v_typedCount v_readAt v_place v_writtenCount v_chosenFrom v_chosenTo v_chosenTurn v_changed v_readSide v_readRights v_readPassed v_readHalves v_readNumber a_board a_before a_typed a_written a_froms a_tos a_turns a_counts a_changedSquare a_changedMan a_readBoard) (wM h0 q cI v_code' v_side v_rights v_passed v_halves v_number v_top v_typedCount' v_readAt v_place v_writtenCount v_chosenFrom v_chosenTo v_chosenTurn v_changed v_readSide v_readRights v_readPassed v_readHalves v_readNumber a_board a_before a_typed' a_written a_froms a_tos a_turns a_counts a_changedSquare a_changedMan a_readBoard) [.ref h0, .long p0, .int p1] := by
  refine kDi.of cX10_type 7 (some .int) (by decide) rfl (Or.inl rfl) (Nat.le_of_ble_eq_true rfl) ?_
  intro p e s m below meth c A Q C hret
  have hin10 : ∀ w ∈ wsX100, w ∈ wy_X10_type := fun w h => List.mem_cons_of_mem _ (inG10 w h)
  have l121 : ∀ (n121 : Nat) (v_code : Int32) (v_typedCount : Int32) (a_typed : Nat → Int32) (x1 : Int64) (x3 : Int32) (x5 : Int32), m_X10_type_l121   n121 v_code v_typedCount a_typed x1 x3 x5 = some (rv, v_code', v_typedCount', a_typed') → kv p l e rm_X10_type s m ([.ref h0, .long p0, .int p1] : List Value).toArray below meth c D A 7 0 0 Q (wM h0 q cI v_code v_side v_rights v_passed v_halves v_number v_top v_typedCount v_readAt v_place v_writtenCount v_chosenFrom v_chosenTo v_chosenTurn v_changed v_readSide v_readRights v_readPassed v_readHalves v_readNumber a_board a_before a_typed a_written a_froms a_tos a_turns a_counts a_changedSquare a_changedMan a_readBoard) [(0, .ref h0), (1, .long x1), (3, .int x3), (5, .int x5)] 121 [] := by
    intro n121
    induction n121 with
    | zero =>
      intro v_code v_typedCount a_typed x1 x3 x5 h
      exact kv_no h
    | succ n121 ih121 =>
      intro v_code v_typedCount a_typed x1 x3 x5 h
      replace h : m_X10_type_b121  (m_X10_type_l121   n121) v_code v_typedCount a_typed x1 x3 x5 = some (rv, v_code', v_typedCount', a_typed') := h
      unfold m_X10_type_b121 at h
      refine kv_iload C 3 dX10_type_121 rfl ?_
      refine kv_iload_n C 2 dX10_type_123 rfl rfl ?_
      refine kv_icmp_ge C 164 dX10_type_124 (by decide) (fun c_1 => ?_) (fun c_1 => ?_)
      · have h := oi_t h c_1
        refine kv_aload_n C 0 dX10_type_164 rfl rfl ?_
        refine kv_get C (Cn := RX10) (T := TX10) (N := 31) 0 10 hin10 rfl rfl (by decide) (C.ts _ (List.mem_cons_of_mem _ lf_RX10_208)) rfl rfl dX10_type_165 ?_
        cases h
        exact hret _ _ dX10_type_168 (fun q => by cases q)
      · have h := oi_f h c_1
        refine kv_aload_n C 0 dX10_type_127 rfl rfl ?_
        refine kv_get C (Cn := RX10) (T := TX10) (N := 31) 0 9 hin10 rfl rfl (by decide) (C.ts _ (List.mem_cons_of_mem _ lf_RX10_21)) rfl rfl dX10_type_128 ?_
        refine kv_aload_n C 0 dX10_type_131 rfl rfl ?_
        refine kv_get C (Cn := RX10) (T := TX10) (N := 31) 0 10 hin10 rfl rfl (by decide) (C.ts _ (List.mem_cons_of_mem _ lf_RX10_208)) rfl rfl dX10_type_132 ?_
        refine kv_lload_n C 1 dX10_type_135 rfl rfl ?_
        refine kv_bipush C 8 dX10_type_136 (by decide) ?_
        refine kv_iload C 3 dX10_type_138 rfl ?_
        refine kv_imul C dX10_type_140 ?_
        refine kv_lshr C dX10_type_141 ?_
        refine kv_l2i C dX10_type_142 ?_
        refine kv_sipush C 255 dX10_type_143 (by decide) ?_
        refine kv_iand C dX10_type_146 ?_
        obtain ⟨y_2, ey_2, h⟩ := ol_e h
        refine kv_top ey_2 ?_
        obtain ⟨g_3, h⟩ := oin_e h
        obtain ⟨a_typed_4, ea_typed_4, h⟩ := ol_e h
        refine kv_iast2 C (ws1 := (wM h0 q cI v_code v_side v_rights v_passed v_halves v_number v_top v_typedCount v_readAt v_place v_writtenCount v_chosenFrom v_chosenTo v_chosenTurn v_changed v_readSide v_readRights v_readPassed v_readHalves v_readNumber a_board a_before a_typed_4 a_written a_froms a_tos a_turns a_counts a_changedSquare a_changedMan a_readBoard)) 3 0 rfl rfl g_3 ea_typed_4 rfl dX10_type_147 ?_
        refine kv_aload_n C 0 dX10_type_148 rfl rfl ?_
        refine kv_dup C dX10_type_149 rfl ?_
        refine kv_get C (Cn := RX10) (T := TX10) (N := 31) 0 10 hin10 rfl rfl (by decide) (C.ts _ (List.mem_cons_of_mem _ lf_RX10_208)) rfl rfl dX10_type_150 ?_
        refine kv_iconst C 1 dX10_type_153 (by decide) ?_
        refine kv_iadd C dX10_type_154 ?_
        obtain ⟨y_5, ey_5, h⟩ := ol_e h
        refine kv_top ey_5 ?_
        refine kv_put C (Cn := RX10) (T := TX10) (N := 31) (ty := .int) (ws1 := (wM h0 q cI v_code v_side v_rights v_passed v_halves v_number v_top y_5 v_readAt v_place v_writtenCount v_chosenFrom v_chosenTo v_chosenTurn v_changed v_readSide v_readRights v_readPassed v_readHalves v_readNumber a_board a_before a_typed_4 a_written a_froms a_tos a_turns a_counts a_changedSquare a_changedMan a_readBoard)) 0 10 hin10 tyX10 tyX10_ok nmX10 rfl rfl (by decide) (C.ts _ (List.mem_cons_of_mem _ lf_RX10_208)) rfl rfl (by decide +kernel) rfl rfl (Nat.le_of_ble_eq_true rfl) rfl dX10_type_155 ?_
        obtain ⟨x5_6, ex5_6, h⟩ := ol_e h
        refine kv_iinc C (v := x5_6) (lv2 := [(0, .ref h0), (1, .long x1), (3, .int x3), (5, .int x5_6)]) 3 [1, 2, 3, 0] dX10_type_158 rfl ex5_6.symm (by decide) rfl rfl ?_
        refine kv_goto C 121 dX10_type_161 (by decide) ?_
        exact kv_lv [0, 1, 2, 3] (lv2 := [(0, .ref h0), (1, .long x1), (3, .int x3), (5, .int x5_6)]) rfl (ih121 v_code y_5 a_typed_4 x1 x3 x5_6 h)
  have j106 : ∀ (v_code : Int32) (v_typedCount : Int32) (a_typed : Nat → Int32) (x1 : Int64) (x3 : Int32) (t1 : Int32), m_X10_type_b106  v_code v_typedCount a_typed x1 x3 t1 = some (rv, v_code', v_typedCount', a_typed') → kv p l e rm_X10_type s m ([.ref h0, .long p0, .int p1] : List Value).toArray below meth c D A 7 0 0 Q (wM h0 q cI v_code v_side v_rights v_passed v_halves v_number v_top v_typedCount v_readAt v_place v_writtenCount v_chosenFrom v_chosenTo v_chosenTurn v_changed v_readSide v_readRights v_readPassed v_readHalves v_readNumber a_board a_before a_typed a_written a_froms a_tos a_turns a_counts a_changedSquare a_changedMan a_readBoard) [(0, .ref h0), (1, .long x1), (3, .int x3)] 106 [.int t1, .ref h0] := by
    intro v_code v_typedCount a_typed x1 x3 t1 h
    unfold m_X10_type_b106 at h
    refine kv_put C (Cn := RX10) (T := TX10) (N := 31) (ty := .int) (ws1 := (wM h0 q cI t1 v_side v_rights v_passed v_halves v_number v_top v_typedCount v_readAt v_place v_writtenCount v_chosenFrom v_chosenTo v_chosenTurn v_changed v_readSide v_readRights v_readPassed v_readHalves v_readNumber a_board a_before a_typed a_written a_froms a_tos a_turns a_counts a_changedSquare a_changedMan a_readBoard)) 0 0 hin10 tyX10 tyX10_ok nmX10 rfl rfl (by decide) (C.ts _ (List.mem_cons_of_mem _ lf_RX10_66)) rfl rfl (by decide +kernel) rfl rfl (Nat.le_of_ble_eq_true rfl) rfl dX10_type_106 ?_
    refine kv_aload_n C 0 dX10_type_109 rfl rfl ?_
    refine kv_get C (Cn := RX10) (T := TX10) (N := 31) 0 0 hin10 rfl rfl (by decide) (C.ts _ (List.mem_cons_of_mem _ lf_RX10_66)) rfl rfl dX10_type_110 ?_
    refine kv_if_le C 118 dX10_type_113 (by decide) (fun c_7 => ?_) (fun c_7 => ?_)
    · have h := oi_t h c_7
      refine kv_iconst C 0 dX10_type_118 (by decide) ?_
      refine kv_istore C (lv2 := [(0, .ref h0), (1, .long x1), (3, .int x3), (5, .int 0)]) [1, 2, 3, 0] dX10_type_119 (by decide) rfl rfl ?_
      exact kv_lv [0, 1, 2, 3] (lv2 := [(0, .ref h0), (1, .long x1), (3, .int x3), (5, .int 0)]) rfl (l121 kF t1 v_typedCount a_typed x1 x3 0 h)
    · have h := oi_f h c_7
      refine kv_iconst C 0 dX10_type_116 (by decide) ?_
      cases h
      exact hret _ _ dX10_type_117 (fun q => by cases q)
  have j79 : ∀ (v_code : Int32) (v_typedCount : Int32) (a_typed : Nat → Int32) (x1 : Int64) (x3 : Int32) (x4 : Int32), m_X10_type_b79  v_code v_typedCount a_typed x1 x3 x4 = some (rv, v_code', v_typedCount', a_typed') → kv p l e rm_X10_type s m ([.ref h0, .long p0, .int p1] : List Value).toArray below meth c D A 7 0 0 Q (wM h0 q cI v_code v_side v_rights v_passed v_halves v_number v_top v_typedCount v_readAt v_place v_writtenCount v_chosenFrom v_chosenTo v_chosenTurn v_changed v_readSide v_readRights v_readPassed v_readHalves v_readNumber a_board a_before a_typed a_written a_froms a_tos a_turns a_counts a_changedSquare a_changedMan a_readBoard) [(0, .ref h0), (1, .long x1), (3, .int x3), (4, .int x4)] 79 [] := by
    intro v_code v_typedCount a_typed x1 x3 x4 h
    unfold m_X10_type_b79 at h
    refine kv_aload_n C 0 dX10_type_79 rfl rfl ?_
    refine kv_iload C 3 dX10_type_80 rfl ?_
    refine kv_if_ne C 89 dX10_type_82 (by decide) (fun c_8 => ?_) (fun c_8 => ?_)
    · have h := oi_f h c_8
      refine kv_aload_n C 0 dX10_type_89 rfl rfl ?_
      refine kv_get C (Cn := RX10) (T := TX10) (N := 31) 0 10 hin10 rfl rfl (by decide) (C.ts _ (List.mem_cons_of_mem _ lf_RX10_208)) rfl rfl dX10_type_90 ?_
      refine kv_iload_n C 2 dX10_type_93 rfl rfl ?_
      refine kv_iadd C dX10_type_94 ?_
      refine kv_sipush C 128 dX10_type_95 (by decide) ?_
      refine kv_icmp_le C 105 dX10_type_98 (by decide) (fun c_9 => ?_) (fun c_9 => ?_)
      · have h := oi_t h c_9
        refine kv_iconst C 0 dX10_type_105 (by decide) ?_
        exact kv_lv [0, 1, 2] (lv2 := [(0, .ref h0), (1, .long x1), (3, .int x3)]) rfl (j106 v_code v_typedCount a_typed x1 x3 0 h)
      · have h := oi_f h c_9
        refine kv_iconst C 2 dX10_type_101 (by decide) ?_
        refine kv_goto C 106 dX10_type_102 (by decide) ?_
        exact kv_lv [0, 1, 2] (lv2 := [(0, .ref h0), (1, .long x1), (3, .int x3)]) rfl (j106 v_code v_typedCount a_typed x1 x3 2 h)
    · have h := oi_t h c_8
      refine kv_iconst C 1 dX10_type_85 (by decide) ?_
      refine kv_goto C 106 dX10_type_86 (by decide) ?_
      exact kv_lv [0, 1, 2] (lv2 := [(0, .ref h0), (1, .long x1), (3, .int x3)]) rfl (j106 v_code v_typedCount a_typed x1 x3 1 h)
  have l20 : ∀ (n20 : Nat) (v_code : Int32) (v_typedCount : Int32) (a_typed : Nat → Int32) (x1 : Int64) (x3 : Int32) (x4 : Int32) (x5 : Int32), m_X10_type_l20   n20 v_code v_typedCount a_typed x1 x3 x4 x5 = some (rv, v_code', v_typedCount', a_typed') → kv p l e rm_X10_type s m ([.ref h0, .long p0, .int p1] : List Value).toArray below meth c D A 7 0 0 Q (wM h0 q cI v_code v_side v_rights v_passed v_halves v_number v_top v_typedCount v_readAt v_place v_writtenCount v_chosenFrom v_chosenTo v_chosenTurn v_changed v_readSide v_readRights v_readPassed v_readHalves v_readNumber a_board a_before a_typed a_written a_froms a_tos a_turns a_counts a_changedSquare a_changedMan a_readBoard) [(0, .ref h0), (1, .long x1), (3, .int x3), (4, .int x4), (5, .int x5)] 20 [] := by
    intro n20
    induction n20 with
    | zero =>
      intro v_code v_typedCount a_typed x1 x3 x4 x5 h
      exact kv_no h
    | succ n20 ih20 =>
      have j71 : ∀ (v_code : Int32) (v_typedCount : Int32) (a_typed : Nat → Int32) (x1 : Int64) (x3 : Int32) (x5 : Int32) (t0 : Int32), m_X10_type_b71 (m_X10_type_l20   n20) v_code v_typedCount a_typed x1 x3 x5 t0 = some (rv, v_code', v_typedCount', a_typed') → kv p l e rm_X10_type s m ([.ref h0, .long p0, .int p1] : List Value).toArray below meth c D A 7 0 0 Q (wM h0 q cI v_code v_side v_rights v_passed v_halves v_number v_top v_typedCount v_readAt v_place v_writtenCount v_chosenFrom v_chosenTo v_chosenTurn v_changed v_readSide v_readRights v_readPassed v_readHalves v_readNumber a_board a_before a_typed a_written a_froms a_tos a_turns a_counts a_changedSquare a_changedMan a_readBoard) [(0, .ref h0), (1, .long x1), (3, .int x3), (5, .int x5)] 71 [.int t0] := by
        intro v_code v_typedCount a_typed x1 x3 x5 t0 h
        unfold m_X10_type_b71 at h
        refine kv_istore C (lv2 := [(0, .ref h0), (1, .long x1), (3, .int x3), (4, .int t0), (5, .int x5)]) [1, 2, 3, 0, 4] dX10_type_71 (by decide) rfl rfl ?_
        obtain ⟨x5_10, ex5_10, h⟩ := ol_e h
        refine kv_iinc C (v := x5_10) (lv2 := [(0, .ref h0), (1, .long x1), (3, .int x3), (4, .int t0), (5, .int x5_10)]) 4 [1, 2, 3, 4, 0] dX10_type_73 rfl ex5_10.symm (by decide) rfl rfl ?_
        refine kv_goto C 20 dX10_type_76 (by decide) ?_
        exact kv_lv [0, 1, 2, 3, 4] (lv2 := [(0, .ref h0), (1, .long x1), (3, .int x3), (4, .int t0), (5, .int x5_10)]) rfl (ih20 v_code v_typedCount a_typed x1 x3 t0 x5_10 h)
      have j70 : ∀ (v_code : Int32) (v_typedCount : Int32) (a_typed : Nat → Int32) (x1 : Int64) (x3 : Int32) (x5 : Int32), m_X10_type_b70 (m_X10_type_l20   n20) v_code v_typedCount a_typed x1 x3 x5 = some (rv, v_code', v_typedCount', a_typed') → kv p l e rm_X10_type s m ([.ref h0, .long p0, .int p1] : List Value).toArray below meth c D A 7 0 0 Q (wM h0 q cI v_code v_side v_rights v_passed v_halves v_number v_top v_typedCount v_readAt v_place v_writtenCount v_chosenFrom v_chosenTo v_chosenTurn v_changed v_readSide v_readRights v_readPassed v_readHalves v_readNumber a_board a_before a_typed a_written a_froms a_tos a_turns a_counts a_changedSquare a_changedMan a_readBoard) [(0, .ref h0), (1, .long x1), (3, .int x3), (5, .int x5)] 70 [] := by
        intro v_code v_typedCount a_typed x1 x3 x5 h
        unfold m_X10_type_b70 at h
        refine kv_iconst C 0 dX10_type_70 (by decide) ?_
        exact kv_lv [0, 1, 2, 3] (lv2 := [(0, .ref h0), (1, .long x1), (3, .int x3), (5, .int x5)]) rfl (j71 v_code v_typedCount a_typed x1 x3 x5 0 h)
      intro v_code v_typedCount a_typed x1 x3 x4 x5 h
      replace h : m_X10_type_b20  (m_X10_type_l20   n20) v_code v_typedCount a_typed x1 x3 x4 x5 = some (rv, v_code', v_typedCount', a_typed') := h
      unfold m_X10_type_b20 at h
      refine kv_iload C 4 dX10_type_20 rfl ?_
      refine kv_iload_n C 2 dX10_type_22 rfl rfl ?_
      refine kv_icmp_ge C 79 dX10_type_23 (by decide) (fun c_11 => ?_) (fun c_11 => ?_)
      · have h := oi_t h c_11
        exact kv_lv [0, 1, 2, 3] (lv2 := [(0, .ref h0), (1, .long x1), (3, .int x3), (4, .int x4)]) rfl (j79 v_code v_typedCount a_typed x1 x3 x4 h)
      · have h := oi_f h c_11
        refine kv_iload C 4 dX10_type_26 rfl ?_
        refine kv_bipush C 8 dX10_type_28 (by decide) ?_
        refine kv_icmp_ge C 79 dX10_type_30 (by decide) (fun c_12 => ?_) (fun c_12 => ?_)
        · have h := oi_t h c_12
          exact kv_lv [0, 1, 2, 3] (lv2 := [(0, .ref h0), (1, .long x1), (3, .int x3), (4, .int x4)]) rfl (j79 v_code v_typedCount a_typed x1 x3 x4 h)
        · have h := oi_f h c_12
          refine kv_lload_n C 1 dX10_type_33 rfl rfl ?_
          refine kv_bipush C 8 dX10_type_34 (by decide) ?_
          refine kv_iload C 4 dX10_type_36 rfl ?_
          refine kv_imul C dX10_type_38 ?_
          refine kv_lshr C dX10_type_39 ?_
          refine kv_l2i C dX10_type_40 ?_
          refine kv_sipush C 255 dX10_type_41 (by decide) ?_
          refine kv_iand C dX10_type_44 ?_
          obtain ⟨x6_13, ex6_13, h⟩ := ol_e h
          refine kv_top ex6_13 ?_
          refine kv_istore C (lv2 := [(0, .ref h0), (1, .long x1), (3, .int x3), (4, .int x4), (5, .int x5), (6, .int x6_13)]) [1, 2, 3, 4, 5, 0] dX10_type_45 (by decide) rfl rfl ?_
          refine kv_iload C 3 dX10_type_47 rfl ?_
          refine kv_if_eq C 70 dX10_type_49 (by decide) (fun c_14 => ?_) (fun c_14 => ?_)
          · have h := oi_t h c_14
            exact kv_lv [0, 1, 2, 4] (lv2 := [(0, .ref h0), (1, .long x1), (3, .int x3), (5, .int x5)]) rfl (j70 v_code v_typedCount a_typed x1 x3 x5 h)
          · have h := oi_f h c_14
            refine kv_iload C 5 dX10_type_52 rfl ?_
            refine kv_bipush C 31 dX10_type_54 (by decide) ?_
            refine kv_icmp_le C 70 dX10_type_56 (by decide) (fun c_15 => ?_) (fun c_15 => ?_)
            · have h := oi_t h c_15
              exact kv_lv [0, 1, 2, 4] (lv2 := [(0, .ref h0), (1, .long x1), (3, .int x3), (5, .int x5)]) rfl (j70 v_code v_typedCount a_typed x1 x3 x5 h)
            · have h := oi_f h c_15
              refine kv_iload C 5 dX10_type_59 rfl ?_
              refine kv_bipush C 127 dX10_type_61 (by decide) ?_
              refine kv_icmp_ge C 70 dX10_type_63 (by decide) (fun c_16 => ?_) (fun c_16 => ?_)
              · have h := oi_t h c_16
                exact kv_lv [0, 1, 2, 4] (lv2 := [(0, .ref h0), (1, .long x1), (3, .int x3), (5, .int x5)]) rfl (j70 v_code v_typedCount a_typed x1 x3 x5 h)
              · have h := oi_f h c_16
                refine kv_iconst C 1 dX10_type_66 (by decide) ?_
                refine kv_goto C 71 dX10_type_67 (by decide) ?_
                exact kv_lv [0, 1, 2, 4] (lv2 := [(0, .ref h0), (1, .long x1), (3, .int x3), (5, .int x5)]) rfl (j71 v_code v_typedCount a_typed x1 x3 x5 1 h)
  have j15 : ∀ (v_code : Int32) (v_typedCount : Int32) (a_typed : Nat → Int32) (x1 : Int64) (x3 : Int32) (t0 : Int32), m_X10_type_b15  v_code v_typedCount a_typed x1 x3 t0 = some (rv, v_code', v_typedCount', a_typed') → kv p l e rm_X10_type s m ([.ref h0, .long p0, .int p1] : List Value).toArray below meth c D A 7 0 0 Q (wM h0 q cI v_code v_side v_rights v_passed v_halves v_number v_top v_typedCount v_readAt v_place v_writtenCount v_chosenFrom v_chosenTo v_chosenTurn v_changed v_readSide v_readRights v_readPassed v_readHalves v_readNumber a_board a_before a_typed a_written a_froms a_tos a_turns a_counts a_changedSquare a_changedMan a_readBoard) [(0, .ref h0), (1, .long x1), (3, .int x3)] 15 [.int t0] := by
    intro v_code v_typedCount a_typed x1 x3 t0 h
    unfold m_X10_type_b15 at h
    refine kv_istore C (lv2 := [(0, .ref h0), (1, .long x1), (3, .int x3), (4, .int t0)]) [1, 2, 3, 0] dX10_type_15 (by decide) rfl rfl ?_
    refine kv_iconst C 0 dX10_type_17 (by decide) ?_
    refine kv_istore C (lv2 := [(0, .ref h0), (1, .long x1), (3, .int x3), (4, .int t0), (5, .int 0)]) [1, 2, 3, 4, 0] dX10_type_18 (by decide) rfl rfl ?_
    exact kv_lv [0, 1, 2, 3, 4] (lv2 := [(0, .ref h0), (1, .long x1), (3, .int x3), (4, .int t0), (5, .int 0)]) rfl (l20 kF v_code v_typedCount a_typed x1 x3 t0 0 h)
  have j14 : ∀ (v_code : Int32) (v_typedCount : Int32) (a_typed : Nat → Int32) (x1 : Int64) (x3 : Int32), m_X10_type_b14  v_code v_typedCount a_typed x1 x3 = some (rv, v_code', v_typedCount', a_typed') → kv p l e rm_X10_type s m ([.ref h0, .long p0, .int p1] : List Value).toArray below meth c D A 7 0 0 Q (wM h0 q cI v_code v_side v_rights v_passed v_halves v_number v_top v_typedCount v_readAt v_place v_writtenCount v_chosenFrom v_chosenTo v_chosenTurn v_changed v_readSide v_readRights v_readPassed v_readHalves v_readNumber a_board a_before a_typed a_written a_froms a_tos a_turns a_counts a_changedSquare a_changedMan a_readBoard) [(0, .ref h0), (1, .long x1), (3, .int x3)] 14 [] := by
    intro v_code v_typedCount a_typed x1 x3 h
    unfold m_X10_type_b14 at h
    refine kv_iconst C 0 dX10_type_14 (by decide) ?_
    exact kv_lv [0, 1, 2] (lv2 := [(0, .ref h0), (1, .long x1), (3, .int x3)]) rfl (j15 v_code v_typedCount a_typed x1 x3 0 h)
  unfold m_X10_type at hm
  have h := hm
  refine kv_lv [0, 1, 2] (lv2 := [(0, .ref h0), (1, .long p0), (3, .int p1)]) rfl ?_
  refine kv_iload_n C 2 dX10_type_0 rfl rfl ?_
  refine kv_if_le C 14 dX10_type_1 (by decide) (fun c_17 => ?_) (fun c_17 => ?_)
  · have h := oi_t h c_17
    exact kv_lv [0, 1, 2] (lv2 := [(0, .ref h0), (1, .long p0), (3, .int p1)]) rfl (j14 v_code v_typedCount a_typed p0 p1 h)
  · have h := oi_f h c_17
    refine kv_iload_n C 2 dX10_type_4 rfl rfl ?_
    refine kv_bipush C 9 dX10_type_5 (by decide) ?_
    refine kv_icmp_ge C 14 dX10_type_7 (by decide) (fun c_18 => ?_) (fun c_18 => ?_)
    · have h := oi_t h c_18
      exact kv_lv [0, 1, 2] (lv2 := [(0, .ref h0), (1, .long p0), (3, .int p1)]) rfl (j14 v_code v_typedCount a_typed p0 p1 h)
    · have h := oi_f h c_18
      refine kv_iconst C 1 dX10_type_10 (by decide) ?_
      refine kv_goto C 15 dX10_type_11 (by decide) ?_
      exact kv_lv [0, 1, 2] (lv2 := [(0, .ref h0), (1, .long p0), (3, .int p1)]) rfl (j15 v_code v_typedCount a_typed p0 p1 1 h)
def m_X10_next_b24 (v_typedCount : Int32) (v_readAt : Int32) (a_typed : Nat → Int32) (t0 : Int32) : Option (Int32) := some t0
def m_X10_next (v_typedCount : Int32) (v_readAt : Int32) (a_typed : Nat → Int32) : Option (Int32) := if v_typedCount ≤ v_readAt then m_X10_next_b24 v_typedCount v_readAt a_typed 0 else oin (v_readAt) 128 (m_X10_next_b24 v_typedCount v_readAt a_typed (a_typed v_readAt.toNatClampNeg))
abbrev rm_X10_next : Room := { frames := 0, cells := 0, slots := 0, locals := 0 }
abbrev wy_X10_next : List Cond := .code yX10_next cX10_next 1 (some .int) :: gT
theorem cv_X10_next {R : Room} {s : State} {args : Array Value} {own : String} {index : Nat} {w0 : Cond} (hts : ∀ w ∈ w0 :: gT, w.before args s = true) (hl : Cond.methodLink own index yX10_next ∈ gT) (hR : 0 + 1 ≤ R.frames ∧ 8 + (1 + 11) + 0 ≤ R.locals) : CallW R s args own RX10 index yX10_next cX10_next 1 (some .int) wy_X10_next rm_X10_next 0 0 0 :=
  cwV 0 hts (gT_call w0 (pre := [.methodLink own index yX10_next, .instanceMethod yX10_next, .selects RX10 yX10_next yX10_next, .initialized RX10]) (gT_lc hl (gT_lc ly_yX10_next (gT_lc lx_yX10_next (gT_l1 li_RX10)))) lc_yX10_next) rfl rfl rfl (by decide +kernel) hR
set_option maxRecDepth 100000 in
set_option maxHeartbeats 4000000 in
theorem c_X10_next (l : Launch) (D : va_G) (h0 : Nat) (q : Nat → Nat) (cI : ClassId) (v_code : Int32) (v_side : Int32) (v_rights : Int32) (v_passed : Int32) (v_halves : Int32) (v_number : Int32) (v_top : Int32) (v_typedCount : Int32) (v_readAt : Int32) (v_place : Int32) (v_writtenCount : Int32) (v_chosenFrom : Int32) (v_chosenTo : Int32) (v_chosenTurn : Int32) (v_changed : Int32) (v_readSide : Int32) (v_readRights : Int32) (v_readPassed : Int32) (v_readHalves : Int32) (v_readNumber : Int32) (a_board : Nat → Int32) (a_before : Nat → Int32) (a_typed : Nat → Int32) (a_written : Nat → Int32) (a_froms : Nat → Int32) (a_tos : Nat → Int32) (a_turns : Nat → Int32) (a_counts : Nat → Int32) (a_changedSquare : Nat → Int32) (a_changedMan : Nat → Int32) (a_readBoard : Nat → Int32) (rv : Int32) (hm : m_X10_next v_typedCount v_readAt a_typed = some rv) : kDi l yX10_next wy_X10_next rm_X10_next D [(cI, .int)] rv (wM h0 q cI v_code v_side v_rights v_passed v_halves v_number v_top v_typedCount v_readAt v_place v_writtenCount v_chosenFrom v_chosenTo v_chosenTurn v_changed v_readSide v_readRights v_readPassed v_readHalves v_readNumber a_board a_before a_typed a_written a_froms a_tos a_turns a_counts a_changedSquare a_changedMan a_readBoard) (wM h0 q cI v_code v_side v_rights v_passed v_halves v_number v_top v_typedCount v_readAt v_place v_writtenCount v_chosenFrom v_chosenTo v_chosenTurn v_changed v_readSide v_readRights v_readPassed v_readHalves v_readNumber a_board a_before a_typed a_written a_froms a_tos a_turns a_counts a_changedSquare a_changedMan a_readBoard) [.ref h0] := by
  refine kDi.of cX10_next 1 (some .int) (by decide) rfl (Or.inl rfl) (Nat.le_of_ble_eq_true rfl) ?_
  intro p e s m below meth c A Q C hret
  have hin10 : ∀ w ∈ wsX100, w ∈ wy_X10_next := fun w h => List.mem_cons_of_mem _ (inG10 w h)
  have j24 : ∀ (t0 : Int32), m_X10_next_b24  v_typedCount v_readAt a_typed t0 = some rv → kv p l e rm_X10_next s m ([.ref h0] : List Value).toArray below meth c D A 1 0 0 Q (wM h0 q cI v_code v_side v_rights v_passed v_halves v_number v_top v_typedCount v_readAt v_place v_writtenCount v_chosenFrom v_chosenTo v_chosenTurn v_changed v_readSide v_readRights v_readPassed v_readHalves v_readNumber a_board a_before a_typed a_written a_froms a_tos a_turns a_counts a_changedSquare a_changedMan a_readBoard) [] 24 [.int t0] := by
    intro t0 h
    unfold m_X10_next_b24 at h
    cases h
    exact hret _ _ dX10_next_24 (fun q => by cases q)
  unfold m_X10_next at hm
  have h := hm
  refine kv_lv [0] (lv2 := [(0, .ref h0)]) rfl ?_
  refine kv_aload_n C 0 dX10_next_0 rfl rfl ?_
  refine kv_get C (Cn := RX10) (T := TX10) (N := 31) 0 11 hin10 rfl rfl (by decide) (C.ts _ (List.mem_cons_of_mem _ lf_RX10_211)) rfl rfl dX10_next_1 ?_
  refine kv_aload_n C 0 dX10_next_4 rfl rfl ?_
  refine kv_get C (Cn := RX10) (T := TX10) (N := 31) 0 10 hin10 rfl rfl (by decide) (C.ts _ (List.mem_cons_of_mem _ lf_RX10_208)) rfl rfl dX10_next_5 ?_
  refine kv_icmp_ge C 23 dX10_next_8 (by decide) (fun c_1 => ?_) (fun c_1 => ?_)
  · have h := oi_t h c_1
    refine kv_iconst C 0 dX10_next_23 (by decide) ?_
    exact kv_lv [] (lv2 := []) rfl (j24 0 h)
  · have h := oi_f h c_1
    refine kv_aload_n C 0 dX10_next_11 rfl rfl ?_
    refine kv_get C (Cn := RX10) (T := TX10) (N := 31) 0 9 hin10 rfl rfl (by decide) (C.ts _ (List.mem_cons_of_mem _ lf_RX10_21)) rfl rfl dX10_next_12 ?_
    refine kv_aload_n C 0 dX10_next_15 rfl rfl ?_
    refine kv_get C (Cn := RX10) (T := TX10) (N := 31) 0 11 hin10 rfl rfl (by decide) (C.ts _ (List.mem_cons_of_mem _ lf_RX10_211)) rfl rfl dX10_next_16 ?_
    obtain ⟨g_2, h⟩ := oin_e h
    refine kv_iald C 3 0 rfl rfl g_2 dX10_next_19 ?_
    refine kv_goto C 24 dX10_next_20 (by decide) ?_
    exact kv_lv [] (lv2 := []) rfl (j24 (a_typed v_readAt.toNatClampNeg) h)
def m_X10_takes_b32 (v_typedCount : Int32) (v_readAt : Int32) (a_typed : Nat → Int32) (x2 : Int32) (t1 : Int32) : Option (Int32 × Int32) := obl (x2) (some (x2, t1))
def m_X10_takes_b13 (v_typedCount : Int32) (v_readAt : Int32) (a_typed : Nat → Int32) (t0 : Int32) : Option (Int32 × Int32) := if t0 = 0 then m_X10_takes_b32 v_typedCount v_readAt a_typed t0 v_readAt else m_X10_takes_b32 v_typedCount v_readAt a_typed t0 (v_readAt + 1)
def m_X10_takes (v_typedCount : Int32) (v_readAt : Int32) (a_typed : Nat → Int32) (p0 : Int32) : Option (Int32 × Int32) := ob (m_X10_next v_typedCount v_readAt a_typed ) fun r_3 => if r_3 = p0 then m_X10_takes_b13 v_typedCount v_readAt a_typed 1 else m_X10_takes_b13 v_typedCount v_readAt a_typed 0
abbrev rm_X10_takes : Room := { frames := 1, cells := 0, slots := 0, locals := 20 }
abbrev wy_X10_takes : List Cond := .code yX10_takes cX10_takes 3 (some .boolean) :: gT
theorem cv_X10_takes {R : Room} {s : State} {args : Array Value} {own : String} {index : Nat} {w0 : Cond} (hts : ∀ w ∈ w0 :: gT, w.before args s = true) (hl : Cond.methodLink own index yX10_takes ∈ gT) (hR : 1 + 1 ≤ R.frames ∧ 8 + (3 + 11) + 20 ≤ R.locals) : CallW R s args own RX10 index yX10_takes cX10_takes 3 (some .boolean) wy_X10_takes rm_X10_takes 0 0 1 :=
  cwV 1 hts (gT_call w0 (pre := [.methodLink own index yX10_takes, .instanceMethod yX10_takes, .selects RX10 yX10_takes yX10_takes, .initialized RX10]) (gT_lc hl (gT_lc ly_yX10_takes (gT_lc lx_yX10_takes (gT_l1 li_RX10)))) lc_yX10_takes) rfl rfl rfl (by decide +kernel) hR
set_option maxRecDepth 100000 in
set_option maxHeartbeats 4000000 in
theorem c_X10_takes (l : Launch) (D : va_G) (h0 : Nat) (q : Nat → Nat) (cI : ClassId) (v_code : Int32) (v_side : Int32) (v_rights : Int32) (v_passed : Int32) (v_halves : Int32) (v_number : Int32) (v_top : Int32) (v_typedCount : Int32) (v_readAt : Int32) (v_place : Int32) (v_writtenCount : Int32) (v_chosenFrom : Int32) (v_chosenTo : Int32) (v_chosenTurn : Int32) (v_changed : Int32) (v_readSide : Int32) (v_readRights : Int32) (v_readPassed : Int32) (v_readHalves : Int32) (v_readNumber : Int32) (a_board : Nat → Int32) (a_before : Nat → Int32) (a_typed : Nat → Int32) (a_written : Nat → Int32) (a_froms : Nat → Int32) (a_tos : Nat → Int32) (a_turns : Nat → Int32) (a_counts : Nat → Int32) (a_changedSquare : Nat → Int32) (a_changedMan : Nat → Int32) (a_readBoard : Nat → Int32) (p0 : Int32) (rv : Int32) (v_readAt' : Int32) (hm : m_X10_takes v_typedCount v_readAt a_typed p0 = some (rv, v_readAt')) : kDi l yX10_takes wy_X10_takes rm_X10_takes D [(cI, .int)] rv (wM h0 q cI v_code v_side v_rights v_passed v_halves v_number v_top v_typedCount v_readAt v_place v_writtenCount v_chosenFrom v_chosenTo v_chosenTurn v_changed v_readSide v_readRights v_readPassed v_readHalves v_readNumber a_board a_before a_typed a_written a_froms a_tos a_turns a_counts a_changedSquare a_changedMan a_readBoard) (wM h0 q cI v_code v_side v_rights v_passed v_halves v_number v_top v_typedCount v_readAt' v_place v_writtenCount v_chosenFrom v_chosenTo v_chosenTurn v_changed v_readSide v_readRights v_readPassed v_readHalves v_readNumber a_board a_before a_typed a_written a_froms a_tos a_turns a_counts a_changedSquare a_changedMan a_readBoard) [.ref h0, .int p0] := by
  refine kDi.of cX10_takes 3 (some .boolean) (by decide) rfl (Or.inr rfl) (Nat.le_of_ble_eq_true rfl) ?_
  intro p e s m below meth c A Q C hret
  have hin10 : ∀ w ∈ wsX100, w ∈ wy_X10_takes := fun w h => List.mem_cons_of_mem _ (inG10 w h)
  have j32 : ∀ (v_readAt : Int32) (x2 : Int32) (t1 : Int32), m_X10_takes_b32  v_typedCount v_readAt a_typed x2 t1 = some (rv, v_readAt') → kv p l e rm_X10_takes s m ([.ref h0, .int p0] : List Value).toArray below meth c D A 3 0 0 Q (wM h0 q cI v_code v_side v_rights v_passed v_halves v_number v_top v_typedCount v_readAt v_place v_writtenCount v_chosenFrom v_chosenTo v_chosenTurn v_changed v_readSide v_readRights v_readPassed v_readHalves v_readNumber a_board a_before a_typed a_written a_froms a_tos a_turns a_counts a_changedSquare a_changedMan a_readBoard) [(2, .int x2)] 32 [.int t1, .ref h0] := by
    intro v_readAt x2 t1 h
    unfold m_X10_takes_b32 at h
    refine kv_put C (Cn := RX10) (T := TX10) (N := 31) (ty := .int) (ws1 := (wM h0 q cI v_code v_side v_rights v_passed v_halves v_number v_top v_typedCount t1 v_place v_writtenCount v_chosenFrom v_chosenTo v_chosenTurn v_changed v_readSide v_readRights v_readPassed v_readHalves v_readNumber a_board a_before a_typed a_written a_froms a_tos a_turns a_counts a_changedSquare a_changedMan a_readBoard)) 0 11 hin10 tyX10 tyX10_ok nmX10 rfl rfl (by decide) (C.ts _ (List.mem_cons_of_mem _ lf_RX10_211)) rfl rfl (by decide +kernel) rfl rfl (Nat.le_of_ble_eq_true rfl) rfl dX10_takes_32 ?_
    refine kv_iload_n C 0 dX10_takes_35 rfl rfl ?_
    obtain ⟨g_1, h⟩ := obl_e h
    cases h
    exact hret _ _ dX10_takes_36 (fun _ => g_1)
  have j13 : ∀ (v_readAt : Int32) (t0 : Int32), m_X10_takes_b13  v_typedCount v_readAt a_typed t0 = some (rv, v_readAt') → kv p l e rm_X10_takes s m ([.ref h0, .int p0] : List Value).toArray below meth c D A 3 0 0 Q (wM h0 q cI v_code v_side v_rights v_passed v_halves v_number v_top v_typedCount v_readAt v_place v_writtenCount v_chosenFrom v_chosenTo v_chosenTurn v_changed v_readSide v_readRights v_readPassed v_readHalves v_readNumber a_board a_before a_typed a_written a_froms a_tos a_turns a_counts a_changedSquare a_changedMan a_readBoard) [(0, .ref h0)] 13 [.int t0] := by
    intro v_readAt t0 h
    unfold m_X10_takes_b13 at h
    refine kv_istore_n C (lv2 := [(0, .ref h0), (2, .int t0)]) [1, 0] dX10_takes_13 rfl (by decide) rfl rfl ?_
    refine kv_aload_n C 0 dX10_takes_14 rfl rfl ?_
    refine kv_iload_n C 1 dX10_takes_15 rfl rfl ?_
    refine kv_if_eq C 28 dX10_takes_16 (by decide) (fun c_2 => ?_) (fun c_2 => ?_)
    · have h := oi_t h c_2
      refine kv_aload_n C 0 dX10_takes_28 rfl rfl ?_
      refine kv_get C (Cn := RX10) (T := TX10) (N := 31) 0 11 hin10 rfl rfl (by decide) (C.ts _ (List.mem_cons_of_mem _ lf_RX10_211)) rfl rfl dX10_takes_29 ?_
      exact kv_lv [1] (lv2 := [(2, .int t0)]) rfl (j32 v_readAt t0 v_readAt h)
    · have h := oi_f h c_2
      refine kv_aload_n C 0 dX10_takes_19 rfl rfl ?_
      refine kv_get C (Cn := RX10) (T := TX10) (N := 31) 0 11 hin10 rfl rfl (by decide) (C.ts _ (List.mem_cons_of_mem _ lf_RX10_211)) rfl rfl dX10_takes_20 ?_
      refine kv_iconst C 1 dX10_takes_23 (by decide) ?_
      refine kv_iadd C dX10_takes_24 ?_
      refine kv_goto C 32 dX10_takes_25 (by decide) ?_
      exact kv_lv [1] (lv2 := [(2, .int t0)]) rfl (j32 v_readAt t0 (v_readAt + 1) h)
  unfold m_X10_takes at hm
  have h := hm
  refine kv_lv [0, 1] (lv2 := [(0, .ref h0), (1, .int p0)]) rfl ?_
  refine kv_aload_n C 0 dX10_takes_0 rfl rfl ?_
  obtain ⟨r_3, hm_4, h⟩ := ob_e h
  refine kv_callWi C [] 0 (c_X10_next l D h0 q cI v_code v_side v_rights v_passed v_halves v_number v_top v_typedCount v_readAt v_place v_writtenCount v_chosenFrom v_chosenTo v_chosenTurn v_changed v_readSide v_readRights v_readPassed v_readHalves v_readNumber a_board a_before a_typed a_written a_froms a_tos a_turns a_counts a_changedSquare a_changedMan a_readBoard  r_3 hm_4) (cv_X10_next C.ts lm_RX10_214 ⟨Nat.le_of_ble_eq_true rfl, Nat.le_of_ble_eq_true rfl⟩) rfl rfl rfl rfl (Nat.le_of_ble_eq_true rfl) dX10_takes_1 ⟨Nat.zero_le _, Nat.zero_le _⟩ ?_
  refine kv_iload_n C 1 dX10_takes_4 rfl rfl ?_
  refine kv_icmp_ne C 12 dX10_takes_5 (by decide) (fun c_5 => ?_) (fun c_5 => ?_)
  · have h := oi_f h c_5
    refine kv_iconst C 0 dX10_takes_12 (by decide) ?_
    exact kv_lv [0] (lv2 := [(0, .ref h0)]) rfl (j13 v_readAt 0 h)
  · have h := oi_t h c_5
    refine kv_iconst C 1 dX10_takes_8 (by decide) ?_
    refine kv_goto C 13 dX10_takes_9 (by decide) ?_
    exact kv_lv [0] (lv2 := [(0, .ref h0)]) rfl (j13 v_readAt 1 h)
def m_X10_manOf (p0 : Int32) : Option (Int32) := if p0 = 66 then some 3 else if p0 = 75 then some 6 else if p0 = 78 then some 2 else if p0 = 80 then some 1 else if p0 = 81 then some 5 else if p0 = 82 then some 4 else if p0 = 98 then some (-3) else if p0 = 107 then some (-6) else if p0 = 110 then some (-2) else if p0 = 112 then some (-1) else if p0 = 113 then some (-5) else if p0 = 114 then some (-4) else some 0
abbrev rm_X10_manOf : Room := { frames := 0, cells := 0, slots := 0, locals := 0 }
abbrev wy_X10_manOf : List Cond := .code yX10_manOf cX10_manOf 1 (some .int) :: gT
theorem cs_X10_manOf {R : Room} {s : State} {args : Array Value} {own : String} {index : Nat} {w0 : Cond} (hts : ∀ w ∈ w0 :: gT, w.before args s = true) (hl : Cond.methodLink own index yX10_manOf ∈ gT) (hR : 0 + 1 ≤ R.frames ∧ 8 + (1 + 11) + 0 ≤ R.locals) : CallB R s args own index yX10_manOf cX10_manOf 1 (some .int) wy_X10_manOf rm_X10_manOf 0 0 1 ∧ (Cond.static yX10_manOf).before args s = true :=
  va_cwS 1 hts (gT_call w0 (pre := [.methodLink own index yX10_manOf, .static yX10_manOf, .initialized yX10_manOf.cls]) (gT_lc hl (gT_lc ls_yX10_manOf (gT_l1 li_RX10))) lc_yX10_manOf) rfl rfl rfl (by decide +kernel) hR
set_option maxRecDepth 100000 in
set_option maxHeartbeats 4000000 in
theorem c_X10_manOf (l : Launch) (D : va_G) (p0 : Int32) (rv : Int32) (hm : m_X10_manOf p0 = some rv) : kDi l yX10_manOf wy_X10_manOf rm_X10_manOf D [] rv [] [] [.int p0] := by
  refine kDi.of cX10_manOf 1 (some .int) (by decide) rfl (Or.inl rfl) (Nat.le_of_ble_eq_true rfl) ?_
  intro p e s m below meth c A Q C hret
  unfold m_X10_manOf at hm
  have h := hm
  refine kv_lv [0] (lv2 := [(0, .int p0)]) rfl ?_
  refine kv_iload_n C 0 dX10_manOf_0 rfl rfl ?_
  by_cases c_1 : p0 = 66
  · have h := oi_t h c_1
    refine kv_tableIn C 66 216 dX10_manOf_1 c_1 (by decide) (by decide) rfl (by decide) ?_
    refine kv_iconst C 3 dX10_manOf_216 (by decide) ?_
    cases h
    exact hret _ _ dX10_manOf_217 (fun q => by cases q)
  have h := oi_f h c_1
  by_cases c_2 : p0 = 75
  · have h := oi_t h c_2
    refine kv_tableIn C 75 222 dX10_manOf_1 c_2 (by decide) (by decide) rfl (by decide) ?_
    refine kv_bipush C 6 dX10_manOf_222 (by decide) ?_
    cases h
    exact hret _ _ dX10_manOf_224 (fun q => by cases q)
  have h := oi_f h c_2
  by_cases c_3 : p0 = 78
  · have h := oi_t h c_3
    refine kv_tableIn C 78 214 dX10_manOf_1 c_3 (by decide) (by decide) rfl (by decide) ?_
    refine kv_iconst C 2 dX10_manOf_214 (by decide) ?_
    cases h
    exact hret _ _ dX10_manOf_215 (fun q => by cases q)
  have h := oi_f h c_3
  by_cases c_4 : p0 = 80
  · have h := oi_t h c_4
    refine kv_tableIn C 80 212 dX10_manOf_1 c_4 (by decide) (by decide) rfl (by decide) ?_
    refine kv_iconst C 1 dX10_manOf_212 (by decide) ?_
    cases h
    exact hret _ _ dX10_manOf_213 (fun q => by cases q)
  have h := oi_f h c_4
  by_cases c_5 : p0 = 81
  · have h := oi_t h c_5
    refine kv_tableIn C 81 220 dX10_manOf_1 c_5 (by decide) (by decide) rfl (by decide) ?_
    refine kv_iconst C 5 dX10_manOf_220 (by decide) ?_
    cases h
    exact hret _ _ dX10_manOf_221 (fun q => by cases q)
  have h := oi_f h c_5
  by_cases c_6 : p0 = 82
  · have h := oi_t h c_6
    refine kv_tableIn C 82 218 dX10_manOf_1 c_6 (by decide) (by decide) rfl (by decide) ?_
    refine kv_iconst C 4 dX10_manOf_218 (by decide) ?_
    cases h
    exact hret _ _ dX10_manOf_219 (fun q => by cases q)
  have h := oi_f h c_6
  by_cases c_7 : p0 = 98
  · have h := oi_t h c_7
    refine kv_tableIn C 98 230 dX10_manOf_1 c_7 (by decide) (by decide) rfl (by decide) ?_
    refine kv_bipush C (-3) dX10_manOf_230 (by decide) ?_
    cases h
    exact hret _ _ dX10_manOf_232 (fun q => by cases q)
  have h := oi_f h c_7
  by_cases c_8 : p0 = 107
  · have h := oi_t h c_8
    refine kv_tableIn C 107 239 dX10_manOf_1 c_8 (by decide) (by decide) rfl (by decide) ?_
    refine kv_bipush C (-6) dX10_manOf_239 (by decide) ?_
    cases h
    exact hret _ _ dX10_manOf_241 (fun q => by cases q)
  have h := oi_f h c_8
  by_cases c_9 : p0 = 110
  · have h := oi_t h c_9
    refine kv_tableIn C 110 227 dX10_manOf_1 c_9 (by decide) (by decide) rfl (by decide) ?_
    refine kv_bipush C (-2) dX10_manOf_227 (by decide) ?_
    cases h
    exact hret _ _ dX10_manOf_229 (fun q => by cases q)
  have h := oi_f h c_9
  by_cases c_10 : p0 = 112
  · have h := oi_t h c_10
    refine kv_tableIn C 112 225 dX10_manOf_1 c_10 (by decide) (by decide) rfl (by decide) ?_
    refine kv_iconst C (-1) dX10_manOf_225 (by decide) ?_
    cases h
    exact hret _ _ dX10_manOf_226 (fun q => by cases q)
  have h := oi_f h c_10
  by_cases c_11 : p0 = 113
  · have h := oi_t h c_11
    refine kv_tableIn C 113 236 dX10_manOf_1 c_11 (by decide) (by decide) rfl (by decide) ?_
    refine kv_bipush C (-5) dX10_manOf_236 (by decide) ?_
    cases h
    exact hret _ _ dX10_manOf_238 (fun q => by cases q)
  have h := oi_f h c_11
  by_cases c_12 : p0 = 114
  · have h := oi_t h c_12
    refine kv_tableIn C 114 233 dX10_manOf_1 c_12 (by decide) (by decide) rfl (by decide) ?_
    refine kv_bipush C (-4) dX10_manOf_233 (by decide) ?_
    cases h
    exact hret _ _ dX10_manOf_235 (fun q => by cases q)
  have h := oi_f h c_12
  by_cases c_13 : p0 = 67
  · refine kv_tableIn C 67 242 dX10_manOf_1 c_13 (by decide) (by decide) rfl (by decide) ?_
    refine kv_iconst C 0 dX10_manOf_242 (by decide) ?_
    cases h
    exact hret _ _ dX10_manOf_243 (fun q => by cases q)
  by_cases c_14 : p0 = 68
  · refine kv_tableIn C 68 242 dX10_manOf_1 c_14 (by decide) (by decide) rfl (by decide) ?_
    refine kv_iconst C 0 dX10_manOf_242 (by decide) ?_
    cases h
    exact hret _ _ dX10_manOf_243 (fun q => by cases q)
  by_cases c_15 : p0 = 69
  · refine kv_tableIn C 69 242 dX10_manOf_1 c_15 (by decide) (by decide) rfl (by decide) ?_
    refine kv_iconst C 0 dX10_manOf_242 (by decide) ?_
    cases h
    exact hret _ _ dX10_manOf_243 (fun q => by cases q)
  by_cases c_16 : p0 = 70
  · refine kv_tableIn C 70 242 dX10_manOf_1 c_16 (by decide) (by decide) rfl (by decide) ?_
    refine kv_iconst C 0 dX10_manOf_242 (by decide) ?_
    cases h
    exact hret _ _ dX10_manOf_243 (fun q => by cases q)
  by_cases c_17 : p0 = 71
  · refine kv_tableIn C 71 242 dX10_manOf_1 c_17 (by decide) (by decide) rfl (by decide) ?_
    refine kv_iconst C 0 dX10_manOf_242 (by decide) ?_
    cases h
    exact hret _ _ dX10_manOf_243 (fun q => by cases q)
  by_cases c_18 : p0 = 72
  · refine kv_tableIn C 72 242 dX10_manOf_1 c_18 (by decide) (by decide) rfl (by decide) ?_
    refine kv_iconst C 0 dX10_manOf_242 (by decide) ?_
    cases h
    exact hret _ _ dX10_manOf_243 (fun q => by cases q)
  by_cases c_19 : p0 = 73
  · refine kv_tableIn C 73 242 dX10_manOf_1 c_19 (by decide) (by decide) rfl (by decide) ?_
    refine kv_iconst C 0 dX10_manOf_242 (by decide) ?_
    cases h
    exact hret _ _ dX10_manOf_243 (fun q => by cases q)
  by_cases c_20 : p0 = 74
  · refine kv_tableIn C 74 242 dX10_manOf_1 c_20 (by decide) (by decide) rfl (by decide) ?_
    refine kv_iconst C 0 dX10_manOf_242 (by decide) ?_
    cases h
    exact hret _ _ dX10_manOf_243 (fun q => by cases q)
  by_cases c_21 : p0 = 76
  · refine kv_tableIn C 76 242 dX10_manOf_1 c_21 (by decide) (by decide) rfl (by decide) ?_
    refine kv_iconst C 0 dX10_manOf_242 (by decide) ?_
    cases h
    exact hret _ _ dX10_manOf_243 (fun q => by cases q)
  by_cases c_22 : p0 = 77
  · refine kv_tableIn C 77 242 dX10_manOf_1 c_22 (by decide) (by decide) rfl (by decide) ?_
    refine kv_iconst C 0 dX10_manOf_242 (by decide) ?_
    cases h
    exact hret _ _ dX10_manOf_243 (fun q => by cases q)
  by_cases c_23 : p0 = 79
  · refine kv_tableIn C 79 242 dX10_manOf_1 c_23 (by decide) (by decide) rfl (by decide) ?_
    refine kv_iconst C 0 dX10_manOf_242 (by decide) ?_
    cases h
    exact hret _ _ dX10_manOf_243 (fun q => by cases q)
  by_cases c_24 : p0 = 83
  · refine kv_tableIn C 83 242 dX10_manOf_1 c_24 (by decide) (by decide) rfl (by decide) ?_
    refine kv_iconst C 0 dX10_manOf_242 (by decide) ?_
    cases h
    exact hret _ _ dX10_manOf_243 (fun q => by cases q)
  by_cases c_25 : p0 = 84
  · refine kv_tableIn C 84 242 dX10_manOf_1 c_25 (by decide) (by decide) rfl (by decide) ?_
    refine kv_iconst C 0 dX10_manOf_242 (by decide) ?_
    cases h
    exact hret _ _ dX10_manOf_243 (fun q => by cases q)
  by_cases c_26 : p0 = 85
  · refine kv_tableIn C 85 242 dX10_manOf_1 c_26 (by decide) (by decide) rfl (by decide) ?_
    refine kv_iconst C 0 dX10_manOf_242 (by decide) ?_
    cases h
    exact hret _ _ dX10_manOf_243 (fun q => by cases q)
  by_cases c_27 : p0 = 86
  · refine kv_tableIn C 86 242 dX10_manOf_1 c_27 (by decide) (by decide) rfl (by decide) ?_
    refine kv_iconst C 0 dX10_manOf_242 (by decide) ?_
    cases h
    exact hret _ _ dX10_manOf_243 (fun q => by cases q)
  by_cases c_28 : p0 = 87
  · refine kv_tableIn C 87 242 dX10_manOf_1 c_28 (by decide) (by decide) rfl (by decide) ?_
    refine kv_iconst C 0 dX10_manOf_242 (by decide) ?_
    cases h
    exact hret _ _ dX10_manOf_243 (fun q => by cases q)
  by_cases c_29 : p0 = 88
  · refine kv_tableIn C 88 242 dX10_manOf_1 c_29 (by decide) (by decide) rfl (by decide) ?_
    refine kv_iconst C 0 dX10_manOf_242 (by decide) ?_
    cases h
    exact hret _ _ dX10_manOf_243 (fun q => by cases q)
  by_cases c_30 : p0 = 89
  · refine kv_tableIn C 89 242 dX10_manOf_1 c_30 (by decide) (by decide) rfl (by decide) ?_
    refine kv_iconst C 0 dX10_manOf_242 (by decide) ?_
    cases h
    exact hret _ _ dX10_manOf_243 (fun q => by cases q)
  by_cases c_31 : p0 = 90
  · refine kv_tableIn C 90 242 dX10_manOf_1 c_31 (by decide) (by decide) rfl (by decide) ?_
    refine kv_iconst C 0 dX10_manOf_242 (by decide) ?_
    cases h
    exact hret _ _ dX10_manOf_243 (fun q => by cases q)
  by_cases c_32 : p0 = 91
  · refine kv_tableIn C 91 242 dX10_manOf_1 c_32 (by decide) (by decide) rfl (by decide) ?_
    refine kv_iconst C 0 dX10_manOf_242 (by decide) ?_
    cases h
    exact hret _ _ dX10_manOf_243 (fun q => by cases q)
  by_cases c_33 : p0 = 92
  · refine kv_tableIn C 92 242 dX10_manOf_1 c_33 (by decide) (by decide) rfl (by decide) ?_
    refine kv_iconst C 0 dX10_manOf_242 (by decide) ?_
    cases h
    exact hret _ _ dX10_manOf_243 (fun q => by cases q)
  by_cases c_34 : p0 = 93
  · refine kv_tableIn C 93 242 dX10_manOf_1 c_34 (by decide) (by decide) rfl (by decide) ?_
    refine kv_iconst C 0 dX10_manOf_242 (by decide) ?_
    cases h
    exact hret _ _ dX10_manOf_243 (fun q => by cases q)
  by_cases c_35 : p0 = 94
  · refine kv_tableIn C 94 242 dX10_manOf_1 c_35 (by decide) (by decide) rfl (by decide) ?_
    refine kv_iconst C 0 dX10_manOf_242 (by decide) ?_
    cases h
    exact hret _ _ dX10_manOf_243 (fun q => by cases q)
  by_cases c_36 : p0 = 95
  · refine kv_tableIn C 95 242 dX10_manOf_1 c_36 (by decide) (by decide) rfl (by decide) ?_
    refine kv_iconst C 0 dX10_manOf_242 (by decide) ?_
    cases h
    exact hret _ _ dX10_manOf_243 (fun q => by cases q)
  by_cases c_37 : p0 = 96
  · refine kv_tableIn C 96 242 dX10_manOf_1 c_37 (by decide) (by decide) rfl (by decide) ?_
    refine kv_iconst C 0 dX10_manOf_242 (by decide) ?_
    cases h
    exact hret _ _ dX10_manOf_243 (fun q => by cases q)
  by_cases c_38 : p0 = 97
  · refine kv_tableIn C 97 242 dX10_manOf_1 c_38 (by decide) (by decide) rfl (by decide) ?_
    refine kv_iconst C 0 dX10_manOf_242 (by decide) ?_
    cases h
    exact hret _ _ dX10_manOf_243 (fun q => by cases q)
  by_cases c_39 : p0 = 99
  · refine kv_tableIn C 99 242 dX10_manOf_1 c_39 (by decide) (by decide) rfl (by decide) ?_
    refine kv_iconst C 0 dX10_manOf_242 (by decide) ?_
    cases h
    exact hret _ _ dX10_manOf_243 (fun q => by cases q)
  by_cases c_40 : p0 = 100
  · refine kv_tableIn C 100 242 dX10_manOf_1 c_40 (by decide) (by decide) rfl (by decide) ?_
    refine kv_iconst C 0 dX10_manOf_242 (by decide) ?_
    cases h
    exact hret _ _ dX10_manOf_243 (fun q => by cases q)
  by_cases c_41 : p0 = 101
  · refine kv_tableIn C 101 242 dX10_manOf_1 c_41 (by decide) (by decide) rfl (by decide) ?_
    refine kv_iconst C 0 dX10_manOf_242 (by decide) ?_
    cases h
    exact hret _ _ dX10_manOf_243 (fun q => by cases q)
  by_cases c_42 : p0 = 102
  · refine kv_tableIn C 102 242 dX10_manOf_1 c_42 (by decide) (by decide) rfl (by decide) ?_
    refine kv_iconst C 0 dX10_manOf_242 (by decide) ?_
    cases h
    exact hret _ _ dX10_manOf_243 (fun q => by cases q)
  by_cases c_43 : p0 = 103
  · refine kv_tableIn C 103 242 dX10_manOf_1 c_43 (by decide) (by decide) rfl (by decide) ?_
    refine kv_iconst C 0 dX10_manOf_242 (by decide) ?_
    cases h
    exact hret _ _ dX10_manOf_243 (fun q => by cases q)
  by_cases c_44 : p0 = 104
  · refine kv_tableIn C 104 242 dX10_manOf_1 c_44 (by decide) (by decide) rfl (by decide) ?_
    refine kv_iconst C 0 dX10_manOf_242 (by decide) ?_
    cases h
    exact hret _ _ dX10_manOf_243 (fun q => by cases q)
  by_cases c_45 : p0 = 105
  · refine kv_tableIn C 105 242 dX10_manOf_1 c_45 (by decide) (by decide) rfl (by decide) ?_
    refine kv_iconst C 0 dX10_manOf_242 (by decide) ?_
    cases h
    exact hret _ _ dX10_manOf_243 (fun q => by cases q)
  by_cases c_46 : p0 = 106
  · refine kv_tableIn C 106 242 dX10_manOf_1 c_46 (by decide) (by decide) rfl (by decide) ?_
    refine kv_iconst C 0 dX10_manOf_242 (by decide) ?_
    cases h
    exact hret _ _ dX10_manOf_243 (fun q => by cases q)
  by_cases c_47 : p0 = 108
  · refine kv_tableIn C 108 242 dX10_manOf_1 c_47 (by decide) (by decide) rfl (by decide) ?_
    refine kv_iconst C 0 dX10_manOf_242 (by decide) ?_
    cases h
    exact hret _ _ dX10_manOf_243 (fun q => by cases q)
  by_cases c_48 : p0 = 109
  · refine kv_tableIn C 109 242 dX10_manOf_1 c_48 (by decide) (by decide) rfl (by decide) ?_
    refine kv_iconst C 0 dX10_manOf_242 (by decide) ?_
    cases h
    exact hret _ _ dX10_manOf_243 (fun q => by cases q)
  by_cases c_49 : p0 = 111
  · refine kv_tableIn C 111 242 dX10_manOf_1 c_49 (by decide) (by decide) rfl (by decide) ?_
    refine kv_iconst C 0 dX10_manOf_242 (by decide) ?_
    cases h
    exact hret _ _ dX10_manOf_243 (fun q => by cases q)
  have qc_1 := kv_ne c_1
  have qc_2 := kv_ne c_2
  have qc_3 := kv_ne c_3
  have qc_4 := kv_ne c_4
  have qc_5 := kv_ne c_5
  have qc_6 := kv_ne c_6
  have qc_7 := kv_ne c_7
  have qc_8 := kv_ne c_8
  have qc_9 := kv_ne c_9
  have qc_10 := kv_ne c_10
  have qc_11 := kv_ne c_11
  have qc_12 := kv_ne c_12
  have qc_13 := kv_ne c_13
  have qc_14 := kv_ne c_14
  have qc_15 := kv_ne c_15
  have qc_16 := kv_ne c_16
  have qc_17 := kv_ne c_17
  have qc_18 := kv_ne c_18
  have qc_19 := kv_ne c_19
  have qc_20 := kv_ne c_20
  have qc_21 := kv_ne c_21
  have qc_22 := kv_ne c_22
  have qc_23 := kv_ne c_23
  have qc_24 := kv_ne c_24
  have qc_25 := kv_ne c_25
  have qc_26 := kv_ne c_26
  have qc_27 := kv_ne c_27
  have qc_28 := kv_ne c_28
  have qc_29 := kv_ne c_29
  have qc_30 := kv_ne c_30
  have qc_31 := kv_ne c_31
  have qc_32 := kv_ne c_32
  have qc_33 := kv_ne c_33
  have qc_34 := kv_ne c_34
  have qc_35 := kv_ne c_35
  have qc_36 := kv_ne c_36
  have qc_37 := kv_ne c_37
  have qc_38 := kv_ne c_38
  have qc_39 := kv_ne c_39
  have qc_40 := kv_ne c_40
  have qc_41 := kv_ne c_41
  have qc_42 := kv_ne c_42
  have qc_43 := kv_ne c_43
  have qc_44 := kv_ne c_44
  have qc_45 := kv_ne c_45
  have qc_46 := kv_ne c_46
  have qc_47 := kv_ne c_47
  have qc_48 := kv_ne c_48
  have qc_49 := kv_ne c_49
  refine kv_tableOut C 242 dX10_manOf_1 (by simp at qc_1 qc_2 qc_3 qc_4 qc_5 qc_6 qc_7 qc_8 qc_9 qc_10 qc_11 qc_12 qc_13 qc_14 qc_15 qc_16 qc_17 qc_18 qc_19 qc_20 qc_21 qc_22 qc_23 qc_24 qc_25 qc_26 qc_27 qc_28 qc_29 qc_30 qc_31 qc_32 qc_33 qc_34 qc_35 qc_36 qc_37 qc_38 qc_39 qc_40 qc_41 qc_42 qc_43 qc_44 qc_45 qc_46 qc_47 qc_48 qc_49; omega) (by decide) ?_
  refine kv_iconst C 0 dX10_manOf_242 (by decide) ?_
  cases h
  exact hret _ _ dX10_manOf_243 (fun q => by cases q)
def m_X10_isDigit_b17 (t0 : Int32) : Option (Int32) := obl (t0) (some t0)
def m_X10_isDigit_b16 : Option (Int32) := m_X10_isDigit_b17 0
def m_X10_isDigit (p0 : Int32) : Option (Int32) := if p0 < 48 then m_X10_isDigit_b16 else if 57 < p0 then m_X10_isDigit_b16 else m_X10_isDigit_b17 1
abbrev rm_X10_isDigit : Room := { frames := 0, cells := 0, slots := 0, locals := 0 }
abbrev wy_X10_isDigit : List Cond := .code yX10_isDigit cX10_isDigit 1 (some .boolean) :: gT
theorem cs_X10_isDigit {R : Room} {s : State} {args : Array Value} {own : String} {index : Nat} {w0 : Cond} (hts : ∀ w ∈ w0 :: gT, w.before args s = true) (hl : Cond.methodLink own index yX10_isDigit ∈ gT) (hR : 0 + 1 ≤ R.frames ∧ 8 + (1 + 11) + 0 ≤ R.locals) : CallB R s args own index yX10_isDigit cX10_isDigit 1 (some .boolean) wy_X10_isDigit rm_X10_isDigit 0 0 1 ∧ (Cond.static yX10_isDigit).before args s = true :=
  va_cwS 1 hts (gT_call w0 (pre := [.methodLink own index yX10_isDigit, .static yX10_isDigit, .initialized yX10_isDigit.cls]) (gT_lc hl (gT_lc ls_yX10_isDigit (gT_l1 li_RX10))) lc_yX10_isDigit) rfl rfl rfl (by decide +kernel) hR
set_option maxRecDepth 100000 in
set_option maxHeartbeats 4000000 in
theorem c_X10_isDigit (l : Launch) (D : va_G) (p0 : Int32) (rv : Int32) (hm : m_X10_isDigit p0 = some rv) : kDi l yX10_isDigit wy_X10_isDigit rm_X10_isDigit D [] rv [] [] [.int p0] := by
  refine kDi.of cX10_isDigit 1 (some .boolean) (by decide) rfl (Or.inr rfl) (Nat.le_of_ble_eq_true rfl) ?_
  intro p e s m below meth c A Q C hret
  have j17 : ∀ (t0 : Int32), m_X10_isDigit_b17   t0 = some rv → kv p l e rm_X10_isDigit s m ([.int p0] : List Value).toArray below meth c D A 1 0 0 Q [] [] 17 [.int t0] := by
    intro t0 h
    unfold m_X10_isDigit_b17 at h
    obtain ⟨g_1, h⟩ := obl_e h
    cases h
    exact hret _ _ dX10_isDigit_17 (fun _ => g_1)
  have j16 : m_X10_isDigit_b16    = some rv → kv p l e rm_X10_isDigit s m ([.int p0] : List Value).toArray below meth c D A 1 0 0 Q [] [] 16 [] := by
    intro  h
    unfold m_X10_isDigit_b16 at h
    refine kv_iconst C 0 dX10_isDigit_16 (by decide) ?_
    exact kv_lv [] (lv2 := []) rfl (j17 0 h)
  unfold m_X10_isDigit at hm
  have h := hm
  refine kv_lv [0] (lv2 := [(0, .int p0)]) rfl ?_
  refine kv_iload_n C 0 dX10_isDigit_0 rfl rfl ?_
  refine kv_bipush C 48 dX10_isDigit_1 (by decide) ?_
  refine kv_icmp_lt C 16 dX10_isDigit_3 (by decide) (fun c_2 => ?_) (fun c_2 => ?_)
  · have h := oi_t h c_2
    exact kv_lv [] (lv2 := []) rfl (j16  h)
  · have h := oi_f h c_2
    refine kv_iload_n C 0 dX10_isDigit_6 rfl rfl ?_
    refine kv_bipush C 57 dX10_isDigit_7 (by decide) ?_
    refine kv_icmp_gt C 16 dX10_isDigit_9 (by decide) (fun c_3 => ?_) (fun c_3 => ?_)
    · have h := oi_t h c_3
      exact kv_lv [] (lv2 := []) rfl (j16  h)
    · have h := oi_f h c_3
      refine kv_iconst C 1 dX10_isDigit_12 (by decide) ?_
      refine kv_goto C 17 dX10_isDigit_13 (by decide) ?_
      exact kv_lv [] (lv2 := []) rfl (j17 1 h)
def m_X10_readRow_b124 (k4 : Int32 → (Nat → Int32) → Int32 → Int32 → Int32 → Option (Int32 × Int32 × (Nat → Int32))) (v_typedCount : Int32) (v_readAt : Int32) (a_typed : Nat → Int32) (a_readBoard : Nat → Int32) (x1 : Int32) (x2 : Int32) (t0 : Int32) : Option (Int32 × Int32 × (Nat → Int32)) := k4 v_readAt a_readBoard x1 x2 t0
def m_X10_readRow_b113 (k4 : Int32 → (Nat → Int32) → Int32 → Int32 → Int32 → Option (Int32 × Int32 × (Nat → Int32))) (v_typedCount : Int32) (v_readAt : Int32) (a_typed : Nat → Int32) (a_readBoard : Nat → Int32) (x1 : Int32) (x5 : Int32) (t0 : Int32) : Option (Int32 × Int32 × (Nat → Int32)) := if x5 = 0 then m_X10_readRow_b124 k4 v_typedCount v_readAt a_typed a_readBoard x1 t0 1 else m_X10_readRow_b124 k4 v_typedCount v_readAt a_typed a_readBoard x1 t0 0
def m_X10_readRow_b72 (k4 : Int32 → (Nat → Int32) → Int32 → Int32 → Int32 → Option (Int32 × Int32 × (Nat → Int32))) (v_typedCount : Int32) (v_readAt : Int32) (a_typed : Nat → Int32) (a_readBoard : Nat → Int32) (x1 : Int32) (x2 : Int32) (x4 : Int32) (x5 : Int32) : Option (Int32 × Int32 × (Nat → Int32)) := ol (v_readAt + 1) fun y_2 => oin ((8 * x1) + x2) 64 (ol (upd a_readBoard (((8 * x1) + x2).toNatClampNeg) x5) fun a_readBoard_4 => if x5 = 0 then m_X10_readRow_b113 k4 v_typedCount y_2 a_typed a_readBoard_4 x1 x5 ((x2 + x4) - 48) else m_X10_readRow_b113 k4 v_typedCount y_2 a_typed a_readBoard_4 x1 x5 (x2 + 1))
def m_X10_readRow_b58 (k4 : Int32 → (Nat → Int32) → Int32 → Int32 → Int32 → Option (Int32 × Int32 × (Nat → Int32))) (v_typedCount : Int32) (v_readAt : Int32) (a_typed : Nat → Int32) (a_readBoard : Nat → Int32) (x1 : Int32) (x2 : Int32) (x4 : Int32) (x5 : Int32) (t0 : Int32) : Option (Int32 × Int32 × (Nat → Int32)) := if x5 = 0 then if t0 = 0 then obl (0) (some (0, v_readAt, a_readBoard)) else m_X10_readRow_b72 k4 v_typedCount v_readAt a_typed a_readBoard x1 x2 x4 x5 else m_X10_readRow_b72 k4 v_typedCount v_readAt a_typed a_readBoard x1 x2 x4 x5
def m_X10_readRow_b57 (k4 : Int32 → (Nat → Int32) → Int32 → Int32 → Int32 → Option (Int32 × Int32 × (Nat → Int32))) (v_typedCount : Int32) (v_readAt : Int32) (a_typed : Nat → Int32) (a_readBoard : Nat → Int32) (x1 : Int32) (x2 : Int32) (x4 : Int32) (x5 : Int32) : Option (Int32 × Int32 × (Nat → Int32)) := m_X10_readRow_b58 k4 v_typedCount v_readAt a_typed a_readBoard x1 x2 x4 x5 0
def m_X10_readRow_b4 (k4 : Int32 → (Nat → Int32) → Int32 → Int32 → Int32 → Option (Int32 × Int32 × (Nat → Int32))) (v_typedCount : Int32) (v_readAt : Int32) (a_typed : Nat → Int32) (a_readBoard : Nat → Int32) (x1 : Int32) (x2 : Int32) (x3 : Int32) : Option (Int32 × Int32 × (Nat → Int32)) := if 8 ≤ x2 then obl (1) (some (1, v_readAt, a_readBoard)) else ob (m_X10_next v_typedCount v_readAt a_typed ) fun r_11 => ob (m_X10_manOf r_11) fun r_13 => if r_11 < 49 then m_X10_readRow_b57 k4 v_typedCount v_readAt a_typed a_readBoard x1 x2 r_11 r_13 else if 56 < r_11 then m_X10_readRow_b57 k4 v_typedCount v_readAt a_typed a_readBoard x1 x2 r_11 r_13 else if x3 = 0 then if 8 < ((x2 + r_11) - 48) then m_X10_readRow_b57 k4 v_typedCount v_readAt a_typed a_readBoard x1 x2 r_11 r_13 else m_X10_readRow_b58 k4 v_typedCount v_readAt a_typed a_readBoard x1 x2 r_11 r_13 1 else m_X10_readRow_b57 k4 v_typedCount v_readAt a_typed a_readBoard x1 x2 r_11 r_13
def m_X10_readRow_l4 (v_typedCount : Int32) (a_typed : Nat → Int32) (n : Nat) : Int32 → (Nat → Int32) → Int32 → Int32 → Int32 → Option (Int32 × Int32 × (Nat → Int32)) := fz (fun _ _ _ _ _ => none) (fun k4 v_readAt a_readBoard x1 x2 x3 => m_X10_readRow_b4 k4 v_typedCount v_readAt a_typed a_readBoard x1 x2 x3) n
def m_X10_readRow (v_typedCount : Int32) (v_readAt : Int32) (a_typed : Nat → Int32) (a_readBoard : Nat → Int32) (p0 : Int32) : Option (Int32 × Int32 × (Nat → Int32)) := m_X10_readRow_l4 v_typedCount a_typed kF v_readAt a_readBoard p0 0 0
abbrev rm_X10_readRow : Room := { frames := 1, cells := 0, slots := 0, locals := 20 }
abbrev wy_X10_readRow : List Cond := .code yX10_readRow cX10_readRow 7 (some .boolean) :: gT
theorem cv_X10_readRow {R : Room} {s : State} {args : Array Value} {own : String} {index : Nat} {w0 : Cond} (hts : ∀ w ∈ w0 :: gT, w.before args s = true) (hl : Cond.methodLink own index yX10_readRow ∈ gT) (hR : 1 + 1 ≤ R.frames ∧ 8 + (7 + 11) + 20 ≤ R.locals) : CallW R s args own RX10 index yX10_readRow cX10_readRow 7 (some .boolean) wy_X10_readRow rm_X10_readRow 0 0 1 :=
  cwV 1 hts (gT_call w0 (pre := [.methodLink own index yX10_readRow, .instanceMethod yX10_readRow, .selects RX10 yX10_readRow yX10_readRow, .initialized RX10]) (gT_lc hl (gT_lc ly_yX10_readRow (gT_lc lx_yX10_readRow (gT_l1 li_RX10)))) lc_yX10_readRow) rfl rfl rfl (by decide +kernel) hR
set_option maxRecDepth 100000 in
set_option maxHeartbeats 4000000 in
theorem c_X10_readRow (l : Launch) (D : va_G) (h0 : Nat) (q : Nat → Nat) (cI : ClassId) (v_code : Int32) (v_side : Int32) (v_rights : Int32) (v_passed : Int32) (v_halves : Int32) (v_number : Int32) (v_top : Int32) (v_typedCount : Int32) (v_readAt : Int32) (v_place : Int32) (v_writtenCount : Int32) (v_chosenFrom : Int32) (v_chosenTo : Int32) (v_chosenTurn : Int32) (v_changed : Int32) (v_readSide : Int32) (v_readRights : Int32) (v_readPassed : Int32) (v_readHalves : Int32) (v_readNumber : Int32) (a_board : Nat → Int32) (a_before : Nat → Int32) (a_typed : Nat → Int32) (a_written : Nat → Int32) (a_froms : Nat → Int32) (a_tos : Nat → Int32) (a_turns : Nat → Int32) (a_counts : Nat → Int32) (a_changedSquare : Nat → Int32) (a_changedMan : Nat → Int32) (a_readBoard : Nat → Int32) (p0 : Int32) (rv : Int32) (v_readAt' : Int32) (a_readBoard' : Nat → Int32) (hm : m_X10_readRow v_typedCount v_readAt a_typed a_readBoard p0 = some (rv, v_readAt', a_readBoard')) : kDi l yX10_readRow wy_X10_readRow rm_X10_readRow D [(cI, .int)] rv (wM h0 q cI v_code v_side v_rights v_passed v_halves v_number v_top v_typedCount v_readAt v_place v_writtenCount v_chosenFrom v_chosenTo v_chosenTurn v_changed v_readSide v_readRights v_readPassed v_readHalves v_readNumber a_board a_before a_typed a_written a_froms a_tos a_turns a_counts a_changedSquare a_changedMan a_readBoard) (wM h0 q cI v_code v_side v_rights v_passed v_halves v_number v_top v_typedCount v_readAt' v_place v_writtenCount v_chosenFrom v_chosenTo v_chosenTurn v_changed v_readSide v_readRights v_readPassed v_readHalves v_readNumber a_board a_before a_typed a_written a_froms a_tos a_turns a_counts a_changedSquare a_changedMan a_readBoard') [.ref h0, .int p0] := by
  refine kDi.of cX10_readRow 7 (some .boolean) (by decide) rfl (Or.inr rfl) (Nat.le_of_ble_eq_true rfl) ?_
  intro p e s m below meth c A Q C hret
  have hin10 : ∀ w ∈ wsX100, w ∈ wy_X10_readRow := fun w h => List.mem_cons_of_mem _ (inG10 w h)
  have l4 : ∀ (n4 : Nat) (v_readAt : Int32) (a_readBoard : Nat → Int32) (x1 : Int32) (x2 : Int32) (x3 : Int32), m_X10_readRow_l4  v_typedCount a_typed n4 v_readAt a_readBoard x1 x2 x3 = some (rv, v_readAt', a_readBoard') → kv p l e rm_X10_readRow s m ([.ref h0, .int p0] : List Value).toArray below meth c D A 7 0 0 Q (wM h0 q cI v_code v_side v_rights v_passed v_halves v_number v_top v_typedCount v_readAt v_place v_writtenCount v_chosenFrom v_chosenTo v_chosenTurn v_changed v_readSide v_readRights v_readPassed v_readHalves v_readNumber a_board a_before a_typed a_written a_froms a_tos a_turns a_counts a_changedSquare a_changedMan a_readBoard) [(0, .ref h0), (1, .int x1), (2, .int x2), (3, .int x3)] 4 [] := by
    intro n4
    induction n4 with
    | zero =>
      intro v_readAt a_readBoard x1 x2 x3 h
      exact kv_no h
    | succ n4 ih4 =>
      have j124 : ∀ (v_readAt : Int32) (a_readBoard : Nat → Int32) (x1 : Int32) (x2 : Int32) (t0 : Int32), m_X10_readRow_b124 (m_X10_readRow_l4  v_typedCount a_typed n4) v_typedCount v_readAt a_typed a_readBoard x1 x2 t0 = some (rv, v_readAt', a_readBoard') → kv p l e rm_X10_readRow s m ([.ref h0, .int p0] : List Value).toArray below meth c D A 7 0 0 Q (wM h0 q cI v_code v_side v_rights v_passed v_halves v_number v_top v_typedCount v_readAt v_place v_writtenCount v_chosenFrom v_chosenTo v_chosenTurn v_changed v_readSide v_readRights v_readPassed v_readHalves v_readNumber a_board a_before a_typed a_written a_froms a_tos a_turns a_counts a_changedSquare a_changedMan a_readBoard) [(0, .ref h0), (1, .int x1), (2, .int x2)] 124 [.int t0] := by
        intro v_readAt a_readBoard x1 x2 t0 h
        unfold m_X10_readRow_b124 at h
        refine kv_istore_n C (lv2 := [(0, .ref h0), (1, .int x1), (2, .int x2), (3, .int t0)]) [1, 2, 3, 0] dX10_readRow_124 rfl (by decide) rfl rfl ?_
        refine kv_goto C 4 dX10_readRow_125 (by decide) ?_
        exact kv_lv [0, 1, 2, 3] (lv2 := [(0, .ref h0), (1, .int x1), (2, .int x2), (3, .int t0)]) rfl (ih4 v_readAt a_readBoard x1 x2 t0 h)
      have j113 : ∀ (v_readAt : Int32) (a_readBoard : Nat → Int32) (x1 : Int32) (x5 : Int32) (t0 : Int32), m_X10_readRow_b113 (m_X10_readRow_l4  v_typedCount a_typed n4) v_typedCount v_readAt a_typed a_readBoard x1 x5 t0 = some (rv, v_readAt', a_readBoard') → kv p l e rm_X10_readRow s m ([.ref h0, .int p0] : List Value).toArray below meth c D A 7 0 0 Q (wM h0 q cI v_code v_side v_rights v_passed v_halves v_number v_top v_typedCount v_readAt v_place v_writtenCount v_chosenFrom v_chosenTo v_chosenTurn v_changed v_readSide v_readRights v_readPassed v_readHalves v_readNumber a_board a_before a_typed a_written a_froms a_tos a_turns a_counts a_changedSquare a_changedMan a_readBoard) [(0, .ref h0), (1, .int x1), (5, .int x5)] 113 [.int t0] := by
        intro v_readAt a_readBoard x1 x5 t0 h
        unfold m_X10_readRow_b113 at h
        refine kv_istore_n C (lv2 := [(0, .ref h0), (1, .int x1), (2, .int t0), (5, .int x5)]) [1, 2, 0, 3] dX10_readRow_113 rfl (by decide) rfl rfl ?_
        refine kv_iload C 3 dX10_readRow_114 rfl ?_
        refine kv_if_ne C 123 dX10_readRow_116 (by decide) (fun c_1 => ?_) (fun c_1 => ?_)
        · have h := oi_f h c_1
          refine kv_iconst C 0 dX10_readRow_123 (by decide) ?_
          exact kv_lv [0, 1, 2] (lv2 := [(0, .ref h0), (1, .int x1), (2, .int t0)]) rfl (j124 v_readAt a_readBoard x1 t0 0 h)
        · have h := oi_t h c_1
          refine kv_iconst C 1 dX10_readRow_119 (by decide) ?_
          refine kv_goto C 124 dX10_readRow_120 (by decide) ?_
          exact kv_lv [0, 1, 2] (lv2 := [(0, .ref h0), (1, .int x1), (2, .int t0)]) rfl (j124 v_readAt a_readBoard x1 t0 1 h)
      have j72 : ∀ (v_readAt : Int32) (a_readBoard : Nat → Int32) (x1 : Int32) (x2 : Int32) (x4 : Int32) (x5 : Int32), m_X10_readRow_b72 (m_X10_readRow_l4  v_typedCount a_typed n4) v_typedCount v_readAt a_typed a_readBoard x1 x2 x4 x5 = some (rv, v_readAt', a_readBoard') → kv p l e rm_X10_readRow s m ([.ref h0, .int p0] : List Value).toArray below meth c D A 7 0 0 Q (wM h0 q cI v_code v_side v_rights v_passed v_halves v_number v_top v_typedCount v_readAt v_place v_writtenCount v_chosenFrom v_chosenTo v_chosenTurn v_changed v_readSide v_readRights v_readPassed v_readHalves v_readNumber a_board a_before a_typed a_written a_froms a_tos a_turns a_counts a_changedSquare a_changedMan a_readBoard) [(0, .ref h0), (1, .int x1), (2, .int x2), (4, .int x4), (5, .int x5)] 72 [] := by
        intro v_readAt a_readBoard x1 x2 x4 x5 h
        unfold m_X10_readRow_b72 at h
        refine kv_aload_n C 0 dX10_readRow_72 rfl rfl ?_
        refine kv_dup C dX10_readRow_73 rfl ?_
        refine kv_get C (Cn := RX10) (T := TX10) (N := 31) 0 11 hin10 rfl rfl (by decide) (C.ts _ (List.mem_cons_of_mem _ lf_RX10_211)) rfl rfl dX10_readRow_74 ?_
        refine kv_iconst C 1 dX10_readRow_77 (by decide) ?_
        refine kv_iadd C dX10_readRow_78 ?_
        obtain ⟨y_2, ey_2, h⟩ := ol_e h
        refine kv_top ey_2 ?_
        refine kv_put C (Cn := RX10) (T := TX10) (N := 31) (ty := .int) (ws1 := (wM h0 q cI v_code v_side v_rights v_passed v_halves v_number v_top v_typedCount y_2 v_place v_writtenCount v_chosenFrom v_chosenTo v_chosenTurn v_changed v_readSide v_readRights v_readPassed v_readHalves v_readNumber a_board a_before a_typed a_written a_froms a_tos a_turns a_counts a_changedSquare a_changedMan a_readBoard)) 0 11 hin10 tyX10 tyX10_ok nmX10 rfl rfl (by decide) (C.ts _ (List.mem_cons_of_mem _ lf_RX10_211)) rfl rfl (by decide +kernel) rfl rfl (Nat.le_of_ble_eq_true rfl) rfl dX10_readRow_79 ?_
        refine kv_aload_n C 0 dX10_readRow_82 rfl rfl ?_
        refine kv_get C (Cn := RX10) (T := TX10) (N := 31) 0 25 hin10 rfl rfl (by decide) (C.ts _ (List.mem_cons_of_mem _ lf_RX10_57)) rfl rfl dX10_readRow_83 ?_
        refine kv_bipush C 8 dX10_readRow_86 (by decide) ?_
        refine kv_iload_n C 1 dX10_readRow_88 rfl rfl ?_
        refine kv_imul C dX10_readRow_89 ?_
        refine kv_iload_n C 2 dX10_readRow_90 rfl rfl ?_
        refine kv_iadd C dX10_readRow_91 ?_
        refine kv_iload C 4 dX10_readRow_92 rfl ?_
        obtain ⟨g_3, h⟩ := oin_e h
        obtain ⟨a_readBoard_4, ea_readBoard_4, h⟩ := ol_e h
        refine kv_iast2 C (ws1 := (wM h0 q cI v_code v_side v_rights v_passed v_halves v_number v_top v_typedCount y_2 v_place v_writtenCount v_chosenFrom v_chosenTo v_chosenTurn v_changed v_readSide v_readRights v_readPassed v_readHalves v_readNumber a_board a_before a_typed a_written a_froms a_tos a_turns a_counts a_changedSquare a_changedMan a_readBoard_4)) 11 0 rfl rfl g_3 ea_readBoard_4 rfl dX10_readRow_94 ?_
        refine kv_iload C 4 dX10_readRow_95 rfl ?_
        refine kv_if_eq C 106 dX10_readRow_97 (by decide) (fun c_5 => ?_) (fun c_5 => ?_)
        · have h := oi_t h c_5
          refine kv_iload_n C 2 dX10_readRow_106 rfl rfl ?_
          refine kv_iload C 3 dX10_readRow_107 rfl ?_
          refine kv_iadd C dX10_readRow_109 ?_
          refine kv_bipush C 48 dX10_readRow_110 (by decide) ?_
          refine kv_isub C dX10_readRow_112 ?_
          exact kv_lv [0, 1, 4] (lv2 := [(0, .ref h0), (1, .int x1), (5, .int x5)]) rfl (j113 y_2 a_readBoard_4 x1 x5 ((x2 + x4) - 48) h)
        · have h := oi_f h c_5
          refine kv_iload_n C 2 dX10_readRow_100 rfl rfl ?_
          refine kv_iconst C 1 dX10_readRow_101 (by decide) ?_
          refine kv_iadd C dX10_readRow_102 ?_
          refine kv_goto C 113 dX10_readRow_103 (by decide) ?_
          exact kv_lv [0, 1, 4] (lv2 := [(0, .ref h0), (1, .int x1), (5, .int x5)]) rfl (j113 y_2 a_readBoard_4 x1 x5 (x2 + 1) h)
      have j58 : ∀ (v_readAt : Int32) (a_readBoard : Nat → Int32) (x1 : Int32) (x2 : Int32) (x4 : Int32) (x5 : Int32) (t0 : Int32), m_X10_readRow_b58 (m_X10_readRow_l4  v_typedCount a_typed n4) v_typedCount v_readAt a_typed a_readBoard x1 x2 x4 x5 t0 = some (rv, v_readAt', a_readBoard') → kv p l e rm_X10_readRow s m ([.ref h0, .int p0] : List Value).toArray below meth c D A 7 0 0 Q (wM h0 q cI v_code v_side v_rights v_passed v_halves v_number v_top v_typedCount v_readAt v_place v_writtenCount v_chosenFrom v_chosenTo v_chosenTurn v_changed v_readSide v_readRights v_readPassed v_readHalves v_readNumber a_board a_before a_typed a_written a_froms a_tos a_turns a_counts a_changedSquare a_changedMan a_readBoard) [(0, .ref h0), (1, .int x1), (2, .int x2), (4, .int x4), (5, .int x5)] 58 [.int t0] := by
        intro v_readAt a_readBoard x1 x2 x4 x5 t0 h
        unfold m_X10_readRow_b58 at h
        refine kv_istore C (lv2 := [(0, .ref h0), (1, .int x1), (2, .int x2), (4, .int x4), (5, .int x5), (6, .int t0)]) [1, 2, 3, 4, 5, 0] dX10_readRow_58 (by decide) rfl rfl ?_
        refine kv_iload C 4 dX10_readRow_60 rfl ?_
        refine kv_if_ne C 72 dX10_readRow_62 (by decide) (fun c_6 => ?_) (fun c_6 => ?_)
        · have h := oi_f h c_6
          exact kv_lv [0, 1, 2, 3, 4] (lv2 := [(0, .ref h0), (1, .int x1), (2, .int x2), (4, .int x4), (5, .int x5)]) rfl (j72 v_readAt a_readBoard x1 x2 x4 x5 h)
        · have h := oi_t h c_6
          refine kv_iload C 5 dX10_readRow_65 rfl ?_
          refine kv_if_ne C 72 dX10_readRow_67 (by decide) (fun c_7 => ?_) (fun c_7 => ?_)
          · have h := oi_f h c_7
            exact kv_lv [0, 1, 2, 3, 4] (lv2 := [(0, .ref h0), (1, .int x1), (2, .int x2), (4, .int x4), (5, .int x5)]) rfl (j72 v_readAt a_readBoard x1 x2 x4 x5 h)
          · have h := oi_t h c_7
            refine kv_iconst C 0 dX10_readRow_70 (by decide) ?_
            obtain ⟨g_8, h⟩ := obl_e h
            cases h
            exact hret _ _ dX10_readRow_71 (fun _ => g_8)
      have j57 : ∀ (v_readAt : Int32) (a_readBoard : Nat → Int32) (x1 : Int32) (x2 : Int32) (x4 : Int32) (x5 : Int32), m_X10_readRow_b57 (m_X10_readRow_l4  v_typedCount a_typed n4) v_typedCount v_readAt a_typed a_readBoard x1 x2 x4 x5 = some (rv, v_readAt', a_readBoard') → kv p l e rm_X10_readRow s m ([.ref h0, .int p0] : List Value).toArray below meth c D A 7 0 0 Q (wM h0 q cI v_code v_side v_rights v_passed v_halves v_number v_top v_typedCount v_readAt v_place v_writtenCount v_chosenFrom v_chosenTo v_chosenTurn v_changed v_readSide v_readRights v_readPassed v_readHalves v_readNumber a_board a_before a_typed a_written a_froms a_tos a_turns a_counts a_changedSquare a_changedMan a_readBoard) [(0, .ref h0), (1, .int x1), (2, .int x2), (4, .int x4), (5, .int x5)] 57 [] := by
        intro v_readAt a_readBoard x1 x2 x4 x5 h
        unfold m_X10_readRow_b57 at h
        refine kv_iconst C 0 dX10_readRow_57 (by decide) ?_
        exact kv_lv [0, 1, 2, 3, 4] (lv2 := [(0, .ref h0), (1, .int x1), (2, .int x2), (4, .int x4), (5, .int x5)]) rfl (j58 v_readAt a_readBoard x1 x2 x4 x5 0 h)
      intro v_readAt a_readBoard x1 x2 x3 h
      replace h : m_X10_readRow_b4  (m_X10_readRow_l4  v_typedCount a_typed n4) v_typedCount v_readAt a_typed a_readBoard x1 x2 x3 = some (rv, v_readAt', a_readBoard') := h
      unfold m_X10_readRow_b4 at h
      refine kv_iload_n C 2 dX10_readRow_4 rfl rfl ?_
      refine kv_bipush C 8 dX10_readRow_5 (by decide) ?_
      refine kv_icmp_ge C 128 dX10_readRow_7 (by decide) (fun c_9 => ?_) (fun c_9 => ?_)
      · have h := oi_t h c_9
        refine kv_iconst C 1 dX10_readRow_128 (by decide) ?_
        obtain ⟨g_10, h⟩ := obl_e h
        cases h
        exact hret _ _ dX10_readRow_129 (fun _ => g_10)
      · have h := oi_f h c_9
        refine kv_aload_n C 0 dX10_readRow_10 rfl rfl ?_
        obtain ⟨r_11, hm_12, h⟩ := ob_e h
        refine kv_callWi C [] 0 (c_X10_next l D h0 q cI v_code v_side v_rights v_passed v_halves v_number v_top v_typedCount v_readAt v_place v_writtenCount v_chosenFrom v_chosenTo v_chosenTurn v_changed v_readSide v_readRights v_readPassed v_readHalves v_readNumber a_board a_before a_typed a_written a_froms a_tos a_turns a_counts a_changedSquare a_changedMan a_readBoard  r_11 hm_12) (cv_X10_next C.ts lm_RX10_214 ⟨Nat.le_of_ble_eq_true rfl, Nat.le_of_ble_eq_true rfl⟩) rfl rfl rfl rfl (Nat.le_of_ble_eq_true rfl) dX10_readRow_11 ⟨Nat.zero_le _, Nat.zero_le _⟩ ?_
        refine kv_istore C (lv2 := [(0, .ref h0), (1, .int x1), (2, .int x2), (3, .int x3), (4, .int r_11)]) [1, 2, 3, 4, 0] dX10_readRow_14 (by decide) rfl rfl ?_
        refine kv_iload C 4 dX10_readRow_16 rfl ?_
        obtain ⟨r_13, hm_14, h⟩ := ob_e h
        refine kv_callS0i C [.int r_11] (c_X10_manOf l D r_11 r_13 hm_14) (cs_X10_manOf C.ts lm_RX10_217 ⟨Nat.le_of_ble_eq_true rfl, Nat.le_of_ble_eq_true rfl⟩) rfl rfl (Nat.le_of_ble_eq_true rfl) dX10_readRow_18 ⟨Nat.zero_le _, Nat.zero_le _⟩ ?_
        refine kv_istore C (lv2 := [(0, .ref h0), (1, .int x1), (2, .int x2), (3, .int x3), (4, .int r_11), (5, .int r_13)]) [1, 2, 3, 4, 5, 0] dX10_readRow_21 (by decide) rfl rfl ?_
        refine kv_iload C 4 dX10_readRow_23 rfl ?_
        refine kv_bipush C 49 dX10_readRow_25 (by decide) ?_
        refine kv_icmp_lt C 57 dX10_readRow_27 (by decide) (fun c_15 => ?_) (fun c_15 => ?_)
        · have h := oi_t h c_15
          exact kv_lv [0, 1, 2, 4, 5] (lv2 := [(0, .ref h0), (1, .int x1), (2, .int x2), (4, .int r_11), (5, .int r_13)]) rfl (j57 v_readAt a_readBoard x1 x2 r_11 r_13 h)
        · have h := oi_f h c_15
          refine kv_iload C 4 dX10_readRow_30 rfl ?_
          refine kv_bipush C 56 dX10_readRow_32 (by decide) ?_
          refine kv_icmp_gt C 57 dX10_readRow_34 (by decide) (fun c_16 => ?_) (fun c_16 => ?_)
          · have h := oi_t h c_16
            exact kv_lv [0, 1, 2, 4, 5] (lv2 := [(0, .ref h0), (1, .int x1), (2, .int x2), (4, .int r_11), (5, .int r_13)]) rfl (j57 v_readAt a_readBoard x1 x2 r_11 r_13 h)
          · have h := oi_f h c_16
            refine kv_iload_n C 3 dX10_readRow_37 rfl rfl ?_
            refine kv_if_ne C 57 dX10_readRow_38 (by decide) (fun c_17 => ?_) (fun c_17 => ?_)
            · have h := oi_f h c_17
              exact kv_lv [0, 1, 2, 4, 5] (lv2 := [(0, .ref h0), (1, .int x1), (2, .int x2), (4, .int r_11), (5, .int r_13)]) rfl (j57 v_readAt a_readBoard x1 x2 r_11 r_13 h)
            · have h := oi_t h c_17
              refine kv_iload_n C 2 dX10_readRow_41 rfl rfl ?_
              refine kv_iload C 4 dX10_readRow_42 rfl ?_
              refine kv_iadd C dX10_readRow_44 ?_
              refine kv_bipush C 48 dX10_readRow_45 (by decide) ?_
              refine kv_isub C dX10_readRow_47 ?_
              refine kv_bipush C 8 dX10_readRow_48 (by decide) ?_
              refine kv_icmp_gt C 57 dX10_readRow_50 (by decide) (fun c_18 => ?_) (fun c_18 => ?_)
              · have h := oi_t h c_18
                exact kv_lv [0, 1, 2, 4, 5] (lv2 := [(0, .ref h0), (1, .int x1), (2, .int x2), (4, .int r_11), (5, .int r_13)]) rfl (j57 v_readAt a_readBoard x1 x2 r_11 r_13 h)
              · have h := oi_f h c_18
                refine kv_iconst C 1 dX10_readRow_53 (by decide) ?_
                refine kv_goto C 58 dX10_readRow_54 (by decide) ?_
                exact kv_lv [0, 1, 2, 4, 5] (lv2 := [(0, .ref h0), (1, .int x1), (2, .int x2), (4, .int r_11), (5, .int r_13)]) rfl (j58 v_readAt a_readBoard x1 x2 r_11 r_13 1 h)
  unfold m_X10_readRow at hm
  have h := hm
  refine kv_lv [0, 1] (lv2 := [(0, .ref h0), (1, .int p0)]) rfl ?_
  refine kv_iconst C 0 dX10_readRow_0 (by decide) ?_
  refine kv_istore_n C (lv2 := [(0, .ref h0), (1, .int p0), (2, .int 0)]) [1, 2, 0] dX10_readRow_1 rfl (by decide) rfl rfl ?_
  refine kv_iconst C 0 dX10_readRow_2 (by decide) ?_
  refine kv_istore_n C (lv2 := [(0, .ref h0), (1, .int p0), (2, .int 0), (3, .int 0)]) [1, 2, 3, 0] dX10_readRow_3 rfl (by decide) rfl rfl ?_
  exact kv_lv [0, 1, 2, 3] (lv2 := [(0, .ref h0), (1, .int p0), (2, .int 0), (3, .int 0)]) rfl (l4 kF v_readAt a_readBoard p0 0 0 h)
def m_X10_readSquares_b54 (v_typedCount : Int32) (v_readAt : Int32) (a_typed : Nat → Int32) (a_readBoard : Nat → Int32) : Option (Int32 × Int32 × (Nat → Int32)) := obl (0) (some (0, v_readAt, a_readBoard))
def m_X10_readSquares_b48 (k24 : Int32 → (Nat → Int32) → Int32 → Option (Int32 × Int32 × (Nat → Int32))) (v_typedCount : Int32) (v_readAt : Int32) (a_typed : Nat → Int32) (a_readBoard : Nat → Int32) (x1 : Int32) (t1 : Int32) : Option (Int32 × Int32 × (Nat → Int32)) := ob (m_X10_takes v_typedCount v_readAt a_typed t1) fun (r_2, v_readAt_3) => if r_2 = 0 then m_X10_readSquares_b54 v_typedCount v_readAt_3 a_typed a_readBoard else ol (x1 + (-1)) fun x1_7 => k24 v_readAt_3 a_readBoard x1_7
def m_X10_readSquares_b24 (k24 : Int32 → (Nat → Int32) → Int32 → Option (Int32 × Int32 × (Nat → Int32))) (v_typedCount : Int32) (v_readAt : Int32) (a_typed : Nat → Int32) (a_readBoard : Nat → Int32) (x1 : Int32) : Option (Int32 × Int32 × (Nat → Int32)) := if x1 < 0 then obl (1) (some (1, v_readAt, a_readBoard)) else ob (m_X10_readRow v_typedCount v_readAt a_typed a_readBoard x1) fun (r_10, v_readAt_11, a_readBoard_12) => if r_10 = 0 then m_X10_readSquares_b54 v_typedCount v_readAt_11 a_typed a_readBoard_12 else if x1 ≤ 0 then m_X10_readSquares_b48 k24 v_typedCount v_readAt_11 a_typed a_readBoard_12 x1 32 else m_X10_readSquares_b48 k24 v_typedCount v_readAt_11 a_typed a_readBoard_12 x1 47
def m_X10_readSquares_l24 (v_typedCount : Int32) (a_typed : Nat → Int32) (n : Nat) : Int32 → (Nat → Int32) → Int32 → Option (Int32 × Int32 × (Nat → Int32)) := fz (fun _ _ _ => none) (fun k24 v_readAt a_readBoard x1 => m_X10_readSquares_b24 k24 v_typedCount v_readAt a_typed a_readBoard x1) n
def m_X10_readSquares_b2 (k2 : Int32 → (Nat → Int32) → Int32 → Option (Int32 × Int32 × (Nat → Int32))) (v_typedCount : Int32) (v_readAt : Int32) (a_typed : Nat → Int32) (a_readBoard : Nat → Int32) (x1 : Int32) : Option (Int32 × Int32 × (Nat → Int32)) := if 64 ≤ x1 then m_X10_readSquares_l24 v_typedCount a_typed kF v_readAt a_readBoard 7 else oin (x1) 64 (ol (upd a_readBoard (x1.toNatClampNeg) 0) fun a_readBoard_19 => ol (x1 + 1) fun x1_20 => k2 v_readAt a_readBoard_19 x1_20)
def m_X10_readSquares_l2 (v_typedCount : Int32) (a_typed : Nat → Int32) (n : Nat) : Int32 → (Nat → Int32) → Int32 → Option (Int32 × Int32 × (Nat → Int32)) := fz (fun _ _ _ => none) (fun k2 v_readAt a_readBoard x1 => m_X10_readSquares_b2 k2 v_typedCount v_readAt a_typed a_readBoard x1) n
def m_X10_readSquares (v_typedCount : Int32) (v_readAt : Int32) (a_typed : Nat → Int32) (a_readBoard : Nat → Int32) : Option (Int32 × Int32 × (Nat → Int32)) := m_X10_readSquares_l2 v_typedCount a_typed kF v_readAt a_readBoard 0
abbrev rm_X10_readSquares : Room := { frames := 2, cells := 0, slots := 0, locals := 46 }
abbrev wy_X10_readSquares : List Cond := .code yX10_readSquares cX10_readSquares 2 (some .boolean) :: gT
theorem cv_X10_readSquares {R : Room} {s : State} {args : Array Value} {own : String} {index : Nat} {w0 : Cond} (hts : ∀ w ∈ w0 :: gT, w.before args s = true) (hl : Cond.methodLink own index yX10_readSquares ∈ gT) (hR : 2 + 1 ≤ R.frames ∧ 8 + (2 + 11) + 46 ≤ R.locals) : CallW R s args own RX10 index yX10_readSquares cX10_readSquares 2 (some .boolean) wy_X10_readSquares rm_X10_readSquares 0 0 0 :=
  cwV 0 hts (gT_call w0 (pre := [.methodLink own index yX10_readSquares, .instanceMethod yX10_readSquares, .selects RX10 yX10_readSquares yX10_readSquares, .initialized RX10]) (gT_lc hl (gT_lc ly_yX10_readSquares (gT_lc lx_yX10_readSquares (gT_l1 li_RX10)))) lc_yX10_readSquares) rfl rfl rfl (by decide +kernel) hR
set_option maxRecDepth 100000 in
set_option maxHeartbeats 4000000 in
theorem c_X10_readSquares (l : Launch) (D : va_G) (h0 : Nat) (q : Nat → Nat) (cI : ClassId) (v_code : Int32) (v_side : Int32) (v_rights : Int32) (v_passed : Int32) (v_halves : Int32) (v_number : Int32) (v_top : Int32) (v_typedCount : Int32) (v_readAt : Int32) (v_place : Int32) (v_writtenCount : Int32) (v_chosenFrom : Int32) (v_chosenTo : Int32) (v_chosenTurn : Int32) (v_changed : Int32) (v_readSide : Int32) (v_readRights : Int32) (v_readPassed : Int32) (v_readHalves : Int32) (v_readNumber : Int32) (a_board : Nat → Int32) (a_before : Nat → Int32) (a_typed : Nat → Int32) (a_written : Nat → Int32) (a_froms : Nat → Int32) (a_tos : Nat → Int32) (a_turns : Nat → Int32) (a_counts : Nat → Int32) (a_changedSquare : Nat → Int32) (a_changedMan : Nat → Int32) (a_readBoard : Nat → Int32) (rv : Int32) (v_readAt' : Int32) (a_readBoard' : Nat → Int32) (hm : m_X10_readSquares v_typedCount v_readAt a_typed a_readBoard = some (rv, v_readAt', a_readBoard')) : kDi l yX10_readSquares wy_X10_readSquares rm_X10_readSquares D [(cI, .int)] rv (wM h0 q cI v_code v_side v_rights v_passed v_halves v_number v_top v_typedCount v_readAt v_place v_writtenCount v_chosenFrom v_chosenTo v_chosenTurn v_changed v_readSide v_readRights v_readPassed v_readHalves v_readNumber a_board a_before a_typed a_written a_froms a_tos a_turns a_counts a_changedSquare a_changedMan a_readBoard) (wM h0 q cI v_code v_side v_rights v_passed v_halves v_number v_top v_typedCount v_readAt' v_place v_writtenCount v_chosenFrom v_chosenTo v_chosenTurn v_changed v_readSide v_readRights v_readPassed v_readHalves v_readNumber a_board a_before a_typed a_written a_froms a_tos a_turns a_counts a_changedSquare a_changedMan a_readBoard') [.ref h0] := by
  refine kDi.of cX10_readSquares 2 (some .boolean) (by decide) rfl (Or.inr rfl) (Nat.le_of_ble_eq_true rfl) ?_
  intro p e s m below meth c A Q C hret
  have hin10 : ∀ w ∈ wsX100, w ∈ wy_X10_readSquares := fun w h => List.mem_cons_of_mem _ (inG10 w h)
  have j54 : ∀ (v_readAt : Int32) (a_readBoard : Nat → Int32), m_X10_readSquares_b54  v_typedCount v_readAt a_typed a_readBoard  = some (rv, v_readAt', a_readBoard') → kv p l e rm_X10_readSquares s m ([.ref h0] : List Value).toArray below meth c D A 2 0 0 Q (wM h0 q cI v_code v_side v_rights v_passed v_halves v_number v_top v_typedCount v_readAt v_place v_writtenCount v_chosenFrom v_chosenTo v_chosenTurn v_changed v_readSide v_readRights v_readPassed v_readHalves v_readNumber a_board a_before a_typed a_written a_froms a_tos a_turns a_counts a_changedSquare a_changedMan a_readBoard) [] 54 [] := by
    intro v_readAt a_readBoard h
    unfold m_X10_readSquares_b54 at h
    refine kv_iconst C 0 dX10_readSquares_54 (by decide) ?_
    obtain ⟨g_1, h⟩ := obl_e h
    cases h
    exact hret _ _ dX10_readSquares_55 (fun _ => g_1)
  have l24 : ∀ (n24 : Nat) (v_readAt : Int32) (a_readBoard : Nat → Int32) (x1 : Int32), m_X10_readSquares_l24  v_typedCount a_typed n24 v_readAt a_readBoard x1 = some (rv, v_readAt', a_readBoard') → kv p l e rm_X10_readSquares s m ([.ref h0] : List Value).toArray below meth c D A 2 0 0 Q (wM h0 q cI v_code v_side v_rights v_passed v_halves v_number v_top v_typedCount v_readAt v_place v_writtenCount v_chosenFrom v_chosenTo v_chosenTurn v_changed v_readSide v_readRights v_readPassed v_readHalves v_readNumber a_board a_before a_typed a_written a_froms a_tos a_turns a_counts a_changedSquare a_changedMan a_readBoard) [(0, .ref h0), (1, .int x1)] 24 [] := by
    intro n24
    induction n24 with
    | zero =>
      intro v_readAt a_readBoard x1 h
      exact kv_no h
    | succ n24 ih24 =>
      have j48 : ∀ (v_readAt : Int32) (a_readBoard : Nat → Int32) (x1 : Int32) (t1 : Int32), m_X10_readSquares_b48 (m_X10_readSquares_l24  v_typedCount a_typed n24) v_typedCount v_readAt a_typed a_readBoard x1 t1 = some (rv, v_readAt', a_readBoard') → kv p l e rm_X10_readSquares s m ([.ref h0] : List Value).toArray below meth c D A 2 0 0 Q (wM h0 q cI v_code v_side v_rights v_passed v_halves v_number v_top v_typedCount v_readAt v_place v_writtenCount v_chosenFrom v_chosenTo v_chosenTurn v_changed v_readSide v_readRights v_readPassed v_readHalves v_readNumber a_board a_before a_typed a_written a_froms a_tos a_turns a_counts a_changedSquare a_changedMan a_readBoard) [(0, .ref h0), (1, .int x1)] 48 [.int t1, .ref h0] := by
        intro v_readAt a_readBoard x1 t1 h
        unfold m_X10_readSquares_b48 at h
        obtain ⟨⟨r_2, v_readAt_3⟩, hm_4, h⟩ := ob_e h
        replace h : _ = _ := h
        refine kv_callWi C [.int t1] 0 (c_X10_takes l D h0 q cI v_code v_side v_rights v_passed v_halves v_number v_top v_typedCount v_readAt v_place v_writtenCount v_chosenFrom v_chosenTo v_chosenTurn v_changed v_readSide v_readRights v_readPassed v_readHalves v_readNumber a_board a_before a_typed a_written a_froms a_tos a_turns a_counts a_changedSquare a_changedMan a_readBoard t1 r_2 v_readAt_3 hm_4) (cv_X10_takes C.ts lm_RX10_223 ⟨Nat.le_of_ble_eq_true rfl, Nat.le_of_ble_eq_true rfl⟩) rfl rfl rfl rfl (Nat.le_of_ble_eq_true rfl) dX10_readSquares_48 ⟨Nat.zero_le _, Nat.zero_le _⟩ ?_
        refine kv_if_ne C 56 dX10_readSquares_51 (by decide) (fun c_6 => ?_) (fun c_6 => ?_)
        · have h := oi_f h c_6
          obtain ⟨x1_7, ex1_7, h⟩ := ol_e h
          refine kv_iinc C (v := x1_7) (lv2 := [(0, .ref h0), (1, .int x1_7)]) 1 [1, 0] dX10_readSquares_56 rfl ex1_7.symm (by decide) rfl rfl ?_
          refine kv_goto C 24 dX10_readSquares_59 (by decide) ?_
          exact kv_lv [0, 1] (lv2 := [(0, .ref h0), (1, .int x1_7)]) rfl (ih24 v_readAt_3 a_readBoard x1_7 h)
        · have h := oi_t h c_6
          exact kv_lv [] (lv2 := []) rfl (j54 v_readAt_3 a_readBoard h)
      intro v_readAt a_readBoard x1 h
      replace h : m_X10_readSquares_b24  (m_X10_readSquares_l24  v_typedCount a_typed n24) v_typedCount v_readAt a_typed a_readBoard x1 = some (rv, v_readAt', a_readBoard') := h
      unfold m_X10_readSquares_b24 at h
      refine kv_iload_n C 1 dX10_readSquares_24 rfl rfl ?_
      refine kv_if_lt C 62 dX10_readSquares_25 (by decide) (fun c_8 => ?_) (fun c_8 => ?_)
      · have h := oi_t h c_8
        refine kv_iconst C 1 dX10_readSquares_62 (by decide) ?_
        obtain ⟨g_9, h⟩ := obl_e h
        cases h
        exact hret _ _ dX10_readSquares_63 (fun _ => g_9)
      · have h := oi_f h c_8
        refine kv_aload_n C 0 dX10_readSquares_28 rfl rfl ?_
        refine kv_iload_n C 1 dX10_readSquares_29 rfl rfl ?_
        obtain ⟨⟨r_10, v_readAt_11, a_readBoard_12⟩, hm_13, h⟩ := ob_e h
        replace h : _ = _ := h
        refine kv_callWi C [.int x1] 0 (c_X10_readRow l D h0 q cI v_code v_side v_rights v_passed v_halves v_number v_top v_typedCount v_readAt v_place v_writtenCount v_chosenFrom v_chosenTo v_chosenTurn v_changed v_readSide v_readRights v_readPassed v_readHalves v_readNumber a_board a_before a_typed a_written a_froms a_tos a_turns a_counts a_changedSquare a_changedMan a_readBoard x1 r_10 v_readAt_11 a_readBoard_12 hm_13) (cv_X10_readRow C.ts lm_RX10_220 ⟨Nat.le_of_ble_eq_true rfl, Nat.le_of_ble_eq_true rfl⟩) rfl rfl rfl rfl (Nat.le_of_ble_eq_true rfl) dX10_readSquares_30 ⟨Nat.zero_le _, Nat.zero_le _⟩ ?_
        refine kv_if_eq C 54 dX10_readSquares_33 (by decide) (fun c_15 => ?_) (fun c_15 => ?_)
        · have h := oi_t h c_15
          exact kv_lv [] (lv2 := []) rfl (j54 v_readAt_11 a_readBoard_12 h)
        · have h := oi_f h c_15
          refine kv_aload_n C 0 dX10_readSquares_36 rfl rfl ?_
          refine kv_iload_n C 1 dX10_readSquares_37 rfl rfl ?_
          refine kv_if_le C 46 dX10_readSquares_38 (by decide) (fun c_16 => ?_) (fun c_16 => ?_)
          · have h := oi_t h c_16
            refine kv_bipush C 32 dX10_readSquares_46 (by decide) ?_
            exact kv_lv [0, 1] (lv2 := [(0, .ref h0), (1, .int x1)]) rfl (j48 v_readAt_11 a_readBoard_12 x1 32 h)
          · have h := oi_f h c_16
            refine kv_bipush C 47 dX10_readSquares_41 (by decide) ?_
            refine kv_goto C 48 dX10_readSquares_43 (by decide) ?_
            exact kv_lv [0, 1] (lv2 := [(0, .ref h0), (1, .int x1)]) rfl (j48 v_readAt_11 a_readBoard_12 x1 47 h)
  have l2 : ∀ (n2 : Nat) (v_readAt : Int32) (a_readBoard : Nat → Int32) (x1 : Int32), m_X10_readSquares_l2  v_typedCount a_typed n2 v_readAt a_readBoard x1 = some (rv, v_readAt', a_readBoard') → kv p l e rm_X10_readSquares s m ([.ref h0] : List Value).toArray below meth c D A 2 0 0 Q (wM h0 q cI v_code v_side v_rights v_passed v_halves v_number v_top v_typedCount v_readAt v_place v_writtenCount v_chosenFrom v_chosenTo v_chosenTurn v_changed v_readSide v_readRights v_readPassed v_readHalves v_readNumber a_board a_before a_typed a_written a_froms a_tos a_turns a_counts a_changedSquare a_changedMan a_readBoard) [(0, .ref h0), (1, .int x1)] 2 [] := by
    intro n2
    induction n2 with
    | zero =>
      intro v_readAt a_readBoard x1 h
      exact kv_no h
    | succ n2 ih2 =>
      intro v_readAt a_readBoard x1 h
      replace h : m_X10_readSquares_b2  (m_X10_readSquares_l2  v_typedCount a_typed n2) v_typedCount v_readAt a_typed a_readBoard x1 = some (rv, v_readAt', a_readBoard') := h
      unfold m_X10_readSquares_b2 at h
      refine kv_iload_n C 1 dX10_readSquares_2 rfl rfl ?_
      refine kv_bipush C 64 dX10_readSquares_3 (by decide) ?_
      refine kv_icmp_ge C 21 dX10_readSquares_5 (by decide) (fun c_17 => ?_) (fun c_17 => ?_)
      · have h := oi_t h c_17
        refine kv_bipush C 7 dX10_readSquares_21 (by decide) ?_
        refine kv_istore_n C (lv2 := [(0, .ref h0), (1, .int 7)]) [1, 0] dX10_readSquares_23 rfl (by decide) rfl rfl ?_
        exact kv_lv [0, 1] (lv2 := [(0, .ref h0), (1, .int 7)]) rfl (l24 kF v_readAt a_readBoard 7 h)
      · have h := oi_f h c_17
        refine kv_aload_n C 0 dX10_readSquares_8 rfl rfl ?_
        refine kv_get C (Cn := RX10) (T := TX10) (N := 31) 0 25 hin10 rfl rfl (by decide) (C.ts _ (List.mem_cons_of_mem _ lf_RX10_57)) rfl rfl dX10_readSquares_9 ?_
        refine kv_iload_n C 1 dX10_readSquares_12 rfl rfl ?_
        refine kv_iconst C 0 dX10_readSquares_13 (by decide) ?_
        obtain ⟨g_18, h⟩ := oin_e h
        obtain ⟨a_readBoard_19, ea_readBoard_19, h⟩ := ol_e h
        refine kv_iast2 C (ws1 := (wM h0 q cI v_code v_side v_rights v_passed v_halves v_number v_top v_typedCount v_readAt v_place v_writtenCount v_chosenFrom v_chosenTo v_chosenTurn v_changed v_readSide v_readRights v_readPassed v_readHalves v_readNumber a_board a_before a_typed a_written a_froms a_tos a_turns a_counts a_changedSquare a_changedMan a_readBoard_19)) 11 0 rfl rfl g_18 ea_readBoard_19 rfl dX10_readSquares_14 ?_
        obtain ⟨x1_20, ex1_20, h⟩ := ol_e h
        refine kv_iinc C (v := x1_20) (lv2 := [(0, .ref h0), (1, .int x1_20)]) 1 [1, 0] dX10_readSquares_15 rfl ex1_20.symm (by decide) rfl rfl ?_
        refine kv_goto C 2 dX10_readSquares_18 (by decide) ?_
        exact kv_lv [0, 1] (lv2 := [(0, .ref h0), (1, .int x1_20)]) rfl (ih2 v_readAt a_readBoard_19 x1_20 h)
  unfold m_X10_readSquares at hm
  have h := hm
  refine kv_lv [0] (lv2 := [(0, .ref h0)]) rfl ?_
  refine kv_iconst C 0 dX10_readSquares_0 (by decide) ?_
  refine kv_istore_n C (lv2 := [(0, .ref h0), (1, .int 0)]) [1, 0] dX10_readSquares_1 rfl (by decide) rfl rfl ?_
  exact kv_lv [0, 1] (lv2 := [(0, .ref h0), (1, .int 0)]) rfl (l2 kF v_readAt a_readBoard 0 h)
def m_X10_readMover_b50 (v_typedCount : Int32) (v_readAt : Int32) (v_readSide : Int32) (a_typed : Nat → Int32) (t0 : Int32) : Option (Int32 × Int32 × Int32) := obl (t0) (some (t0, v_readAt, v_readSide))
def m_X10_readMover_b49 (v_typedCount : Int32) (v_readAt : Int32) (v_readSide : Int32) (a_typed : Nat → Int32) : Option (Int32 × Int32 × Int32) := m_X10_readMover_b50 v_typedCount v_readAt v_readSide a_typed 0
def m_X10_readMover_b36 (v_typedCount : Int32) (v_readAt : Int32) (v_readSide : Int32) (a_typed : Nat → Int32) : Option (Int32 × Int32 × Int32) := ob (m_X10_takes v_typedCount v_readAt a_typed 32) fun (r_2, v_readAt_3) => if r_2 = 0 then m_X10_readMover_b49 v_typedCount v_readAt_3 v_readSide a_typed else m_X10_readMover_b50 v_typedCount v_readAt_3 v_readSide a_typed 1
def m_X10_readMover_b15 (v_typedCount : Int32) (v_readAt : Int32) (v_readSide : Int32) (a_typed : Nat → Int32) (t1 : Int32) : Option (Int32 × Int32 × Int32) := ob (m_X10_takes v_typedCount v_readAt a_typed 119) fun (r_7, v_readAt_8) => if r_7 = 0 then ob (m_X10_takes v_typedCount v_readAt_8 a_typed 98) fun (r_12, v_readAt_13) => if r_12 = 0 then m_X10_readMover_b49 v_typedCount v_readAt_13 t1 a_typed else m_X10_readMover_b36 v_typedCount v_readAt_13 t1 a_typed else m_X10_readMover_b36 v_typedCount v_readAt_8 t1 a_typed
def m_X10_readMover (v_typedCount : Int32) (v_readAt : Int32) (v_readSide : Int32) (a_typed : Nat → Int32) : Option (Int32 × Int32 × Int32) := ob (m_X10_next v_typedCount v_readAt a_typed ) fun r_17 => if r_17 = 119 then m_X10_readMover_b15 v_typedCount v_readAt v_readSide a_typed 0 else m_X10_readMover_b15 v_typedCount v_readAt v_readSide a_typed 1
abbrev rm_X10_readMover : Room := { frames := 2, cells := 0, slots := 0, locals := 42 }
abbrev wy_X10_readMover : List Cond := .code yX10_readMover cX10_readMover 1 (some .boolean) :: gT
theorem cv_X10_readMover {R : Room} {s : State} {args : Array Value} {own : String} {index : Nat} {w0 : Cond} (hts : ∀ w ∈ w0 :: gT, w.before args s = true) (hl : Cond.methodLink own index yX10_readMover ∈ gT) (hR : 2 + 1 ≤ R.frames ∧ 8 + (1 + 11) + 42 ≤ R.locals) : CallW R s args own RX10 index yX10_readMover cX10_readMover 1 (some .boolean) wy_X10_readMover rm_X10_readMover 0 0 0 :=
  cwV 0 hts (gT_call w0 (pre := [.methodLink own index yX10_readMover, .instanceMethod yX10_readMover, .selects RX10 yX10_readMover yX10_readMover, .initialized RX10]) (gT_lc hl (gT_lc ly_yX10_readMover (gT_lc lx_yX10_readMover (gT_l1 li_RX10)))) lc_yX10_readMover) rfl rfl rfl (by decide +kernel) hR
set_option maxRecDepth 100000 in
set_option maxHeartbeats 4000000 in
theorem c_X10_readMover (l : Launch) (D : va_G) (h0 : Nat) (q : Nat → Nat) (cI : ClassId) (v_code : Int32) (v_side : Int32) (v_rights : Int32) (v_passed : Int32) (v_halves : Int32) (v_number : Int32) (v_top : Int32) (v_typedCount : Int32) (v_readAt : Int32) (v_place : Int32) (v_writtenCount : Int32) (v_chosenFrom : Int32) (v_chosenTo : Int32) (v_chosenTurn : Int32) (v_changed : Int32) (v_readSide : Int32) (v_readRights : Int32) (v_readPassed : Int32) (v_readHalves : Int32) (v_readNumber : Int32) (a_board : Nat → Int32) (a_before : Nat → Int32) (a_typed : Nat → Int32) (a_written : Nat → Int32) (a_froms : Nat → Int32) (a_tos : Nat → Int32) (a_turns : Nat → Int32) (a_counts : Nat → Int32) (a_changedSquare : Nat → Int32) (a_changedMan : Nat → Int32) (a_readBoard : Nat → Int32) (rv : Int32) (v_readAt' : Int32) (v_readSide' : Int32) (hm : m_X10_readMover v_typedCount v_readAt v_readSide a_typed = some (rv, v_readAt', v_readSide')) : kDi l yX10_readMover wy_X10_readMover rm_X10_readMover D [(cI, .int)] rv (wM h0 q cI v_code v_side v_rights v_passed v_halves v_number v_top v_typedCount v_readAt v_place v_writtenCount v_chosenFrom v_chosenTo v_chosenTurn v_changed v_readSide v_readRights v_readPassed v_readHalves v_readNumber a_board a_before a_typed a_written a_froms a_tos a_turns a_counts a_changedSquare a_changedMan a_readBoard) (wM h0 q cI v_code v_side v_rights v_passed v_halves v_number v_top v_typedCount v_readAt' v_place v_writtenCount v_chosenFrom v_chosenTo v_chosenTurn v_changed v_readSide' v_readRights v_readPassed v_readHalves v_readNumber a_board a_before a_typed a_written a_froms a_tos a_turns a_counts a_changedSquare a_changedMan a_readBoard) [.ref h0] := by
  refine kDi.of cX10_readMover 1 (some .boolean) (by decide) rfl (Or.inr rfl) (Nat.le_of_ble_eq_true rfl) ?_
  intro p e s m below meth c A Q C hret
  have hin10 : ∀ w ∈ wsX100, w ∈ wy_X10_readMover := fun w h => List.mem_cons_of_mem _ (inG10 w h)
  have j50 : ∀ (v_readAt : Int32) (v_readSide : Int32) (t0 : Int32), m_X10_readMover_b50  v_typedCount v_readAt v_readSide a_typed t0 = some (rv, v_readAt', v_readSide') → kv p l e rm_X10_readMover s m ([.ref h0] : List Value).toArray below meth c D A 1 0 0 Q (wM h0 q cI v_code v_side v_rights v_passed v_halves v_number v_top v_typedCount v_readAt v_place v_writtenCount v_chosenFrom v_chosenTo v_chosenTurn v_changed v_readSide v_readRights v_readPassed v_readHalves v_readNumber a_board a_before a_typed a_written a_froms a_tos a_turns a_counts a_changedSquare a_changedMan a_readBoard) [] 50 [.int t0] := by
    intro v_readAt v_readSide t0 h
    unfold m_X10_readMover_b50 at h
    obtain ⟨g_1, h⟩ := obl_e h
    cases h
    exact hret _ _ dX10_readMover_50 (fun _ => g_1)
  have j49 : ∀ (v_readAt : Int32) (v_readSide : Int32), m_X10_readMover_b49  v_typedCount v_readAt v_readSide a_typed  = some (rv, v_readAt', v_readSide') → kv p l e rm_X10_readMover s m ([.ref h0] : List Value).toArray below meth c D A 1 0 0 Q (wM h0 q cI v_code v_side v_rights v_passed v_halves v_number v_top v_typedCount v_readAt v_place v_writtenCount v_chosenFrom v_chosenTo v_chosenTurn v_changed v_readSide v_readRights v_readPassed v_readHalves v_readNumber a_board a_before a_typed a_written a_froms a_tos a_turns a_counts a_changedSquare a_changedMan a_readBoard) [] 49 [] := by
    intro v_readAt v_readSide h
    unfold m_X10_readMover_b49 at h
    refine kv_iconst C 0 dX10_readMover_49 (by decide) ?_
    exact kv_lv [] (lv2 := []) rfl (j50 v_readAt v_readSide 0 h)
  have j36 : ∀ (v_readAt : Int32) (v_readSide : Int32), m_X10_readMover_b36  v_typedCount v_readAt v_readSide a_typed  = some (rv, v_readAt', v_readSide') → kv p l e rm_X10_readMover s m ([.ref h0] : List Value).toArray below meth c D A 1 0 0 Q (wM h0 q cI v_code v_side v_rights v_passed v_halves v_number v_top v_typedCount v_readAt v_place v_writtenCount v_chosenFrom v_chosenTo v_chosenTurn v_changed v_readSide v_readRights v_readPassed v_readHalves v_readNumber a_board a_before a_typed a_written a_froms a_tos a_turns a_counts a_changedSquare a_changedMan a_readBoard) [(0, .ref h0)] 36 [] := by
    intro v_readAt v_readSide h
    unfold m_X10_readMover_b36 at h
    refine kv_aload_n C 0 dX10_readMover_36 rfl rfl ?_
    refine kv_bipush C 32 dX10_readMover_37 (by decide) ?_
    obtain ⟨⟨r_2, v_readAt_3⟩, hm_4, h⟩ := ob_e h
    replace h : _ = _ := h
    refine kv_callWi C [.int 32] 0 (c_X10_takes l D h0 q cI v_code v_side v_rights v_passed v_halves v_number v_top v_typedCount v_readAt v_place v_writtenCount v_chosenFrom v_chosenTo v_chosenTurn v_changed v_readSide v_readRights v_readPassed v_readHalves v_readNumber a_board a_before a_typed a_written a_froms a_tos a_turns a_counts a_changedSquare a_changedMan a_readBoard 32 r_2 v_readAt_3 hm_4) (cv_X10_takes C.ts lm_RX10_223 ⟨Nat.le_of_ble_eq_true rfl, Nat.le_of_ble_eq_true rfl⟩) rfl rfl rfl rfl (Nat.le_of_ble_eq_true rfl) dX10_readMover_39 ⟨Nat.zero_le _, Nat.zero_le _⟩ ?_
    refine kv_if_eq C 49 dX10_readMover_42 (by decide) (fun c_6 => ?_) (fun c_6 => ?_)
    · have h := oi_t h c_6
      exact kv_lv [] (lv2 := []) rfl (j49 v_readAt_3 v_readSide h)
    · have h := oi_f h c_6
      refine kv_iconst C 1 dX10_readMover_45 (by decide) ?_
      refine kv_goto C 50 dX10_readMover_46 (by decide) ?_
      exact kv_lv [] (lv2 := []) rfl (j50 v_readAt_3 v_readSide 1 h)
  have j15 : ∀ (v_readAt : Int32) (v_readSide : Int32) (t1 : Int32), m_X10_readMover_b15  v_typedCount v_readAt v_readSide a_typed t1 = some (rv, v_readAt', v_readSide') → kv p l e rm_X10_readMover s m ([.ref h0] : List Value).toArray below meth c D A 1 0 0 Q (wM h0 q cI v_code v_side v_rights v_passed v_halves v_number v_top v_typedCount v_readAt v_place v_writtenCount v_chosenFrom v_chosenTo v_chosenTurn v_changed v_readSide v_readRights v_readPassed v_readHalves v_readNumber a_board a_before a_typed a_written a_froms a_tos a_turns a_counts a_changedSquare a_changedMan a_readBoard) [(0, .ref h0)] 15 [.int t1, .ref h0] := by
    intro v_readAt v_readSide t1 h
    unfold m_X10_readMover_b15 at h
    refine kv_put C (Cn := RX10) (T := TX10) (N := 31) (ty := .int) (ws1 := (wM h0 q cI v_code v_side v_rights v_passed v_halves v_number v_top v_typedCount v_readAt v_place v_writtenCount v_chosenFrom v_chosenTo v_chosenTurn v_changed t1 v_readRights v_readPassed v_readHalves v_readNumber a_board a_before a_typed a_written a_froms a_tos a_turns a_counts a_changedSquare a_changedMan a_readBoard)) 0 26 hin10 tyX10 tyX10_ok nmX10 rfl rfl (by decide) (C.ts _ (List.mem_cons_of_mem _ lf_RX10_226)) rfl rfl (by decide +kernel) rfl rfl (Nat.le_of_ble_eq_true rfl) rfl dX10_readMover_15 ?_
    refine kv_aload_n C 0 dX10_readMover_18 rfl rfl ?_
    refine kv_bipush C 119 dX10_readMover_19 (by decide) ?_
    obtain ⟨⟨r_7, v_readAt_8⟩, hm_9, h⟩ := ob_e h
    replace h : _ = _ := h
    refine kv_callWi C [.int 119] 0 (c_X10_takes l D h0 q cI v_code v_side v_rights v_passed v_halves v_number v_top v_typedCount v_readAt v_place v_writtenCount v_chosenFrom v_chosenTo v_chosenTurn v_changed t1 v_readRights v_readPassed v_readHalves v_readNumber a_board a_before a_typed a_written a_froms a_tos a_turns a_counts a_changedSquare a_changedMan a_readBoard 119 r_7 v_readAt_8 hm_9) (cv_X10_takes C.ts lm_RX10_223 ⟨Nat.le_of_ble_eq_true rfl, Nat.le_of_ble_eq_true rfl⟩) rfl rfl rfl rfl (Nat.le_of_ble_eq_true rfl) dX10_readMover_21 ⟨Nat.zero_le _, Nat.zero_le _⟩ ?_
    refine kv_if_ne C 36 dX10_readMover_24 (by decide) (fun c_11 => ?_) (fun c_11 => ?_)
    · have h := oi_f h c_11
      exact kv_lv [0] (lv2 := [(0, .ref h0)]) rfl (j36 v_readAt_8 t1 h)
    · have h := oi_t h c_11
      refine kv_aload_n C 0 dX10_readMover_27 rfl rfl ?_
      refine kv_bipush C 98 dX10_readMover_28 (by decide) ?_
      obtain ⟨⟨r_12, v_readAt_13⟩, hm_14, h⟩ := ob_e h
      replace h : _ = _ := h
      refine kv_callWi C [.int 98] 0 (c_X10_takes l D h0 q cI v_code v_side v_rights v_passed v_halves v_number v_top v_typedCount v_readAt_8 v_place v_writtenCount v_chosenFrom v_chosenTo v_chosenTurn v_changed t1 v_readRights v_readPassed v_readHalves v_readNumber a_board a_before a_typed a_written a_froms a_tos a_turns a_counts a_changedSquare a_changedMan a_readBoard 98 r_12 v_readAt_13 hm_14) (cv_X10_takes C.ts lm_RX10_223 ⟨Nat.le_of_ble_eq_true rfl, Nat.le_of_ble_eq_true rfl⟩) rfl rfl rfl rfl (Nat.le_of_ble_eq_true rfl) dX10_readMover_30 ⟨Nat.zero_le _, Nat.zero_le _⟩ ?_
      refine kv_if_eq C 49 dX10_readMover_33 (by decide) (fun c_16 => ?_) (fun c_16 => ?_)
      · have h := oi_t h c_16
        exact kv_lv [] (lv2 := []) rfl (j49 v_readAt_13 t1 h)
      · have h := oi_f h c_16
        exact kv_lv [0] (lv2 := [(0, .ref h0)]) rfl (j36 v_readAt_13 t1 h)
  unfold m_X10_readMover at hm
  have h := hm
  refine kv_lv [0] (lv2 := [(0, .ref h0)]) rfl ?_
  refine kv_aload_n C 0 dX10_readMover_0 rfl rfl ?_
  refine kv_aload_n C 0 dX10_readMover_1 rfl rfl ?_
  obtain ⟨r_17, hm_18, h⟩ := ob_e h
  refine kv_callWi C [] 0 (c_X10_next l D h0 q cI v_code v_side v_rights v_passed v_halves v_number v_top v_typedCount v_readAt v_place v_writtenCount v_chosenFrom v_chosenTo v_chosenTurn v_changed v_readSide v_readRights v_readPassed v_readHalves v_readNumber a_board a_before a_typed a_written a_froms a_tos a_turns a_counts a_changedSquare a_changedMan a_readBoard  r_17 hm_18) (cv_X10_next C.ts lm_RX10_214 ⟨Nat.le_of_ble_eq_true rfl, Nat.le_of_ble_eq_true rfl⟩) rfl rfl rfl rfl (Nat.le_of_ble_eq_true rfl) dX10_readMover_2 ⟨Nat.zero_le _, Nat.zero_le _⟩ ?_
  refine kv_bipush C 119 dX10_readMover_5 (by decide) ?_
  refine kv_icmp_ne C 14 dX10_readMover_7 (by decide) (fun c_19 => ?_) (fun c_19 => ?_)
  · have h := oi_f h c_19
    refine kv_iconst C 1 dX10_readMover_14 (by decide) ?_
    exact kv_lv [0] (lv2 := [(0, .ref h0)]) rfl (j15 v_readAt v_readSide 1 h)
  · have h := oi_t h c_19
    refine kv_iconst C 0 dX10_readMover_10 (by decide) ?_
    refine kv_goto C 15 dX10_readMover_11 (by decide) ?_
    exact kv_lv [0] (lv2 := [(0, .ref h0)]) rfl (j15 v_readAt v_readSide 0 h)
def m_X10_readCastles_b147 (v_typedCount : Int32) (v_readAt : Int32) (v_readRights : Int32) (a_typed : Nat → Int32) (t0 : Int32) : Option (Int32 × Int32 × Int32) := obl (t0) (some (t0, v_readAt, v_readRights))
def m_X10_readCastles_b146 (v_typedCount : Int32) (v_readAt : Int32) (v_readRights : Int32) (a_typed : Nat → Int32) : Option (Int32 × Int32 × Int32) := m_X10_readCastles_b147 v_typedCount v_readAt v_readRights a_typed 0
def m_X10_readCastles_b123 (v_typedCount : Int32) (v_readAt : Int32) (v_readRights : Int32) (a_typed : Nat → Int32) (t1 : Int32) : Option (Int32 × Int32 × Int32) := if t1 ≤ 0 then m_X10_readCastles_b146 v_typedCount v_readAt t1 a_typed else ob (m_X10_takes v_typedCount v_readAt a_typed 32) fun (r_3, v_readAt_4) => if r_3 = 0 then m_X10_readCastles_b146 v_typedCount v_readAt_4 t1 a_typed else m_X10_readCastles_b147 v_typedCount v_readAt_4 t1 a_typed 1
def m_X10_readCastles_b96 (v_typedCount : Int32) (v_readAt : Int32) (v_readRights : Int32) (a_typed : Nat → Int32) (t1 : Int32) : Option (Int32 × Int32 × Int32) := ob (m_X10_takes v_typedCount v_readAt a_typed 113) fun (r_8, v_readAt_9) => if r_8 = 0 then m_X10_readCastles_b123 v_typedCount v_readAt_9 t1 a_typed t1 else m_X10_readCastles_b123 v_typedCount v_readAt_9 t1 a_typed (t1 + 8)
def m_X10_readCastles_b70 (v_typedCount : Int32) (v_readAt : Int32) (v_readRights : Int32) (a_typed : Nat → Int32) (t1 : Int32) : Option (Int32 × Int32 × Int32) := ob (m_X10_takes v_typedCount v_readAt a_typed 107) fun (r_13, v_readAt_14) => if r_13 = 0 then m_X10_readCastles_b96 v_typedCount v_readAt_14 t1 a_typed t1 else m_X10_readCastles_b96 v_typedCount v_readAt_14 t1 a_typed (t1 + 4)
def m_X10_readCastles_b44 (v_typedCount : Int32) (v_readAt : Int32) (v_readRights : Int32) (a_typed : Nat → Int32) (t1 : Int32) : Option (Int32 × Int32 × Int32) := ob (m_X10_takes v_typedCount v_readAt a_typed 81) fun (r_18, v_readAt_19) => if r_18 = 0 then m_X10_readCastles_b70 v_typedCount v_readAt_19 t1 a_typed t1 else m_X10_readCastles_b70 v_typedCount v_readAt_19 t1 a_typed (t1 + 2)
def m_X10_readCastles (v_typedCount : Int32) (v_readAt : Int32) (v_readRights : Int32) (a_typed : Nat → Int32) : Option (Int32 × Int32 × Int32) := ob (m_X10_takes v_typedCount v_readAt a_typed 45) fun (r_23, v_readAt_24) => if r_23 = 0 then ob (m_X10_takes v_typedCount v_readAt_24 a_typed 75) fun (r_28, v_readAt_29) => if r_28 = 0 then m_X10_readCastles_b44 v_typedCount v_readAt_29 0 a_typed 0 else m_X10_readCastles_b44 v_typedCount v_readAt_29 0 a_typed (0 + 1) else ob (m_X10_takes v_typedCount v_readAt_24 a_typed 32) fun (r_33, v_readAt_34) => obl (r_33) (some (r_33, v_readAt_34, 0))
abbrev rm_X10_readCastles : Room := { frames := 2, cells := 0, slots := 0, locals := 42 }
abbrev wy_X10_readCastles : List Cond := .code yX10_readCastles cX10_readCastles 1 (some .boolean) :: gT
theorem cv_X10_readCastles {R : Room} {s : State} {args : Array Value} {own : String} {index : Nat} {w0 : Cond} (hts : ∀ w ∈ w0 :: gT, w.before args s = true) (hl : Cond.methodLink own index yX10_readCastles ∈ gT) (hR : 2 + 1 ≤ R.frames ∧ 8 + (1 + 11) + 42 ≤ R.locals) : CallW R s args own RX10 index yX10_readCastles cX10_readCastles 1 (some .boolean) wy_X10_readCastles rm_X10_readCastles 0 0 0 :=
  cwV 0 hts (gT_call w0 (pre := [.methodLink own index yX10_readCastles, .instanceMethod yX10_readCastles, .selects RX10 yX10_readCastles yX10_readCastles, .initialized RX10]) (gT_lc hl (gT_lc ly_yX10_readCastles (gT_lc lx_yX10_readCastles (gT_l1 li_RX10)))) lc_yX10_readCastles) rfl rfl rfl (by decide +kernel) hR
set_option maxRecDepth 100000 in
set_option maxHeartbeats 4000000 in
theorem c_X10_readCastles (l : Launch) (D : va_G) (h0 : Nat) (q : Nat → Nat) (cI : ClassId) (v_code : Int32) (v_side : Int32) (v_rights : Int32) (v_passed : Int32) (v_halves : Int32) (v_number : Int32) (v_top : Int32) (v_typedCount : Int32) (v_readAt : Int32) (v_place : Int32) (v_writtenCount : Int32) (v_chosenFrom : Int32) (v_chosenTo : Int32) (v_chosenTurn : Int32) (v_changed : Int32) (v_readSide : Int32) (v_readRights : Int32) (v_readPassed : Int32) (v_readHalves : Int32) (v_readNumber : Int32) (a_board : Nat → Int32) (a_before : Nat → Int32) (a_typed : Nat → Int32) (a_written : Nat → Int32) (a_froms : Nat → Int32) (a_tos : Nat → Int32) (a_turns : Nat → Int32) (a_counts : Nat → Int32) (a_changedSquare : Nat → Int32) (a_changedMan : Nat → Int32) (a_readBoard : Nat → Int32) (rv : Int32) (v_readAt' : Int32) (v_readRights' : Int32) (hm : m_X10_readCastles v_typedCount v_readAt v_readRights a_typed = some (rv, v_readAt', v_readRights')) : kDi l yX10_readCastles wy_X10_readCastles rm_X10_readCastles D [(cI, .int)] rv (wM h0 q cI v_code v_side v_rights v_passed v_halves v_number v_top v_typedCount v_readAt v_place v_writtenCount v_chosenFrom v_chosenTo v_chosenTurn v_changed v_readSide v_readRights v_readPassed v_readHalves v_readNumber a_board a_before a_typed a_written a_froms a_tos a_turns a_counts a_changedSquare a_changedMan a_readBoard) (wM h0 q cI v_code v_side v_rights v_passed v_halves v_number v_top v_typedCount v_readAt' v_place v_writtenCount v_chosenFrom v_chosenTo v_chosenTurn v_changed v_readSide v_readRights' v_readPassed v_readHalves v_readNumber a_board a_before a_typed a_written a_froms a_tos a_turns a_counts a_changedSquare a_changedMan a_readBoard) [.ref h0] := by
  refine kDi.of cX10_readCastles 1 (some .boolean) (by decide) rfl (Or.inr rfl) (Nat.le_of_ble_eq_true rfl) ?_
  intro p e s m below meth c A Q C hret
  have hin10 : ∀ w ∈ wsX100, w ∈ wy_X10_readCastles := fun w h => List.mem_cons_of_mem _ (inG10 w h)
  have j147 : ∀ (v_readAt : Int32) (v_readRights : Int32) (t0 : Int32), m_X10_readCastles_b147  v_typedCount v_readAt v_readRights a_typed t0 = some (rv, v_readAt', v_readRights') → kv p l e rm_X10_readCastles s m ([.ref h0] : List Value).toArray below meth c D A 1 0 0 Q (wM h0 q cI v_code v_side v_rights v_passed v_halves v_number v_top v_typedCount v_readAt v_place v_writtenCount v_chosenFrom v_chosenTo v_chosenTurn v_changed v_readSide v_readRights v_readPassed v_readHalves v_readNumber a_board a_before a_typed a_written a_froms a_tos a_turns a_counts a_changedSquare a_changedMan a_readBoard) [] 147 [.int t0] := by
    intro v_readAt v_readRights t0 h
    unfold m_X10_readCastles_b147 at h
    obtain ⟨g_1, h⟩ := obl_e h
    cases h
    exact hret _ _ dX10_readCastles_147 (fun _ => g_1)
  have j146 : ∀ (v_readAt : Int32) (v_readRights : Int32), m_X10_readCastles_b146  v_typedCount v_readAt v_readRights a_typed  = some (rv, v_readAt', v_readRights') → kv p l e rm_X10_readCastles s m ([.ref h0] : List Value).toArray below meth c D A 1 0 0 Q (wM h0 q cI v_code v_side v_rights v_passed v_halves v_number v_top v_typedCount v_readAt v_place v_writtenCount v_chosenFrom v_chosenTo v_chosenTurn v_changed v_readSide v_readRights v_readPassed v_readHalves v_readNumber a_board a_before a_typed a_written a_froms a_tos a_turns a_counts a_changedSquare a_changedMan a_readBoard) [] 146 [] := by
    intro v_readAt v_readRights h
    unfold m_X10_readCastles_b146 at h
    refine kv_iconst C 0 dX10_readCastles_146 (by decide) ?_
    exact kv_lv [] (lv2 := []) rfl (j147 v_readAt v_readRights 0 h)
  have j123 : ∀ (v_readAt : Int32) (v_readRights : Int32) (t1 : Int32), m_X10_readCastles_b123  v_typedCount v_readAt v_readRights a_typed t1 = some (rv, v_readAt', v_readRights') → kv p l e rm_X10_readCastles s m ([.ref h0] : List Value).toArray below meth c D A 1 0 0 Q (wM h0 q cI v_code v_side v_rights v_passed v_halves v_number v_top v_typedCount v_readAt v_place v_writtenCount v_chosenFrom v_chosenTo v_chosenTurn v_changed v_readSide v_readRights v_readPassed v_readHalves v_readNumber a_board a_before a_typed a_written a_froms a_tos a_turns a_counts a_changedSquare a_changedMan a_readBoard) [(0, .ref h0)] 123 [.int t1, .ref h0] := by
    intro v_readAt v_readRights t1 h
    unfold m_X10_readCastles_b123 at h
    refine kv_put C (Cn := RX10) (T := TX10) (N := 31) (ty := .int) (ws1 := (wM h0 q cI v_code v_side v_rights v_passed v_halves v_number v_top v_typedCount v_readAt v_place v_writtenCount v_chosenFrom v_chosenTo v_chosenTurn v_changed v_readSide t1 v_readPassed v_readHalves v_readNumber a_board a_before a_typed a_written a_froms a_tos a_turns a_counts a_changedSquare a_changedMan a_readBoard)) 0 27 hin10 tyX10 tyX10_ok nmX10 rfl rfl (by decide) (C.ts _ (List.mem_cons_of_mem _ lf_RX10_229)) rfl rfl (by decide +kernel) rfl rfl (Nat.le_of_ble_eq_true rfl) rfl dX10_readCastles_123 ?_
    refine kv_aload_n C 0 dX10_readCastles_126 rfl rfl ?_
    refine kv_get C (Cn := RX10) (T := TX10) (N := 31) 0 27 hin10 rfl rfl (by decide) (C.ts _ (List.mem_cons_of_mem _ lf_RX10_229)) rfl rfl dX10_readCastles_127 ?_
    refine kv_if_le C 146 dX10_readCastles_130 (by decide) (fun c_2 => ?_) (fun c_2 => ?_)
    · have h := oi_t h c_2
      exact kv_lv [] (lv2 := []) rfl (j146 v_readAt t1 h)
    · have h := oi_f h c_2
      refine kv_aload_n C 0 dX10_readCastles_133 rfl rfl ?_
      refine kv_bipush C 32 dX10_readCastles_134 (by decide) ?_
      obtain ⟨⟨r_3, v_readAt_4⟩, hm_5, h⟩ := ob_e h
      replace h : _ = _ := h
      refine kv_callWi C [.int 32] 0 (c_X10_takes l D h0 q cI v_code v_side v_rights v_passed v_halves v_number v_top v_typedCount v_readAt v_place v_writtenCount v_chosenFrom v_chosenTo v_chosenTurn v_changed v_readSide t1 v_readPassed v_readHalves v_readNumber a_board a_before a_typed a_written a_froms a_tos a_turns a_counts a_changedSquare a_changedMan a_readBoard 32 r_3 v_readAt_4 hm_5) (cv_X10_takes C.ts lm_RX10_223 ⟨Nat.le_of_ble_eq_true rfl, Nat.le_of_ble_eq_true rfl⟩) rfl rfl rfl rfl (Nat.le_of_ble_eq_true rfl) dX10_readCastles_136 ⟨Nat.zero_le _, Nat.zero_le _⟩ ?_
      refine kv_if_eq C 146 dX10_readCastles_139 (by decide) (fun c_7 => ?_) (fun c_7 => ?_)
      · have h := oi_t h c_7
        exact kv_lv [] (lv2 := []) rfl (j146 v_readAt_4 t1 h)
      · have h := oi_f h c_7
        refine kv_iconst C 1 dX10_readCastles_142 (by decide) ?_
        refine kv_goto C 147 dX10_readCastles_143 (by decide) ?_
        exact kv_lv [] (lv2 := []) rfl (j147 v_readAt_4 t1 1 h)
  have j96 : ∀ (v_readAt : Int32) (v_readRights : Int32) (t1 : Int32), m_X10_readCastles_b96  v_typedCount v_readAt v_readRights a_typed t1 = some (rv, v_readAt', v_readRights') → kv p l e rm_X10_readCastles s m ([.ref h0] : List Value).toArray below meth c D A 1 0 0 Q (wM h0 q cI v_code v_side v_rights v_passed v_halves v_number v_top v_typedCount v_readAt v_place v_writtenCount v_chosenFrom v_chosenTo v_chosenTurn v_changed v_readSide v_readRights v_readPassed v_readHalves v_readNumber a_board a_before a_typed a_written a_froms a_tos a_turns a_counts a_changedSquare a_changedMan a_readBoard) [(0, .ref h0)] 96 [.int t1, .ref h0] := by
    intro v_readAt v_readRights t1 h
    unfold m_X10_readCastles_b96 at h
    refine kv_put C (Cn := RX10) (T := TX10) (N := 31) (ty := .int) (ws1 := (wM h0 q cI v_code v_side v_rights v_passed v_halves v_number v_top v_typedCount v_readAt v_place v_writtenCount v_chosenFrom v_chosenTo v_chosenTurn v_changed v_readSide t1 v_readPassed v_readHalves v_readNumber a_board a_before a_typed a_written a_froms a_tos a_turns a_counts a_changedSquare a_changedMan a_readBoard)) 0 27 hin10 tyX10 tyX10_ok nmX10 rfl rfl (by decide) (C.ts _ (List.mem_cons_of_mem _ lf_RX10_229)) rfl rfl (by decide +kernel) rfl rfl (Nat.le_of_ble_eq_true rfl) rfl dX10_readCastles_96 ?_
    refine kv_aload_n C 0 dX10_readCastles_99 rfl rfl ?_
    refine kv_aload_n C 0 dX10_readCastles_100 rfl rfl ?_
    refine kv_bipush C 113 dX10_readCastles_101 (by decide) ?_
    obtain ⟨⟨r_8, v_readAt_9⟩, hm_10, h⟩ := ob_e h
    replace h : _ = _ := h
    refine kv_callWi C [.int 113] 0 (c_X10_takes l D h0 q cI v_code v_side v_rights v_passed v_halves v_number v_top v_typedCount v_readAt v_place v_writtenCount v_chosenFrom v_chosenTo v_chosenTurn v_changed v_readSide t1 v_readPassed v_readHalves v_readNumber a_board a_before a_typed a_written a_froms a_tos a_turns a_counts a_changedSquare a_changedMan a_readBoard 113 r_8 v_readAt_9 hm_10) (cv_X10_takes C.ts lm_RX10_223 ⟨Nat.le_of_ble_eq_true rfl, Nat.le_of_ble_eq_true rfl⟩) rfl rfl rfl rfl (Nat.le_of_ble_eq_true rfl) dX10_readCastles_103 ⟨Nat.zero_le _, Nat.zero_le _⟩ ?_
    refine kv_if_eq C 119 dX10_readCastles_106 (by decide) (fun c_12 => ?_) (fun c_12 => ?_)
    · have h := oi_t h c_12
      refine kv_aload_n C 0 dX10_readCastles_119 rfl rfl ?_
      refine kv_get C (Cn := RX10) (T := TX10) (N := 31) 0 27 hin10 rfl rfl (by decide) (C.ts _ (List.mem_cons_of_mem _ lf_RX10_229)) rfl rfl dX10_readCastles_120 ?_
      exact kv_lv [0] (lv2 := [(0, .ref h0)]) rfl (j123 v_readAt_9 t1 t1 h)
    · have h := oi_f h c_12
      refine kv_aload_n C 0 dX10_readCastles_109 rfl rfl ?_
      refine kv_get C (Cn := RX10) (T := TX10) (N := 31) 0 27 hin10 rfl rfl (by decide) (C.ts _ (List.mem_cons_of_mem _ lf_RX10_229)) rfl rfl dX10_readCastles_110 ?_
      refine kv_bipush C 8 dX10_readCastles_113 (by decide) ?_
      refine kv_iadd C dX10_readCastles_115 ?_
      refine kv_goto C 123 dX10_readCastles_116 (by decide) ?_
      exact kv_lv [0] (lv2 := [(0, .ref h0)]) rfl (j123 v_readAt_9 t1 (t1 + 8) h)
  have j70 : ∀ (v_readAt : Int32) (v_readRights : Int32) (t1 : Int32), m_X10_readCastles_b70  v_typedCount v_readAt v_readRights a_typed t1 = some (rv, v_readAt', v_readRights') → kv p l e rm_X10_readCastles s m ([.ref h0] : List Value).toArray below meth c D A 1 0 0 Q (wM h0 q cI v_code v_side v_rights v_passed v_halves v_number v_top v_typedCount v_readAt v_place v_writtenCount v_chosenFrom v_chosenTo v_chosenTurn v_changed v_readSide v_readRights v_readPassed v_readHalves v_readNumber a_board a_before a_typed a_written a_froms a_tos a_turns a_counts a_changedSquare a_changedMan a_readBoard) [(0, .ref h0)] 70 [.int t1, .ref h0] := by
    intro v_readAt v_readRights t1 h
    unfold m_X10_readCastles_b70 at h
    refine kv_put C (Cn := RX10) (T := TX10) (N := 31) (ty := .int) (ws1 := (wM h0 q cI v_code v_side v_rights v_passed v_halves v_number v_top v_typedCount v_readAt v_place v_writtenCount v_chosenFrom v_chosenTo v_chosenTurn v_changed v_readSide t1 v_readPassed v_readHalves v_readNumber a_board a_before a_typed a_written a_froms a_tos a_turns a_counts a_changedSquare a_changedMan a_readBoard)) 0 27 hin10 tyX10 tyX10_ok nmX10 rfl rfl (by decide) (C.ts _ (List.mem_cons_of_mem _ lf_RX10_229)) rfl rfl (by decide +kernel) rfl rfl (Nat.le_of_ble_eq_true rfl) rfl dX10_readCastles_70 ?_
    refine kv_aload_n C 0 dX10_readCastles_73 rfl rfl ?_
    refine kv_aload_n C 0 dX10_readCastles_74 rfl rfl ?_
    refine kv_bipush C 107 dX10_readCastles_75 (by decide) ?_
    obtain ⟨⟨r_13, v_readAt_14⟩, hm_15, h⟩ := ob_e h
    replace h : _ = _ := h
    refine kv_callWi C [.int 107] 0 (c_X10_takes l D h0 q cI v_code v_side v_rights v_passed v_halves v_number v_top v_typedCount v_readAt v_place v_writtenCount v_chosenFrom v_chosenTo v_chosenTurn v_changed v_readSide t1 v_readPassed v_readHalves v_readNumber a_board a_before a_typed a_written a_froms a_tos a_turns a_counts a_changedSquare a_changedMan a_readBoard 107 r_13 v_readAt_14 hm_15) (cv_X10_takes C.ts lm_RX10_223 ⟨Nat.le_of_ble_eq_true rfl, Nat.le_of_ble_eq_true rfl⟩) rfl rfl rfl rfl (Nat.le_of_ble_eq_true rfl) dX10_readCastles_77 ⟨Nat.zero_le _, Nat.zero_le _⟩ ?_
    refine kv_if_eq C 92 dX10_readCastles_80 (by decide) (fun c_17 => ?_) (fun c_17 => ?_)
    · have h := oi_t h c_17
      refine kv_aload_n C 0 dX10_readCastles_92 rfl rfl ?_
      refine kv_get C (Cn := RX10) (T := TX10) (N := 31) 0 27 hin10 rfl rfl (by decide) (C.ts _ (List.mem_cons_of_mem _ lf_RX10_229)) rfl rfl dX10_readCastles_93 ?_
      exact kv_lv [0] (lv2 := [(0, .ref h0)]) rfl (j96 v_readAt_14 t1 t1 h)
    · have h := oi_f h c_17
      refine kv_aload_n C 0 dX10_readCastles_83 rfl rfl ?_
      refine kv_get C (Cn := RX10) (T := TX10) (N := 31) 0 27 hin10 rfl rfl (by decide) (C.ts _ (List.mem_cons_of_mem _ lf_RX10_229)) rfl rfl dX10_readCastles_84 ?_
      refine kv_iconst C 4 dX10_readCastles_87 (by decide) ?_
      refine kv_iadd C dX10_readCastles_88 ?_
      refine kv_goto C 96 dX10_readCastles_89 (by decide) ?_
      exact kv_lv [0] (lv2 := [(0, .ref h0)]) rfl (j96 v_readAt_14 t1 (t1 + 4) h)
  have j44 : ∀ (v_readAt : Int32) (v_readRights : Int32) (t1 : Int32), m_X10_readCastles_b44  v_typedCount v_readAt v_readRights a_typed t1 = some (rv, v_readAt', v_readRights') → kv p l e rm_X10_readCastles s m ([.ref h0] : List Value).toArray below meth c D A 1 0 0 Q (wM h0 q cI v_code v_side v_rights v_passed v_halves v_number v_top v_typedCount v_readAt v_place v_writtenCount v_chosenFrom v_chosenTo v_chosenTurn v_changed v_readSide v_readRights v_readPassed v_readHalves v_readNumber a_board a_before a_typed a_written a_froms a_tos a_turns a_counts a_changedSquare a_changedMan a_readBoard) [(0, .ref h0)] 44 [.int t1, .ref h0] := by
    intro v_readAt v_readRights t1 h
    unfold m_X10_readCastles_b44 at h
    refine kv_put C (Cn := RX10) (T := TX10) (N := 31) (ty := .int) (ws1 := (wM h0 q cI v_code v_side v_rights v_passed v_halves v_number v_top v_typedCount v_readAt v_place v_writtenCount v_chosenFrom v_chosenTo v_chosenTurn v_changed v_readSide t1 v_readPassed v_readHalves v_readNumber a_board a_before a_typed a_written a_froms a_tos a_turns a_counts a_changedSquare a_changedMan a_readBoard)) 0 27 hin10 tyX10 tyX10_ok nmX10 rfl rfl (by decide) (C.ts _ (List.mem_cons_of_mem _ lf_RX10_229)) rfl rfl (by decide +kernel) rfl rfl (Nat.le_of_ble_eq_true rfl) rfl dX10_readCastles_44 ?_
    refine kv_aload_n C 0 dX10_readCastles_47 rfl rfl ?_
    refine kv_aload_n C 0 dX10_readCastles_48 rfl rfl ?_
    refine kv_bipush C 81 dX10_readCastles_49 (by decide) ?_
    obtain ⟨⟨r_18, v_readAt_19⟩, hm_20, h⟩ := ob_e h
    replace h : _ = _ := h
    refine kv_callWi C [.int 81] 0 (c_X10_takes l D h0 q cI v_code v_side v_rights v_passed v_halves v_number v_top v_typedCount v_readAt v_place v_writtenCount v_chosenFrom v_chosenTo v_chosenTurn v_changed v_readSide t1 v_readPassed v_readHalves v_readNumber a_board a_before a_typed a_written a_froms a_tos a_turns a_counts a_changedSquare a_changedMan a_readBoard 81 r_18 v_readAt_19 hm_20) (cv_X10_takes C.ts lm_RX10_223 ⟨Nat.le_of_ble_eq_true rfl, Nat.le_of_ble_eq_true rfl⟩) rfl rfl rfl rfl (Nat.le_of_ble_eq_true rfl) dX10_readCastles_51 ⟨Nat.zero_le _, Nat.zero_le _⟩ ?_
    refine kv_if_eq C 66 dX10_readCastles_54 (by decide) (fun c_22 => ?_) (fun c_22 => ?_)
    · have h := oi_t h c_22
      refine kv_aload_n C 0 dX10_readCastles_66 rfl rfl ?_
      refine kv_get C (Cn := RX10) (T := TX10) (N := 31) 0 27 hin10 rfl rfl (by decide) (C.ts _ (List.mem_cons_of_mem _ lf_RX10_229)) rfl rfl dX10_readCastles_67 ?_
      exact kv_lv [0] (lv2 := [(0, .ref h0)]) rfl (j70 v_readAt_19 t1 t1 h)
    · have h := oi_f h c_22
      refine kv_aload_n C 0 dX10_readCastles_57 rfl rfl ?_
      refine kv_get C (Cn := RX10) (T := TX10) (N := 31) 0 27 hin10 rfl rfl (by decide) (C.ts _ (List.mem_cons_of_mem _ lf_RX10_229)) rfl rfl dX10_readCastles_58 ?_
      refine kv_iconst C 2 dX10_readCastles_61 (by decide) ?_
      refine kv_iadd C dX10_readCastles_62 ?_
      refine kv_goto C 70 dX10_readCastles_63 (by decide) ?_
      exact kv_lv [0] (lv2 := [(0, .ref h0)]) rfl (j70 v_readAt_19 t1 (t1 + 2) h)
  unfold m_X10_readCastles at hm
  have h := hm
  refine kv_lv [0] (lv2 := [(0, .ref h0)]) rfl ?_
  refine kv_aload_n C 0 dX10_readCastles_0 rfl rfl ?_
  refine kv_iconst C 0 dX10_readCastles_1 (by decide) ?_
  refine kv_put C (Cn := RX10) (T := TX10) (N := 31) (ty := .int) (ws1 := (wM h0 q cI v_code v_side v_rights v_passed v_halves v_number v_top v_typedCount v_readAt v_place v_writtenCount v_chosenFrom v_chosenTo v_chosenTurn v_changed v_readSide 0 v_readPassed v_readHalves v_readNumber a_board a_before a_typed a_written a_froms a_tos a_turns a_counts a_changedSquare a_changedMan a_readBoard)) 0 27 hin10 tyX10 tyX10_ok nmX10 rfl rfl (by decide) (C.ts _ (List.mem_cons_of_mem _ lf_RX10_229)) rfl rfl (by decide +kernel) rfl rfl (Nat.le_of_ble_eq_true rfl) rfl dX10_readCastles_2 ?_
  refine kv_aload_n C 0 dX10_readCastles_5 rfl rfl ?_
  refine kv_bipush C 45 dX10_readCastles_6 (by decide) ?_
  obtain ⟨⟨r_23, v_readAt_24⟩, hm_25, h⟩ := ob_e h
  replace h : _ = _ := h
  refine kv_callWi C [.int 45] 0 (c_X10_takes l D h0 q cI v_code v_side v_rights v_passed v_halves v_number v_top v_typedCount v_readAt v_place v_writtenCount v_chosenFrom v_chosenTo v_chosenTurn v_changed v_readSide 0 v_readPassed v_readHalves v_readNumber a_board a_before a_typed a_written a_froms a_tos a_turns a_counts a_changedSquare a_changedMan a_readBoard 45 r_23 v_readAt_24 hm_25) (cv_X10_takes C.ts lm_RX10_223 ⟨Nat.le_of_ble_eq_true rfl, Nat.le_of_ble_eq_true rfl⟩) rfl rfl rfl rfl (Nat.le_of_ble_eq_true rfl) dX10_readCastles_8 ⟨Nat.zero_le _, Nat.zero_le _⟩ ?_
  refine kv_if_eq C 21 dX10_readCastles_11 (by decide) (fun c_27 => ?_) (fun c_27 => ?_)
  · have h := oi_t h c_27
    refine kv_aload_n C 0 dX10_readCastles_21 rfl rfl ?_
    refine kv_aload_n C 0 dX10_readCastles_22 rfl rfl ?_
    refine kv_bipush C 75 dX10_readCastles_23 (by decide) ?_
    obtain ⟨⟨r_28, v_readAt_29⟩, hm_30, h⟩ := ob_e h
    replace h : _ = _ := h
    refine kv_callWi C [.int 75] 0 (c_X10_takes l D h0 q cI v_code v_side v_rights v_passed v_halves v_number v_top v_typedCount v_readAt_24 v_place v_writtenCount v_chosenFrom v_chosenTo v_chosenTurn v_changed v_readSide 0 v_readPassed v_readHalves v_readNumber a_board a_before a_typed a_written a_froms a_tos a_turns a_counts a_changedSquare a_changedMan a_readBoard 75 r_28 v_readAt_29 hm_30) (cv_X10_takes C.ts lm_RX10_223 ⟨Nat.le_of_ble_eq_true rfl, Nat.le_of_ble_eq_true rfl⟩) rfl rfl rfl rfl (Nat.le_of_ble_eq_true rfl) dX10_readCastles_25 ⟨Nat.zero_le _, Nat.zero_le _⟩ ?_
    refine kv_if_eq C 40 dX10_readCastles_28 (by decide) (fun c_32 => ?_) (fun c_32 => ?_)
    · have h := oi_t h c_32
      refine kv_aload_n C 0 dX10_readCastles_40 rfl rfl ?_
      refine kv_get C (Cn := RX10) (T := TX10) (N := 31) 0 27 hin10 rfl rfl (by decide) (C.ts _ (List.mem_cons_of_mem _ lf_RX10_229)) rfl rfl dX10_readCastles_41 ?_
      exact kv_lv [0] (lv2 := [(0, .ref h0)]) rfl (j44 v_readAt_29 0 0 h)
    · have h := oi_f h c_32
      refine kv_aload_n C 0 dX10_readCastles_31 rfl rfl ?_
      refine kv_get C (Cn := RX10) (T := TX10) (N := 31) 0 27 hin10 rfl rfl (by decide) (C.ts _ (List.mem_cons_of_mem _ lf_RX10_229)) rfl rfl dX10_readCastles_32 ?_
      refine kv_iconst C 1 dX10_readCastles_35 (by decide) ?_
      refine kv_iadd C dX10_readCastles_36 ?_
      refine kv_goto C 44 dX10_readCastles_37 (by decide) ?_
      exact kv_lv [0] (lv2 := [(0, .ref h0)]) rfl (j44 v_readAt_29 0 (0 + 1) h)
  · have h := oi_f h c_27
    refine kv_aload_n C 0 dX10_readCastles_14 rfl rfl ?_
    refine kv_bipush C 32 dX10_readCastles_15 (by decide) ?_
    obtain ⟨⟨r_33, v_readAt_34⟩, hm_35, h⟩ := ob_e h
    replace h : _ = _ := h
    refine kv_callWi C [.int 32] 0 (c_X10_takes l D h0 q cI v_code v_side v_rights v_passed v_halves v_number v_top v_typedCount v_readAt_24 v_place v_writtenCount v_chosenFrom v_chosenTo v_chosenTurn v_changed v_readSide 0 v_readPassed v_readHalves v_readNumber a_board a_before a_typed a_written a_froms a_tos a_turns a_counts a_changedSquare a_changedMan a_readBoard 32 r_33 v_readAt_34 hm_35) (cv_X10_takes C.ts lm_RX10_223 ⟨Nat.le_of_ble_eq_true rfl, Nat.le_of_ble_eq_true rfl⟩) rfl rfl rfl rfl (Nat.le_of_ble_eq_true rfl) dX10_readCastles_17 ⟨Nat.zero_le _, Nat.zero_le _⟩ ?_
    obtain ⟨g_37, h⟩ := obl_e h
    cases h
    exact hret _ _ dX10_readCastles_20 (fun _ => g_37)
def m_X10_readSquare_b67 (v_typedCount : Int32) (v_readAt : Int32) (v_readPassed : Int32) (a_typed : Nat → Int32) : Option (Int32 × Int32 × Int32) := obl (0) (some (0, v_readAt, v_readPassed))
def m_X10_readSquare_b38 (v_typedCount : Int32) (v_readAt : Int32) (v_readPassed : Int32) (a_typed : Nat → Int32) : Option (Int32 × Int32 × Int32) := obl (0) (some (0, v_readAt, v_readPassed))
def m_X10_readSquare (v_typedCount : Int32) (v_readAt : Int32) (v_readPassed : Int32) (a_typed : Nat → Int32) : Option (Int32 × Int32 × Int32) := ob (m_X10_takes v_typedCount v_readAt a_typed 45) fun (r_3, v_readAt_4) => if r_3 = 0 then ob (m_X10_next v_typedCount v_readAt_4 a_typed ) fun r_8 => if r_8 < 97 then m_X10_readSquare_b38 v_typedCount v_readAt_4 (-1) a_typed else if r_8 ≤ 104 then ol (v_readAt_4 + 1) fun y_12 => ob (m_X10_next v_typedCount y_12 a_typed ) fun r_13 => if r_13 < 49 then m_X10_readSquare_b67 v_typedCount y_12 (-1) a_typed else if r_13 ≤ 56 then ol (y_12 + 1) fun y_17 => ol (((8 * (r_13 - 49)) + r_8) - 97) fun y_18 => ob (m_X10_takes v_typedCount y_17 a_typed 32) fun (r_19, v_readAt_20) => obl (r_19) (some (r_19, v_readAt_20, y_18)) else m_X10_readSquare_b67 v_typedCount y_12 (-1) a_typed else m_X10_readSquare_b38 v_typedCount v_readAt_4 (-1) a_typed else ob (m_X10_takes v_typedCount v_readAt_4 a_typed 32) fun (r_24, v_readAt_25) => obl (r_24) (some (r_24, v_readAt_25, (-1)))
abbrev rm_X10_readSquare : Room := { frames := 2, cells := 0, slots := 0, locals := 42 }
abbrev wy_X10_readSquare : List Cond := .code yX10_readSquare cX10_readSquare 3 (some .boolean) :: gT
theorem cv_X10_readSquare {R : Room} {s : State} {args : Array Value} {own : String} {index : Nat} {w0 : Cond} (hts : ∀ w ∈ w0 :: gT, w.before args s = true) (hl : Cond.methodLink own index yX10_readSquare ∈ gT) (hR : 2 + 1 ≤ R.frames ∧ 8 + (3 + 11) + 42 ≤ R.locals) : CallW R s args own RX10 index yX10_readSquare cX10_readSquare 3 (some .boolean) wy_X10_readSquare rm_X10_readSquare 0 0 0 :=
  cwV 0 hts (gT_call w0 (pre := [.methodLink own index yX10_readSquare, .instanceMethod yX10_readSquare, .selects RX10 yX10_readSquare yX10_readSquare, .initialized RX10]) (gT_lc hl (gT_lc ly_yX10_readSquare (gT_lc lx_yX10_readSquare (gT_l1 li_RX10)))) lc_yX10_readSquare) rfl rfl rfl (by decide +kernel) hR
set_option maxRecDepth 100000 in
set_option maxHeartbeats 4000000 in
theorem c_X10_readSquare (l : Launch) (D : va_G) (h0 : Nat) (q : Nat → Nat) (cI : ClassId) (v_code : Int32) (v_side : Int32) (v_rights : Int32) (v_passed : Int32) (v_halves : Int32) (v_number : Int32) (v_top : Int32) (v_typedCount : Int32) (v_readAt : Int32) (v_place : Int32) (v_writtenCount : Int32) (v_chosenFrom : Int32) (v_chosenTo : Int32) (v_chosenTurn : Int32) (v_changed : Int32) (v_readSide : Int32) (v_readRights : Int32) (v_readPassed : Int32) (v_readHalves : Int32) (v_readNumber : Int32) (a_board : Nat → Int32) (a_before : Nat → Int32) (a_typed : Nat → Int32) (a_written : Nat → Int32) (a_froms : Nat → Int32) (a_tos : Nat → Int32) (a_turns : Nat → Int32) (a_counts : Nat → Int32) (a_changedSquare : Nat → Int32) (a_changedMan : Nat → Int32) (a_readBoard : Nat → Int32) (rv : Int32) (v_readAt' : Int32) (v_readPassed' : Int32) (hm : m_X10_readSquare v_typedCount v_readAt v_readPassed a_typed = some (rv, v_readAt', v_readPassed')) : kDi l yX10_readSquare wy_X10_readSquare rm_X10_readSquare D [(cI, .int)] rv (wM h0 q cI v_code v_side v_rights v_passed v_halves v_number v_top v_typedCount v_readAt v_place v_writtenCount v_chosenFrom v_chosenTo v_chosenTurn v_changed v_readSide v_readRights v_readPassed v_readHalves v_readNumber a_board a_before a_typed a_written a_froms a_tos a_turns a_counts a_changedSquare a_changedMan a_readBoard) (wM h0 q cI v_code v_side v_rights v_passed v_halves v_number v_top v_typedCount v_readAt' v_place v_writtenCount v_chosenFrom v_chosenTo v_chosenTurn v_changed v_readSide v_readRights v_readPassed' v_readHalves v_readNumber a_board a_before a_typed a_written a_froms a_tos a_turns a_counts a_changedSquare a_changedMan a_readBoard) [.ref h0] := by
  refine kDi.of cX10_readSquare 3 (some .boolean) (by decide) rfl (Or.inr rfl) (Nat.le_of_ble_eq_true rfl) ?_
  intro p e s m below meth c A Q C hret
  have hin10 : ∀ w ∈ wsX100, w ∈ wy_X10_readSquare := fun w h => List.mem_cons_of_mem _ (inG10 w h)
  have j67 : ∀ (v_readAt : Int32) (v_readPassed : Int32), m_X10_readSquare_b67  v_typedCount v_readAt v_readPassed a_typed  = some (rv, v_readAt', v_readPassed') → kv p l e rm_X10_readSquare s m ([.ref h0] : List Value).toArray below meth c D A 3 0 0 Q (wM h0 q cI v_code v_side v_rights v_passed v_halves v_number v_top v_typedCount v_readAt v_place v_writtenCount v_chosenFrom v_chosenTo v_chosenTurn v_changed v_readSide v_readRights v_readPassed v_readHalves v_readNumber a_board a_before a_typed a_written a_froms a_tos a_turns a_counts a_changedSquare a_changedMan a_readBoard) [] 67 [] := by
    intro v_readAt v_readPassed h
    unfold m_X10_readSquare_b67 at h
    refine kv_iconst C 0 dX10_readSquare_67 (by decide) ?_
    obtain ⟨g_1, h⟩ := obl_e h
    cases h
    exact hret _ _ dX10_readSquare_68 (fun _ => g_1)
  have j38 : ∀ (v_readAt : Int32) (v_readPassed : Int32), m_X10_readSquare_b38  v_typedCount v_readAt v_readPassed a_typed  = some (rv, v_readAt', v_readPassed') → kv p l e rm_X10_readSquare s m ([.ref h0] : List Value).toArray below meth c D A 3 0 0 Q (wM h0 q cI v_code v_side v_rights v_passed v_halves v_number v_top v_typedCount v_readAt v_place v_writtenCount v_chosenFrom v_chosenTo v_chosenTurn v_changed v_readSide v_readRights v_readPassed v_readHalves v_readNumber a_board a_before a_typed a_written a_froms a_tos a_turns a_counts a_changedSquare a_changedMan a_readBoard) [] 38 [] := by
    intro v_readAt v_readPassed h
    unfold m_X10_readSquare_b38 at h
    refine kv_iconst C 0 dX10_readSquare_38 (by decide) ?_
    obtain ⟨g_2, h⟩ := obl_e h
    cases h
    exact hret _ _ dX10_readSquare_39 (fun _ => g_2)
  unfold m_X10_readSquare at hm
  have h := hm
  refine kv_lv [0] (lv2 := [(0, .ref h0)]) rfl ?_
  refine kv_aload_n C 0 dX10_readSquare_0 rfl rfl ?_
  refine kv_iconst C (-1) dX10_readSquare_1 (by decide) ?_
  refine kv_put C (Cn := RX10) (T := TX10) (N := 31) (ty := .int) (ws1 := (wM h0 q cI v_code v_side v_rights v_passed v_halves v_number v_top v_typedCount v_readAt v_place v_writtenCount v_chosenFrom v_chosenTo v_chosenTurn v_changed v_readSide v_readRights (-1) v_readHalves v_readNumber a_board a_before a_typed a_written a_froms a_tos a_turns a_counts a_changedSquare a_changedMan a_readBoard)) 0 28 hin10 tyX10 tyX10_ok nmX10 rfl rfl (by decide) (C.ts _ (List.mem_cons_of_mem _ lf_RX10_232)) rfl rfl (by decide +kernel) rfl rfl (Nat.le_of_ble_eq_true rfl) rfl dX10_readSquare_2 ?_
  refine kv_aload_n C 0 dX10_readSquare_5 rfl rfl ?_
  refine kv_bipush C 45 dX10_readSquare_6 (by decide) ?_
  obtain ⟨⟨r_3, v_readAt_4⟩, hm_5, h⟩ := ob_e h
  replace h : _ = _ := h
  refine kv_callWi C [.int 45] 0 (c_X10_takes l D h0 q cI v_code v_side v_rights v_passed v_halves v_number v_top v_typedCount v_readAt v_place v_writtenCount v_chosenFrom v_chosenTo v_chosenTurn v_changed v_readSide v_readRights (-1) v_readHalves v_readNumber a_board a_before a_typed a_written a_froms a_tos a_turns a_counts a_changedSquare a_changedMan a_readBoard 45 r_3 v_readAt_4 hm_5) (cv_X10_takes C.ts lm_RX10_223 ⟨Nat.le_of_ble_eq_true rfl, Nat.le_of_ble_eq_true rfl⟩) rfl rfl rfl rfl (Nat.le_of_ble_eq_true rfl) dX10_readSquare_8 ⟨Nat.zero_le _, Nat.zero_le _⟩ ?_
  refine kv_if_eq C 21 dX10_readSquare_11 (by decide) (fun c_7 => ?_) (fun c_7 => ?_)
  · have h := oi_t h c_7
    refine kv_aload_n C 0 dX10_readSquare_21 rfl rfl ?_
    obtain ⟨r_8, hm_9, h⟩ := ob_e h
    refine kv_callWi C [] 0 (c_X10_next l D h0 q cI v_code v_side v_rights v_passed v_halves v_number v_top v_typedCount v_readAt_4 v_place v_writtenCount v_chosenFrom v_chosenTo v_chosenTurn v_changed v_readSide v_readRights (-1) v_readHalves v_readNumber a_board a_before a_typed a_written a_froms a_tos a_turns a_counts a_changedSquare a_changedMan a_readBoard  r_8 hm_9) (cv_X10_next C.ts lm_RX10_214 ⟨Nat.le_of_ble_eq_true rfl, Nat.le_of_ble_eq_true rfl⟩) rfl rfl rfl rfl (Nat.le_of_ble_eq_true rfl) dX10_readSquare_22 ⟨Nat.zero_le _, Nat.zero_le _⟩ ?_
    refine kv_istore_n C (lv2 := [(0, .ref h0), (1, .int r_8)]) [1, 0] dX10_readSquare_25 rfl (by decide) rfl rfl ?_
    refine kv_iload_n C 1 dX10_readSquare_26 rfl rfl ?_
    refine kv_bipush C 97 dX10_readSquare_27 (by decide) ?_
    refine kv_icmp_lt C 38 dX10_readSquare_29 (by decide) (fun c_10 => ?_) (fun c_10 => ?_)
    · have h := oi_t h c_10
      exact kv_lv [] (lv2 := []) rfl (j38 v_readAt_4 (-1) h)
    · have h := oi_f h c_10
      refine kv_iload_n C 1 dX10_readSquare_32 rfl rfl ?_
      refine kv_bipush C 104 dX10_readSquare_33 (by decide) ?_
      refine kv_icmp_le C 40 dX10_readSquare_35 (by decide) (fun c_11 => ?_) (fun c_11 => ?_)
      · have h := oi_t h c_11
        refine kv_aload_n C 0 dX10_readSquare_40 rfl rfl ?_
        refine kv_dup C dX10_readSquare_41 rfl ?_
        refine kv_get C (Cn := RX10) (T := TX10) (N := 31) 0 11 hin10 rfl rfl (by decide) (C.ts _ (List.mem_cons_of_mem _ lf_RX10_211)) rfl rfl dX10_readSquare_42 ?_
        refine kv_iconst C 1 dX10_readSquare_45 (by decide) ?_
        refine kv_iadd C dX10_readSquare_46 ?_
        obtain ⟨y_12, ey_12, h⟩ := ol_e h
        refine kv_top ey_12 ?_
        refine kv_put C (Cn := RX10) (T := TX10) (N := 31) (ty := .int) (ws1 := (wM h0 q cI v_code v_side v_rights v_passed v_halves v_number v_top v_typedCount y_12 v_place v_writtenCount v_chosenFrom v_chosenTo v_chosenTurn v_changed v_readSide v_readRights (-1) v_readHalves v_readNumber a_board a_before a_typed a_written a_froms a_tos a_turns a_counts a_changedSquare a_changedMan a_readBoard)) 0 11 hin10 tyX10 tyX10_ok nmX10 rfl rfl (by decide) (C.ts _ (List.mem_cons_of_mem _ lf_RX10_211)) rfl rfl (by decide +kernel) rfl rfl (Nat.le_of_ble_eq_true rfl) rfl dX10_readSquare_47 ?_
        refine kv_aload_n C 0 dX10_readSquare_50 rfl rfl ?_
        obtain ⟨r_13, hm_14, h⟩ := ob_e h
        refine kv_callWi C [] 0 (c_X10_next l D h0 q cI v_code v_side v_rights v_passed v_halves v_number v_top v_typedCount y_12 v_place v_writtenCount v_chosenFrom v_chosenTo v_chosenTurn v_changed v_readSide v_readRights (-1) v_readHalves v_readNumber a_board a_before a_typed a_written a_froms a_tos a_turns a_counts a_changedSquare a_changedMan a_readBoard  r_13 hm_14) (cv_X10_next C.ts lm_RX10_214 ⟨Nat.le_of_ble_eq_true rfl, Nat.le_of_ble_eq_true rfl⟩) rfl rfl rfl rfl (Nat.le_of_ble_eq_true rfl) dX10_readSquare_51 ⟨Nat.zero_le _, Nat.zero_le _⟩ ?_
        refine kv_istore_n C (lv2 := [(0, .ref h0), (1, .int r_8), (2, .int r_13)]) [1, 2, 0] dX10_readSquare_54 rfl (by decide) rfl rfl ?_
        refine kv_iload_n C 2 dX10_readSquare_55 rfl rfl ?_
        refine kv_bipush C 49 dX10_readSquare_56 (by decide) ?_
        refine kv_icmp_lt C 67 dX10_readSquare_58 (by decide) (fun c_15 => ?_) (fun c_15 => ?_)
        · have h := oi_t h c_15
          exact kv_lv [] (lv2 := []) rfl (j67 y_12 (-1) h)
        · have h := oi_f h c_15
          refine kv_iload_n C 2 dX10_readSquare_61 rfl rfl ?_
          refine kv_bipush C 56 dX10_readSquare_62 (by decide) ?_
          refine kv_icmp_le C 69 dX10_readSquare_64 (by decide) (fun c_16 => ?_) (fun c_16 => ?_)
          · have h := oi_t h c_16
            refine kv_aload_n C 0 dX10_readSquare_69 rfl rfl ?_
            refine kv_dup C dX10_readSquare_70 rfl ?_
            refine kv_get C (Cn := RX10) (T := TX10) (N := 31) 0 11 hin10 rfl rfl (by decide) (C.ts _ (List.mem_cons_of_mem _ lf_RX10_211)) rfl rfl dX10_readSquare_71 ?_
            refine kv_iconst C 1 dX10_readSquare_74 (by decide) ?_
            refine kv_iadd C dX10_readSquare_75 ?_
            obtain ⟨y_17, ey_17, h⟩ := ol_e h
            refine kv_top ey_17 ?_
            refine kv_put C (Cn := RX10) (T := TX10) (N := 31) (ty := .int) (ws1 := (wM h0 q cI v_code v_side v_rights v_passed v_halves v_number v_top v_typedCount y_17 v_place v_writtenCount v_chosenFrom v_chosenTo v_chosenTurn v_changed v_readSide v_readRights (-1) v_readHalves v_readNumber a_board a_before a_typed a_written a_froms a_tos a_turns a_counts a_changedSquare a_changedMan a_readBoard)) 0 11 hin10 tyX10 tyX10_ok nmX10 rfl rfl (by decide) (C.ts _ (List.mem_cons_of_mem _ lf_RX10_211)) rfl rfl (by decide +kernel) rfl rfl (Nat.le_of_ble_eq_true rfl) rfl dX10_readSquare_76 ?_
            refine kv_aload_n C 0 dX10_readSquare_79 rfl rfl ?_
            refine kv_bipush C 8 dX10_readSquare_80 (by decide) ?_
            refine kv_iload_n C 2 dX10_readSquare_82 rfl rfl ?_
            refine kv_bipush C 49 dX10_readSquare_83 (by decide) ?_
            refine kv_isub C dX10_readSquare_85 ?_
            refine kv_imul C dX10_readSquare_86 ?_
            refine kv_iload_n C 1 dX10_readSquare_87 rfl rfl ?_
            refine kv_iadd C dX10_readSquare_88 ?_
            refine kv_bipush C 97 dX10_readSquare_89 (by decide) ?_
            refine kv_isub C dX10_readSquare_91 ?_
            obtain ⟨y_18, ey_18, h⟩ := ol_e h
            refine kv_top ey_18 ?_
            refine kv_put C (Cn := RX10) (T := TX10) (N := 31) (ty := .int) (ws1 := (wM h0 q cI v_code v_side v_rights v_passed v_halves v_number v_top v_typedCount y_17 v_place v_writtenCount v_chosenFrom v_chosenTo v_chosenTurn v_changed v_readSide v_readRights y_18 v_readHalves v_readNumber a_board a_before a_typed a_written a_froms a_tos a_turns a_counts a_changedSquare a_changedMan a_readBoard)) 0 28 hin10 tyX10 tyX10_ok nmX10 rfl rfl (by decide) (C.ts _ (List.mem_cons_of_mem _ lf_RX10_232)) rfl rfl (by decide +kernel) rfl rfl (Nat.le_of_ble_eq_true rfl) rfl dX10_readSquare_92 ?_
            refine kv_aload_n C 0 dX10_readSquare_95 rfl rfl ?_
            refine kv_bipush C 32 dX10_readSquare_96 (by decide) ?_
            obtain ⟨⟨r_19, v_readAt_20⟩, hm_21, h⟩ := ob_e h
            replace h : _ = _ := h
            refine kv_callWi C [.int 32] 0 (c_X10_takes l D h0 q cI v_code v_side v_rights v_passed v_halves v_number v_top v_typedCount y_17 v_place v_writtenCount v_chosenFrom v_chosenTo v_chosenTurn v_changed v_readSide v_readRights y_18 v_readHalves v_readNumber a_board a_before a_typed a_written a_froms a_tos a_turns a_counts a_changedSquare a_changedMan a_readBoard 32 r_19 v_readAt_20 hm_21) (cv_X10_takes C.ts lm_RX10_223 ⟨Nat.le_of_ble_eq_true rfl, Nat.le_of_ble_eq_true rfl⟩) rfl rfl rfl rfl (Nat.le_of_ble_eq_true rfl) dX10_readSquare_98 ⟨Nat.zero_le _, Nat.zero_le _⟩ ?_
            obtain ⟨g_23, h⟩ := obl_e h
            cases h
            exact hret _ _ dX10_readSquare_101 (fun _ => g_23)
          · have h := oi_f h c_16
            exact kv_lv [] (lv2 := []) rfl (j67 y_12 (-1) h)
      · have h := oi_f h c_11
        exact kv_lv [] (lv2 := []) rfl (j38 v_readAt_4 (-1) h)
  · have h := oi_f h c_7
    refine kv_aload_n C 0 dX10_readSquare_14 rfl rfl ?_
    refine kv_bipush C 32 dX10_readSquare_15 (by decide) ?_
    obtain ⟨⟨r_24, v_readAt_25⟩, hm_26, h⟩ := ob_e h
    replace h : _ = _ := h
    refine kv_callWi C [.int 32] 0 (c_X10_takes l D h0 q cI v_code v_side v_rights v_passed v_halves v_number v_top v_typedCount v_readAt_4 v_place v_writtenCount v_chosenFrom v_chosenTo v_chosenTurn v_changed v_readSide v_readRights (-1) v_readHalves v_readNumber a_board a_before a_typed a_written a_froms a_tos a_turns a_counts a_changedSquare a_changedMan a_readBoard 32 r_24 v_readAt_25 hm_26) (cv_X10_takes C.ts lm_RX10_223 ⟨Nat.le_of_ble_eq_true rfl, Nat.le_of_ble_eq_true rfl⟩) rfl rfl rfl rfl (Nat.le_of_ble_eq_true rfl) dX10_readSquare_17 ⟨Nat.zero_le _, Nat.zero_le _⟩ ?_
    obtain ⟨g_28, h⟩ := obl_e h
    cases h
    exact hret _ _ dX10_readSquare_20 (fun _ => g_28)
def m_X10_numberFrom_b95 (v_typedCount : Int32) (v_readAt : Int32) (a_typed : Nat → Int32) (x2 : Int32) : Option (Int32 × Int32) := some (x2, v_readAt)
def m_X10_numberFrom_b35 (k35 : Int32 → Int32 → Option (Int32 × Int32)) (v_typedCount : Int32) (v_readAt : Int32) (a_typed : Nat → Int32) (x2 : Int32) : Option (Int32 × Int32) := if x2 ≤ 0 then m_X10_numberFrom_b95 v_typedCount v_readAt a_typed x2 else ob (m_X10_next v_typedCount v_readAt a_typed ) fun r_2 => ob (m_X10_isDigit r_2) fun r_4 => if r_4 = 0 then m_X10_numberFrom_b95 v_typedCount v_readAt a_typed x2 else ob (m_X10_next v_typedCount v_readAt a_typed ) fun r_7 => if (((10 * x2) + r_7) - 48) ≤ 9999 then ob (m_X10_next v_typedCount v_readAt a_typed ) fun r_10 => ol (((10 * x2) + r_10) - 48) fun x2_12 => ol (v_readAt + 1) fun y_13 => k35 y_13 x2_12 else some ((-1), v_readAt)
def m_X10_numberFrom_l35 (v_typedCount : Int32) (a_typed : Nat → Int32) (n : Nat) : Int32 → Int32 → Option (Int32 × Int32) := fz (fun _ _ => none) (fun k35 v_readAt x2 => m_X10_numberFrom_b35 k35 v_typedCount v_readAt a_typed x2) n
def m_X10_numberFrom_b23 (v_typedCount : Int32) (v_readAt : Int32) (a_typed : Nat → Int32) : Option (Int32 × Int32) := some ((-1), v_readAt)
def m_X10_numberFrom (v_typedCount : Int32) (v_readAt : Int32) (a_typed : Nat → Int32) (p0 : Int32) : Option (Int32 × Int32) := ob (m_X10_next v_typedCount v_readAt a_typed ) fun r_14 => ol (r_14 - 48) fun x2_16 => ob (m_X10_next v_typedCount v_readAt a_typed ) fun r_17 => ob (m_X10_isDigit r_17) fun r_19 => if r_19 = 0 then m_X10_numberFrom_b23 v_typedCount v_readAt a_typed else if p0 ≤ x2_16 then ol (v_readAt + 1) fun y_23 => m_X10_numberFrom_l35 v_typedCount a_typed kF y_23 x2_16 else m_X10_numberFrom_b23 v_typedCount v_readAt a_typed
abbrev rm_X10_numberFrom : Room := { frames := 1, cells := 0, slots := 0, locals := 20 }
abbrev wy_X10_numberFrom : List Cond := .code yX10_numberFrom cX10_numberFrom 3 (some .int) :: gT
theorem cv_X10_numberFrom {R : Room} {s : State} {args : Array Value} {own : String} {index : Nat} {w0 : Cond} (hts : ∀ w ∈ w0 :: gT, w.before args s = true) (hl : Cond.methodLink own index yX10_numberFrom ∈ gT) (hR : 1 + 1 ≤ R.frames ∧ 8 + (3 + 11) + 20 ≤ R.locals) : CallW R s args own RX10 index yX10_numberFrom cX10_numberFrom 3 (some .int) wy_X10_numberFrom rm_X10_numberFrom 0 0 1 :=
  cwV 1 hts (gT_call w0 (pre := [.methodLink own index yX10_numberFrom, .instanceMethod yX10_numberFrom, .selects RX10 yX10_numberFrom yX10_numberFrom, .initialized RX10]) (gT_lc hl (gT_lc ly_yX10_numberFrom (gT_lc lx_yX10_numberFrom (gT_l1 li_RX10)))) lc_yX10_numberFrom) rfl rfl rfl (by decide +kernel) hR
set_option maxRecDepth 100000 in
set_option maxHeartbeats 4000000 in
theorem c_X10_numberFrom (l : Launch) (D : va_G) (h0 : Nat) (q : Nat → Nat) (cI : ClassId) (v_code : Int32) (v_side : Int32) (v_rights : Int32) (v_passed : Int32) (v_halves : Int32) (v_number : Int32) (v_top : Int32) (v_typedCount : Int32) (v_readAt : Int32) (v_place : Int32) (v_writtenCount : Int32) (v_chosenFrom : Int32) (v_chosenTo : Int32) (v_chosenTurn : Int32) (v_changed : Int32) (v_readSide : Int32) (v_readRights : Int32) (v_readPassed : Int32) (v_readHalves : Int32) (v_readNumber : Int32) (a_board : Nat → Int32) (a_before : Nat → Int32) (a_typed : Nat → Int32) (a_written : Nat → Int32) (a_froms : Nat → Int32) (a_tos : Nat → Int32) (a_turns : Nat → Int32) (a_counts : Nat → Int32) (a_changedSquare : Nat → Int32) (a_changedMan : Nat → Int32) (a_readBoard : Nat → Int32) (p0 : Int32) (rv : Int32) (v_readAt' : Int32) (hm : m_X10_numberFrom v_typedCount v_readAt a_typed p0 = some (rv, v_readAt')) : kDi l yX10_numberFrom wy_X10_numberFrom rm_X10_numberFrom D [(cI, .int)] rv (wM h0 q cI v_code v_side v_rights v_passed v_halves v_number v_top v_typedCount v_readAt v_place v_writtenCount v_chosenFrom v_chosenTo v_chosenTurn v_changed v_readSide v_readRights v_readPassed v_readHalves v_readNumber a_board a_before a_typed a_written a_froms a_tos a_turns a_counts a_changedSquare a_changedMan a_readBoard) (wM h0 q cI v_code v_side v_rights v_passed v_halves v_number v_top v_typedCount v_readAt' v_place v_writtenCount v_chosenFrom v_chosenTo v_chosenTurn v_changed v_readSide v_readRights v_readPassed v_readHalves v_readNumber a_board a_before a_typed a_written a_froms a_tos a_turns a_counts a_changedSquare a_changedMan a_readBoard) [.ref h0, .int p0] := by
  refine kDi.of cX10_numberFrom 3 (some .int) (by decide) rfl (Or.inl rfl) (Nat.le_of_ble_eq_true rfl) ?_
  intro p e s m below meth c A Q C hret
  have hin10 : ∀ w ∈ wsX100, w ∈ wy_X10_numberFrom := fun w h => List.mem_cons_of_mem _ (inG10 w h)
  have j95 : ∀ (v_readAt : Int32) (x2 : Int32), m_X10_numberFrom_b95  v_typedCount v_readAt a_typed x2 = some (rv, v_readAt') → kv p l e rm_X10_numberFrom s m ([.ref h0, .int p0] : List Value).toArray below meth c D A 3 0 0 Q (wM h0 q cI v_code v_side v_rights v_passed v_halves v_number v_top v_typedCount v_readAt v_place v_writtenCount v_chosenFrom v_chosenTo v_chosenTurn v_changed v_readSide v_readRights v_readPassed v_readHalves v_readNumber a_board a_before a_typed a_written a_froms a_tos a_turns a_counts a_changedSquare a_changedMan a_readBoard) [(2, .int x2)] 95 [] := by
    intro v_readAt x2 h
    unfold m_X10_numberFrom_b95 at h
    refine kv_iload_n C 0 dX10_numberFrom_95 rfl rfl ?_
    cases h
    exact hret _ _ dX10_numberFrom_96 (fun q => by cases q)
  have l35 : ∀ (n35 : Nat) (v_readAt : Int32) (x2 : Int32), m_X10_numberFrom_l35  v_typedCount a_typed n35 v_readAt x2 = some (rv, v_readAt') → kv p l e rm_X10_numberFrom s m ([.ref h0, .int p0] : List Value).toArray below meth c D A 3 0 0 Q (wM h0 q cI v_code v_side v_rights v_passed v_halves v_number v_top v_typedCount v_readAt v_place v_writtenCount v_chosenFrom v_chosenTo v_chosenTurn v_changed v_readSide v_readRights v_readPassed v_readHalves v_readNumber a_board a_before a_typed a_written a_froms a_tos a_turns a_counts a_changedSquare a_changedMan a_readBoard) [(0, .ref h0), (2, .int x2)] 35 [] := by
    intro n35
    induction n35 with
    | zero =>
      intro v_readAt x2 h
      exact kv_no h
    | succ n35 ih35 =>
      intro v_readAt x2 h
      replace h : m_X10_numberFrom_b35  (m_X10_numberFrom_l35  v_typedCount a_typed n35) v_typedCount v_readAt a_typed x2 = some (rv, v_readAt') := h
      unfold m_X10_numberFrom_b35 at h
      refine kv_iload_n C 1 dX10_numberFrom_35 rfl rfl ?_
      refine kv_if_le C 95 dX10_numberFrom_36 (by decide) (fun c_1 => ?_) (fun c_1 => ?_)
      · have h := oi_t h c_1
        exact kv_lv [1] (lv2 := [(2, .int x2)]) rfl (j95 v_readAt x2 h)
      · have h := oi_f h c_1
        refine kv_aload_n C 0 dX10_numberFrom_39 rfl rfl ?_
        obtain ⟨r_2, hm_3, h⟩ := ob_e h
        refine kv_callWi C [] 0 (c_X10_next l D h0 q cI v_code v_side v_rights v_passed v_halves v_number v_top v_typedCount v_readAt v_place v_writtenCount v_chosenFrom v_chosenTo v_chosenTurn v_changed v_readSide v_readRights v_readPassed v_readHalves v_readNumber a_board a_before a_typed a_written a_froms a_tos a_turns a_counts a_changedSquare a_changedMan a_readBoard  r_2 hm_3) (cv_X10_next C.ts lm_RX10_214 ⟨Nat.le_of_ble_eq_true rfl, Nat.le_of_ble_eq_true rfl⟩) rfl rfl rfl rfl (Nat.le_of_ble_eq_true rfl) dX10_numberFrom_40 ⟨Nat.zero_le _, Nat.zero_le _⟩ ?_
        obtain ⟨r_4, hm_5, h⟩ := ob_e h
        refine kv_callS0i C [.int r_2] (c_X10_isDigit l D r_2 r_4 hm_5) (cs_X10_isDigit C.ts lm_RX10_235 ⟨Nat.le_of_ble_eq_true rfl, Nat.le_of_ble_eq_true rfl⟩) rfl rfl (Nat.le_of_ble_eq_true rfl) dX10_numberFrom_43 ⟨Nat.zero_le _, Nat.zero_le _⟩ ?_
        refine kv_if_eq C 95 dX10_numberFrom_46 (by decide) (fun c_6 => ?_) (fun c_6 => ?_)
        · have h := oi_t h c_6
          exact kv_lv [1] (lv2 := [(2, .int x2)]) rfl (j95 v_readAt x2 h)
        · have h := oi_f h c_6
          refine kv_bipush C 10 dX10_numberFrom_49 (by decide) ?_
          refine kv_iload_n C 1 dX10_numberFrom_51 rfl rfl ?_
          refine kv_imul C dX10_numberFrom_52 ?_
          refine kv_aload_n C 0 dX10_numberFrom_53 rfl rfl ?_
          obtain ⟨r_7, hm_8, h⟩ := ob_e h
          refine kv_callWi C [] 0 (c_X10_next l D h0 q cI v_code v_side v_rights v_passed v_halves v_number v_top v_typedCount v_readAt v_place v_writtenCount v_chosenFrom v_chosenTo v_chosenTurn v_changed v_readSide v_readRights v_readPassed v_readHalves v_readNumber a_board a_before a_typed a_written a_froms a_tos a_turns a_counts a_changedSquare a_changedMan a_readBoard  r_7 hm_8) (cv_X10_next C.ts lm_RX10_214 ⟨Nat.le_of_ble_eq_true rfl, Nat.le_of_ble_eq_true rfl⟩) rfl rfl rfl rfl (Nat.le_of_ble_eq_true rfl) dX10_numberFrom_54 ⟨Nat.zero_le _, Nat.zero_le _⟩ ?_
          refine kv_iadd C dX10_numberFrom_57 ?_
          refine kv_bipush C 48 dX10_numberFrom_58 (by decide) ?_
          refine kv_isub C dX10_numberFrom_60 ?_
          refine kv_sipush C 9999 dX10_numberFrom_61 (by decide) ?_
          refine kv_icmp_le C 69 dX10_numberFrom_64 (by decide) (fun c_9 => ?_) (fun c_9 => ?_)
          · have h := oi_t h c_9
            refine kv_bipush C 10 dX10_numberFrom_69 (by decide) ?_
            refine kv_iload_n C 1 dX10_numberFrom_71 rfl rfl ?_
            refine kv_imul C dX10_numberFrom_72 ?_
            refine kv_aload_n C 0 dX10_numberFrom_73 rfl rfl ?_
            obtain ⟨r_10, hm_11, h⟩ := ob_e h
            refine kv_callWi C [] 0 (c_X10_next l D h0 q cI v_code v_side v_rights v_passed v_halves v_number v_top v_typedCount v_readAt v_place v_writtenCount v_chosenFrom v_chosenTo v_chosenTurn v_changed v_readSide v_readRights v_readPassed v_readHalves v_readNumber a_board a_before a_typed a_written a_froms a_tos a_turns a_counts a_changedSquare a_changedMan a_readBoard  r_10 hm_11) (cv_X10_next C.ts lm_RX10_214 ⟨Nat.le_of_ble_eq_true rfl, Nat.le_of_ble_eq_true rfl⟩) rfl rfl rfl rfl (Nat.le_of_ble_eq_true rfl) dX10_numberFrom_74 ⟨Nat.zero_le _, Nat.zero_le _⟩ ?_
            refine kv_iadd C dX10_numberFrom_77 ?_
            refine kv_bipush C 48 dX10_numberFrom_78 (by decide) ?_
            refine kv_isub C dX10_numberFrom_80 ?_
            obtain ⟨x2_12, ex2_12, h⟩ := ol_e h
            refine kv_top ex2_12 ?_
            refine kv_istore_n C (lv2 := [(0, .ref h0), (2, .int x2_12)]) [1, 0] dX10_numberFrom_81 rfl (by decide) rfl rfl ?_
            refine kv_aload_n C 0 dX10_numberFrom_82 rfl rfl ?_
            refine kv_dup C dX10_numberFrom_83 rfl ?_
            refine kv_get C (Cn := RX10) (T := TX10) (N := 31) 0 11 hin10 rfl rfl (by decide) (C.ts _ (List.mem_cons_of_mem _ lf_RX10_211)) rfl rfl dX10_numberFrom_84 ?_
            refine kv_iconst C 1 dX10_numberFrom_87 (by decide) ?_
            refine kv_iadd C dX10_numberFrom_88 ?_
            obtain ⟨y_13, ey_13, h⟩ := ol_e h
            refine kv_top ey_13 ?_
            refine kv_put C (Cn := RX10) (T := TX10) (N := 31) (ty := .int) (ws1 := (wM h0 q cI v_code v_side v_rights v_passed v_halves v_number v_top v_typedCount y_13 v_place v_writtenCount v_chosenFrom v_chosenTo v_chosenTurn v_changed v_readSide v_readRights v_readPassed v_readHalves v_readNumber a_board a_before a_typed a_written a_froms a_tos a_turns a_counts a_changedSquare a_changedMan a_readBoard)) 0 11 hin10 tyX10 tyX10_ok nmX10 rfl rfl (by decide) (C.ts _ (List.mem_cons_of_mem _ lf_RX10_211)) rfl rfl (by decide +kernel) rfl rfl (Nat.le_of_ble_eq_true rfl) rfl dX10_numberFrom_89 ?_
            refine kv_goto C 35 dX10_numberFrom_92 (by decide) ?_
            exact kv_lv [0, 1] (lv2 := [(0, .ref h0), (2, .int x2_12)]) rfl (ih35 y_13 x2_12 h)
          · have h := oi_f h c_9
            refine kv_iconst C (-1) dX10_numberFrom_67 (by decide) ?_
            cases h
            exact hret _ _ dX10_numberFrom_68 (fun q => by cases q)
  have j23 : ∀ (v_readAt : Int32), m_X10_numberFrom_b23  v_typedCount v_readAt a_typed  = some (rv, v_readAt') → kv p l e rm_X10_numberFrom s m ([.ref h0, .int p0] : List Value).toArray below meth c D A 3 0 0 Q (wM h0 q cI v_code v_side v_rights v_passed v_halves v_number v_top v_typedCount v_readAt v_place v_writtenCount v_chosenFrom v_chosenTo v_chosenTurn v_changed v_readSide v_readRights v_readPassed v_readHalves v_readNumber a_board a_before a_typed a_written a_froms a_tos a_turns a_counts a_changedSquare a_changedMan a_readBoard) [] 23 [] := by
    intro v_readAt h
    unfold m_X10_numberFrom_b23 at h
    refine kv_iconst C (-1) dX10_numberFrom_23 (by decide) ?_
    cases h
    exact hret _ _ dX10_numberFrom_24 (fun q => by cases q)
  unfold m_X10_numberFrom at hm
  have h := hm
  refine kv_lv [0, 1] (lv2 := [(0, .ref h0), (1, .int p0)]) rfl ?_
  refine kv_aload_n C 0 dX10_numberFrom_0 rfl rfl ?_
  obtain ⟨r_14, hm_15, h⟩ := ob_e h
  refine kv_callWi C [] 0 (c_X10_next l D h0 q cI v_code v_side v_rights v_passed v_halves v_number v_top v_typedCount v_readAt v_place v_writtenCount v_chosenFrom v_chosenTo v_chosenTurn v_changed v_readSide v_readRights v_readPassed v_readHalves v_readNumber a_board a_before a_typed a_written a_froms a_tos a_turns a_counts a_changedSquare a_changedMan a_readBoard  r_14 hm_15) (cv_X10_next C.ts lm_RX10_214 ⟨Nat.le_of_ble_eq_true rfl, Nat.le_of_ble_eq_true rfl⟩) rfl rfl rfl rfl (Nat.le_of_ble_eq_true rfl) dX10_numberFrom_1 ⟨Nat.zero_le _, Nat.zero_le _⟩ ?_
  refine kv_bipush C 48 dX10_numberFrom_4 (by decide) ?_
  refine kv_isub C dX10_numberFrom_6 ?_
  obtain ⟨x2_16, ex2_16, h⟩ := ol_e h
  refine kv_top ex2_16 ?_
  refine kv_istore_n C (lv2 := [(0, .ref h0), (1, .int p0), (2, .int x2_16)]) [1, 2, 0] dX10_numberFrom_7 rfl (by decide) rfl rfl ?_
  refine kv_aload_n C 0 dX10_numberFrom_8 rfl rfl ?_
  obtain ⟨r_17, hm_18, h⟩ := ob_e h
  refine kv_callWi C [] 0 (c_X10_next l D h0 q cI v_code v_side v_rights v_passed v_halves v_number v_top v_typedCount v_readAt v_place v_writtenCount v_chosenFrom v_chosenTo v_chosenTurn v_changed v_readSide v_readRights v_readPassed v_readHalves v_readNumber a_board a_before a_typed a_written a_froms a_tos a_turns a_counts a_changedSquare a_changedMan a_readBoard  r_17 hm_18) (cv_X10_next C.ts lm_RX10_214 ⟨Nat.le_of_ble_eq_true rfl, Nat.le_of_ble_eq_true rfl⟩) rfl rfl rfl rfl (Nat.le_of_ble_eq_true rfl) dX10_numberFrom_9 ⟨Nat.zero_le _, Nat.zero_le _⟩ ?_
  obtain ⟨r_19, hm_20, h⟩ := ob_e h
  refine kv_callS0i C [.int r_17] (c_X10_isDigit l D r_17 r_19 hm_20) (cs_X10_isDigit C.ts lm_RX10_235 ⟨Nat.le_of_ble_eq_true rfl, Nat.le_of_ble_eq_true rfl⟩) rfl rfl (Nat.le_of_ble_eq_true rfl) dX10_numberFrom_12 ⟨Nat.zero_le _, Nat.zero_le _⟩ ?_
  refine kv_if_eq C 23 dX10_numberFrom_15 (by decide) (fun c_21 => ?_) (fun c_21 => ?_)
  · have h := oi_t h c_21
    exact kv_lv [] (lv2 := []) rfl (j23 v_readAt h)
  · have h := oi_f h c_21
    refine kv_iload_n C 2 dX10_numberFrom_18 rfl rfl ?_
    refine kv_iload_n C 1 dX10_numberFrom_19 rfl rfl ?_
    refine kv_icmp_ge C 25 dX10_numberFrom_20 (by decide) (fun c_22 => ?_) (fun c_22 => ?_)
    · have h := oi_t h c_22
      refine kv_aload_n C 0 dX10_numberFrom_25 rfl rfl ?_
      refine kv_dup C dX10_numberFrom_26 rfl ?_
      refine kv_get C (Cn := RX10) (T := TX10) (N := 31) 0 11 hin10 rfl rfl (by decide) (C.ts _ (List.mem_cons_of_mem _ lf_RX10_211)) rfl rfl dX10_numberFrom_27 ?_
      refine kv_iconst C 1 dX10_numberFrom_30 (by decide) ?_
      refine kv_iadd C dX10_numberFrom_31 ?_
      obtain ⟨y_23, ey_23, h⟩ := ol_e h
      refine kv_top ey_23 ?_
      refine kv_put C (Cn := RX10) (T := TX10) (N := 31) (ty := .int) (ws1 := (wM h0 q cI v_code v_side v_rights v_passed v_halves v_number v_top v_typedCount y_23 v_place v_writtenCount v_chosenFrom v_chosenTo v_chosenTurn v_changed v_readSide v_readRights v_readPassed v_readHalves v_readNumber a_board a_before a_typed a_written a_froms a_tos a_turns a_counts a_changedSquare a_changedMan a_readBoard)) 0 11 hin10 tyX10 tyX10_ok nmX10 rfl rfl (by decide) (C.ts _ (List.mem_cons_of_mem _ lf_RX10_211)) rfl rfl (by decide +kernel) rfl rfl (Nat.le_of_ble_eq_true rfl) rfl dX10_numberFrom_32 ?_
      exact kv_lv [0, 2] (lv2 := [(0, .ref h0), (2, .int x2_16)]) rfl (l35 kF y_23 x2_16 h)
    · have h := oi_f h c_22
      exact kv_lv [] (lv2 := []) rfl (j23 v_readAt h)
def m_X10_isWritten_b94 (v_typedCount : Int32) (v_readAt : Int32) (v_readSide : Int32) (v_readRights : Int32) (v_readPassed : Int32) (v_readHalves : Int32) (v_readNumber : Int32) (a_typed : Nat → Int32) (a_readBoard : Nat → Int32) (t0 : Int32) : Option (Int32 × Int32 × Int32 × Int32 × Int32 × Int32 × Int32 × (Nat → Int32)) := obl (t0) (some (t0, v_readAt, v_readSide, v_readRights, v_readPassed, v_readHalves, v_readNumber, a_readBoard))
def m_X10_isWritten_b93 (v_typedCount : Int32) (v_readAt : Int32) (v_readSide : Int32) (v_readRights : Int32) (v_readPassed : Int32) (v_readHalves : Int32) (v_readNumber : Int32) (a_typed : Nat → Int32) (a_readBoard : Nat → Int32) : Option (Int32 × Int32 × Int32 × Int32 × Int32 × Int32 × Int32 × (Nat → Int32)) := m_X10_isWritten_b94 v_typedCount v_readAt v_readSide v_readRights v_readPassed v_readHalves v_readNumber a_typed a_readBoard 0
def m_X10_isWritten_b60 (v_typedCount : Int32) (v_readAt : Int32) (v_readSide : Int32) (v_readRights : Int32) (v_readPassed : Int32) (v_readHalves : Int32) (v_readNumber : Int32) (a_typed : Nat → Int32) (a_readBoard : Nat → Int32) : Option (Int32 × Int32 × Int32 × Int32 × Int32 × Int32 × Int32 × (Nat → Int32)) := obl (0) (some (0, v_readAt, v_readSide, v_readRights, v_readPassed, v_readHalves, v_readNumber, a_readBoard))
def m_X10_isWritten_b33 (v_typedCount : Int32) (v_readAt : Int32) (v_readSide : Int32) (v_readRights : Int32) (v_readPassed : Int32) (v_readHalves : Int32) (v_readNumber : Int32) (a_typed : Nat → Int32) (a_readBoard : Nat → Int32) : Option (Int32 × Int32 × Int32 × Int32 × Int32 × Int32 × Int32 × (Nat → Int32)) := obl (0) (some (0, v_readAt, v_readSide, v_readRights, v_readPassed, v_readHalves, v_readNumber, a_readBoard))
def m_X10_isWritten (v_typedCount : Int32) (v_readAt : Int32) (v_readSide : Int32) (v_readRights : Int32) (v_readPassed : Int32) (v_readHalves : Int32) (v_readNumber : Int32) (a_typed : Nat → Int32) (a_readBoard : Nat → Int32) : Option (Int32 × Int32 × Int32 × Int32 × Int32 × Int32 × Int32 × (Nat → Int32)) := ob (m_X10_readSquares v_typedCount 0 a_typed a_readBoard ) fun (r_4, v_readAt_5, a_readBoard_6) => if r_4 = 0 then m_X10_isWritten_b33 v_typedCount v_readAt_5 v_readSide v_readRights v_readPassed v_readHalves v_readNumber a_typed a_readBoard_6 else ob (m_X10_readMover v_typedCount v_readAt_5 v_readSide a_typed ) fun (r_10, v_readAt_11, v_readSide_12) => if r_10 = 0 then m_X10_isWritten_b33 v_typedCount v_readAt_11 v_readSide_12 v_readRights v_readPassed v_readHalves v_readNumber a_typed a_readBoard_6 else ob (m_X10_readCastles v_typedCount v_readAt_11 v_readRights a_typed ) fun (r_16, v_readAt_17, v_readRights_18) => if r_16 = 0 then m_X10_isWritten_b33 v_typedCount v_readAt_17 v_readSide_12 v_readRights_18 v_readPassed v_readHalves v_readNumber a_typed a_readBoard_6 else ob (m_X10_readSquare v_typedCount v_readAt_17 v_readPassed a_typed ) fun (r_22, v_readAt_23, v_readPassed_24) => if r_22 = 0 then m_X10_isWritten_b33 v_typedCount v_readAt_23 v_readSide_12 v_readRights_18 v_readPassed_24 v_readHalves v_readNumber a_typed a_readBoard_6 else ob (m_X10_numberFrom v_typedCount v_readAt_23 a_typed 0) fun (r_28, v_readAt_29) => if r_28 < 0 then m_X10_isWritten_b60 v_typedCount v_readAt_29 v_readSide_12 v_readRights_18 v_readPassed_24 r_28 v_readNumber a_typed a_readBoard_6 else ob (m_X10_takes v_typedCount v_readAt_29 a_typed 32) fun (r_33, v_readAt_34) => if r_33 = 0 then m_X10_isWritten_b60 v_typedCount v_readAt_34 v_readSide_12 v_readRights_18 v_readPassed_24 r_28 v_readNumber a_typed a_readBoard_6 else ob (m_X10_numberFrom v_typedCount v_readAt_34 a_typed 1) fun (r_38, v_readAt_39) => if r_38 ≤ 0 then m_X10_isWritten_b93 v_typedCount v_readAt_39 v_readSide_12 v_readRights_18 v_readPassed_24 r_28 r_38 a_typed a_readBoard_6 else if v_readAt_39 = v_typedCount then m_X10_isWritten_b94 v_typedCount v_readAt_39 v_readSide_12 v_readRights_18 v_readPassed_24 r_28 r_38 a_typed a_readBoard_6 1 else m_X10_isWritten_b93 v_typedCount v_readAt_39 v_readSide_12 v_readRights_18 v_readPassed_24 r_28 r_38 a_typed a_readBoard_6
abbrev rm_X10_isWritten : Room := { frames := 3, cells := 0, slots := 0, locals := 67 }
abbrev wy_X10_isWritten : List Cond := .code yX10_isWritten cX10_isWritten 1 (some .boolean) :: gT
theorem cv_X10_isWritten {R : Room} {s : State} {args : Array Value} {own : String} {index : Nat} {w0 : Cond} (hts : ∀ w ∈ w0 :: gT, w.before args s = true) (hl : Cond.methodLink own index yX10_isWritten ∈ gT) (hR : 3 + 1 ≤ R.frames ∧ 8 + (1 + 11) + 67 ≤ R.locals) : CallW R s args own RX10 index yX10_isWritten cX10_isWritten 1 (some .boolean) wy_X10_isWritten rm_X10_isWritten 0 0 0 :=
  cwV 0 hts (gT_call w0 (pre := [.methodLink own index yX10_isWritten, .instanceMethod yX10_isWritten, .selects RX10 yX10_isWritten yX10_isWritten, .initialized RX10]) (gT_lc hl (gT_lc ly_yX10_isWritten (gT_lc lx_yX10_isWritten (gT_l1 li_RX10)))) lc_yX10_isWritten) rfl rfl rfl (by decide +kernel) hR
set_option maxRecDepth 100000 in
set_option maxHeartbeats 4000000 in
theorem c_X10_isWritten (l : Launch) (D : va_G) (h0 : Nat) (q : Nat → Nat) (cI : ClassId) (v_code : Int32) (v_side : Int32) (v_rights : Int32) (v_passed : Int32) (v_halves : Int32) (v_number : Int32) (v_top : Int32) (v_typedCount : Int32) (v_readAt : Int32) (v_place : Int32) (v_writtenCount : Int32) (v_chosenFrom : Int32) (v_chosenTo : Int32) (v_chosenTurn : Int32) (v_changed : Int32) (v_readSide : Int32) (v_readRights : Int32) (v_readPassed : Int32) (v_readHalves : Int32) (v_readNumber : Int32) (a_board : Nat → Int32) (a_before : Nat → Int32) (a_typed : Nat → Int32) (a_written : Nat → Int32) (a_froms : Nat → Int32) (a_tos : Nat → Int32) (a_turns : Nat → Int32) (a_counts : Nat → Int32) (a_changedSquare : Nat → Int32) (a_changedMan : Nat → Int32) (a_readBoard : Nat → Int32) (rv : Int32) (v_readAt' : Int32) (v_readSide' : Int32) (v_readRights' : Int32) (v_readPassed' : Int32) (v_readHalves' : Int32) (v_readNumber' : Int32) (a_readBoard' : Nat → Int32) (hm : m_X10_isWritten v_typedCount v_readAt v_readSide v_readRights v_readPassed v_readHalves v_readNumber a_typed a_readBoard = some (rv, v_readAt', v_readSide', v_readRights', v_readPassed', v_readHalves', v_readNumber', a_readBoard')) : kDi l yX10_isWritten wy_X10_isWritten rm_X10_isWritten D [(cI, .int)] rv (wM h0 q cI v_code v_side v_rights v_passed v_halves v_number v_top v_typedCount v_readAt v_place v_writtenCount v_chosenFrom v_chosenTo v_chosenTurn v_changed v_readSide v_readRights v_readPassed v_readHalves v_readNumber a_board a_before a_typed a_written a_froms a_tos a_turns a_counts a_changedSquare a_changedMan a_readBoard) (wM h0 q cI v_code v_side v_rights v_passed v_halves v_number v_top v_typedCount v_readAt' v_place v_writtenCount v_chosenFrom v_chosenTo v_chosenTurn v_changed v_readSide' v_readRights' v_readPassed' v_readHalves' v_readNumber' a_board a_before a_typed a_written a_froms a_tos a_turns a_counts a_changedSquare a_changedMan a_readBoard') [.ref h0] := by
  refine kDi.of cX10_isWritten 1 (some .boolean) (by decide) rfl (Or.inr rfl) (Nat.le_of_ble_eq_true rfl) ?_
  intro p e s m below meth c A Q C hret
  have hin10 : ∀ w ∈ wsX100, w ∈ wy_X10_isWritten := fun w h => List.mem_cons_of_mem _ (inG10 w h)
  have j94 : ∀ (v_readAt : Int32) (v_readSide : Int32) (v_readRights : Int32) (v_readPassed : Int32) (v_readHalves : Int32) (v_readNumber : Int32) (a_readBoard : Nat → Int32) (t0 : Int32), m_X10_isWritten_b94  v_typedCount v_readAt v_readSide v_readRights v_readPassed v_readHalves v_readNumber a_typed a_readBoard t0 = some (rv, v_readAt', v_readSide', v_readRights', v_readPassed', v_readHalves', v_readNumber', a_readBoard') → kv p l e rm_X10_isWritten s m ([.ref h0] : List Value).toArray below meth c D A 1 0 0 Q (wM h0 q cI v_code v_side v_rights v_passed v_halves v_number v_top v_typedCount v_readAt v_place v_writtenCount v_chosenFrom v_chosenTo v_chosenTurn v_changed v_readSide v_readRights v_readPassed v_readHalves v_readNumber a_board a_before a_typed a_written a_froms a_tos a_turns a_counts a_changedSquare a_changedMan a_readBoard) [] 94 [.int t0] := by
    intro v_readAt v_readSide v_readRights v_readPassed v_readHalves v_readNumber a_readBoard t0 h
    unfold m_X10_isWritten_b94 at h
    obtain ⟨g_1, h⟩ := obl_e h
    cases h
    exact hret _ _ dX10_isWritten_94 (fun _ => g_1)
  have j93 : ∀ (v_readAt : Int32) (v_readSide : Int32) (v_readRights : Int32) (v_readPassed : Int32) (v_readHalves : Int32) (v_readNumber : Int32) (a_readBoard : Nat → Int32), m_X10_isWritten_b93  v_typedCount v_readAt v_readSide v_readRights v_readPassed v_readHalves v_readNumber a_typed a_readBoard  = some (rv, v_readAt', v_readSide', v_readRights', v_readPassed', v_readHalves', v_readNumber', a_readBoard') → kv p l e rm_X10_isWritten s m ([.ref h0] : List Value).toArray below meth c D A 1 0 0 Q (wM h0 q cI v_code v_side v_rights v_passed v_halves v_number v_top v_typedCount v_readAt v_place v_writtenCount v_chosenFrom v_chosenTo v_chosenTurn v_changed v_readSide v_readRights v_readPassed v_readHalves v_readNumber a_board a_before a_typed a_written a_froms a_tos a_turns a_counts a_changedSquare a_changedMan a_readBoard) [] 93 [] := by
    intro v_readAt v_readSide v_readRights v_readPassed v_readHalves v_readNumber a_readBoard h
    unfold m_X10_isWritten_b93 at h
    refine kv_iconst C 0 dX10_isWritten_93 (by decide) ?_
    exact kv_lv [] (lv2 := []) rfl (j94 v_readAt v_readSide v_readRights v_readPassed v_readHalves v_readNumber a_readBoard 0 h)
  have j60 : ∀ (v_readAt : Int32) (v_readSide : Int32) (v_readRights : Int32) (v_readPassed : Int32) (v_readHalves : Int32) (v_readNumber : Int32) (a_readBoard : Nat → Int32), m_X10_isWritten_b60  v_typedCount v_readAt v_readSide v_readRights v_readPassed v_readHalves v_readNumber a_typed a_readBoard  = some (rv, v_readAt', v_readSide', v_readRights', v_readPassed', v_readHalves', v_readNumber', a_readBoard') → kv p l e rm_X10_isWritten s m ([.ref h0] : List Value).toArray below meth c D A 1 0 0 Q (wM h0 q cI v_code v_side v_rights v_passed v_halves v_number v_top v_typedCount v_readAt v_place v_writtenCount v_chosenFrom v_chosenTo v_chosenTurn v_changed v_readSide v_readRights v_readPassed v_readHalves v_readNumber a_board a_before a_typed a_written a_froms a_tos a_turns a_counts a_changedSquare a_changedMan a_readBoard) [] 60 [] := by
    intro v_readAt v_readSide v_readRights v_readPassed v_readHalves v_readNumber a_readBoard h
    unfold m_X10_isWritten_b60 at h
    refine kv_iconst C 0 dX10_isWritten_60 (by decide) ?_
    obtain ⟨g_2, h⟩ := obl_e h
    cases h
    exact hret _ _ dX10_isWritten_61 (fun _ => g_2)
  have j33 : ∀ (v_readAt : Int32) (v_readSide : Int32) (v_readRights : Int32) (v_readPassed : Int32) (v_readHalves : Int32) (v_readNumber : Int32) (a_readBoard : Nat → Int32), m_X10_isWritten_b33  v_typedCount v_readAt v_readSide v_readRights v_readPassed v_readHalves v_readNumber a_typed a_readBoard  = some (rv, v_readAt', v_readSide', v_readRights', v_readPassed', v_readHalves', v_readNumber', a_readBoard') → kv p l e rm_X10_isWritten s m ([.ref h0] : List Value).toArray below meth c D A 1 0 0 Q (wM h0 q cI v_code v_side v_rights v_passed v_halves v_number v_top v_typedCount v_readAt v_place v_writtenCount v_chosenFrom v_chosenTo v_chosenTurn v_changed v_readSide v_readRights v_readPassed v_readHalves v_readNumber a_board a_before a_typed a_written a_froms a_tos a_turns a_counts a_changedSquare a_changedMan a_readBoard) [] 33 [] := by
    intro v_readAt v_readSide v_readRights v_readPassed v_readHalves v_readNumber a_readBoard h
    unfold m_X10_isWritten_b33 at h
    refine kv_iconst C 0 dX10_isWritten_33 (by decide) ?_
    obtain ⟨g_3, h⟩ := obl_e h
    cases h
    exact hret _ _ dX10_isWritten_34 (fun _ => g_3)
  unfold m_X10_isWritten at hm
  have h := hm
  refine kv_lv [0] (lv2 := [(0, .ref h0)]) rfl ?_
  refine kv_aload_n C 0 dX10_isWritten_0 rfl rfl ?_
  refine kv_iconst C 0 dX10_isWritten_1 (by decide) ?_
  refine kv_put C (Cn := RX10) (T := TX10) (N := 31) (ty := .int) (ws1 := (wM h0 q cI v_code v_side v_rights v_passed v_halves v_number v_top v_typedCount 0 v_place v_writtenCount v_chosenFrom v_chosenTo v_chosenTurn v_changed v_readSide v_readRights v_readPassed v_readHalves v_readNumber a_board a_before a_typed a_written a_froms a_tos a_turns a_counts a_changedSquare a_changedMan a_readBoard)) 0 11 hin10 tyX10 tyX10_ok nmX10 rfl rfl (by decide) (C.ts _ (List.mem_cons_of_mem _ lf_RX10_211)) rfl rfl (by decide +kernel) rfl rfl (Nat.le_of_ble_eq_true rfl) rfl dX10_isWritten_2 ?_
  refine kv_aload_n C 0 dX10_isWritten_5 rfl rfl ?_
  obtain ⟨⟨r_4, v_readAt_5, a_readBoard_6⟩, hm_7, h⟩ := ob_e h
  replace h : _ = _ := h
  refine kv_callWi C [] 0 (c_X10_readSquares l D h0 q cI v_code v_side v_rights v_passed v_halves v_number v_top v_typedCount 0 v_place v_writtenCount v_chosenFrom v_chosenTo v_chosenTurn v_changed v_readSide v_readRights v_readPassed v_readHalves v_readNumber a_board a_before a_typed a_written a_froms a_tos a_turns a_counts a_changedSquare a_changedMan a_readBoard  r_4 v_readAt_5 a_readBoard_6 hm_7) (cv_X10_readSquares C.ts lm_RX10_238 ⟨Nat.le_of_ble_eq_true rfl, Nat.le_of_ble_eq_true rfl⟩) rfl rfl rfl rfl (Nat.le_of_ble_eq_true rfl) dX10_isWritten_6 ⟨Nat.zero_le _, Nat.zero_le _⟩ ?_
  refine kv_if_eq C 33 dX10_isWritten_9 (by decide) (fun c_9 => ?_) (fun c_9 => ?_)
  · have h := oi_t h c_9
    exact kv_lv [] (lv2 := []) rfl (j33 v_readAt_5 v_readSide v_readRights v_readPassed v_readHalves v_readNumber a_readBoard_6 h)
  · have h := oi_f h c_9
    refine kv_aload_n C 0 dX10_isWritten_12 rfl rfl ?_
    obtain ⟨⟨r_10, v_readAt_11, v_readSide_12⟩, hm_13, h⟩ := ob_e h
    replace h : _ = _ := h
    refine kv_callWi C [] 0 (c_X10_readMover l D h0 q cI v_code v_side v_rights v_passed v_halves v_number v_top v_typedCount v_readAt_5 v_place v_writtenCount v_chosenFrom v_chosenTo v_chosenTurn v_changed v_readSide v_readRights v_readPassed v_readHalves v_readNumber a_board a_before a_typed a_written a_froms a_tos a_turns a_counts a_changedSquare a_changedMan a_readBoard_6  r_10 v_readAt_11 v_readSide_12 hm_13) (cv_X10_readMover C.ts lm_RX10_241 ⟨Nat.le_of_ble_eq_true rfl, Nat.le_of_ble_eq_true rfl⟩) rfl rfl rfl rfl (Nat.le_of_ble_eq_true rfl) dX10_isWritten_13 ⟨Nat.zero_le _, Nat.zero_le _⟩ ?_
    refine kv_if_eq C 33 dX10_isWritten_16 (by decide) (fun c_15 => ?_) (fun c_15 => ?_)
    · have h := oi_t h c_15
      exact kv_lv [] (lv2 := []) rfl (j33 v_readAt_11 v_readSide_12 v_readRights v_readPassed v_readHalves v_readNumber a_readBoard_6 h)
    · have h := oi_f h c_15
      refine kv_aload_n C 0 dX10_isWritten_19 rfl rfl ?_
      obtain ⟨⟨r_16, v_readAt_17, v_readRights_18⟩, hm_19, h⟩ := ob_e h
      replace h : _ = _ := h
      refine kv_callWi C [] 0 (c_X10_readCastles l D h0 q cI v_code v_side v_rights v_passed v_halves v_number v_top v_typedCount v_readAt_11 v_place v_writtenCount v_chosenFrom v_chosenTo v_chosenTurn v_changed v_readSide_12 v_readRights v_readPassed v_readHalves v_readNumber a_board a_before a_typed a_written a_froms a_tos a_turns a_counts a_changedSquare a_changedMan a_readBoard_6  r_16 v_readAt_17 v_readRights_18 hm_19) (cv_X10_readCastles C.ts lm_RX10_244 ⟨Nat.le_of_ble_eq_true rfl, Nat.le_of_ble_eq_true rfl⟩) rfl rfl rfl rfl (Nat.le_of_ble_eq_true rfl) dX10_isWritten_20 ⟨Nat.zero_le _, Nat.zero_le _⟩ ?_
      refine kv_if_eq C 33 dX10_isWritten_23 (by decide) (fun c_21 => ?_) (fun c_21 => ?_)
      · have h := oi_t h c_21
        exact kv_lv [] (lv2 := []) rfl (j33 v_readAt_17 v_readSide_12 v_readRights_18 v_readPassed v_readHalves v_readNumber a_readBoard_6 h)
      · have h := oi_f h c_21
        refine kv_aload_n C 0 dX10_isWritten_26 rfl rfl ?_
        obtain ⟨⟨r_22, v_readAt_23, v_readPassed_24⟩, hm_25, h⟩ := ob_e h
        replace h : _ = _ := h
        refine kv_callWi C [] 0 (c_X10_readSquare l D h0 q cI v_code v_side v_rights v_passed v_halves v_number v_top v_typedCount v_readAt_17 v_place v_writtenCount v_chosenFrom v_chosenTo v_chosenTurn v_changed v_readSide_12 v_readRights_18 v_readPassed v_readHalves v_readNumber a_board a_before a_typed a_written a_froms a_tos a_turns a_counts a_changedSquare a_changedMan a_readBoard_6  r_22 v_readAt_23 v_readPassed_24 hm_25) (cv_X10_readSquare C.ts lm_RX10_247 ⟨Nat.le_of_ble_eq_true rfl, Nat.le_of_ble_eq_true rfl⟩) rfl rfl rfl rfl (Nat.le_of_ble_eq_true rfl) dX10_isWritten_27 ⟨Nat.zero_le _, Nat.zero_le _⟩ ?_
        refine kv_if_ne C 35 dX10_isWritten_30 (by decide) (fun c_27 => ?_) (fun c_27 => ?_)
        · have h := oi_f h c_27
          refine kv_aload_n C 0 dX10_isWritten_35 rfl rfl ?_
          refine kv_aload_n C 0 dX10_isWritten_36 rfl rfl ?_
          refine kv_iconst C 0 dX10_isWritten_37 (by decide) ?_
          obtain ⟨⟨r_28, v_readAt_29⟩, hm_30, h⟩ := ob_e h
          replace h : _ = _ := h
          refine kv_callWi C [.int 0] 0 (c_X10_numberFrom l D h0 q cI v_code v_side v_rights v_passed v_halves v_number v_top v_typedCount v_readAt_23 v_place v_writtenCount v_chosenFrom v_chosenTo v_chosenTurn v_changed v_readSide_12 v_readRights_18 v_readPassed_24 v_readHalves v_readNumber a_board a_before a_typed a_written a_froms a_tos a_turns a_counts a_changedSquare a_changedMan a_readBoard_6 0 r_28 v_readAt_29 hm_30) (cv_X10_numberFrom C.ts lm_RX10_250 ⟨Nat.le_of_ble_eq_true rfl, Nat.le_of_ble_eq_true rfl⟩) rfl rfl rfl rfl (Nat.le_of_ble_eq_true rfl) dX10_isWritten_38 ⟨Nat.zero_le _, Nat.zero_le _⟩ ?_
          refine kv_put C (Cn := RX10) (T := TX10) (N := 31) (ty := .int) (ws1 := (wM h0 q cI v_code v_side v_rights v_passed v_halves v_number v_top v_typedCount v_readAt_29 v_place v_writtenCount v_chosenFrom v_chosenTo v_chosenTurn v_changed v_readSide_12 v_readRights_18 v_readPassed_24 r_28 v_readNumber a_board a_before a_typed a_written a_froms a_tos a_turns a_counts a_changedSquare a_changedMan a_readBoard_6)) 0 29 hin10 tyX10 tyX10_ok nmX10 rfl rfl (by decide) (C.ts _ (List.mem_cons_of_mem _ lf_RX10_253)) rfl rfl (by decide +kernel) rfl rfl (Nat.le_of_ble_eq_true rfl) rfl dX10_isWritten_41 ?_
          refine kv_aload_n C 0 dX10_isWritten_44 rfl rfl ?_
          refine kv_get C (Cn := RX10) (T := TX10) (N := 31) 0 29 hin10 rfl rfl (by decide) (C.ts _ (List.mem_cons_of_mem _ lf_RX10_253)) rfl rfl dX10_isWritten_45 ?_
          refine kv_if_lt C 60 dX10_isWritten_48 (by decide) (fun c_32 => ?_) (fun c_32 => ?_)
          · have h := oi_t h c_32
            exact kv_lv [] (lv2 := []) rfl (j60 v_readAt_29 v_readSide_12 v_readRights_18 v_readPassed_24 r_28 v_readNumber a_readBoard_6 h)
          · have h := oi_f h c_32
            refine kv_aload_n C 0 dX10_isWritten_51 rfl rfl ?_
            refine kv_bipush C 32 dX10_isWritten_52 (by decide) ?_
            obtain ⟨⟨r_33, v_readAt_34⟩, hm_35, h⟩ := ob_e h
            replace h : _ = _ := h
            refine kv_callWi C [.int 32] 0 (c_X10_takes l D h0 q cI v_code v_side v_rights v_passed v_halves v_number v_top v_typedCount v_readAt_29 v_place v_writtenCount v_chosenFrom v_chosenTo v_chosenTurn v_changed v_readSide_12 v_readRights_18 v_readPassed_24 r_28 v_readNumber a_board a_before a_typed a_written a_froms a_tos a_turns a_counts a_changedSquare a_changedMan a_readBoard_6 32 r_33 v_readAt_34 hm_35) (cv_X10_takes C.ts lm_RX10_223 ⟨Nat.le_of_ble_eq_true rfl, Nat.le_of_ble_eq_true rfl⟩) rfl rfl rfl rfl (Nat.le_of_ble_eq_true rfl) dX10_isWritten_54 ⟨Nat.zero_le _, Nat.zero_le _⟩ ?_
            refine kv_if_ne C 62 dX10_isWritten_57 (by decide) (fun c_37 => ?_) (fun c_37 => ?_)
            · have h := oi_f h c_37
              refine kv_aload_n C 0 dX10_isWritten_62 rfl rfl ?_
              refine kv_aload_n C 0 dX10_isWritten_63 rfl rfl ?_
              refine kv_iconst C 1 dX10_isWritten_64 (by decide) ?_
              obtain ⟨⟨r_38, v_readAt_39⟩, hm_40, h⟩ := ob_e h
              replace h : _ = _ := h
              refine kv_callWi C [.int 1] 0 (c_X10_numberFrom l D h0 q cI v_code v_side v_rights v_passed v_halves v_number v_top v_typedCount v_readAt_34 v_place v_writtenCount v_chosenFrom v_chosenTo v_chosenTurn v_changed v_readSide_12 v_readRights_18 v_readPassed_24 r_28 v_readNumber a_board a_before a_typed a_written a_froms a_tos a_turns a_counts a_changedSquare a_changedMan a_readBoard_6 1 r_38 v_readAt_39 hm_40) (cv_X10_numberFrom C.ts lm_RX10_250 ⟨Nat.le_of_ble_eq_true rfl, Nat.le_of_ble_eq_true rfl⟩) rfl rfl rfl rfl (Nat.le_of_ble_eq_true rfl) dX10_isWritten_65 ⟨Nat.zero_le _, Nat.zero_le _⟩ ?_
              refine kv_put C (Cn := RX10) (T := TX10) (N := 31) (ty := .int) (ws1 := (wM h0 q cI v_code v_side v_rights v_passed v_halves v_number v_top v_typedCount v_readAt_39 v_place v_writtenCount v_chosenFrom v_chosenTo v_chosenTurn v_changed v_readSide_12 v_readRights_18 v_readPassed_24 r_28 r_38 a_board a_before a_typed a_written a_froms a_tos a_turns a_counts a_changedSquare a_changedMan a_readBoard_6)) 0 30 hin10 tyX10 tyX10_ok nmX10 rfl rfl (by decide) (C.ts _ (List.mem_cons_of_mem _ lf_RX10_256)) rfl rfl (by decide +kernel) rfl rfl (Nat.le_of_ble_eq_true rfl) rfl dX10_isWritten_68 ?_
              refine kv_aload_n C 0 dX10_isWritten_71 rfl rfl ?_
              refine kv_get C (Cn := RX10) (T := TX10) (N := 31) 0 30 hin10 rfl rfl (by decide) (C.ts _ (List.mem_cons_of_mem _ lf_RX10_256)) rfl rfl dX10_isWritten_72 ?_
              refine kv_if_le C 93 dX10_isWritten_75 (by decide) (fun c_42 => ?_) (fun c_42 => ?_)
              · have h := oi_t h c_42
                exact kv_lv [] (lv2 := []) rfl (j93 v_readAt_39 v_readSide_12 v_readRights_18 v_readPassed_24 r_28 r_38 a_readBoard_6 h)
              · have h := oi_f h c_42
                refine kv_aload_n C 0 dX10_isWritten_78 rfl rfl ?_
                refine kv_get C (Cn := RX10) (T := TX10) (N := 31) 0 11 hin10 rfl rfl (by decide) (C.ts _ (List.mem_cons_of_mem _ lf_RX10_211)) rfl rfl dX10_isWritten_79 ?_
                refine kv_aload_n C 0 dX10_isWritten_82 rfl rfl ?_
                refine kv_get C (Cn := RX10) (T := TX10) (N := 31) 0 10 hin10 rfl rfl (by decide) (C.ts _ (List.mem_cons_of_mem _ lf_RX10_208)) rfl rfl dX10_isWritten_83 ?_
                refine kv_icmp_ne C 93 dX10_isWritten_86 (by decide) (fun c_43 => ?_) (fun c_43 => ?_)
                · have h := oi_f h c_43
                  exact kv_lv [] (lv2 := []) rfl (j93 v_readAt_39 v_readSide_12 v_readRights_18 v_readPassed_24 r_28 r_38 a_readBoard_6 h)
                · have h := oi_t h c_43
                  refine kv_iconst C 1 dX10_isWritten_89 (by decide) ?_
                  refine kv_goto C 94 dX10_isWritten_90 (by decide) ?_
                  exact kv_lv [] (lv2 := []) rfl (j94 v_readAt_39 v_readSide_12 v_readRights_18 v_readPassed_24 r_28 r_38 a_readBoard_6 1 h)
            · have h := oi_t h c_37
              exact kv_lv [] (lv2 := []) rfl (j60 v_readAt_34 v_readSide_12 v_readRights_18 v_readPassed_24 r_28 v_readNumber a_readBoard_6 h)
        · have h := oi_t h c_27
          exact kv_lv [] (lv2 := []) rfl (j33 v_readAt_23 v_readSide_12 v_readRights_18 v_readPassed_24 v_readHalves v_readNumber a_readBoard_6 h)
