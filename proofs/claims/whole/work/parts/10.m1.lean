/-! X10: X10_thrown, X10_rowOf, X10_columnOf, X10_rankOf, X10_up, X10_isSide, X10_kindOf, X10_size, X10_isOpen, X10_reaches, X10_isAttacked, X10_inCheck -/
abbrev wM (h0 : Nat) (q : Nat → Nat) (cI : ClassId) (v_code : Int32) (v_side : Int32) (v_rights : Int32) (v_passed : Int32) (v_halves : Int32) (v_number : Int32) (v_top : Int32) (v_typedCount : Int32) (v_readAt : Int32) (v_place : Int32) (v_writtenCount : Int32) (v_chosenFrom : Int32) (v_chosenTo : Int32) (v_chosenTurn : Int32) (v_changed : Int32) (v_readSide : Int32) (v_readRights : Int32) (v_readPassed : Int32) (v_readHalves : Int32) (v_readNumber : Int32) (a_board : Nat → Int32) (a_before : Nat → Int32) (a_typed : Nat → Int32) (a_written : Nat → Int32) (a_froms : Nat → Int32) (a_tos : Nat → Int32) (a_turns : Nat → Int32) (a_counts : Nat → Int32) (a_changedSquare : Nat → Int32) (a_changedMan : Nat → Int32) (a_readBoard : Nat → Int32) : va_W := [(h0, .inr (9, [.int v_code, .ref (q 1), .int v_side, .int v_rights, .int v_passed, .int v_halves, .int v_number, .ref (q 7), .int v_top, .ref (q 9), .int v_typedCount, .int v_readAt, .int v_place, .ref (q 13), .int v_writtenCount, .ref (q 15), .ref (q 16), .ref (q 17), .ref (q 18), .int v_chosenFrom, .int v_chosenTo, .int v_chosenTurn, .ref (q 22), .ref (q 23), .int v_changed, .ref (q 25), .int v_readSide, .int v_readRights, .int v_readPassed, .int v_readHalves, .int v_readNumber])), ((q 1), .inl (cI, 64, .inl a_board)), ((q 7), .inl (cI, 71070, .inl a_before)), ((q 9), .inl (cI, 128, .inl a_typed)), ((q 13), .inl (cI, 128, .inl a_written)), ((q 15), .inl (cI, 2560, .inl a_froms)), ((q 16), .inl (cI, 2560, .inl a_tos)), ((q 17), .inl (cI, 2560, .inl a_turns)), ((q 18), .inl (cI, 5, .inl a_counts)), ((q 22), .inl (cI, 4, .inl a_changedSquare)), ((q 23), .inl (cI, 4, .inl a_changedMan)), ((q 25), .inl (cI, 64, .inl a_readBoard))]
def m_X10_thrown (v_code : Int32) : Option (Int32) := some v_code
abbrev rm_X10_thrown : Room := { frames := 0, cells := 0, slots := 0, locals := 0 }
abbrev wy_X10_thrown : List Cond := .code yX10_thrown cX10_thrown 1 (some .int) :: gT
theorem cv_X10_thrown {R : Room} {s : State} {args : Array Value} {own : String} {index : Nat} {w0 : Cond} (hts : ∀ w ∈ w0 :: gT, w.before args s = true) (hl : Cond.methodLink own index yX10_thrown ∈ gT) (hR : 0 + 1 ≤ R.frames ∧ 8 + (1 + 11) + 0 ≤ R.locals) : CallW R s args own RX10 index yX10_thrown cX10_thrown 1 (some .int) wy_X10_thrown rm_X10_thrown 0 0 0 :=
  cwV 0 hts (gT_call w0 (pre := [.methodLink own index yX10_thrown, .instanceMethod yX10_thrown, .selects RX10 yX10_thrown yX10_thrown, .initialized RX10]) (gT_lc hl (gT_lc ly_yX10_thrown (gT_lc lx_yX10_thrown (gT_l1 li_RX10)))) lc_yX10_thrown) rfl rfl rfl (by decide +kernel) hR
set_option maxRecDepth 100000 in
set_option maxHeartbeats 4000000 in
theorem c_X10_thrown (l : Launch) (D : va_G) (h0 : Nat) (q : Nat → Nat) (cI : ClassId) (v_code : Int32) (v_side : Int32) (v_rights : Int32) (v_passed : Int32) (v_halves : Int32) (v_number : Int32) (v_top : Int32) (v_typedCount : Int32) (v_readAt : Int32) (v_place : Int32) (v_writtenCount : Int32) (v_chosenFrom : Int32) (v_chosenTo : Int32) (v_chosenTurn : Int32) (v_changed : Int32) (v_readSide : Int32) (v_readRights : Int32) (v_readPassed : Int32) (v_readHalves : Int32) (v_readNumber : Int32) (a_board : Nat → Int32) (a_before : Nat → Int32) (a_typed : Nat → Int32) (a_written : Nat → Int32) (a_froms : Nat → Int32) (a_tos : Nat → Int32) (a_turns : Nat → Int32) (a_counts : Nat → Int32) (a_changedSquare : Nat → Int32) (a_changedMan : Nat → Int32) (a_readBoard : Nat → Int32) (rv : Int32) (hm : m_X10_thrown v_code = some rv) : kDi l yX10_thrown wy_X10_thrown rm_X10_thrown D [(cI, .int)] rv (wM h0 q cI v_code v_side v_rights v_passed v_halves v_number v_top v_typedCount v_readAt v_place v_writtenCount v_chosenFrom v_chosenTo v_chosenTurn v_changed v_readSide v_readRights v_readPassed v_readHalves v_readNumber a_board a_before a_typed a_written a_froms a_tos a_turns a_counts a_changedSquare a_changedMan a_readBoard) (wM h0 q cI v_code v_side v_rights v_passed v_halves v_number v_top v_typedCount v_readAt v_place v_writtenCount v_chosenFrom v_chosenTo v_chosenTurn v_changed v_readSide v_readRights v_readPassed v_readHalves v_readNumber a_board a_before a_typed a_written a_froms a_tos a_turns a_counts a_changedSquare a_changedMan a_readBoard) [.ref h0] := by
  refine kDi.of cX10_thrown 1 (some .int) (by decide) rfl (Or.inl rfl) (Nat.le_of_ble_eq_true rfl) ?_
  intro p e s m below meth c A Q C hret
  have hin10 : ∀ w ∈ wsX100, w ∈ wy_X10_thrown := fun w h => List.mem_cons_of_mem _ (inG10 w h)
  unfold m_X10_thrown at hm
  have h := hm
  refine kv_lv [0] (lv2 := [(0, .ref h0)]) rfl ?_
  refine kv_aload_n C 0 dX10_thrown_0 rfl rfl ?_
  refine kv_get C (Cn := RX10) (T := TX10) (N := 31) 0 0 hin10 rfl rfl (by decide) (C.ts _ (List.mem_cons_of_mem _ lf_RX10_66)) rfl rfl dX10_thrown_1 ?_
  cases h
  exact hret _ _ dX10_thrown_4 (fun q => by cases q)
def m_X10_rowOf (p0 : Int32) : Option (Int32) := some (p0 / 8)
abbrev rm_X10_rowOf : Room := { frames := 0, cells := 0, slots := 0, locals := 0 }
abbrev wy_X10_rowOf : List Cond := .code yX10_rowOf cX10_rowOf 1 (some .int) :: gT
theorem cs_X10_rowOf {R : Room} {s : State} {args : Array Value} {own : String} {index : Nat} {w0 : Cond} (hts : ∀ w ∈ w0 :: gT, w.before args s = true) (hl : Cond.methodLink own index yX10_rowOf ∈ gT) (hR : 0 + 1 ≤ R.frames ∧ 8 + (1 + 11) + 0 ≤ R.locals) : CallB R s args own index yX10_rowOf cX10_rowOf 1 (some .int) wy_X10_rowOf rm_X10_rowOf 0 0 1 ∧ (Cond.static yX10_rowOf).before args s = true :=
  va_cwS 1 hts (gT_call w0 (pre := [.methodLink own index yX10_rowOf, .static yX10_rowOf, .initialized yX10_rowOf.cls]) (gT_lc hl (gT_lc ls_yX10_rowOf (gT_l1 li_RX10))) lc_yX10_rowOf) rfl rfl rfl (by decide +kernel) hR
set_option maxRecDepth 100000 in
set_option maxHeartbeats 4000000 in
theorem c_X10_rowOf (l : Launch) (D : va_G) (p0 : Int32) (rv : Int32) (hm : m_X10_rowOf p0 = some rv) : kDi l yX10_rowOf wy_X10_rowOf rm_X10_rowOf D [] rv [] [] [.int p0] := by
  refine kDi.of cX10_rowOf 1 (some .int) (by decide) rfl (Or.inl rfl) (Nat.le_of_ble_eq_true rfl) ?_
  intro p e s m below meth c A Q C hret
  unfold m_X10_rowOf at hm
  have h := hm
  refine kv_lv [0] (lv2 := [(0, .int p0)]) rfl ?_
  refine kv_iload_n C 0 dX10_rowOf_0 rfl rfl ?_
  refine kv_bipush C 8 dX10_rowOf_1 (by decide) ?_
  refine kv_idiv C dX10_rowOf_3 (by decide) ?_
  cases h
  exact hret _ _ dX10_rowOf_4 (fun q => by cases q)
def m_X10_columnOf (p0 : Int32) : Option (Int32) := some (p0 - p0 / 8 * 8)
abbrev rm_X10_columnOf : Room := { frames := 0, cells := 0, slots := 0, locals := 0 }
abbrev wy_X10_columnOf : List Cond := .code yX10_columnOf cX10_columnOf 1 (some .int) :: gT
theorem cs_X10_columnOf {R : Room} {s : State} {args : Array Value} {own : String} {index : Nat} {w0 : Cond} (hts : ∀ w ∈ w0 :: gT, w.before args s = true) (hl : Cond.methodLink own index yX10_columnOf ∈ gT) (hR : 0 + 1 ≤ R.frames ∧ 8 + (1 + 11) + 0 ≤ R.locals) : CallB R s args own index yX10_columnOf cX10_columnOf 1 (some .int) wy_X10_columnOf rm_X10_columnOf 0 0 1 ∧ (Cond.static yX10_columnOf).before args s = true :=
  va_cwS 1 hts (gT_call w0 (pre := [.methodLink own index yX10_columnOf, .static yX10_columnOf, .initialized yX10_columnOf.cls]) (gT_lc hl (gT_lc ls_yX10_columnOf (gT_l1 li_RX10))) lc_yX10_columnOf) rfl rfl rfl (by decide +kernel) hR
set_option maxRecDepth 100000 in
set_option maxHeartbeats 4000000 in
theorem c_X10_columnOf (l : Launch) (D : va_G) (p0 : Int32) (rv : Int32) (hm : m_X10_columnOf p0 = some rv) : kDi l yX10_columnOf wy_X10_columnOf rm_X10_columnOf D [] rv [] [] [.int p0] := by
  refine kDi.of cX10_columnOf 1 (some .int) (by decide) rfl (Or.inl rfl) (Nat.le_of_ble_eq_true rfl) ?_
  intro p e s m below meth c A Q C hret
  unfold m_X10_columnOf at hm
  have h := hm
  refine kv_lv [0] (lv2 := [(0, .int p0)]) rfl ?_
  refine kv_iload_n C 0 dX10_columnOf_0 rfl rfl ?_
  refine kv_bipush C 8 dX10_columnOf_1 (by decide) ?_
  refine kv_irem C dX10_columnOf_3 (by decide) ?_
  cases h
  exact hret _ _ dX10_columnOf_4 (fun q => by cases q)
def m_X10_rankOf_b18 (t0 : Int32) : Option (Int32) := some t0
def m_X10_rankOf (p0 : Int32) (p1 : Int32) : Option (Int32) := if p1 = 0 then m_X10_rankOf_b18 (p0 / 8) else m_X10_rankOf_b18 (7 - (p0 / 8))
abbrev rm_X10_rankOf : Room := { frames := 0, cells := 0, slots := 0, locals := 0 }
abbrev wy_X10_rankOf : List Cond := .code yX10_rankOf cX10_rankOf 2 (some .int) :: gT
theorem cs_X10_rankOf {R : Room} {s : State} {args : Array Value} {own : String} {index : Nat} {w0 : Cond} (hts : ∀ w ∈ w0 :: gT, w.before args s = true) (hl : Cond.methodLink own index yX10_rankOf ∈ gT) (hR : 0 + 1 ≤ R.frames ∧ 8 + (2 + 11) + 0 ≤ R.locals) : CallB R s args own index yX10_rankOf cX10_rankOf 2 (some .int) wy_X10_rankOf rm_X10_rankOf 0 0 2 ∧ (Cond.static yX10_rankOf).before args s = true :=
  va_cwS 2 hts (gT_call w0 (pre := [.methodLink own index yX10_rankOf, .static yX10_rankOf, .initialized yX10_rankOf.cls]) (gT_lc hl (gT_lc ls_yX10_rankOf (gT_l1 li_RX10))) lc_yX10_rankOf) rfl rfl rfl (by decide +kernel) hR
set_option maxRecDepth 100000 in
set_option maxHeartbeats 4000000 in
theorem c_X10_rankOf (l : Launch) (D : va_G) (p0 : Int32) (p1 : Int32) (rv : Int32) (hm : m_X10_rankOf p0 p1 = some rv) : kDi l yX10_rankOf wy_X10_rankOf rm_X10_rankOf D [] rv [] [] [.int p0, .int p1] := by
  refine kDi.of cX10_rankOf 2 (some .int) (by decide) rfl (Or.inl rfl) (Nat.le_of_ble_eq_true rfl) ?_
  intro p e s m below meth c A Q C hret
  have j18 : ∀ (t0 : Int32), m_X10_rankOf_b18   t0 = some rv → kv p l e rm_X10_rankOf s m ([.int p0, .int p1] : List Value).toArray below meth c D A 2 0 0 Q [] [] 18 [.int t0] := by
    intro t0 h
    unfold m_X10_rankOf_b18 at h
    cases h
    exact hret _ _ dX10_rankOf_18 (fun q => by cases q)
  unfold m_X10_rankOf at hm
  have h := hm
  refine kv_lv [0, 1] (lv2 := [(0, .int p0), (1, .int p1)]) rfl ?_
  refine kv_iload_n C 1 dX10_rankOf_0 rfl rfl ?_
  refine kv_if_ne C 11 dX10_rankOf_1 (by decide) (fun c_1 => ?_) (fun c_1 => ?_)
  · have h := oi_f h c_1
    refine kv_bipush C 7 dX10_rankOf_11 (by decide) ?_
    refine kv_iload_n C 0 dX10_rankOf_13 rfl rfl ?_
    refine kv_bipush C 8 dX10_rankOf_14 (by decide) ?_
    refine kv_idiv C dX10_rankOf_16 (by decide) ?_
    refine kv_isub C dX10_rankOf_17 ?_
    exact kv_lv [] (lv2 := []) rfl (j18 (7 - (p0 / 8)) h)
  · have h := oi_t h c_1
    refine kv_iload_n C 0 dX10_rankOf_4 rfl rfl ?_
    refine kv_bipush C 8 dX10_rankOf_5 (by decide) ?_
    refine kv_idiv C dX10_rankOf_7 (by decide) ?_
    refine kv_goto C 18 dX10_rankOf_8 (by decide) ?_
    exact kv_lv [] (lv2 := []) rfl (j18 (p0 / 8) h)
def m_X10_up_b11 (t0 : Int32) : Option (Int32) := some t0
def m_X10_up (p0 : Int32) : Option (Int32) := if p0 = 0 then m_X10_up_b11 8 else m_X10_up_b11 (-8)
abbrev rm_X10_up : Room := { frames := 0, cells := 0, slots := 0, locals := 0 }
abbrev wy_X10_up : List Cond := .code yX10_up cX10_up 1 (some .int) :: gT
theorem cs_X10_up {R : Room} {s : State} {args : Array Value} {own : String} {index : Nat} {w0 : Cond} (hts : ∀ w ∈ w0 :: gT, w.before args s = true) (hl : Cond.methodLink own index yX10_up ∈ gT) (hR : 0 + 1 ≤ R.frames ∧ 8 + (1 + 11) + 0 ≤ R.locals) : CallB R s args own index yX10_up cX10_up 1 (some .int) wy_X10_up rm_X10_up 0 0 1 ∧ (Cond.static yX10_up).before args s = true :=
  va_cwS 1 hts (gT_call w0 (pre := [.methodLink own index yX10_up, .static yX10_up, .initialized yX10_up.cls]) (gT_lc hl (gT_lc ls_yX10_up (gT_l1 li_RX10))) lc_yX10_up) rfl rfl rfl (by decide +kernel) hR
set_option maxRecDepth 100000 in
set_option maxHeartbeats 4000000 in
theorem c_X10_up (l : Launch) (D : va_G) (p0 : Int32) (rv : Int32) (hm : m_X10_up p0 = some rv) : kDi l yX10_up wy_X10_up rm_X10_up D [] rv [] [] [.int p0] := by
  refine kDi.of cX10_up 1 (some .int) (by decide) rfl (Or.inl rfl) (Nat.le_of_ble_eq_true rfl) ?_
  intro p e s m below meth c A Q C hret
  have j11 : ∀ (t0 : Int32), m_X10_up_b11   t0 = some rv → kv p l e rm_X10_up s m ([.int p0] : List Value).toArray below meth c D A 1 0 0 Q [] [] 11 [.int t0] := by
    intro t0 h
    unfold m_X10_up_b11 at h
    cases h
    exact hret _ _ dX10_up_11 (fun q => by cases q)
  unfold m_X10_up at hm
  have h := hm
  refine kv_lv [0] (lv2 := [(0, .int p0)]) rfl ?_
  refine kv_iload_n C 0 dX10_up_0 rfl rfl ?_
  refine kv_if_ne C 9 dX10_up_1 (by decide) (fun c_1 => ?_) (fun c_1 => ?_)
  · have h := oi_f h c_1
    refine kv_bipush C (-8) dX10_up_9 (by decide) ?_
    exact kv_lv [] (lv2 := []) rfl (j11 (-8) h)
  · have h := oi_t h c_1
    refine kv_bipush C 8 dX10_up_4 (by decide) ?_
    refine kv_goto C 11 dX10_up_6 (by decide) ?_
    exact kv_lv [] (lv2 := []) rfl (j11 8 h)
def m_X10_isSide_b25 (t0 : Int32) : Option (Int32) := obl (t0) (some t0)
def m_X10_isSide (p0 : Int32) (p1 : Int32) : Option (Int32) := if p1 = 0 then if p0 ≤ 0 then m_X10_isSide_b25 0 else m_X10_isSide_b25 1 else if 0 ≤ p0 then m_X10_isSide_b25 0 else m_X10_isSide_b25 1
abbrev rm_X10_isSide : Room := { frames := 0, cells := 0, slots := 0, locals := 0 }
abbrev wy_X10_isSide : List Cond := .code yX10_isSide cX10_isSide 2 (some .boolean) :: gT
theorem cs_X10_isSide {R : Room} {s : State} {args : Array Value} {own : String} {index : Nat} {w0 : Cond} (hts : ∀ w ∈ w0 :: gT, w.before args s = true) (hl : Cond.methodLink own index yX10_isSide ∈ gT) (hR : 0 + 1 ≤ R.frames ∧ 8 + (2 + 11) + 0 ≤ R.locals) : CallB R s args own index yX10_isSide cX10_isSide 2 (some .boolean) wy_X10_isSide rm_X10_isSide 0 0 2 ∧ (Cond.static yX10_isSide).before args s = true :=
  va_cwS 2 hts (gT_call w0 (pre := [.methodLink own index yX10_isSide, .static yX10_isSide, .initialized yX10_isSide.cls]) (gT_lc hl (gT_lc ls_yX10_isSide (gT_l1 li_RX10))) lc_yX10_isSide) rfl rfl rfl (by decide +kernel) hR
set_option maxRecDepth 100000 in
set_option maxHeartbeats 4000000 in
theorem c_X10_isSide (l : Launch) (D : va_G) (p0 : Int32) (p1 : Int32) (rv : Int32) (hm : m_X10_isSide p0 p1 = some rv) : kDi l yX10_isSide wy_X10_isSide rm_X10_isSide D [] rv [] [] [.int p0, .int p1] := by
  refine kDi.of cX10_isSide 2 (some .boolean) (by decide) rfl (Or.inr rfl) (Nat.le_of_ble_eq_true rfl) ?_
  intro p e s m below meth c A Q C hret
  have j25 : ∀ (t0 : Int32), m_X10_isSide_b25   t0 = some rv → kv p l e rm_X10_isSide s m ([.int p0, .int p1] : List Value).toArray below meth c D A 2 0 0 Q [] [] 25 [.int t0] := by
    intro t0 h
    unfold m_X10_isSide_b25 at h
    obtain ⟨g_1, h⟩ := obl_e h
    cases h
    exact hret _ _ dX10_isSide_25 (fun _ => g_1)
  unfold m_X10_isSide at hm
  have h := hm
  refine kv_lv [0, 1] (lv2 := [(0, .int p0), (1, .int p1)]) rfl ?_
  refine kv_iload_n C 1 dX10_isSide_0 rfl rfl ?_
  refine kv_if_ne C 16 dX10_isSide_1 (by decide) (fun c_2 => ?_) (fun c_2 => ?_)
  · have h := oi_f h c_2
    refine kv_iload_n C 0 dX10_isSide_16 rfl rfl ?_
    refine kv_if_ge C 24 dX10_isSide_17 (by decide) (fun c_3 => ?_) (fun c_3 => ?_)
    · have h := oi_t h c_3
      refine kv_iconst C 0 dX10_isSide_24 (by decide) ?_
      exact kv_lv [] (lv2 := []) rfl (j25 0 h)
    · have h := oi_f h c_3
      refine kv_iconst C 1 dX10_isSide_20 (by decide) ?_
      refine kv_goto C 25 dX10_isSide_21 (by decide) ?_
      exact kv_lv [] (lv2 := []) rfl (j25 1 h)
  · have h := oi_t h c_2
    refine kv_iload_n C 0 dX10_isSide_4 rfl rfl ?_
    refine kv_if_le C 12 dX10_isSide_5 (by decide) (fun c_4 => ?_) (fun c_4 => ?_)
    · have h := oi_t h c_4
      refine kv_iconst C 0 dX10_isSide_12 (by decide) ?_
      refine kv_goto C 25 dX10_isSide_13 (by decide) ?_
      exact kv_lv [] (lv2 := []) rfl (j25 0 h)
    · have h := oi_f h c_4
      refine kv_iconst C 1 dX10_isSide_8 (by decide) ?_
      refine kv_goto C 25 dX10_isSide_9 (by decide) ?_
      exact kv_lv [] (lv2 := []) rfl (j25 1 h)
def m_X10_kindOf_b10 (t0 : Int32) : Option (Int32) := some t0
def m_X10_kindOf (p0 : Int32) : Option (Int32) := if 0 ≤ p0 then m_X10_kindOf_b10 p0 else m_X10_kindOf_b10 (-p0)
abbrev rm_X10_kindOf : Room := { frames := 0, cells := 0, slots := 0, locals := 0 }
abbrev wy_X10_kindOf : List Cond := .code yX10_kindOf cX10_kindOf 1 (some .int) :: gT
theorem cs_X10_kindOf {R : Room} {s : State} {args : Array Value} {own : String} {index : Nat} {w0 : Cond} (hts : ∀ w ∈ w0 :: gT, w.before args s = true) (hl : Cond.methodLink own index yX10_kindOf ∈ gT) (hR : 0 + 1 ≤ R.frames ∧ 8 + (1 + 11) + 0 ≤ R.locals) : CallB R s args own index yX10_kindOf cX10_kindOf 1 (some .int) wy_X10_kindOf rm_X10_kindOf 0 0 1 ∧ (Cond.static yX10_kindOf).before args s = true :=
  va_cwS 1 hts (gT_call w0 (pre := [.methodLink own index yX10_kindOf, .static yX10_kindOf, .initialized yX10_kindOf.cls]) (gT_lc hl (gT_lc ls_yX10_kindOf (gT_l1 li_RX10))) lc_yX10_kindOf) rfl rfl rfl (by decide +kernel) hR
set_option maxRecDepth 100000 in
set_option maxHeartbeats 4000000 in
theorem c_X10_kindOf (l : Launch) (D : va_G) (p0 : Int32) (rv : Int32) (hm : m_X10_kindOf p0 = some rv) : kDi l yX10_kindOf wy_X10_kindOf rm_X10_kindOf D [] rv [] [] [.int p0] := by
  refine kDi.of cX10_kindOf 1 (some .int) (by decide) rfl (Or.inl rfl) (Nat.le_of_ble_eq_true rfl) ?_
  intro p e s m below meth c A Q C hret
  have j10 : ∀ (t0 : Int32), m_X10_kindOf_b10   t0 = some rv → kv p l e rm_X10_kindOf s m ([.int p0] : List Value).toArray below meth c D A 1 0 0 Q [] [] 10 [.int t0] := by
    intro t0 h
    unfold m_X10_kindOf_b10 at h
    cases h
    exact hret _ _ dX10_kindOf_10 (fun q => by cases q)
  unfold m_X10_kindOf at hm
  have h := hm
  refine kv_lv [0] (lv2 := [(0, .int p0)]) rfl ?_
  refine kv_iload_n C 0 dX10_kindOf_0 rfl rfl ?_
  refine kv_if_ge C 9 dX10_kindOf_1 (by decide) (fun c_1 => ?_) (fun c_1 => ?_)
  · have h := oi_t h c_1
    refine kv_iload_n C 0 dX10_kindOf_9 rfl rfl ?_
    exact kv_lv [] (lv2 := []) rfl (j10 p0 h)
  · have h := oi_f h c_1
    refine kv_iload_n C 0 dX10_kindOf_4 rfl rfl ?_
    refine kv_ineg C dX10_kindOf_5 ?_
    refine kv_goto C 10 dX10_kindOf_6 (by decide) ?_
    exact kv_lv [] (lv2 := []) rfl (j10 (-p0) h)
def m_X10_size_b10 (t0 : Int32) : Option (Int32) := some t0
def m_X10_size (p0 : Int32) : Option (Int32) := if 0 ≤ p0 then m_X10_size_b10 p0 else m_X10_size_b10 (-p0)
abbrev rm_X10_size : Room := { frames := 0, cells := 0, slots := 0, locals := 0 }
abbrev wy_X10_size : List Cond := .code yX10_size cX10_size 1 (some .int) :: gT
theorem cs_X10_size {R : Room} {s : State} {args : Array Value} {own : String} {index : Nat} {w0 : Cond} (hts : ∀ w ∈ w0 :: gT, w.before args s = true) (hl : Cond.methodLink own index yX10_size ∈ gT) (hR : 0 + 1 ≤ R.frames ∧ 8 + (1 + 11) + 0 ≤ R.locals) : CallB R s args own index yX10_size cX10_size 1 (some .int) wy_X10_size rm_X10_size 0 0 1 ∧ (Cond.static yX10_size).before args s = true :=
  va_cwS 1 hts (gT_call w0 (pre := [.methodLink own index yX10_size, .static yX10_size, .initialized yX10_size.cls]) (gT_lc hl (gT_lc ls_yX10_size (gT_l1 li_RX10))) lc_yX10_size) rfl rfl rfl (by decide +kernel) hR
set_option maxRecDepth 100000 in
set_option maxHeartbeats 4000000 in
theorem c_X10_size (l : Launch) (D : va_G) (p0 : Int32) (rv : Int32) (hm : m_X10_size p0 = some rv) : kDi l yX10_size wy_X10_size rm_X10_size D [] rv [] [] [.int p0] := by
  refine kDi.of cX10_size 1 (some .int) (by decide) rfl (Or.inl rfl) (Nat.le_of_ble_eq_true rfl) ?_
  intro p e s m below meth c A Q C hret
  have j10 : ∀ (t0 : Int32), m_X10_size_b10   t0 = some rv → kv p l e rm_X10_size s m ([.int p0] : List Value).toArray below meth c D A 1 0 0 Q [] [] 10 [.int t0] := by
    intro t0 h
    unfold m_X10_size_b10 at h
    cases h
    exact hret _ _ dX10_size_10 (fun q => by cases q)
  unfold m_X10_size at hm
  have h := hm
  refine kv_lv [0] (lv2 := [(0, .int p0)]) rfl ?_
  refine kv_iload_n C 0 dX10_size_0 rfl rfl ?_
  refine kv_if_ge C 9 dX10_size_1 (by decide) (fun c_1 => ?_) (fun c_1 => ?_)
  · have h := oi_t h c_1
    refine kv_iload_n C 0 dX10_size_9 rfl rfl ?_
    exact kv_lv [] (lv2 := []) rfl (j10 p0 h)
  · have h := oi_f h c_1
    refine kv_iload_n C 0 dX10_size_4 rfl rfl ?_
    refine kv_ineg C dX10_size_5 ?_
    refine kv_goto C 10 dX10_size_6 (by decide) ?_
    exact kv_lv [] (lv2 := []) rfl (j10 (-p0) h)
def m_X10_isOpen_b99 (k53 : Int32 → Int32 → Int32 → Int32 → Int32 → Int32 → Option (Int32)) (a_board : Nat → Int32) (x1 : Int32) (x3 : Int32) (x4 : Int32) (x5 : Int32) (x7 : Int32) (t0 : Int32) : Option (Int32) := ol (x7 + 1) fun x7_1 => k53 x1 x3 x4 x5 t0 x7_1
def m_X10_isOpen_b98 (k53 : Int32 → Int32 → Int32 → Int32 → Int32 → Int32 → Option (Int32)) (a_board : Nat → Int32) (x1 : Int32) (x3 : Int32) (x4 : Int32) (x5 : Int32) (x7 : Int32) : Option (Int32) := m_X10_isOpen_b99 k53 a_board x1 x3 x4 x5 x7 0
def m_X10_isOpen_b53 (k53 : Int32 → Int32 → Int32 → Int32 → Int32 → Int32 → Option (Int32)) (a_board : Nat → Int32) (x1 : Int32) (x3 : Int32) (x4 : Int32) (x5 : Int32) (x6 : Int32) (x7 : Int32) : Option (Int32) := if x5 ≤ x7 then obl (x6) (some x6) else if x6 = 0 then m_X10_isOpen_b98 k53 a_board x1 x3 x4 x5 x7 else odz (x5) (odz (x5) (oin ((x1 + ((8 * (x3 / x5)) * x7)) + ((x4 / x5) * x7)) 64 (if (a_board ((x1 + ((8 * (x3 / x5)) * x7)) + ((x4 / x5) * x7)).toNatClampNeg) = 0 then m_X10_isOpen_b99 k53 a_board x1 x3 x4 x5 x7 1 else m_X10_isOpen_b98 k53 a_board x1 x3 x4 x5 x7)))
def m_X10_isOpen_l53 (a_board : Nat → Int32) (n : Nat) : Int32 → Int32 → Int32 → Int32 → Int32 → Int32 → Option (Int32) := fz (fun _ _ _ _ _ _ => none) (fun k53 x1 x3 x4 x5 x6 x7 => m_X10_isOpen_b53 k53 a_board x1 x3 x4 x5 x6 x7) n
def m_X10_isOpen_b45 (a_board : Nat → Int32) (x1 : Int32) (x3 : Int32) (x4 : Int32) (t0 : Int32) : Option (Int32) := m_X10_isOpen_l53 a_board kF x1 x3 x4 t0 1 1
def m_X10_isOpen (a_board : Nat → Int32) (p0 : Int32) (p1 : Int32) : Option (Int32) := ob (m_X10_rowOf p1) fun r_9 => ob (m_X10_rowOf p0) fun r_11 => ol (r_9 - r_11) fun x3_13 => ob (m_X10_columnOf p1) fun r_14 => ob (m_X10_columnOf p0) fun r_16 => ol (r_14 - r_16) fun x4_18 => ob (m_X10_size x3_13) fun r_19 => ob (m_X10_size x4_18) fun r_21 => if r_19 ≤ r_21 then ob (m_X10_size x4_18) fun r_24 => m_X10_isOpen_b45 a_board p0 x3_13 x4_18 r_24 else ob (m_X10_size x3_13) fun r_26 => m_X10_isOpen_b45 a_board p0 x3_13 x4_18 r_26
abbrev rm_X10_isOpen : Room := { frames := 1, cells := 0, slots := 0, locals := 20 }
abbrev wy_X10_isOpen : List Cond := .code yX10_isOpen cX10_isOpen 8 (some .boolean) :: gT
theorem cv_X10_isOpen {R : Room} {s : State} {args : Array Value} {own : String} {index : Nat} {w0 : Cond} (hts : ∀ w ∈ w0 :: gT, w.before args s = true) (hl : Cond.methodLink own index yX10_isOpen ∈ gT) (hR : 1 + 1 ≤ R.frames ∧ 8 + (8 + 11) + 20 ≤ R.locals) : CallW R s args own RX10 index yX10_isOpen cX10_isOpen 8 (some .boolean) wy_X10_isOpen rm_X10_isOpen 0 0 2 :=
  cwV 2 hts (gT_call w0 (pre := [.methodLink own index yX10_isOpen, .instanceMethod yX10_isOpen, .selects RX10 yX10_isOpen yX10_isOpen, .initialized RX10]) (gT_lc hl (gT_lc ly_yX10_isOpen (gT_lc lx_yX10_isOpen (gT_l1 li_RX10)))) lc_yX10_isOpen) rfl rfl rfl (by decide +kernel) hR
set_option maxRecDepth 100000 in
set_option maxHeartbeats 4000000 in
theorem c_X10_isOpen (l : Launch) (D : va_G) (h0 : Nat) (q : Nat → Nat) (cI : ClassId) (v_code : Int32) (v_side : Int32) (v_rights : Int32) (v_passed : Int32) (v_halves : Int32) (v_number : Int32) (v_top : Int32) (v_typedCount : Int32) (v_readAt : Int32) (v_place : Int32) (v_writtenCount : Int32) (v_chosenFrom : Int32) (v_chosenTo : Int32) (v_chosenTurn : Int32) (v_changed : Int32) (v_readSide : Int32) (v_readRights : Int32) (v_readPassed : Int32) (v_readHalves : Int32) (v_readNumber : Int32) (a_board : Nat → Int32) (a_before : Nat → Int32) (a_typed : Nat → Int32) (a_written : Nat → Int32) (a_froms : Nat → Int32) (a_tos : Nat → Int32) (a_turns : Nat → Int32) (a_counts : Nat → Int32) (a_changedSquare : Nat → Int32) (a_changedMan : Nat → Int32) (a_readBoard : Nat → Int32) (p0 : Int32) (p1 : Int32) (rv : Int32) (hm : m_X10_isOpen a_board p0 p1 = some rv) : kDi l yX10_isOpen wy_X10_isOpen rm_X10_isOpen D [(cI, .int)] rv (wM h0 q cI v_code v_side v_rights v_passed v_halves v_number v_top v_typedCount v_readAt v_place v_writtenCount v_chosenFrom v_chosenTo v_chosenTurn v_changed v_readSide v_readRights v_readPassed v_readHalves v_readNumber a_board a_before a_typed a_written a_froms a_tos a_turns a_counts a_changedSquare a_changedMan a_readBoard) (wM h0 q cI v_code v_side v_rights v_passed v_halves v_number v_top v_typedCount v_readAt v_place v_writtenCount v_chosenFrom v_chosenTo v_chosenTurn v_changed v_readSide v_readRights v_readPassed v_readHalves v_readNumber a_board a_before a_typed a_written a_froms a_tos a_turns a_counts a_changedSquare a_changedMan a_readBoard) [.ref h0, .int p0, .int p1] := by
  refine kDi.of cX10_isOpen 8 (some .boolean) (by decide) rfl (Or.inr rfl) (Nat.le_of_ble_eq_true rfl) ?_
  intro p e s m below meth c A Q C hret
  have hin10 : ∀ w ∈ wsX100, w ∈ wy_X10_isOpen := fun w h => List.mem_cons_of_mem _ (inG10 w h)
  have l53 : ∀ (n53 : Nat) (x1 : Int32) (x3 : Int32) (x4 : Int32) (x5 : Int32) (x6 : Int32) (x7 : Int32), m_X10_isOpen_l53  a_board n53 x1 x3 x4 x5 x6 x7 = some rv → kv p l e rm_X10_isOpen s m ([.ref h0, .int p0, .int p1] : List Value).toArray below meth c D A 8 0 0 Q (wM h0 q cI v_code v_side v_rights v_passed v_halves v_number v_top v_typedCount v_readAt v_place v_writtenCount v_chosenFrom v_chosenTo v_chosenTurn v_changed v_readSide v_readRights v_readPassed v_readHalves v_readNumber a_board a_before a_typed a_written a_froms a_tos a_turns a_counts a_changedSquare a_changedMan a_readBoard) [(0, .ref h0), (1, .int x1), (3, .int x3), (4, .int x4), (5, .int x5), (6, .int x6), (7, .int x7)] 53 [] := by
    intro n53
    induction n53 with
    | zero =>
      intro x1 x3 x4 x5 x6 x7 h
      exact kv_no h
    | succ n53 ih53 =>
      have j99 : ∀ (x1 : Int32) (x3 : Int32) (x4 : Int32) (x5 : Int32) (x7 : Int32) (t0 : Int32), m_X10_isOpen_b99 (m_X10_isOpen_l53  a_board n53) a_board x1 x3 x4 x5 x7 t0 = some rv → kv p l e rm_X10_isOpen s m ([.ref h0, .int p0, .int p1] : List Value).toArray below meth c D A 8 0 0 Q (wM h0 q cI v_code v_side v_rights v_passed v_halves v_number v_top v_typedCount v_readAt v_place v_writtenCount v_chosenFrom v_chosenTo v_chosenTurn v_changed v_readSide v_readRights v_readPassed v_readHalves v_readNumber a_board a_before a_typed a_written a_froms a_tos a_turns a_counts a_changedSquare a_changedMan a_readBoard) [(0, .ref h0), (1, .int x1), (3, .int x3), (4, .int x4), (5, .int x5), (7, .int x7)] 99 [.int t0] := by
        intro x1 x3 x4 x5 x7 t0 h
        unfold m_X10_isOpen_b99 at h
        refine kv_istore C (lv2 := [(0, .ref h0), (1, .int x1), (3, .int x3), (4, .int x4), (5, .int x5), (6, .int t0), (7, .int x7)]) [1, 2, 3, 4, 5, 0, 6] dX10_isOpen_99 (by decide) rfl rfl ?_
        obtain ⟨x7_1, ex7_1, h⟩ := ol_e h
        refine kv_iinc C (v := x7_1) (lv2 := [(0, .ref h0), (1, .int x1), (3, .int x3), (4, .int x4), (5, .int x5), (6, .int t0), (7, .int x7_1)]) 6 [1, 2, 3, 4, 5, 6, 0] dX10_isOpen_101 rfl ex7_1.symm (by decide) rfl rfl ?_
        refine kv_goto C 53 dX10_isOpen_104 (by decide) ?_
        exact kv_lv [0, 1, 2, 3, 4, 5, 6] (lv2 := [(0, .ref h0), (1, .int x1), (3, .int x3), (4, .int x4), (5, .int x5), (6, .int t0), (7, .int x7_1)]) rfl (ih53 x1 x3 x4 x5 t0 x7_1 h)
      have j98 : ∀ (x1 : Int32) (x3 : Int32) (x4 : Int32) (x5 : Int32) (x7 : Int32), m_X10_isOpen_b98 (m_X10_isOpen_l53  a_board n53) a_board x1 x3 x4 x5 x7 = some rv → kv p l e rm_X10_isOpen s m ([.ref h0, .int p0, .int p1] : List Value).toArray below meth c D A 8 0 0 Q (wM h0 q cI v_code v_side v_rights v_passed v_halves v_number v_top v_typedCount v_readAt v_place v_writtenCount v_chosenFrom v_chosenTo v_chosenTurn v_changed v_readSide v_readRights v_readPassed v_readHalves v_readNumber a_board a_before a_typed a_written a_froms a_tos a_turns a_counts a_changedSquare a_changedMan a_readBoard) [(0, .ref h0), (1, .int x1), (3, .int x3), (4, .int x4), (5, .int x5), (7, .int x7)] 98 [] := by
        intro x1 x3 x4 x5 x7 h
        unfold m_X10_isOpen_b98 at h
        refine kv_iconst C 0 dX10_isOpen_98 (by decide) ?_
        exact kv_lv [0, 1, 2, 3, 4, 5] (lv2 := [(0, .ref h0), (1, .int x1), (3, .int x3), (4, .int x4), (5, .int x5), (7, .int x7)]) rfl (j99 x1 x3 x4 x5 x7 0 h)
      intro x1 x3 x4 x5 x6 x7 h
      replace h : m_X10_isOpen_b53  (m_X10_isOpen_l53  a_board n53) a_board x1 x3 x4 x5 x6 x7 = some rv := h
      unfold m_X10_isOpen_b53 at h
      refine kv_iload C 6 dX10_isOpen_53 rfl ?_
      refine kv_iload C 4 dX10_isOpen_55 rfl ?_
      refine kv_icmp_ge C 107 dX10_isOpen_57 (by decide) (fun c_2 => ?_) (fun c_2 => ?_)
      · have h := oi_t h c_2
        refine kv_iload C 5 dX10_isOpen_107 rfl ?_
        obtain ⟨g_3, h⟩ := obl_e h
        cases h
        exact hret _ _ dX10_isOpen_109 (fun _ => g_3)
      · have h := oi_f h c_2
        refine kv_iload C 5 dX10_isOpen_60 rfl ?_
        refine kv_if_eq C 98 dX10_isOpen_62 (by decide) (fun c_4 => ?_) (fun c_4 => ?_)
        · have h := oi_t h c_4
          exact kv_lv [0, 1, 2, 3, 4, 6] (lv2 := [(0, .ref h0), (1, .int x1), (3, .int x3), (4, .int x4), (5, .int x5), (7, .int x7)]) rfl (j98 x1 x3 x4 x5 x7 h)
        · have h := oi_f h c_4
          refine kv_aload_n C 0 dX10_isOpen_65 rfl rfl ?_
          refine kv_get C (Cn := RX10) (T := TX10) (N := 31) 0 1 hin10 rfl rfl (by decide) (C.ts _ (List.mem_cons_of_mem _ lf_RX10_7)) rfl rfl dX10_isOpen_66 ?_
          refine kv_iload_n C 1 dX10_isOpen_69 rfl rfl ?_
          refine kv_bipush C 8 dX10_isOpen_70 (by decide) ?_
          refine kv_iload_n C 2 dX10_isOpen_72 rfl rfl ?_
          refine kv_iload C 4 dX10_isOpen_73 rfl ?_
          obtain ⟨g_5, h⟩ := odz_e h
          refine kv_idiv C dX10_isOpen_75 g_5 ?_
          refine kv_imul C dX10_isOpen_76 ?_
          refine kv_iload C 6 dX10_isOpen_77 rfl ?_
          refine kv_imul C dX10_isOpen_79 ?_
          refine kv_iadd C dX10_isOpen_80 ?_
          refine kv_iload C 3 dX10_isOpen_81 rfl ?_
          refine kv_iload C 4 dX10_isOpen_83 rfl ?_
          obtain ⟨g_6, h⟩ := odz_e h
          refine kv_idiv C dX10_isOpen_85 g_6 ?_
          refine kv_iload C 6 dX10_isOpen_86 rfl ?_
          refine kv_imul C dX10_isOpen_88 ?_
          refine kv_iadd C dX10_isOpen_89 ?_
          obtain ⟨g_7, h⟩ := oin_e h
          refine kv_iald C 1 0 rfl rfl g_7 dX10_isOpen_90 ?_
          refine kv_if_ne C 98 dX10_isOpen_91 (by decide) (fun c_8 => ?_) (fun c_8 => ?_)
          · have h := oi_f h c_8
            exact kv_lv [0, 1, 2, 3, 4, 6] (lv2 := [(0, .ref h0), (1, .int x1), (3, .int x3), (4, .int x4), (5, .int x5), (7, .int x7)]) rfl (j98 x1 x3 x4 x5 x7 h)
          · have h := oi_t h c_8
            refine kv_iconst C 1 dX10_isOpen_94 (by decide) ?_
            refine kv_goto C 99 dX10_isOpen_95 (by decide) ?_
            exact kv_lv [0, 1, 2, 3, 4, 6] (lv2 := [(0, .ref h0), (1, .int x1), (3, .int x3), (4, .int x4), (5, .int x5), (7, .int x7)]) rfl (j99 x1 x3 x4 x5 x7 1 h)
  have j45 : ∀ (x1 : Int32) (x3 : Int32) (x4 : Int32) (t0 : Int32), m_X10_isOpen_b45  a_board x1 x3 x4 t0 = some rv → kv p l e rm_X10_isOpen s m ([.ref h0, .int p0, .int p1] : List Value).toArray below meth c D A 8 0 0 Q (wM h0 q cI v_code v_side v_rights v_passed v_halves v_number v_top v_typedCount v_readAt v_place v_writtenCount v_chosenFrom v_chosenTo v_chosenTurn v_changed v_readSide v_readRights v_readPassed v_readHalves v_readNumber a_board a_before a_typed a_written a_froms a_tos a_turns a_counts a_changedSquare a_changedMan a_readBoard) [(0, .ref h0), (1, .int x1), (3, .int x3), (4, .int x4)] 45 [.int t0] := by
    intro x1 x3 x4 t0 h
    unfold m_X10_isOpen_b45 at h
    refine kv_istore C (lv2 := [(0, .ref h0), (1, .int x1), (3, .int x3), (4, .int x4), (5, .int t0)]) [1, 2, 3, 4, 0] dX10_isOpen_45 (by decide) rfl rfl ?_
    refine kv_iconst C 1 dX10_isOpen_47 (by decide) ?_
    refine kv_istore C (lv2 := [(0, .ref h0), (1, .int x1), (3, .int x3), (4, .int x4), (5, .int t0), (6, .int 1)]) [1, 2, 3, 4, 5, 0] dX10_isOpen_48 (by decide) rfl rfl ?_
    refine kv_iconst C 1 dX10_isOpen_50 (by decide) ?_
    refine kv_istore C (lv2 := [(0, .ref h0), (1, .int x1), (3, .int x3), (4, .int x4), (5, .int t0), (6, .int 1), (7, .int 1)]) [1, 2, 3, 4, 5, 6, 0] dX10_isOpen_51 (by decide) rfl rfl ?_
    exact kv_lv [0, 1, 2, 3, 4, 5, 6] (lv2 := [(0, .ref h0), (1, .int x1), (3, .int x3), (4, .int x4), (5, .int t0), (6, .int 1), (7, .int 1)]) rfl (l53 kF x1 x3 x4 t0 1 1 h)
  unfold m_X10_isOpen at hm
  have h := hm
  refine kv_lv [0, 1, 2] (lv2 := [(0, .ref h0), (1, .int p0), (2, .int p1)]) rfl ?_
  refine kv_iload_n C 2 dX10_isOpen_0 rfl rfl ?_
  obtain ⟨r_9, hm_10, h⟩ := ob_e h
  refine kv_callS0i C [.int p1] (c_X10_rowOf l D p1 r_9 hm_10) (cs_X10_rowOf C.ts lm_RX10_69 ⟨Nat.le_of_ble_eq_true rfl, Nat.le_of_ble_eq_true rfl⟩) rfl rfl (Nat.le_of_ble_eq_true rfl) dX10_isOpen_1 ⟨Nat.zero_le _, Nat.zero_le _⟩ ?_
  refine kv_iload_n C 1 dX10_isOpen_4 rfl rfl ?_
  obtain ⟨r_11, hm_12, h⟩ := ob_e h
  refine kv_callS0i C [.int p0] (c_X10_rowOf l D p0 r_11 hm_12) (cs_X10_rowOf C.ts lm_RX10_69 ⟨Nat.le_of_ble_eq_true rfl, Nat.le_of_ble_eq_true rfl⟩) rfl rfl (Nat.le_of_ble_eq_true rfl) dX10_isOpen_5 ⟨Nat.zero_le _, Nat.zero_le _⟩ ?_
  refine kv_isub C dX10_isOpen_8 ?_
  obtain ⟨x3_13, ex3_13, h⟩ := ol_e h
  refine kv_top ex3_13 ?_
  refine kv_istore_n C (lv2 := [(0, .ref h0), (1, .int p0), (2, .int p1), (3, .int x3_13)]) [1, 2, 3, 0] dX10_isOpen_9 rfl (by decide) rfl rfl ?_
  refine kv_iload_n C 2 dX10_isOpen_10 rfl rfl ?_
  obtain ⟨r_14, hm_15, h⟩ := ob_e h
  refine kv_callS0i C [.int p1] (c_X10_columnOf l D p1 r_14 hm_15) (cs_X10_columnOf C.ts lm_RX10_73 ⟨Nat.le_of_ble_eq_true rfl, Nat.le_of_ble_eq_true rfl⟩) rfl rfl (Nat.le_of_ble_eq_true rfl) dX10_isOpen_11 ⟨Nat.zero_le _, Nat.zero_le _⟩ ?_
  refine kv_iload_n C 1 dX10_isOpen_14 rfl rfl ?_
  obtain ⟨r_16, hm_17, h⟩ := ob_e h
  refine kv_callS0i C [.int p0] (c_X10_columnOf l D p0 r_16 hm_17) (cs_X10_columnOf C.ts lm_RX10_73 ⟨Nat.le_of_ble_eq_true rfl, Nat.le_of_ble_eq_true rfl⟩) rfl rfl (Nat.le_of_ble_eq_true rfl) dX10_isOpen_15 ⟨Nat.zero_le _, Nat.zero_le _⟩ ?_
  refine kv_isub C dX10_isOpen_18 ?_
  obtain ⟨x4_18, ex4_18, h⟩ := ol_e h
  refine kv_top ex4_18 ?_
  refine kv_istore C (lv2 := [(0, .ref h0), (1, .int p0), (3, .int x3_13), (4, .int x4_18)]) [1, 2, 4, 0] dX10_isOpen_19 (by decide) rfl rfl ?_
  refine kv_iload_n C 2 dX10_isOpen_21 rfl rfl ?_
  obtain ⟨r_19, hm_20, h⟩ := ob_e h
  refine kv_callS0i C [.int x3_13] (c_X10_size l D x3_13 r_19 hm_20) (cs_X10_size C.ts lm_RX10_76 ⟨Nat.le_of_ble_eq_true rfl, Nat.le_of_ble_eq_true rfl⟩) rfl rfl (Nat.le_of_ble_eq_true rfl) dX10_isOpen_22 ⟨Nat.zero_le _, Nat.zero_le _⟩ ?_
  refine kv_iload C 3 dX10_isOpen_25 rfl ?_
  obtain ⟨r_21, hm_22, h⟩ := ob_e h
  refine kv_callS0i C [.int x4_18] (c_X10_size l D x4_18 r_21 hm_22) (cs_X10_size C.ts lm_RX10_76 ⟨Nat.le_of_ble_eq_true rfl, Nat.le_of_ble_eq_true rfl⟩) rfl rfl (Nat.le_of_ble_eq_true rfl) dX10_isOpen_27 ⟨Nat.zero_le _, Nat.zero_le _⟩ ?_
  refine kv_icmp_le C 40 dX10_isOpen_30 (by decide) (fun c_23 => ?_) (fun c_23 => ?_)
  · have h := oi_t h c_23
    refine kv_iload C 3 dX10_isOpen_40 rfl ?_
    obtain ⟨r_24, hm_25, h⟩ := ob_e h
    refine kv_callS0i C [.int x4_18] (c_X10_size l D x4_18 r_24 hm_25) (cs_X10_size C.ts lm_RX10_76 ⟨Nat.le_of_ble_eq_true rfl, Nat.le_of_ble_eq_true rfl⟩) rfl rfl (Nat.le_of_ble_eq_true rfl) dX10_isOpen_42 ⟨Nat.zero_le _, Nat.zero_le _⟩ ?_
    exact kv_lv [0, 1, 2, 3] (lv2 := [(0, .ref h0), (1, .int p0), (3, .int x3_13), (4, .int x4_18)]) rfl (j45 p0 x3_13 x4_18 r_24 h)
  · have h := oi_f h c_23
    refine kv_iload_n C 2 dX10_isOpen_33 rfl rfl ?_
    obtain ⟨r_26, hm_27, h⟩ := ob_e h
    refine kv_callS0i C [.int x3_13] (c_X10_size l D x3_13 r_26 hm_27) (cs_X10_size C.ts lm_RX10_76 ⟨Nat.le_of_ble_eq_true rfl, Nat.le_of_ble_eq_true rfl⟩) rfl rfl (Nat.le_of_ble_eq_true rfl) dX10_isOpen_34 ⟨Nat.zero_le _, Nat.zero_le _⟩ ?_
    refine kv_goto C 45 dX10_isOpen_37 (by decide) ?_
    exact kv_lv [0, 1, 2, 3] (lv2 := [(0, .ref h0), (1, .int p0), (3, .int x3_13), (4, .int x4_18)]) rfl (j45 p0 x3_13 x4_18 r_26 h)
def m_X10_reaches_b267 (a_board : Nat → Int32) (t0 : Int32) : Option (Int32) := obl (t0) (some t0)
def m_X10_reaches_b266 (a_board : Nat → Int32) : Option (Int32) := m_X10_reaches_b267 a_board 0
def m_X10_reaches_b241 (a_board : Nat → Int32) (t0 : Int32) : Option (Int32) := obl (t0) (some t0)
def m_X10_reaches_b240 (a_board : Nat → Int32) : Option (Int32) := m_X10_reaches_b241 a_board 0
def m_X10_reaches_b227 (a_board : Nat → Int32) (x1 : Int32) (x2 : Int32) : Option (Int32) := ob (m_X10_isOpen a_board x1 x2) fun r_3 => if r_3 = 0 then m_X10_reaches_b240 a_board else m_X10_reaches_b241 a_board 1
def m_X10_reaches_b216 (a_board : Nat → Int32) (t0 : Int32) : Option (Int32) := obl (t0) (some t0)
def m_X10_reaches_b215 (a_board : Nat → Int32) : Option (Int32) := m_X10_reaches_b216 a_board 0
def m_X10_reaches_b196 (a_board : Nat → Int32) (t0 : Int32) : Option (Int32) := obl (t0) (some t0)
def m_X10_reaches_b195 (a_board : Nat → Int32) : Option (Int32) := m_X10_reaches_b196 a_board 0
def m_X10_reaches_b176 (a_board : Nat → Int32) (t0 : Int32) : Option (Int32) := obl (t0) (some t0)
def m_X10_reaches_b161 (a_board : Nat → Int32) (t0 : Int32) : Option (Int32) := obl (t0) (some t0)
def m_X10_reaches_b160 (a_board : Nat → Int32) : Option (Int32) := m_X10_reaches_b161 a_board 0
def m_X10_reaches_b153 (a_board : Nat → Int32) (t0 : Int32) (t1 : Int32) : Option (Int32) := if t0 = t1 then m_X10_reaches_b161 a_board 1 else m_X10_reaches_b160 a_board
def m_X10_reaches_b81 (a_board : Nat → Int32) (x1 : Int32) (x2 : Int32) (x3 : Int32) (x5 : Int32) (x6 : Int32) (x7 : Int32) (t0 : Int32) : Option (Int32) := oin (x1) 64 (ob (m_X10_kindOf (a_board x1.toNatClampNeg)) fun r_12 => if r_12 = 1 then if x6 = 1 then oin (x1) 64 (if (a_board x1.toNatClampNeg) ≤ 0 then m_X10_reaches_b153 a_board x3 (-1) else m_X10_reaches_b153 a_board x3 1) else m_X10_reaches_b160 a_board else if r_12 = 2 then if (x5 * x6) = 2 then m_X10_reaches_b176 a_board 1 else m_X10_reaches_b176 a_board 0 else if r_12 = 3 then if t0 = 0 then m_X10_reaches_b195 a_board else ob (m_X10_isOpen a_board x1 x2) fun r_22 => if r_22 = 0 then m_X10_reaches_b195 a_board else m_X10_reaches_b196 a_board 1 else if r_12 = 4 then if x7 = 0 then m_X10_reaches_b215 a_board else ob (m_X10_isOpen a_board x1 x2) fun r_27 => if r_27 = 0 then m_X10_reaches_b215 a_board else m_X10_reaches_b216 a_board 1 else if r_12 = 5 then if x7 = 0 then if t0 = 0 then m_X10_reaches_b240 a_board else m_X10_reaches_b227 a_board x1 x2 else m_X10_reaches_b227 a_board x1 x2 else if r_12 = 6 then if 2 ≤ x5 then m_X10_reaches_b266 a_board else if 2 ≤ x6 then m_X10_reaches_b266 a_board else if (x5 + x6) ≤ 0 then m_X10_reaches_b266 a_board else m_X10_reaches_b267 a_board 1 else obl (0) (some 0))
def m_X10_reaches_b80 (a_board : Nat → Int32) (x1 : Int32) (x2 : Int32) (x3 : Int32) (x5 : Int32) (x6 : Int32) (x7 : Int32) : Option (Int32) := m_X10_reaches_b81 a_board x1 x2 x3 x5 x6 x7 0
def m_X10_reaches_b62 (a_board : Nat → Int32) (x1 : Int32) (x2 : Int32) (x3 : Int32) (x5 : Int32) (x6 : Int32) (t0 : Int32) : Option (Int32) := if x5 = x6 then if x5 ≤ 0 then m_X10_reaches_b80 a_board x1 x2 x3 x5 x6 t0 else m_X10_reaches_b81 a_board x1 x2 x3 x5 x6 t0 1 else m_X10_reaches_b80 a_board x1 x2 x3 x5 x6 t0
def m_X10_reaches_b54 (a_board : Nat → Int32) (x1 : Int32) (x2 : Int32) (x3 : Int32) (x5 : Int32) (x6 : Int32) (t0 : Int32) (t1 : Int32) : Option (Int32) := if t0 = t1 then m_X10_reaches_b62 a_board x1 x2 x3 x5 x6 0 else m_X10_reaches_b62 a_board x1 x2 x3 x5 x6 1
def m_X10_reaches_b44 (a_board : Nat → Int32) (x1 : Int32) (x2 : Int32) (x3 : Int32) (x5 : Int32) (x6 : Int32) (t0 : Int32) : Option (Int32) := if x6 = 0 then m_X10_reaches_b54 a_board x1 x2 x3 x5 x6 t0 1 else m_X10_reaches_b54 a_board x1 x2 x3 x5 x6 t0 0
def m_X10_reaches (a_board : Nat → Int32) (p0 : Int32) (p1 : Int32) : Option (Int32) := ob (m_X10_rowOf p1) fun r_42 => ob (m_X10_rowOf p0) fun r_44 => ol (r_42 - r_44) fun x3_46 => ob (m_X10_columnOf p1) fun r_47 => ob (m_X10_columnOf p0) fun r_49 => ol (r_47 - r_49) fun x4_51 => ob (m_X10_size x3_46) fun r_52 => ob (m_X10_size x4_51) fun r_54 => if r_52 = 0 then m_X10_reaches_b44 a_board p0 p1 x3_46 r_52 r_54 1 else m_X10_reaches_b44 a_board p0 p1 x3_46 r_52 r_54 0
abbrev rm_X10_reaches : Room := { frames := 2, cells := 0, slots := 0, locals := 47 }
abbrev wy_X10_reaches : List Cond := .code yX10_reaches cX10_reaches 9 (some .boolean) :: gT
theorem cv_X10_reaches {R : Room} {s : State} {args : Array Value} {own : String} {index : Nat} {w0 : Cond} (hts : ∀ w ∈ w0 :: gT, w.before args s = true) (hl : Cond.methodLink own index yX10_reaches ∈ gT) (hR : 2 + 1 ≤ R.frames ∧ 8 + (9 + 11) + 47 ≤ R.locals) : CallW R s args own RX10 index yX10_reaches cX10_reaches 9 (some .boolean) wy_X10_reaches rm_X10_reaches 0 0 2 :=
  cwV 2 hts (gT_call w0 (pre := [.methodLink own index yX10_reaches, .instanceMethod yX10_reaches, .selects RX10 yX10_reaches yX10_reaches, .initialized RX10]) (gT_lc hl (gT_lc ly_yX10_reaches (gT_lc lx_yX10_reaches (gT_l1 li_RX10)))) lc_yX10_reaches) rfl rfl rfl (by decide +kernel) hR
set_option maxRecDepth 100000 in
set_option maxHeartbeats 4000000 in
theorem c_X10_reaches (l : Launch) (D : va_G) (h0 : Nat) (q : Nat → Nat) (cI : ClassId) (v_code : Int32) (v_side : Int32) (v_rights : Int32) (v_passed : Int32) (v_halves : Int32) (v_number : Int32) (v_top : Int32) (v_typedCount : Int32) (v_readAt : Int32) (v_place : Int32) (v_writtenCount : Int32) (v_chosenFrom : Int32) (v_chosenTo : Int32) (v_chosenTurn : Int32) (v_changed : Int32) (v_readSide : Int32) (v_readRights : Int32) (v_readPassed : Int32) (v_readHalves : Int32) (v_readNumber : Int32) (a_board : Nat → Int32) (a_before : Nat → Int32) (a_typed : Nat → Int32) (a_written : Nat → Int32) (a_froms : Nat → Int32) (a_tos : Nat → Int32) (a_turns : Nat → Int32) (a_counts : Nat → Int32) (a_changedSquare : Nat → Int32) (a_changedMan : Nat → Int32) (a_readBoard : Nat → Int32) (p0 : Int32) (p1 : Int32) (rv : Int32) (hm : m_X10_reaches a_board p0 p1 = some rv) : kDi l yX10_reaches wy_X10_reaches rm_X10_reaches D [(cI, .int)] rv (wM h0 q cI v_code v_side v_rights v_passed v_halves v_number v_top v_typedCount v_readAt v_place v_writtenCount v_chosenFrom v_chosenTo v_chosenTurn v_changed v_readSide v_readRights v_readPassed v_readHalves v_readNumber a_board a_before a_typed a_written a_froms a_tos a_turns a_counts a_changedSquare a_changedMan a_readBoard) (wM h0 q cI v_code v_side v_rights v_passed v_halves v_number v_top v_typedCount v_readAt v_place v_writtenCount v_chosenFrom v_chosenTo v_chosenTurn v_changed v_readSide v_readRights v_readPassed v_readHalves v_readNumber a_board a_before a_typed a_written a_froms a_tos a_turns a_counts a_changedSquare a_changedMan a_readBoard) [.ref h0, .int p0, .int p1] := by
  refine kDi.of cX10_reaches 9 (some .boolean) (by decide) rfl (Or.inr rfl) (Nat.le_of_ble_eq_true rfl) ?_
  intro p e s m below meth c A Q C hret
  have hin10 : ∀ w ∈ wsX100, w ∈ wy_X10_reaches := fun w h => List.mem_cons_of_mem _ (inG10 w h)
  have j267 : ∀ (t0 : Int32), m_X10_reaches_b267  a_board t0 = some rv → kv p l e rm_X10_reaches s m ([.ref h0, .int p0, .int p1] : List Value).toArray below meth c D A 9 0 0 Q (wM h0 q cI v_code v_side v_rights v_passed v_halves v_number v_top v_typedCount v_readAt v_place v_writtenCount v_chosenFrom v_chosenTo v_chosenTurn v_changed v_readSide v_readRights v_readPassed v_readHalves v_readNumber a_board a_before a_typed a_written a_froms a_tos a_turns a_counts a_changedSquare a_changedMan a_readBoard) [] 267 [.int t0] := by
    intro t0 h
    unfold m_X10_reaches_b267 at h
    obtain ⟨g_1, h⟩ := obl_e h
    cases h
    exact hret _ _ dX10_reaches_267 (fun _ => g_1)
  have j266 : m_X10_reaches_b266  a_board  = some rv → kv p l e rm_X10_reaches s m ([.ref h0, .int p0, .int p1] : List Value).toArray below meth c D A 9 0 0 Q (wM h0 q cI v_code v_side v_rights v_passed v_halves v_number v_top v_typedCount v_readAt v_place v_writtenCount v_chosenFrom v_chosenTo v_chosenTurn v_changed v_readSide v_readRights v_readPassed v_readHalves v_readNumber a_board a_before a_typed a_written a_froms a_tos a_turns a_counts a_changedSquare a_changedMan a_readBoard) [] 266 [] := by
    intro  h
    unfold m_X10_reaches_b266 at h
    refine kv_iconst C 0 dX10_reaches_266 (by decide) ?_
    exact kv_lv [] (lv2 := []) rfl (j267 0 h)
  have j241 : ∀ (t0 : Int32), m_X10_reaches_b241  a_board t0 = some rv → kv p l e rm_X10_reaches s m ([.ref h0, .int p0, .int p1] : List Value).toArray below meth c D A 9 0 0 Q (wM h0 q cI v_code v_side v_rights v_passed v_halves v_number v_top v_typedCount v_readAt v_place v_writtenCount v_chosenFrom v_chosenTo v_chosenTurn v_changed v_readSide v_readRights v_readPassed v_readHalves v_readNumber a_board a_before a_typed a_written a_froms a_tos a_turns a_counts a_changedSquare a_changedMan a_readBoard) [] 241 [.int t0] := by
    intro t0 h
    unfold m_X10_reaches_b241 at h
    obtain ⟨g_2, h⟩ := obl_e h
    cases h
    exact hret _ _ dX10_reaches_241 (fun _ => g_2)
  have j240 : m_X10_reaches_b240  a_board  = some rv → kv p l e rm_X10_reaches s m ([.ref h0, .int p0, .int p1] : List Value).toArray below meth c D A 9 0 0 Q (wM h0 q cI v_code v_side v_rights v_passed v_halves v_number v_top v_typedCount v_readAt v_place v_writtenCount v_chosenFrom v_chosenTo v_chosenTurn v_changed v_readSide v_readRights v_readPassed v_readHalves v_readNumber a_board a_before a_typed a_written a_froms a_tos a_turns a_counts a_changedSquare a_changedMan a_readBoard) [] 240 [] := by
    intro  h
    unfold m_X10_reaches_b240 at h
    refine kv_iconst C 0 dX10_reaches_240 (by decide) ?_
    exact kv_lv [] (lv2 := []) rfl (j241 0 h)
  have j227 : ∀ (x1 : Int32) (x2 : Int32), m_X10_reaches_b227  a_board x1 x2 = some rv → kv p l e rm_X10_reaches s m ([.ref h0, .int p0, .int p1] : List Value).toArray below meth c D A 9 0 0 Q (wM h0 q cI v_code v_side v_rights v_passed v_halves v_number v_top v_typedCount v_readAt v_place v_writtenCount v_chosenFrom v_chosenTo v_chosenTurn v_changed v_readSide v_readRights v_readPassed v_readHalves v_readNumber a_board a_before a_typed a_written a_froms a_tos a_turns a_counts a_changedSquare a_changedMan a_readBoard) [(0, .ref h0), (1, .int x1), (2, .int x2)] 227 [] := by
    intro x1 x2 h
    unfold m_X10_reaches_b227 at h
    refine kv_aload_n C 0 dX10_reaches_227 rfl rfl ?_
    refine kv_iload_n C 1 dX10_reaches_228 rfl rfl ?_
    refine kv_iload_n C 2 dX10_reaches_229 rfl rfl ?_
    obtain ⟨r_3, hm_4, h⟩ := ob_e h
    refine kv_callWi C [.int x1, .int x2] 0 (c_X10_isOpen l D h0 q cI v_code v_side v_rights v_passed v_halves v_number v_top v_typedCount v_readAt v_place v_writtenCount v_chosenFrom v_chosenTo v_chosenTurn v_changed v_readSide v_readRights v_readPassed v_readHalves v_readNumber a_board a_before a_typed a_written a_froms a_tos a_turns a_counts a_changedSquare a_changedMan a_readBoard x1 x2 r_3 hm_4) (cv_X10_isOpen C.ts lm_RX10_82 ⟨Nat.le_of_ble_eq_true rfl, Nat.le_of_ble_eq_true rfl⟩) rfl rfl rfl rfl (Nat.le_of_ble_eq_true rfl) dX10_reaches_230 ⟨Nat.zero_le _, Nat.zero_le _⟩ ?_
    refine kv_if_eq C 240 dX10_reaches_233 (by decide) (fun c_5 => ?_) (fun c_5 => ?_)
    · have h := oi_t h c_5
      exact kv_lv [] (lv2 := []) rfl (j240  h)
    · have h := oi_f h c_5
      refine kv_iconst C 1 dX10_reaches_236 (by decide) ?_
      refine kv_goto C 241 dX10_reaches_237 (by decide) ?_
      exact kv_lv [] (lv2 := []) rfl (j241 1 h)
  have j216 : ∀ (t0 : Int32), m_X10_reaches_b216  a_board t0 = some rv → kv p l e rm_X10_reaches s m ([.ref h0, .int p0, .int p1] : List Value).toArray below meth c D A 9 0 0 Q (wM h0 q cI v_code v_side v_rights v_passed v_halves v_number v_top v_typedCount v_readAt v_place v_writtenCount v_chosenFrom v_chosenTo v_chosenTurn v_changed v_readSide v_readRights v_readPassed v_readHalves v_readNumber a_board a_before a_typed a_written a_froms a_tos a_turns a_counts a_changedSquare a_changedMan a_readBoard) [] 216 [.int t0] := by
    intro t0 h
    unfold m_X10_reaches_b216 at h
    obtain ⟨g_6, h⟩ := obl_e h
    cases h
    exact hret _ _ dX10_reaches_216 (fun _ => g_6)
  have j215 : m_X10_reaches_b215  a_board  = some rv → kv p l e rm_X10_reaches s m ([.ref h0, .int p0, .int p1] : List Value).toArray below meth c D A 9 0 0 Q (wM h0 q cI v_code v_side v_rights v_passed v_halves v_number v_top v_typedCount v_readAt v_place v_writtenCount v_chosenFrom v_chosenTo v_chosenTurn v_changed v_readSide v_readRights v_readPassed v_readHalves v_readNumber a_board a_before a_typed a_written a_froms a_tos a_turns a_counts a_changedSquare a_changedMan a_readBoard) [] 215 [] := by
    intro  h
    unfold m_X10_reaches_b215 at h
    refine kv_iconst C 0 dX10_reaches_215 (by decide) ?_
    exact kv_lv [] (lv2 := []) rfl (j216 0 h)
  have j196 : ∀ (t0 : Int32), m_X10_reaches_b196  a_board t0 = some rv → kv p l e rm_X10_reaches s m ([.ref h0, .int p0, .int p1] : List Value).toArray below meth c D A 9 0 0 Q (wM h0 q cI v_code v_side v_rights v_passed v_halves v_number v_top v_typedCount v_readAt v_place v_writtenCount v_chosenFrom v_chosenTo v_chosenTurn v_changed v_readSide v_readRights v_readPassed v_readHalves v_readNumber a_board a_before a_typed a_written a_froms a_tos a_turns a_counts a_changedSquare a_changedMan a_readBoard) [] 196 [.int t0] := by
    intro t0 h
    unfold m_X10_reaches_b196 at h
    obtain ⟨g_7, h⟩ := obl_e h
    cases h
    exact hret _ _ dX10_reaches_196 (fun _ => g_7)
  have j195 : m_X10_reaches_b195  a_board  = some rv → kv p l e rm_X10_reaches s m ([.ref h0, .int p0, .int p1] : List Value).toArray below meth c D A 9 0 0 Q (wM h0 q cI v_code v_side v_rights v_passed v_halves v_number v_top v_typedCount v_readAt v_place v_writtenCount v_chosenFrom v_chosenTo v_chosenTurn v_changed v_readSide v_readRights v_readPassed v_readHalves v_readNumber a_board a_before a_typed a_written a_froms a_tos a_turns a_counts a_changedSquare a_changedMan a_readBoard) [] 195 [] := by
    intro  h
    unfold m_X10_reaches_b195 at h
    refine kv_iconst C 0 dX10_reaches_195 (by decide) ?_
    exact kv_lv [] (lv2 := []) rfl (j196 0 h)
  have j176 : ∀ (t0 : Int32), m_X10_reaches_b176  a_board t0 = some rv → kv p l e rm_X10_reaches s m ([.ref h0, .int p0, .int p1] : List Value).toArray below meth c D A 9 0 0 Q (wM h0 q cI v_code v_side v_rights v_passed v_halves v_number v_top v_typedCount v_readAt v_place v_writtenCount v_chosenFrom v_chosenTo v_chosenTurn v_changed v_readSide v_readRights v_readPassed v_readHalves v_readNumber a_board a_before a_typed a_written a_froms a_tos a_turns a_counts a_changedSquare a_changedMan a_readBoard) [] 176 [.int t0] := by
    intro t0 h
    unfold m_X10_reaches_b176 at h
    obtain ⟨g_8, h⟩ := obl_e h
    cases h
    exact hret _ _ dX10_reaches_176 (fun _ => g_8)
  have j161 : ∀ (t0 : Int32), m_X10_reaches_b161  a_board t0 = some rv → kv p l e rm_X10_reaches s m ([.ref h0, .int p0, .int p1] : List Value).toArray below meth c D A 9 0 0 Q (wM h0 q cI v_code v_side v_rights v_passed v_halves v_number v_top v_typedCount v_readAt v_place v_writtenCount v_chosenFrom v_chosenTo v_chosenTurn v_changed v_readSide v_readRights v_readPassed v_readHalves v_readNumber a_board a_before a_typed a_written a_froms a_tos a_turns a_counts a_changedSquare a_changedMan a_readBoard) [] 161 [.int t0] := by
    intro t0 h
    unfold m_X10_reaches_b161 at h
    obtain ⟨g_9, h⟩ := obl_e h
    cases h
    exact hret _ _ dX10_reaches_161 (fun _ => g_9)
  have j160 : m_X10_reaches_b160  a_board  = some rv → kv p l e rm_X10_reaches s m ([.ref h0, .int p0, .int p1] : List Value).toArray below meth c D A 9 0 0 Q (wM h0 q cI v_code v_side v_rights v_passed v_halves v_number v_top v_typedCount v_readAt v_place v_writtenCount v_chosenFrom v_chosenTo v_chosenTurn v_changed v_readSide v_readRights v_readPassed v_readHalves v_readNumber a_board a_before a_typed a_written a_froms a_tos a_turns a_counts a_changedSquare a_changedMan a_readBoard) [] 160 [] := by
    intro  h
    unfold m_X10_reaches_b160 at h
    refine kv_iconst C 0 dX10_reaches_160 (by decide) ?_
    exact kv_lv [] (lv2 := []) rfl (j161 0 h)
  have j153 : ∀ (t0 : Int32) (t1 : Int32), m_X10_reaches_b153  a_board t0 t1 = some rv → kv p l e rm_X10_reaches s m ([.ref h0, .int p0, .int p1] : List Value).toArray below meth c D A 9 0 0 Q (wM h0 q cI v_code v_side v_rights v_passed v_halves v_number v_top v_typedCount v_readAt v_place v_writtenCount v_chosenFrom v_chosenTo v_chosenTurn v_changed v_readSide v_readRights v_readPassed v_readHalves v_readNumber a_board a_before a_typed a_written a_froms a_tos a_turns a_counts a_changedSquare a_changedMan a_readBoard) [] 153 [.int t1, .int t0] := by
    intro t0 t1 h
    unfold m_X10_reaches_b153 at h
    refine kv_icmp_ne C 160 dX10_reaches_153 (by decide) (fun c_10 => ?_) (fun c_10 => ?_)
    · have h := oi_f h c_10
      exact kv_lv [] (lv2 := []) rfl (j160  h)
    · have h := oi_t h c_10
      refine kv_iconst C 1 dX10_reaches_156 (by decide) ?_
      refine kv_goto C 161 dX10_reaches_157 (by decide) ?_
      exact kv_lv [] (lv2 := []) rfl (j161 1 h)
  have j81 : ∀ (x1 : Int32) (x2 : Int32) (x3 : Int32) (x5 : Int32) (x6 : Int32) (x7 : Int32) (t0 : Int32), m_X10_reaches_b81  a_board x1 x2 x3 x5 x6 x7 t0 = some rv → kv p l e rm_X10_reaches s m ([.ref h0, .int p0, .int p1] : List Value).toArray below meth c D A 9 0 0 Q (wM h0 q cI v_code v_side v_rights v_passed v_halves v_number v_top v_typedCount v_readAt v_place v_writtenCount v_chosenFrom v_chosenTo v_chosenTurn v_changed v_readSide v_readRights v_readPassed v_readHalves v_readNumber a_board a_before a_typed a_written a_froms a_tos a_turns a_counts a_changedSquare a_changedMan a_readBoard) [(0, .ref h0), (1, .int x1), (2, .int x2), (3, .int x3), (5, .int x5), (6, .int x6), (7, .int x7)] 81 [.int t0] := by
    intro x1 x2 x3 x5 x6 x7 t0 h
    unfold m_X10_reaches_b81 at h
    refine kv_istore C (lv2 := [(0, .ref h0), (1, .int x1), (2, .int x2), (3, .int x3), (5, .int x5), (6, .int x6), (7, .int x7), (8, .int t0)]) [1, 2, 3, 4, 5, 6, 7, 0] dX10_reaches_81 (by decide) rfl rfl ?_
    refine kv_aload_n C 0 dX10_reaches_83 rfl rfl ?_
    refine kv_get C (Cn := RX10) (T := TX10) (N := 31) 0 1 hin10 rfl rfl (by decide) (C.ts _ (List.mem_cons_of_mem _ lf_RX10_7)) rfl rfl dX10_reaches_84 ?_
    refine kv_iload_n C 1 dX10_reaches_87 rfl rfl ?_
    obtain ⟨g_11, h⟩ := oin_e h
    refine kv_iald C 1 0 rfl rfl g_11 dX10_reaches_88 ?_
    obtain ⟨r_12, hm_13, h⟩ := ob_e h
    refine kv_callS0i C [.int (a_board x1.toNatClampNeg)] (c_X10_kindOf l D (a_board x1.toNatClampNeg) r_12 hm_13) (cs_X10_kindOf C.ts lm_RX10_79 ⟨Nat.le_of_ble_eq_true rfl, Nat.le_of_ble_eq_true rfl⟩) rfl rfl (Nat.le_of_ble_eq_true rfl) dX10_reaches_89 ⟨Nat.zero_le _, Nat.zero_le _⟩ ?_
    by_cases c_14 : r_12 = 1
    · have h := oi_t h c_14
      refine kv_tableIn C 1 132 dX10_reaches_92 c_14 (by decide) (by decide) rfl (by decide) ?_
      refine kv_iload C 5 dX10_reaches_132 rfl ?_
      refine kv_iconst C 1 dX10_reaches_134 (by decide) ?_
      refine kv_icmp_ne C 160 dX10_reaches_135 (by decide) (fun c_15 => ?_) (fun c_15 => ?_)
      · have h := oi_f h c_15
        exact kv_lv [] (lv2 := []) rfl (j160  h)
      · have h := oi_t h c_15
        refine kv_iload_n C 3 dX10_reaches_138 rfl rfl ?_
        refine kv_aload_n C 0 dX10_reaches_139 rfl rfl ?_
        refine kv_get C (Cn := RX10) (T := TX10) (N := 31) 0 1 hin10 rfl rfl (by decide) (C.ts _ (List.mem_cons_of_mem _ lf_RX10_7)) rfl rfl dX10_reaches_140 ?_
        refine kv_iload_n C 1 dX10_reaches_143 rfl rfl ?_
        obtain ⟨g_16, h⟩ := oin_e h
        refine kv_iald C 1 0 rfl rfl g_16 dX10_reaches_144 ?_
        refine kv_if_le C 152 dX10_reaches_145 (by decide) (fun c_17 => ?_) (fun c_17 => ?_)
        · have h := oi_t h c_17
          refine kv_iconst C (-1) dX10_reaches_152 (by decide) ?_
          exact kv_lv [] (lv2 := []) rfl (j153 x3 (-1) h)
        · have h := oi_f h c_17
          refine kv_iconst C 1 dX10_reaches_148 (by decide) ?_
          refine kv_goto C 153 dX10_reaches_149 (by decide) ?_
          exact kv_lv [] (lv2 := []) rfl (j153 x3 1 h)
    have h := oi_f h c_14
    by_cases c_18 : r_12 = 2
    · have h := oi_t h c_18
      refine kv_tableIn C 2 162 dX10_reaches_92 c_18 (by decide) (by decide) rfl (by decide) ?_
      refine kv_iload C 4 dX10_reaches_162 rfl ?_
      refine kv_iload C 5 dX10_reaches_164 rfl ?_
      refine kv_imul C dX10_reaches_166 ?_
      refine kv_iconst C 2 dX10_reaches_167 (by decide) ?_
      refine kv_icmp_ne C 175 dX10_reaches_168 (by decide) (fun c_19 => ?_) (fun c_19 => ?_)
      · have h := oi_f h c_19
        refine kv_iconst C 0 dX10_reaches_175 (by decide) ?_
        exact kv_lv [] (lv2 := []) rfl (j176 0 h)
      · have h := oi_t h c_19
        refine kv_iconst C 1 dX10_reaches_171 (by decide) ?_
        refine kv_goto C 176 dX10_reaches_172 (by decide) ?_
        exact kv_lv [] (lv2 := []) rfl (j176 1 h)
    have h := oi_f h c_18
    by_cases c_20 : r_12 = 3
    · have h := oi_t h c_20
      refine kv_tableIn C 3 177 dX10_reaches_92 c_20 (by decide) (by decide) rfl (by decide) ?_
      refine kv_iload C 7 dX10_reaches_177 rfl ?_
      refine kv_if_eq C 195 dX10_reaches_179 (by decide) (fun c_21 => ?_) (fun c_21 => ?_)
      · have h := oi_t h c_21
        exact kv_lv [] (lv2 := []) rfl (j195  h)
      · have h := oi_f h c_21
        refine kv_aload_n C 0 dX10_reaches_182 rfl rfl ?_
        refine kv_iload_n C 1 dX10_reaches_183 rfl rfl ?_
        refine kv_iload_n C 2 dX10_reaches_184 rfl rfl ?_
        obtain ⟨r_22, hm_23, h⟩ := ob_e h
        refine kv_callWi C [.int x1, .int x2] 0 (c_X10_isOpen l D h0 q cI v_code v_side v_rights v_passed v_halves v_number v_top v_typedCount v_readAt v_place v_writtenCount v_chosenFrom v_chosenTo v_chosenTurn v_changed v_readSide v_readRights v_readPassed v_readHalves v_readNumber a_board a_before a_typed a_written a_froms a_tos a_turns a_counts a_changedSquare a_changedMan a_readBoard x1 x2 r_22 hm_23) (cv_X10_isOpen C.ts lm_RX10_82 ⟨Nat.le_of_ble_eq_true rfl, Nat.le_of_ble_eq_true rfl⟩) rfl rfl rfl rfl (Nat.le_of_ble_eq_true rfl) dX10_reaches_185 ⟨Nat.zero_le _, Nat.zero_le _⟩ ?_
        refine kv_if_eq C 195 dX10_reaches_188 (by decide) (fun c_24 => ?_) (fun c_24 => ?_)
        · have h := oi_t h c_24
          exact kv_lv [] (lv2 := []) rfl (j195  h)
        · have h := oi_f h c_24
          refine kv_iconst C 1 dX10_reaches_191 (by decide) ?_
          refine kv_goto C 196 dX10_reaches_192 (by decide) ?_
          exact kv_lv [] (lv2 := []) rfl (j196 1 h)
    have h := oi_f h c_20
    by_cases c_25 : r_12 = 4
    · have h := oi_t h c_25
      refine kv_tableIn C 4 197 dX10_reaches_92 c_25 (by decide) (by decide) rfl (by decide) ?_
      refine kv_iload C 6 dX10_reaches_197 rfl ?_
      refine kv_if_eq C 215 dX10_reaches_199 (by decide) (fun c_26 => ?_) (fun c_26 => ?_)
      · have h := oi_t h c_26
        exact kv_lv [] (lv2 := []) rfl (j215  h)
      · have h := oi_f h c_26
        refine kv_aload_n C 0 dX10_reaches_202 rfl rfl ?_
        refine kv_iload_n C 1 dX10_reaches_203 rfl rfl ?_
        refine kv_iload_n C 2 dX10_reaches_204 rfl rfl ?_
        obtain ⟨r_27, hm_28, h⟩ := ob_e h
        refine kv_callWi C [.int x1, .int x2] 0 (c_X10_isOpen l D h0 q cI v_code v_side v_rights v_passed v_halves v_number v_top v_typedCount v_readAt v_place v_writtenCount v_chosenFrom v_chosenTo v_chosenTurn v_changed v_readSide v_readRights v_readPassed v_readHalves v_readNumber a_board a_before a_typed a_written a_froms a_tos a_turns a_counts a_changedSquare a_changedMan a_readBoard x1 x2 r_27 hm_28) (cv_X10_isOpen C.ts lm_RX10_82 ⟨Nat.le_of_ble_eq_true rfl, Nat.le_of_ble_eq_true rfl⟩) rfl rfl rfl rfl (Nat.le_of_ble_eq_true rfl) dX10_reaches_205 ⟨Nat.zero_le _, Nat.zero_le _⟩ ?_
        refine kv_if_eq C 215 dX10_reaches_208 (by decide) (fun c_29 => ?_) (fun c_29 => ?_)
        · have h := oi_t h c_29
          exact kv_lv [] (lv2 := []) rfl (j215  h)
        · have h := oi_f h c_29
          refine kv_iconst C 1 dX10_reaches_211 (by decide) ?_
          refine kv_goto C 216 dX10_reaches_212 (by decide) ?_
          exact kv_lv [] (lv2 := []) rfl (j216 1 h)
    have h := oi_f h c_25
    by_cases c_30 : r_12 = 5
    · have h := oi_t h c_30
      refine kv_tableIn C 5 217 dX10_reaches_92 c_30 (by decide) (by decide) rfl (by decide) ?_
      refine kv_iload C 6 dX10_reaches_217 rfl ?_
      refine kv_if_ne C 227 dX10_reaches_219 (by decide) (fun c_31 => ?_) (fun c_31 => ?_)
      · have h := oi_f h c_31
        exact kv_lv [0, 1, 2] (lv2 := [(0, .ref h0), (1, .int x1), (2, .int x2)]) rfl (j227 x1 x2 h)
      · have h := oi_t h c_31
        refine kv_iload C 7 dX10_reaches_222 rfl ?_
        refine kv_if_eq C 240 dX10_reaches_224 (by decide) (fun c_32 => ?_) (fun c_32 => ?_)
        · have h := oi_t h c_32
          exact kv_lv [] (lv2 := []) rfl (j240  h)
        · have h := oi_f h c_32
          exact kv_lv [0, 1, 2] (lv2 := [(0, .ref h0), (1, .int x1), (2, .int x2)]) rfl (j227 x1 x2 h)
    have h := oi_f h c_30
    by_cases c_33 : r_12 = 6
    · have h := oi_t h c_33
      refine kv_tableIn C 6 242 dX10_reaches_92 c_33 (by decide) (by decide) rfl (by decide) ?_
      refine kv_iload C 4 dX10_reaches_242 rfl ?_
      refine kv_iconst C 2 dX10_reaches_244 (by decide) ?_
      refine kv_icmp_ge C 266 dX10_reaches_245 (by decide) (fun c_34 => ?_) (fun c_34 => ?_)
      · have h := oi_t h c_34
        exact kv_lv [] (lv2 := []) rfl (j266  h)
      · have h := oi_f h c_34
        refine kv_iload C 5 dX10_reaches_248 rfl ?_
        refine kv_iconst C 2 dX10_reaches_250 (by decide) ?_
        refine kv_icmp_ge C 266 dX10_reaches_251 (by decide) (fun c_35 => ?_) (fun c_35 => ?_)
        · have h := oi_t h c_35
          exact kv_lv [] (lv2 := []) rfl (j266  h)
        · have h := oi_f h c_35
          refine kv_iload C 4 dX10_reaches_254 rfl ?_
          refine kv_iload C 5 dX10_reaches_256 rfl ?_
          refine kv_iadd C dX10_reaches_258 ?_
          refine kv_if_le C 266 dX10_reaches_259 (by decide) (fun c_36 => ?_) (fun c_36 => ?_)
          · have h := oi_t h c_36
            exact kv_lv [] (lv2 := []) rfl (j266  h)
          · have h := oi_f h c_36
            refine kv_iconst C 1 dX10_reaches_262 (by decide) ?_
            refine kv_goto C 267 dX10_reaches_263 (by decide) ?_
            exact kv_lv [] (lv2 := []) rfl (j267 1 h)
    have h := oi_f h c_33
    have qc_14 := kv_ne c_14
    have qc_18 := kv_ne c_18
    have qc_20 := kv_ne c_20
    have qc_25 := kv_ne c_25
    have qc_30 := kv_ne c_30
    have qc_33 := kv_ne c_33
    refine kv_tableOut C 268 dX10_reaches_92 (by simp at qc_14 qc_18 qc_20 qc_25 qc_30 qc_33; omega) (by decide) ?_
    refine kv_iconst C 0 dX10_reaches_268 (by decide) ?_
    obtain ⟨g_37, h⟩ := obl_e h
    cases h
    exact hret _ _ dX10_reaches_269 (fun _ => g_37)
  have j80 : ∀ (x1 : Int32) (x2 : Int32) (x3 : Int32) (x5 : Int32) (x6 : Int32) (x7 : Int32), m_X10_reaches_b80  a_board x1 x2 x3 x5 x6 x7 = some rv → kv p l e rm_X10_reaches s m ([.ref h0, .int p0, .int p1] : List Value).toArray below meth c D A 9 0 0 Q (wM h0 q cI v_code v_side v_rights v_passed v_halves v_number v_top v_typedCount v_readAt v_place v_writtenCount v_chosenFrom v_chosenTo v_chosenTurn v_changed v_readSide v_readRights v_readPassed v_readHalves v_readNumber a_board a_before a_typed a_written a_froms a_tos a_turns a_counts a_changedSquare a_changedMan a_readBoard) [(0, .ref h0), (1, .int x1), (2, .int x2), (3, .int x3), (5, .int x5), (6, .int x6), (7, .int x7)] 80 [] := by
    intro x1 x2 x3 x5 x6 x7 h
    unfold m_X10_reaches_b80 at h
    refine kv_iconst C 0 dX10_reaches_80 (by decide) ?_
    exact kv_lv [0, 1, 2, 3, 4, 5, 6] (lv2 := [(0, .ref h0), (1, .int x1), (2, .int x2), (3, .int x3), (5, .int x5), (6, .int x6), (7, .int x7)]) rfl (j81 x1 x2 x3 x5 x6 x7 0 h)
  have j62 : ∀ (x1 : Int32) (x2 : Int32) (x3 : Int32) (x5 : Int32) (x6 : Int32) (t0 : Int32), m_X10_reaches_b62  a_board x1 x2 x3 x5 x6 t0 = some rv → kv p l e rm_X10_reaches s m ([.ref h0, .int p0, .int p1] : List Value).toArray below meth c D A 9 0 0 Q (wM h0 q cI v_code v_side v_rights v_passed v_halves v_number v_top v_typedCount v_readAt v_place v_writtenCount v_chosenFrom v_chosenTo v_chosenTurn v_changed v_readSide v_readRights v_readPassed v_readHalves v_readNumber a_board a_before a_typed a_written a_froms a_tos a_turns a_counts a_changedSquare a_changedMan a_readBoard) [(0, .ref h0), (1, .int x1), (2, .int x2), (3, .int x3), (5, .int x5), (6, .int x6)] 62 [.int t0] := by
    intro x1 x2 x3 x5 x6 t0 h
    unfold m_X10_reaches_b62 at h
    refine kv_istore C (lv2 := [(0, .ref h0), (1, .int x1), (2, .int x2), (3, .int x3), (5, .int x5), (6, .int x6), (7, .int t0)]) [1, 2, 3, 4, 5, 6, 0] dX10_reaches_62 (by decide) rfl rfl ?_
    refine kv_iload C 4 dX10_reaches_64 rfl ?_
    refine kv_iload C 5 dX10_reaches_66 rfl ?_
    refine kv_icmp_ne C 80 dX10_reaches_68 (by decide) (fun c_38 => ?_) (fun c_38 => ?_)
    · have h := oi_f h c_38
      exact kv_lv [0, 1, 2, 3, 4, 5, 6] (lv2 := [(0, .ref h0), (1, .int x1), (2, .int x2), (3, .int x3), (5, .int x5), (6, .int x6), (7, .int t0)]) rfl (j80 x1 x2 x3 x5 x6 t0 h)
    · have h := oi_t h c_38
      refine kv_iload C 4 dX10_reaches_71 rfl ?_
      refine kv_if_le C 80 dX10_reaches_73 (by decide) (fun c_39 => ?_) (fun c_39 => ?_)
      · have h := oi_t h c_39
        exact kv_lv [0, 1, 2, 3, 4, 5, 6] (lv2 := [(0, .ref h0), (1, .int x1), (2, .int x2), (3, .int x3), (5, .int x5), (6, .int x6), (7, .int t0)]) rfl (j80 x1 x2 x3 x5 x6 t0 h)
      · have h := oi_f h c_39
        refine kv_iconst C 1 dX10_reaches_76 (by decide) ?_
        refine kv_goto C 81 dX10_reaches_77 (by decide) ?_
        exact kv_lv [0, 1, 2, 3, 4, 5, 6] (lv2 := [(0, .ref h0), (1, .int x1), (2, .int x2), (3, .int x3), (5, .int x5), (6, .int x6), (7, .int t0)]) rfl (j81 x1 x2 x3 x5 x6 t0 1 h)
  have j54 : ∀ (x1 : Int32) (x2 : Int32) (x3 : Int32) (x5 : Int32) (x6 : Int32) (t0 : Int32) (t1 : Int32), m_X10_reaches_b54  a_board x1 x2 x3 x5 x6 t0 t1 = some rv → kv p l e rm_X10_reaches s m ([.ref h0, .int p0, .int p1] : List Value).toArray below meth c D A 9 0 0 Q (wM h0 q cI v_code v_side v_rights v_passed v_halves v_number v_top v_typedCount v_readAt v_place v_writtenCount v_chosenFrom v_chosenTo v_chosenTurn v_changed v_readSide v_readRights v_readPassed v_readHalves v_readNumber a_board a_before a_typed a_written a_froms a_tos a_turns a_counts a_changedSquare a_changedMan a_readBoard) [(0, .ref h0), (1, .int x1), (2, .int x2), (3, .int x3), (5, .int x5), (6, .int x6)] 54 [.int t1, .int t0] := by
    intro x1 x2 x3 x5 x6 t0 t1 h
    unfold m_X10_reaches_b54 at h
    refine kv_icmp_eq C 61 dX10_reaches_54 (by decide) (fun c_40 => ?_) (fun c_40 => ?_)
    · have h := oi_t h c_40
      refine kv_iconst C 0 dX10_reaches_61 (by decide) ?_
      exact kv_lv [0, 1, 2, 3, 4, 5] (lv2 := [(0, .ref h0), (1, .int x1), (2, .int x2), (3, .int x3), (5, .int x5), (6, .int x6)]) rfl (j62 x1 x2 x3 x5 x6 0 h)
    · have h := oi_f h c_40
      refine kv_iconst C 1 dX10_reaches_57 (by decide) ?_
      refine kv_goto C 62 dX10_reaches_58 (by decide) ?_
      exact kv_lv [0, 1, 2, 3, 4, 5] (lv2 := [(0, .ref h0), (1, .int x1), (2, .int x2), (3, .int x3), (5, .int x5), (6, .int x6)]) rfl (j62 x1 x2 x3 x5 x6 1 h)
  have j44 : ∀ (x1 : Int32) (x2 : Int32) (x3 : Int32) (x5 : Int32) (x6 : Int32) (t0 : Int32), m_X10_reaches_b44  a_board x1 x2 x3 x5 x6 t0 = some rv → kv p l e rm_X10_reaches s m ([.ref h0, .int p0, .int p1] : List Value).toArray below meth c D A 9 0 0 Q (wM h0 q cI v_code v_side v_rights v_passed v_halves v_number v_top v_typedCount v_readAt v_place v_writtenCount v_chosenFrom v_chosenTo v_chosenTurn v_changed v_readSide v_readRights v_readPassed v_readHalves v_readNumber a_board a_before a_typed a_written a_froms a_tos a_turns a_counts a_changedSquare a_changedMan a_readBoard) [(0, .ref h0), (1, .int x1), (2, .int x2), (3, .int x3), (5, .int x5), (6, .int x6)] 44 [.int t0] := by
    intro x1 x2 x3 x5 x6 t0 h
    unfold m_X10_reaches_b44 at h
    refine kv_iload C 5 dX10_reaches_44 rfl ?_
    refine kv_if_ne C 53 dX10_reaches_46 (by decide) (fun c_41 => ?_) (fun c_41 => ?_)
    · have h := oi_f h c_41
      refine kv_iconst C 0 dX10_reaches_53 (by decide) ?_
      exact kv_lv [0, 1, 2, 3, 4, 5] (lv2 := [(0, .ref h0), (1, .int x1), (2, .int x2), (3, .int x3), (5, .int x5), (6, .int x6)]) rfl (j54 x1 x2 x3 x5 x6 t0 0 h)
    · have h := oi_t h c_41
      refine kv_iconst C 1 dX10_reaches_49 (by decide) ?_
      refine kv_goto C 54 dX10_reaches_50 (by decide) ?_
      exact kv_lv [0, 1, 2, 3, 4, 5] (lv2 := [(0, .ref h0), (1, .int x1), (2, .int x2), (3, .int x3), (5, .int x5), (6, .int x6)]) rfl (j54 x1 x2 x3 x5 x6 t0 1 h)
  unfold m_X10_reaches at hm
  have h := hm
  refine kv_lv [0, 1, 2] (lv2 := [(0, .ref h0), (1, .int p0), (2, .int p1)]) rfl ?_
  refine kv_iload_n C 2 dX10_reaches_0 rfl rfl ?_
  obtain ⟨r_42, hm_43, h⟩ := ob_e h
  refine kv_callS0i C [.int p1] (c_X10_rowOf l D p1 r_42 hm_43) (cs_X10_rowOf C.ts lm_RX10_69 ⟨Nat.le_of_ble_eq_true rfl, Nat.le_of_ble_eq_true rfl⟩) rfl rfl (Nat.le_of_ble_eq_true rfl) dX10_reaches_1 ⟨Nat.zero_le _, Nat.zero_le _⟩ ?_
  refine kv_iload_n C 1 dX10_reaches_4 rfl rfl ?_
  obtain ⟨r_44, hm_45, h⟩ := ob_e h
  refine kv_callS0i C [.int p0] (c_X10_rowOf l D p0 r_44 hm_45) (cs_X10_rowOf C.ts lm_RX10_69 ⟨Nat.le_of_ble_eq_true rfl, Nat.le_of_ble_eq_true rfl⟩) rfl rfl (Nat.le_of_ble_eq_true rfl) dX10_reaches_5 ⟨Nat.zero_le _, Nat.zero_le _⟩ ?_
  refine kv_isub C dX10_reaches_8 ?_
  obtain ⟨x3_46, ex3_46, h⟩ := ol_e h
  refine kv_top ex3_46 ?_
  refine kv_istore_n C (lv2 := [(0, .ref h0), (1, .int p0), (2, .int p1), (3, .int x3_46)]) [1, 2, 3, 0] dX10_reaches_9 rfl (by decide) rfl rfl ?_
  refine kv_iload_n C 2 dX10_reaches_10 rfl rfl ?_
  obtain ⟨r_47, hm_48, h⟩ := ob_e h
  refine kv_callS0i C [.int p1] (c_X10_columnOf l D p1 r_47 hm_48) (cs_X10_columnOf C.ts lm_RX10_73 ⟨Nat.le_of_ble_eq_true rfl, Nat.le_of_ble_eq_true rfl⟩) rfl rfl (Nat.le_of_ble_eq_true rfl) dX10_reaches_11 ⟨Nat.zero_le _, Nat.zero_le _⟩ ?_
  refine kv_iload_n C 1 dX10_reaches_14 rfl rfl ?_
  obtain ⟨r_49, hm_50, h⟩ := ob_e h
  refine kv_callS0i C [.int p0] (c_X10_columnOf l D p0 r_49 hm_50) (cs_X10_columnOf C.ts lm_RX10_73 ⟨Nat.le_of_ble_eq_true rfl, Nat.le_of_ble_eq_true rfl⟩) rfl rfl (Nat.le_of_ble_eq_true rfl) dX10_reaches_15 ⟨Nat.zero_le _, Nat.zero_le _⟩ ?_
  refine kv_isub C dX10_reaches_18 ?_
  obtain ⟨x4_51, ex4_51, h⟩ := ol_e h
  refine kv_top ex4_51 ?_
  refine kv_istore C (lv2 := [(0, .ref h0), (1, .int p0), (2, .int p1), (3, .int x3_46), (4, .int x4_51)]) [1, 2, 3, 4, 0] dX10_reaches_19 (by decide) rfl rfl ?_
  refine kv_iload_n C 3 dX10_reaches_21 rfl rfl ?_
  obtain ⟨r_52, hm_53, h⟩ := ob_e h
  refine kv_callS0i C [.int x3_46] (c_X10_size l D x3_46 r_52 hm_53) (cs_X10_size C.ts lm_RX10_76 ⟨Nat.le_of_ble_eq_true rfl, Nat.le_of_ble_eq_true rfl⟩) rfl rfl (Nat.le_of_ble_eq_true rfl) dX10_reaches_22 ⟨Nat.zero_le _, Nat.zero_le _⟩ ?_
  refine kv_istore C (lv2 := [(0, .ref h0), (1, .int p0), (2, .int p1), (3, .int x3_46), (4, .int x4_51), (5, .int r_52)]) [1, 2, 3, 4, 5, 0] dX10_reaches_25 (by decide) rfl rfl ?_
  refine kv_iload C 4 dX10_reaches_27 rfl ?_
  obtain ⟨r_54, hm_55, h⟩ := ob_e h
  refine kv_callS0i C [.int x4_51] (c_X10_size l D x4_51 r_54 hm_55) (cs_X10_size C.ts lm_RX10_76 ⟨Nat.le_of_ble_eq_true rfl, Nat.le_of_ble_eq_true rfl⟩) rfl rfl (Nat.le_of_ble_eq_true rfl) dX10_reaches_29 ⟨Nat.zero_le _, Nat.zero_le _⟩ ?_
  refine kv_istore C (lv2 := [(0, .ref h0), (1, .int p0), (2, .int p1), (3, .int x3_46), (5, .int r_52), (6, .int r_54)]) [1, 2, 3, 4, 6, 0] dX10_reaches_32 (by decide) rfl rfl ?_
  refine kv_iload C 4 dX10_reaches_34 rfl ?_
  refine kv_if_ne C 43 dX10_reaches_36 (by decide) (fun c_56 => ?_) (fun c_56 => ?_)
  · have h := oi_f h c_56
    refine kv_iconst C 0 dX10_reaches_43 (by decide) ?_
    exact kv_lv [0, 1, 2, 3, 4, 5] (lv2 := [(0, .ref h0), (1, .int p0), (2, .int p1), (3, .int x3_46), (5, .int r_52), (6, .int r_54)]) rfl (j44 p0 p1 x3_46 r_52 r_54 0 h)
  · have h := oi_t h c_56
    refine kv_iconst C 1 dX10_reaches_39 (by decide) ?_
    refine kv_goto C 44 dX10_reaches_40 (by decide) ?_
    exact kv_lv [0, 1, 2, 3, 4, 5] (lv2 := [(0, .ref h0), (1, .int p0), (2, .int p1), (3, .int x3_46), (5, .int r_52), (6, .int r_54)]) rfl (j44 p0 p1 x3_46 r_52 r_54 1 h)
def m_X10_isAttacked_b52 (a_board : Nat → Int32) (x3 : Int32) : Option (Int32) := obl (x3) (some x3)
def m_X10_isAttacked_b45 (k5 : Int32 → Int32 → Int32 → Int32 → Option (Int32)) (a_board : Nat → Int32) (x1 : Int32) (x2 : Int32) (x4 : Int32) (t0 : Int32) : Option (Int32) := ol (x4 + 1) fun x4_2 => k5 x1 x2 t0 x4_2
def m_X10_isAttacked_b44 (k5 : Int32 → Int32 → Int32 → Int32 → Option (Int32)) (a_board : Nat → Int32) (x1 : Int32) (x2 : Int32) (x4 : Int32) : Option (Int32) := m_X10_isAttacked_b45 k5 a_board x1 x2 x4 0
def m_X10_isAttacked_b5 (k5 : Int32 → Int32 → Int32 → Int32 → Option (Int32)) (a_board : Nat → Int32) (x1 : Int32) (x2 : Int32) (x3 : Int32) (x4 : Int32) : Option (Int32) := if 64 ≤ x4 then m_X10_isAttacked_b52 a_board x3 else if x3 = 0 then oin (x4) 64 (ob (m_X10_isSide (a_board x4.toNatClampNeg) x2) fun r_6 => if r_6 = 0 then m_X10_isAttacked_b44 k5 a_board x1 x2 x4 else ob (m_X10_reaches a_board x4 x1) fun r_9 => if r_9 = 0 then m_X10_isAttacked_b44 k5 a_board x1 x2 x4 else m_X10_isAttacked_b45 k5 a_board x1 x2 x4 1) else m_X10_isAttacked_b52 a_board x3
def m_X10_isAttacked_l5 (a_board : Nat → Int32) (n : Nat) : Int32 → Int32 → Int32 → Int32 → Option (Int32) := fz (fun _ _ _ _ => none) (fun k5 x1 x2 x3 x4 => m_X10_isAttacked_b5 k5 a_board x1 x2 x3 x4) n
def m_X10_isAttacked (a_board : Nat → Int32) (p0 : Int32) (p1 : Int32) : Option (Int32) := m_X10_isAttacked_l5 a_board kF p0 p1 0 0
abbrev rm_X10_isAttacked : Room := { frames := 3, cells := 0, slots := 0, locals := 75 }
abbrev wy_X10_isAttacked : List Cond := .code yX10_isAttacked cX10_isAttacked 5 (some .boolean) :: gT
theorem cv_X10_isAttacked {R : Room} {s : State} {args : Array Value} {own : String} {index : Nat} {w0 : Cond} (hts : ∀ w ∈ w0 :: gT, w.before args s = true) (hl : Cond.methodLink own index yX10_isAttacked ∈ gT) (hR : 3 + 1 ≤ R.frames ∧ 8 + (5 + 11) + 75 ≤ R.locals) : CallW R s args own RX10 index yX10_isAttacked cX10_isAttacked 5 (some .boolean) wy_X10_isAttacked rm_X10_isAttacked 0 0 2 :=
  cwV 2 hts (gT_call w0 (pre := [.methodLink own index yX10_isAttacked, .instanceMethod yX10_isAttacked, .selects RX10 yX10_isAttacked yX10_isAttacked, .initialized RX10]) (gT_lc hl (gT_lc ly_yX10_isAttacked (gT_lc lx_yX10_isAttacked (gT_l1 li_RX10)))) lc_yX10_isAttacked) rfl rfl rfl (by decide +kernel) hR
set_option maxRecDepth 100000 in
set_option maxHeartbeats 4000000 in
theorem c_X10_isAttacked (l : Launch) (D : va_G) (h0 : Nat) (q : Nat → Nat) (cI : ClassId) (v_code : Int32) (v_side : Int32) (v_rights : Int32) (v_passed : Int32) (v_halves : Int32) (v_number : Int32) (v_top : Int32) (v_typedCount : Int32) (v_readAt : Int32) (v_place : Int32) (v_writtenCount : Int32) (v_chosenFrom : Int32) (v_chosenTo : Int32) (v_chosenTurn : Int32) (v_changed : Int32) (v_readSide : Int32) (v_readRights : Int32) (v_readPassed : Int32) (v_readHalves : Int32) (v_readNumber : Int32) (a_board : Nat → Int32) (a_before : Nat → Int32) (a_typed : Nat → Int32) (a_written : Nat → Int32) (a_froms : Nat → Int32) (a_tos : Nat → Int32) (a_turns : Nat → Int32) (a_counts : Nat → Int32) (a_changedSquare : Nat → Int32) (a_changedMan : Nat → Int32) (a_readBoard : Nat → Int32) (p0 : Int32) (p1 : Int32) (rv : Int32) (hm : m_X10_isAttacked a_board p0 p1 = some rv) : kDi l yX10_isAttacked wy_X10_isAttacked rm_X10_isAttacked D [(cI, .int)] rv (wM h0 q cI v_code v_side v_rights v_passed v_halves v_number v_top v_typedCount v_readAt v_place v_writtenCount v_chosenFrom v_chosenTo v_chosenTurn v_changed v_readSide v_readRights v_readPassed v_readHalves v_readNumber a_board a_before a_typed a_written a_froms a_tos a_turns a_counts a_changedSquare a_changedMan a_readBoard) (wM h0 q cI v_code v_side v_rights v_passed v_halves v_number v_top v_typedCount v_readAt v_place v_writtenCount v_chosenFrom v_chosenTo v_chosenTurn v_changed v_readSide v_readRights v_readPassed v_readHalves v_readNumber a_board a_before a_typed a_written a_froms a_tos a_turns a_counts a_changedSquare a_changedMan a_readBoard) [.ref h0, .int p0, .int p1] := by
  refine kDi.of cX10_isAttacked 5 (some .boolean) (by decide) rfl (Or.inr rfl) (Nat.le_of_ble_eq_true rfl) ?_
  intro p e s m below meth c A Q C hret
  have hin10 : ∀ w ∈ wsX100, w ∈ wy_X10_isAttacked := fun w h => List.mem_cons_of_mem _ (inG10 w h)
  have j52 : ∀ (x3 : Int32), m_X10_isAttacked_b52  a_board x3 = some rv → kv p l e rm_X10_isAttacked s m ([.ref h0, .int p0, .int p1] : List Value).toArray below meth c D A 5 0 0 Q (wM h0 q cI v_code v_side v_rights v_passed v_halves v_number v_top v_typedCount v_readAt v_place v_writtenCount v_chosenFrom v_chosenTo v_chosenTurn v_changed v_readSide v_readRights v_readPassed v_readHalves v_readNumber a_board a_before a_typed a_written a_froms a_tos a_turns a_counts a_changedSquare a_changedMan a_readBoard) [(3, .int x3)] 52 [] := by
    intro x3 h
    unfold m_X10_isAttacked_b52 at h
    refine kv_iload_n C 0 dX10_isAttacked_52 rfl rfl ?_
    obtain ⟨g_1, h⟩ := obl_e h
    cases h
    exact hret _ _ dX10_isAttacked_53 (fun _ => g_1)
  have l5 : ∀ (n5 : Nat) (x1 : Int32) (x2 : Int32) (x3 : Int32) (x4 : Int32), m_X10_isAttacked_l5  a_board n5 x1 x2 x3 x4 = some rv → kv p l e rm_X10_isAttacked s m ([.ref h0, .int p0, .int p1] : List Value).toArray below meth c D A 5 0 0 Q (wM h0 q cI v_code v_side v_rights v_passed v_halves v_number v_top v_typedCount v_readAt v_place v_writtenCount v_chosenFrom v_chosenTo v_chosenTurn v_changed v_readSide v_readRights v_readPassed v_readHalves v_readNumber a_board a_before a_typed a_written a_froms a_tos a_turns a_counts a_changedSquare a_changedMan a_readBoard) [(0, .ref h0), (1, .int x1), (2, .int x2), (3, .int x3), (4, .int x4)] 5 [] := by
    intro n5
    induction n5 with
    | zero =>
      intro x1 x2 x3 x4 h
      exact kv_no h
    | succ n5 ih5 =>
      have j45 : ∀ (x1 : Int32) (x2 : Int32) (x4 : Int32) (t0 : Int32), m_X10_isAttacked_b45 (m_X10_isAttacked_l5  a_board n5) a_board x1 x2 x4 t0 = some rv → kv p l e rm_X10_isAttacked s m ([.ref h0, .int p0, .int p1] : List Value).toArray below meth c D A 5 0 0 Q (wM h0 q cI v_code v_side v_rights v_passed v_halves v_number v_top v_typedCount v_readAt v_place v_writtenCount v_chosenFrom v_chosenTo v_chosenTurn v_changed v_readSide v_readRights v_readPassed v_readHalves v_readNumber a_board a_before a_typed a_written a_froms a_tos a_turns a_counts a_changedSquare a_changedMan a_readBoard) [(0, .ref h0), (1, .int x1), (2, .int x2), (4, .int x4)] 45 [.int t0] := by
        intro x1 x2 x4 t0 h
        unfold m_X10_isAttacked_b45 at h
        refine kv_istore_n C (lv2 := [(0, .ref h0), (1, .int x1), (2, .int x2), (3, .int t0), (4, .int x4)]) [1, 2, 3, 0, 4] dX10_isAttacked_45 rfl (by decide) rfl rfl ?_
        obtain ⟨x4_2, ex4_2, h⟩ := ol_e h
        refine kv_iinc C (v := x4_2) (lv2 := [(0, .ref h0), (1, .int x1), (2, .int x2), (3, .int t0), (4, .int x4_2)]) 4 [1, 2, 3, 4, 0] dX10_isAttacked_46 rfl ex4_2.symm (by decide) rfl rfl ?_
        refine kv_goto C 5 dX10_isAttacked_49 (by decide) ?_
        exact kv_lv [0, 1, 2, 3, 4] (lv2 := [(0, .ref h0), (1, .int x1), (2, .int x2), (3, .int t0), (4, .int x4_2)]) rfl (ih5 x1 x2 t0 x4_2 h)
      have j44 : ∀ (x1 : Int32) (x2 : Int32) (x4 : Int32), m_X10_isAttacked_b44 (m_X10_isAttacked_l5  a_board n5) a_board x1 x2 x4 = some rv → kv p l e rm_X10_isAttacked s m ([.ref h0, .int p0, .int p1] : List Value).toArray below meth c D A 5 0 0 Q (wM h0 q cI v_code v_side v_rights v_passed v_halves v_number v_top v_typedCount v_readAt v_place v_writtenCount v_chosenFrom v_chosenTo v_chosenTurn v_changed v_readSide v_readRights v_readPassed v_readHalves v_readNumber a_board a_before a_typed a_written a_froms a_tos a_turns a_counts a_changedSquare a_changedMan a_readBoard) [(0, .ref h0), (1, .int x1), (2, .int x2), (4, .int x4)] 44 [] := by
        intro x1 x2 x4 h
        unfold m_X10_isAttacked_b44 at h
        refine kv_iconst C 0 dX10_isAttacked_44 (by decide) ?_
        exact kv_lv [0, 1, 2, 3] (lv2 := [(0, .ref h0), (1, .int x1), (2, .int x2), (4, .int x4)]) rfl (j45 x1 x2 x4 0 h)
      intro x1 x2 x3 x4 h
      replace h : m_X10_isAttacked_b5  (m_X10_isAttacked_l5  a_board n5) a_board x1 x2 x3 x4 = some rv := h
      unfold m_X10_isAttacked_b5 at h
      refine kv_iload C 4 dX10_isAttacked_5 rfl ?_
      refine kv_bipush C 64 dX10_isAttacked_7 (by decide) ?_
      refine kv_icmp_ge C 52 dX10_isAttacked_9 (by decide) (fun c_3 => ?_) (fun c_3 => ?_)
      · have h := oi_t h c_3
        exact kv_lv [3] (lv2 := [(3, .int x3)]) rfl (j52 x3 h)
      · have h := oi_f h c_3
        refine kv_iload_n C 3 dX10_isAttacked_12 rfl rfl ?_
        refine kv_if_ne C 52 dX10_isAttacked_13 (by decide) (fun c_4 => ?_) (fun c_4 => ?_)
        · have h := oi_f h c_4
          exact kv_lv [3] (lv2 := [(3, .int x3)]) rfl (j52 x3 h)
        · have h := oi_t h c_4
          refine kv_aload_n C 0 dX10_isAttacked_16 rfl rfl ?_
          refine kv_get C (Cn := RX10) (T := TX10) (N := 31) 0 1 hin10 rfl rfl (by decide) (C.ts _ (List.mem_cons_of_mem _ lf_RX10_7)) rfl rfl dX10_isAttacked_17 ?_
          refine kv_iload C 4 dX10_isAttacked_20 rfl ?_
          obtain ⟨g_5, h⟩ := oin_e h
          refine kv_iald C 1 0 rfl rfl g_5 dX10_isAttacked_22 ?_
          refine kv_iload_n C 2 dX10_isAttacked_23 rfl rfl ?_
          obtain ⟨r_6, hm_7, h⟩ := ob_e h
          refine kv_callS0i C [.int (a_board x4.toNatClampNeg), .int x2] (c_X10_isSide l D (a_board x4.toNatClampNeg) x2 r_6 hm_7) (cs_X10_isSide C.ts lm_RX10_86 ⟨Nat.le_of_ble_eq_true rfl, Nat.le_of_ble_eq_true rfl⟩) rfl rfl (Nat.le_of_ble_eq_true rfl) dX10_isAttacked_24 ⟨Nat.zero_le _, Nat.zero_le _⟩ ?_
          refine kv_if_eq C 44 dX10_isAttacked_27 (by decide) (fun c_8 => ?_) (fun c_8 => ?_)
          · have h := oi_t h c_8
            exact kv_lv [0, 1, 2, 4] (lv2 := [(0, .ref h0), (1, .int x1), (2, .int x2), (4, .int x4)]) rfl (j44 x1 x2 x4 h)
          · have h := oi_f h c_8
            refine kv_aload_n C 0 dX10_isAttacked_30 rfl rfl ?_
            refine kv_iload C 4 dX10_isAttacked_31 rfl ?_
            refine kv_iload_n C 1 dX10_isAttacked_33 rfl rfl ?_
            obtain ⟨r_9, hm_10, h⟩ := ob_e h
            refine kv_callWi C [.int x4, .int x1] 0 (c_X10_reaches l D h0 q cI v_code v_side v_rights v_passed v_halves v_number v_top v_typedCount v_readAt v_place v_writtenCount v_chosenFrom v_chosenTo v_chosenTurn v_changed v_readSide v_readRights v_readPassed v_readHalves v_readNumber a_board a_before a_typed a_written a_froms a_tos a_turns a_counts a_changedSquare a_changedMan a_readBoard x4 x1 r_9 hm_10) (cv_X10_reaches C.ts lm_RX10_89 ⟨Nat.le_of_ble_eq_true rfl, Nat.le_of_ble_eq_true rfl⟩) rfl rfl rfl rfl (Nat.le_of_ble_eq_true rfl) dX10_isAttacked_34 ⟨Nat.zero_le _, Nat.zero_le _⟩ ?_
            refine kv_if_eq C 44 dX10_isAttacked_37 (by decide) (fun c_11 => ?_) (fun c_11 => ?_)
            · have h := oi_t h c_11
              exact kv_lv [0, 1, 2, 4] (lv2 := [(0, .ref h0), (1, .int x1), (2, .int x2), (4, .int x4)]) rfl (j44 x1 x2 x4 h)
            · have h := oi_f h c_11
              refine kv_iconst C 1 dX10_isAttacked_40 (by decide) ?_
              refine kv_goto C 45 dX10_isAttacked_41 (by decide) ?_
              exact kv_lv [0, 1, 2, 4] (lv2 := [(0, .ref h0), (1, .int x1), (2, .int x2), (4, .int x4)]) rfl (j45 x1 x2 x4 1 h)
  unfold m_X10_isAttacked at hm
  have h := hm
  refine kv_lv [0, 1, 2] (lv2 := [(0, .ref h0), (1, .int p0), (2, .int p1)]) rfl ?_
  refine kv_iconst C 0 dX10_isAttacked_0 (by decide) ?_
  refine kv_istore_n C (lv2 := [(0, .ref h0), (1, .int p0), (2, .int p1), (3, .int 0)]) [1, 2, 3, 0] dX10_isAttacked_1 rfl (by decide) rfl rfl ?_
  refine kv_iconst C 0 dX10_isAttacked_2 (by decide) ?_
  refine kv_istore C (lv2 := [(0, .ref h0), (1, .int p0), (2, .int p1), (3, .int 0), (4, .int 0)]) [1, 2, 3, 4, 0] dX10_isAttacked_3 (by decide) rfl rfl ?_
  exact kv_lv [0, 1, 2, 3, 4] (lv2 := [(0, .ref h0), (1, .int p0), (2, .int p1), (3, .int 0), (4, .int 0)]) rfl (l5 kF p0 p1 0 0 h)
def m_X10_inCheck_b35 (k4 : Int32 → Int32 → Int32 → Option (Int32)) (a_board : Nat → Int32) (x1 : Int32) (x3 : Int32) (t0 : Int32) : Option (Int32) := ol (x3 + 1) fun x3_1 => k4 x1 t0 x3_1
def m_X10_inCheck_b27 (k4 : Int32 → Int32 → Int32 → Option (Int32)) (a_board : Nat → Int32) (x1 : Int32) (x2 : Int32) (x3 : Int32) (t0 : Int32) (t1 : Int32) : Option (Int32) := if t0 = t1 then m_X10_inCheck_b35 k4 a_board x1 x3 x3 else m_X10_inCheck_b35 k4 a_board x1 x3 x2
def m_X10_inCheck_b4 (k4 : Int32 → Int32 → Int32 → Option (Int32)) (a_board : Nat → Int32) (x1 : Int32) (x2 : Int32) (x3 : Int32) : Option (Int32) := if 64 ≤ x3 then ob (m_X10_isAttacked a_board x2 (1 - x1)) fun r_4 => obl (r_4) (some r_4) else oin (x3) 64 (if x1 = 0 then m_X10_inCheck_b27 k4 a_board x1 x2 x3 (a_board x3.toNatClampNeg) 6 else m_X10_inCheck_b27 k4 a_board x1 x2 x3 (a_board x3.toNatClampNeg) (-6))
def m_X10_inCheck_l4 (a_board : Nat → Int32) (n : Nat) : Int32 → Int32 → Int32 → Option (Int32) := fz (fun _ _ _ => none) (fun k4 x1 x2 x3 => m_X10_inCheck_b4 k4 a_board x1 x2 x3) n
def m_X10_inCheck (a_board : Nat → Int32) (p0 : Int32) : Option (Int32) := m_X10_inCheck_l4 a_board kF p0 0 0
abbrev rm_X10_inCheck : Room := { frames := 4, cells := 0, slots := 0, locals := 99 }
abbrev wy_X10_inCheck : List Cond := .code yX10_inCheck cX10_inCheck 4 (some .boolean) :: gT
theorem cv_X10_inCheck {R : Room} {s : State} {args : Array Value} {own : String} {index : Nat} {w0 : Cond} (hts : ∀ w ∈ w0 :: gT, w.before args s = true) (hl : Cond.methodLink own index yX10_inCheck ∈ gT) (hR : 4 + 1 ≤ R.frames ∧ 8 + (4 + 11) + 99 ≤ R.locals) : CallW R s args own RX10 index yX10_inCheck cX10_inCheck 4 (some .boolean) wy_X10_inCheck rm_X10_inCheck 0 0 1 :=
  cwV 1 hts (gT_call w0 (pre := [.methodLink own index yX10_inCheck, .instanceMethod yX10_inCheck, .selects RX10 yX10_inCheck yX10_inCheck, .initialized RX10]) (gT_lc hl (gT_lc ly_yX10_inCheck (gT_lc lx_yX10_inCheck (gT_l1 li_RX10)))) lc_yX10_inCheck) rfl rfl rfl (by decide +kernel) hR
set_option maxRecDepth 100000 in
set_option maxHeartbeats 4000000 in
theorem c_X10_inCheck (l : Launch) (D : va_G) (h0 : Nat) (q : Nat → Nat) (cI : ClassId) (v_code : Int32) (v_side : Int32) (v_rights : Int32) (v_passed : Int32) (v_halves : Int32) (v_number : Int32) (v_top : Int32) (v_typedCount : Int32) (v_readAt : Int32) (v_place : Int32) (v_writtenCount : Int32) (v_chosenFrom : Int32) (v_chosenTo : Int32) (v_chosenTurn : Int32) (v_changed : Int32) (v_readSide : Int32) (v_readRights : Int32) (v_readPassed : Int32) (v_readHalves : Int32) (v_readNumber : Int32) (a_board : Nat → Int32) (a_before : Nat → Int32) (a_typed : Nat → Int32) (a_written : Nat → Int32) (a_froms : Nat → Int32) (a_tos : Nat → Int32) (a_turns : Nat → Int32) (a_counts : Nat → Int32) (a_changedSquare : Nat → Int32) (a_changedMan : Nat → Int32) (a_readBoard : Nat → Int32) (p0 : Int32) (rv : Int32) (hm : m_X10_inCheck a_board p0 = some rv) : kDi l yX10_inCheck wy_X10_inCheck rm_X10_inCheck D [(cI, .int)] rv (wM h0 q cI v_code v_side v_rights v_passed v_halves v_number v_top v_typedCount v_readAt v_place v_writtenCount v_chosenFrom v_chosenTo v_chosenTurn v_changed v_readSide v_readRights v_readPassed v_readHalves v_readNumber a_board a_before a_typed a_written a_froms a_tos a_turns a_counts a_changedSquare a_changedMan a_readBoard) (wM h0 q cI v_code v_side v_rights v_passed v_halves v_number v_top v_typedCount v_readAt v_place v_writtenCount v_chosenFrom v_chosenTo v_chosenTurn v_changed v_readSide v_readRights v_readPassed v_readHalves v_readNumber a_board a_before a_typed a_written a_froms a_tos a_turns a_counts a_changedSquare a_changedMan a_readBoard) [.ref h0, .int p0] := by
  refine kDi.of cX10_inCheck 4 (some .boolean) (by decide) rfl (Or.inr rfl) (Nat.le_of_ble_eq_true rfl) ?_
  intro p e s m below meth c A Q C hret
  have hin10 : ∀ w ∈ wsX100, w ∈ wy_X10_inCheck := fun w h => List.mem_cons_of_mem _ (inG10 w h)
  have l4 : ∀ (n4 : Nat) (x1 : Int32) (x2 : Int32) (x3 : Int32), m_X10_inCheck_l4  a_board n4 x1 x2 x3 = some rv → kv p l e rm_X10_inCheck s m ([.ref h0, .int p0] : List Value).toArray below meth c D A 4 0 0 Q (wM h0 q cI v_code v_side v_rights v_passed v_halves v_number v_top v_typedCount v_readAt v_place v_writtenCount v_chosenFrom v_chosenTo v_chosenTurn v_changed v_readSide v_readRights v_readPassed v_readHalves v_readNumber a_board a_before a_typed a_written a_froms a_tos a_turns a_counts a_changedSquare a_changedMan a_readBoard) [(0, .ref h0), (1, .int x1), (2, .int x2), (3, .int x3)] 4 [] := by
    intro n4
    induction n4 with
    | zero =>
      intro x1 x2 x3 h
      exact kv_no h
    | succ n4 ih4 =>
      have j35 : ∀ (x1 : Int32) (x3 : Int32) (t0 : Int32), m_X10_inCheck_b35 (m_X10_inCheck_l4  a_board n4) a_board x1 x3 t0 = some rv → kv p l e rm_X10_inCheck s m ([.ref h0, .int p0] : List Value).toArray below meth c D A 4 0 0 Q (wM h0 q cI v_code v_side v_rights v_passed v_halves v_number v_top v_typedCount v_readAt v_place v_writtenCount v_chosenFrom v_chosenTo v_chosenTurn v_changed v_readSide v_readRights v_readPassed v_readHalves v_readNumber a_board a_before a_typed a_written a_froms a_tos a_turns a_counts a_changedSquare a_changedMan a_readBoard) [(0, .ref h0), (1, .int x1), (3, .int x3)] 35 [.int t0] := by
        intro x1 x3 t0 h
        unfold m_X10_inCheck_b35 at h
        refine kv_istore_n C (lv2 := [(0, .ref h0), (1, .int x1), (2, .int t0), (3, .int x3)]) [1, 2, 0, 3] dX10_inCheck_35 rfl (by decide) rfl rfl ?_
        obtain ⟨x3_1, ex3_1, h⟩ := ol_e h
        refine kv_iinc C (v := x3_1) (lv2 := [(0, .ref h0), (1, .int x1), (2, .int t0), (3, .int x3_1)]) 3 [1, 2, 3, 0] dX10_inCheck_36 rfl ex3_1.symm (by decide) rfl rfl ?_
        refine kv_goto C 4 dX10_inCheck_39 (by decide) ?_
        exact kv_lv [0, 1, 2, 3] (lv2 := [(0, .ref h0), (1, .int x1), (2, .int t0), (3, .int x3_1)]) rfl (ih4 x1 t0 x3_1 h)
      have j27 : ∀ (x1 : Int32) (x2 : Int32) (x3 : Int32) (t0 : Int32) (t1 : Int32), m_X10_inCheck_b27 (m_X10_inCheck_l4  a_board n4) a_board x1 x2 x3 t0 t1 = some rv → kv p l e rm_X10_inCheck s m ([.ref h0, .int p0] : List Value).toArray below meth c D A 4 0 0 Q (wM h0 q cI v_code v_side v_rights v_passed v_halves v_number v_top v_typedCount v_readAt v_place v_writtenCount v_chosenFrom v_chosenTo v_chosenTurn v_changed v_readSide v_readRights v_readPassed v_readHalves v_readNumber a_board a_before a_typed a_written a_froms a_tos a_turns a_counts a_changedSquare a_changedMan a_readBoard) [(0, .ref h0), (1, .int x1), (2, .int x2), (3, .int x3)] 27 [.int t1, .int t0] := by
        intro x1 x2 x3 t0 t1 h
        unfold m_X10_inCheck_b27 at h
        refine kv_icmp_ne C 34 dX10_inCheck_27 (by decide) (fun c_2 => ?_) (fun c_2 => ?_)
        · have h := oi_f h c_2
          refine kv_iload_n C 2 dX10_inCheck_34 rfl rfl ?_
          exact kv_lv [0, 1, 3] (lv2 := [(0, .ref h0), (1, .int x1), (3, .int x3)]) rfl (j35 x1 x3 x2 h)
        · have h := oi_t h c_2
          refine kv_iload_n C 3 dX10_inCheck_30 rfl rfl ?_
          refine kv_goto C 35 dX10_inCheck_31 (by decide) ?_
          exact kv_lv [0, 1, 3] (lv2 := [(0, .ref h0), (1, .int x1), (3, .int x3)]) rfl (j35 x1 x3 x3 h)
      intro x1 x2 x3 h
      replace h : m_X10_inCheck_b4  (m_X10_inCheck_l4  a_board n4) a_board x1 x2 x3 = some rv := h
      unfold m_X10_inCheck_b4 at h
      refine kv_iload_n C 3 dX10_inCheck_4 rfl rfl ?_
      refine kv_bipush C 64 dX10_inCheck_5 (by decide) ?_
      refine kv_icmp_ge C 42 dX10_inCheck_7 (by decide) (fun c_3 => ?_) (fun c_3 => ?_)
      · have h := oi_t h c_3
        refine kv_aload_n C 0 dX10_inCheck_42 rfl rfl ?_
        refine kv_iload_n C 2 dX10_inCheck_43 rfl rfl ?_
        refine kv_iconst C 1 dX10_inCheck_44 (by decide) ?_
        refine kv_iload_n C 1 dX10_inCheck_45 rfl rfl ?_
        refine kv_isub C dX10_inCheck_46 ?_
        obtain ⟨r_4, hm_5, h⟩ := ob_e h
        refine kv_callWi C [.int x2, .int (1 - x1)] 0 (c_X10_isAttacked l D h0 q cI v_code v_side v_rights v_passed v_halves v_number v_top v_typedCount v_readAt v_place v_writtenCount v_chosenFrom v_chosenTo v_chosenTurn v_changed v_readSide v_readRights v_readPassed v_readHalves v_readNumber a_board a_before a_typed a_written a_froms a_tos a_turns a_counts a_changedSquare a_changedMan a_readBoard x2 (1 - x1) r_4 hm_5) (cv_X10_isAttacked C.ts lm_RX10_92 ⟨Nat.le_of_ble_eq_true rfl, Nat.le_of_ble_eq_true rfl⟩) rfl rfl rfl rfl (Nat.le_of_ble_eq_true rfl) dX10_inCheck_47 ⟨Nat.zero_le _, Nat.zero_le _⟩ ?_
        obtain ⟨g_6, h⟩ := obl_e h
        cases h
        exact hret _ _ dX10_inCheck_50 (fun _ => g_6)
      · have h := oi_f h c_3
        refine kv_aload_n C 0 dX10_inCheck_10 rfl rfl ?_
        refine kv_get C (Cn := RX10) (T := TX10) (N := 31) 0 1 hin10 rfl rfl (by decide) (C.ts _ (List.mem_cons_of_mem _ lf_RX10_7)) rfl rfl dX10_inCheck_11 ?_
        refine kv_iload_n C 3 dX10_inCheck_14 rfl rfl ?_
        obtain ⟨g_7, h⟩ := oin_e h
        refine kv_iald C 1 0 rfl rfl g_7 dX10_inCheck_15 ?_
        refine kv_iload_n C 1 dX10_inCheck_16 rfl rfl ?_
        refine kv_if_ne C 25 dX10_inCheck_17 (by decide) (fun c_8 => ?_) (fun c_8 => ?_)
        · have h := oi_f h c_8
          refine kv_bipush C (-6) dX10_inCheck_25 (by decide) ?_
          exact kv_lv [0, 1, 2, 3] (lv2 := [(0, .ref h0), (1, .int x1), (2, .int x2), (3, .int x3)]) rfl (j27 x1 x2 x3 (a_board x3.toNatClampNeg) (-6) h)
        · have h := oi_t h c_8
          refine kv_bipush C 6 dX10_inCheck_20 (by decide) ?_
          refine kv_goto C 27 dX10_inCheck_22 (by decide) ?_
          exact kv_lv [0, 1, 2, 3] (lv2 := [(0, .ref h0), (1, .int x1), (2, .int x2), (3, .int x3)]) rfl (j27 x1 x2 x3 (a_board x3.toNatClampNeg) 6 h)
  unfold m_X10_inCheck at hm
  have h := hm
  refine kv_lv [0, 1] (lv2 := [(0, .ref h0), (1, .int p0)]) rfl ?_
  refine kv_iconst C 0 dX10_inCheck_0 (by decide) ?_
  refine kv_istore_n C (lv2 := [(0, .ref h0), (1, .int p0), (2, .int 0)]) [1, 2, 0] dX10_inCheck_1 rfl (by decide) rfl rfl ?_
  refine kv_iconst C 0 dX10_inCheck_2 (by decide) ?_
  refine kv_istore_n C (lv2 := [(0, .ref h0), (1, .int p0), (2, .int 0), (3, .int 0)]) [1, 2, 3, 0] dX10_inCheck_3 rfl (by decide) rfl rfl ?_
  exact kv_lv [0, 1, 2, 3] (lv2 := [(0, .ref h0), (1, .int p0), (2, .int 0), (3, .int 0)]) rfl (l4 kF p0 0 0 h)
