/-! X10: X10_chosen, X10_waysOne, X10_waysTwo, X10_waysThree, X10_ways, X10_moves, X10_move, X10_play, X10_back, X10_man, X10_about, X10_attacked -/
def m_X10_chosen_b56 (v_code : Int32) (v_chosenFrom : Int32) (v_chosenTo : Int32) (v_chosenTurn : Int32) (t0 : Int32) : Option (Int32 × Int32) := some (t0, v_code)
def m_X10_chosen_b15 (v_code : Int32) (v_chosenFrom : Int32) (v_chosenTo : Int32) (v_chosenTurn : Int32) (x1 : Int32) (t1 : Int32) : Option (Int32 × Int32) := if t1 ≤ 0 then if x1 = 0 then m_X10_chosen_b56 t1 v_chosenFrom v_chosenTo v_chosenTurn v_chosenFrom else if x1 = 1 then m_X10_chosen_b56 t1 v_chosenFrom v_chosenTo v_chosenTurn v_chosenTo else m_X10_chosen_b56 t1 v_chosenFrom v_chosenTo v_chosenTurn v_chosenTurn else m_X10_chosen_b56 t1 v_chosenFrom v_chosenTo v_chosenTurn 0
def m_X10_chosen_b10 (v_code : Int32) (v_chosenFrom : Int32) (v_chosenTo : Int32) (v_chosenTurn : Int32) (x1 : Int32) : Option (Int32 × Int32) := m_X10_chosen_b15 v_code v_chosenFrom v_chosenTo v_chosenTurn x1 1
def m_X10_chosen (v_code : Int32) (v_chosenFrom : Int32) (v_chosenTo : Int32) (v_chosenTurn : Int32) (p0 : Int32) : Option (Int32 × Int32) := if p0 < 0 then m_X10_chosen_b10 v_code v_chosenFrom v_chosenTo v_chosenTurn p0 else if p0 ≤ 2 then m_X10_chosen_b15 v_code v_chosenFrom v_chosenTo v_chosenTurn p0 0 else m_X10_chosen_b10 v_code v_chosenFrom v_chosenTo v_chosenTurn p0
abbrev rm_X10_chosen : Room := { frames := 0, cells := 0, slots := 0, locals := 0 }
abbrev wy_X10_chosen : List Cond := .code yX10_chosen cX10_chosen 2 (some .int) :: gT
theorem cv_X10_chosen {R : Room} {s : State} {args : Array Value} {own : String} {index : Nat} {w0 : Cond} (hts : ∀ w ∈ w0 :: gT, w.before args s = true) (hl : Cond.methodLink own index yX10_chosen ∈ gT) (hR : 0 + 1 ≤ R.frames ∧ 8 + (2 + 11) + 0 ≤ R.locals) : CallW R s args own RX10 index yX10_chosen cX10_chosen 2 (some .int) wy_X10_chosen rm_X10_chosen 0 0 1 :=
  cwV 1 hts (gT_call w0 (pre := [.methodLink own index yX10_chosen, .instanceMethod yX10_chosen, .selects RX10 yX10_chosen yX10_chosen, .initialized RX10]) (gT_lc hl (gT_lc ly_yX10_chosen (gT_lc lx_yX10_chosen (gT_l1 li_RX10)))) lc_yX10_chosen) rfl rfl rfl (by decide +kernel) hR
set_option maxRecDepth 100000 in
set_option maxHeartbeats 4000000 in
theorem c_X10_chosen (l : Launch) (D : va_G) (h0 : Nat) (q : Nat → Nat) (cI : ClassId) (v_code : Int32) (v_side : Int32) (v_rights : Int32) (v_passed : Int32) (v_halves : Int32) (v_number : Int32) (v_top : Int32) (v_typedCount : Int32) (v_readAt : Int32) (v_place : Int32) (v_writtenCount : Int32) (v_chosenFrom : Int32) (v_chosenTo : Int32) (v_chosenTurn : Int32) (v_changed : Int32) (v_readSide : Int32) (v_readRights : Int32) (v_readPassed : Int32) (v_readHalves : Int32) (v_readNumber : Int32) (a_board : Nat → Int32) (a_before : Nat → Int32) (a_typed : Nat → Int32) (a_written : Nat → Int32) (a_froms : Nat → Int32) (a_tos : Nat → Int32) (a_turns : Nat → Int32) (a_counts : Nat → Int32) (a_changedSquare : Nat → Int32) (a_changedMan : Nat → Int32) (a_readBoard : Nat → Int32) (p0 : Int32) (rv : Int32) (v_code' : Int32) (hm : m_X10_chosen v_code v_chosenFrom v_chosenTo v_chosenTurn p0 = some (rv, v_code')) : kDi l yX10_chosen wy_X10_chosen rm_X10_chosen D [(cI, .int)] rv (wM h0 q cI v_code v_side v_rights v_passed v_halves v_number v_top v_typedCount v_readAt v_place v_writtenCount v_chosenFrom v_chosenTo v_chosenTurn v_changed v_readSide v_readRights v_readPassed v_readHalves v_readNumber a_board a_before a_typed a_written a_froms a_tos a_turns a_counts a_changedSquare a_changedMan a_readBoard) (wM h0 q cI v_code' v_side v_rights v_passed v_halves v_number v_top v_typedCount v_readAt v_place v_writtenCount v_chosenFrom v_chosenTo v_chosenTurn v_changed v_readSide v_readRights v_readPassed v_readHalves v_readNumber a_board a_before a_typed a_written a_froms a_tos a_turns a_counts a_changedSquare a_changedMan a_readBoard) [.ref h0, .int p0] := by
  refine kDi.of cX10_chosen 2 (some .int) (by decide) rfl (Or.inl rfl) (Nat.le_of_ble_eq_true rfl) ?_
  intro p e s m below meth c A Q C hret
  have hin10 : ∀ w ∈ wsX100, w ∈ wy_X10_chosen := fun w h => List.mem_cons_of_mem _ (inG10 w h)
  have j56 : ∀ (v_code : Int32) (t0 : Int32), m_X10_chosen_b56  v_code v_chosenFrom v_chosenTo v_chosenTurn t0 = some (rv, v_code') → kv p l e rm_X10_chosen s m ([.ref h0, .int p0] : List Value).toArray below meth c D A 2 0 0 Q (wM h0 q cI v_code v_side v_rights v_passed v_halves v_number v_top v_typedCount v_readAt v_place v_writtenCount v_chosenFrom v_chosenTo v_chosenTurn v_changed v_readSide v_readRights v_readPassed v_readHalves v_readNumber a_board a_before a_typed a_written a_froms a_tos a_turns a_counts a_changedSquare a_changedMan a_readBoard) [] 56 [.int t0] := by
    intro v_code t0 h
    unfold m_X10_chosen_b56 at h
    cases h
    exact hret _ _ dX10_chosen_56 (fun q => by cases q)
  have j15 : ∀ (v_code : Int32) (x1 : Int32) (t1 : Int32), m_X10_chosen_b15  v_code v_chosenFrom v_chosenTo v_chosenTurn x1 t1 = some (rv, v_code') → kv p l e rm_X10_chosen s m ([.ref h0, .int p0] : List Value).toArray below meth c D A 2 0 0 Q (wM h0 q cI v_code v_side v_rights v_passed v_halves v_number v_top v_typedCount v_readAt v_place v_writtenCount v_chosenFrom v_chosenTo v_chosenTurn v_changed v_readSide v_readRights v_readPassed v_readHalves v_readNumber a_board a_before a_typed a_written a_froms a_tos a_turns a_counts a_changedSquare a_changedMan a_readBoard) [(0, .ref h0), (1, .int x1)] 15 [.int t1, .ref h0] := by
    intro v_code x1 t1 h
    unfold m_X10_chosen_b15 at h
    refine kv_put C (Cn := RX10) (T := TX10) (N := 31) (ty := .int) (ws1 := (wM h0 q cI t1 v_side v_rights v_passed v_halves v_number v_top v_typedCount v_readAt v_place v_writtenCount v_chosenFrom v_chosenTo v_chosenTurn v_changed v_readSide v_readRights v_readPassed v_readHalves v_readNumber a_board a_before a_typed a_written a_froms a_tos a_turns a_counts a_changedSquare a_changedMan a_readBoard)) 0 0 hin10 tyX10 tyX10_ok nmX10 rfl rfl (by decide) (C.ts _ (List.mem_cons_of_mem _ lf_RX10_66)) rfl rfl (by decide +kernel) rfl rfl (Nat.le_of_ble_eq_true rfl) rfl dX10_chosen_15 ?_
    refine kv_aload_n C 0 dX10_chosen_18 rfl rfl ?_
    refine kv_get C (Cn := RX10) (T := TX10) (N := 31) 0 0 hin10 rfl rfl (by decide) (C.ts _ (List.mem_cons_of_mem _ lf_RX10_66)) rfl rfl dX10_chosen_19 ?_
    refine kv_if_le C 29 dX10_chosen_22 (by decide) (fun c_1 => ?_) (fun c_1 => ?_)
    · have h := oi_t h c_1
      refine kv_iload_n C 1 dX10_chosen_29 rfl rfl ?_
      refine kv_if_ne C 40 dX10_chosen_30 (by decide) (fun c_2 => ?_) (fun c_2 => ?_)
      · have h := oi_f h c_2
        refine kv_iload_n C 1 dX10_chosen_40 rfl rfl ?_
        refine kv_iconst C 1 dX10_chosen_41 (by decide) ?_
        refine kv_icmp_ne C 52 dX10_chosen_42 (by decide) (fun c_3 => ?_) (fun c_3 => ?_)
        · have h := oi_f h c_3
          refine kv_aload_n C 0 dX10_chosen_52 rfl rfl ?_
          refine kv_get C (Cn := RX10) (T := TX10) (N := 31) 0 21 hin10 rfl rfl (by decide) (C.ts _ (List.mem_cons_of_mem _ lf_RX10_48)) rfl rfl dX10_chosen_53 ?_
          exact kv_lv [] (lv2 := []) rfl (j56 t1 v_chosenTurn h)
        · have h := oi_t h c_3
          refine kv_aload_n C 0 dX10_chosen_45 rfl rfl ?_
          refine kv_get C (Cn := RX10) (T := TX10) (N := 31) 0 20 hin10 rfl rfl (by decide) (C.ts _ (List.mem_cons_of_mem _ lf_RX10_45)) rfl rfl dX10_chosen_46 ?_
          refine kv_goto C 56 dX10_chosen_49 (by decide) ?_
          exact kv_lv [] (lv2 := []) rfl (j56 t1 v_chosenTo h)
      · have h := oi_t h c_2
        refine kv_aload_n C 0 dX10_chosen_33 rfl rfl ?_
        refine kv_get C (Cn := RX10) (T := TX10) (N := 31) 0 19 hin10 rfl rfl (by decide) (C.ts _ (List.mem_cons_of_mem _ lf_RX10_42)) rfl rfl dX10_chosen_34 ?_
        refine kv_goto C 56 dX10_chosen_37 (by decide) ?_
        exact kv_lv [] (lv2 := []) rfl (j56 t1 v_chosenFrom h)
    · have h := oi_f h c_1
      refine kv_iconst C 0 dX10_chosen_25 (by decide) ?_
      refine kv_goto C 56 dX10_chosen_26 (by decide) ?_
      exact kv_lv [] (lv2 := []) rfl (j56 t1 0 h)
  have j10 : ∀ (v_code : Int32) (x1 : Int32), m_X10_chosen_b10  v_code v_chosenFrom v_chosenTo v_chosenTurn x1 = some (rv, v_code') → kv p l e rm_X10_chosen s m ([.ref h0, .int p0] : List Value).toArray below meth c D A 2 0 0 Q (wM h0 q cI v_code v_side v_rights v_passed v_halves v_number v_top v_typedCount v_readAt v_place v_writtenCount v_chosenFrom v_chosenTo v_chosenTurn v_changed v_readSide v_readRights v_readPassed v_readHalves v_readNumber a_board a_before a_typed a_written a_froms a_tos a_turns a_counts a_changedSquare a_changedMan a_readBoard) [(0, .ref h0), (1, .int x1)] 10 [.ref h0] := by
    intro v_code x1 h
    unfold m_X10_chosen_b10 at h
    refine kv_iconst C 1 dX10_chosen_10 (by decide) ?_
    refine kv_goto C 15 dX10_chosen_11 (by decide) ?_
    exact kv_lv [0, 1] (lv2 := [(0, .ref h0), (1, .int x1)]) rfl (j15 v_code x1 1 h)
  unfold m_X10_chosen at hm
  have h := hm
  refine kv_lv [0, 1] (lv2 := [(0, .ref h0), (1, .int p0)]) rfl ?_
  refine kv_aload_n C 0 dX10_chosen_0 rfl rfl ?_
  refine kv_iload_n C 1 dX10_chosen_1 rfl rfl ?_
  refine kv_if_lt C 10 dX10_chosen_2 (by decide) (fun c_4 => ?_) (fun c_4 => ?_)
  · have h := oi_t h c_4
    exact kv_lv [0, 1] (lv2 := [(0, .ref h0), (1, .int p0)]) rfl (j10 v_code p0 h)
  · have h := oi_f h c_4
    refine kv_iload_n C 1 dX10_chosen_5 rfl rfl ?_
    refine kv_iconst C 2 dX10_chosen_6 (by decide) ?_
    refine kv_icmp_le C 14 dX10_chosen_7 (by decide) (fun c_5 => ?_) (fun c_5 => ?_)
    · have h := oi_t h c_5
      refine kv_iconst C 0 dX10_chosen_14 (by decide) ?_
      exact kv_lv [0, 1] (lv2 := [(0, .ref h0), (1, .int p0)]) rfl (j15 v_code p0 0 h)
    · have h := oi_f h c_5
      exact kv_lv [0, 1] (lv2 := [(0, .ref h0), (1, .int p0)]) rfl (j10 v_code p0 h)
def m_X10_waysOne (v_side : Int32) (v_rights : Int32) (v_passed : Int32) (v_changed : Int32) (a_board : Nat → Int32) (a_froms : Nat → Int32) (a_tos : Nat → Int32) (a_turns : Nat → Int32) (a_counts : Nat → Int32) (a_changedSquare : Nat → Int32) (a_changedMan : Nat → Int32) : Option (Int32 × Int32 × (Nat → Int32) × (Nat → Int32) × (Nat → Int32) × (Nat → Int32) × (Nat → Int32) × (Nat → Int32) × (Nat → Int32)) := ob (m_X10_find v_side v_rights v_passed v_changed a_board a_froms a_tos a_turns a_counts a_changedSquare a_changedMan 1) fun (v_changed_1, a_board_2, a_froms_3, a_tos_4, a_turns_5, a_counts_6, a_changedSquare_7, a_changedMan_8) => some (a_counts_6 (Int32.toNatClampNeg 1), v_changed_1, a_board_2, a_froms_3, a_tos_4, a_turns_5, a_counts_6, a_changedSquare_7, a_changedMan_8)
abbrev rm_X10_waysOne : Room := { frames := 8, cells := 0, slots := 0, locals := 198 }
abbrev wy_X10_waysOne : List Cond := .code yX10_waysOne cX10_waysOne 1 (some .int) :: gT
theorem cv_X10_waysOne {R : Room} {s : State} {args : Array Value} {own : String} {index : Nat} {w0 : Cond} (hts : ∀ w ∈ w0 :: gT, w.before args s = true) (hl : Cond.methodLink own index yX10_waysOne ∈ gT) (hR : 8 + 1 ≤ R.frames ∧ 8 + (1 + 11) + 198 ≤ R.locals) : CallW R s args own RX10 index yX10_waysOne cX10_waysOne 1 (some .int) wy_X10_waysOne rm_X10_waysOne 0 0 0 :=
  cwV 0 hts (gT_call w0 (pre := [.methodLink own index yX10_waysOne, .instanceMethod yX10_waysOne, .selects RX10 yX10_waysOne yX10_waysOne, .initialized RX10]) (gT_lc hl (gT_lc ly_yX10_waysOne (gT_lc lx_yX10_waysOne (gT_l1 li_RX10)))) lc_yX10_waysOne) rfl rfl rfl (by decide +kernel) hR
set_option maxRecDepth 100000 in
set_option maxHeartbeats 4000000 in
theorem c_X10_waysOne (l : Launch) (D : va_G) (h0 : Nat) (q : Nat → Nat) (cI : ClassId) (v_code : Int32) (v_side : Int32) (v_rights : Int32) (v_passed : Int32) (v_halves : Int32) (v_number : Int32) (v_top : Int32) (v_typedCount : Int32) (v_readAt : Int32) (v_place : Int32) (v_writtenCount : Int32) (v_chosenFrom : Int32) (v_chosenTo : Int32) (v_chosenTurn : Int32) (v_changed : Int32) (v_readSide : Int32) (v_readRights : Int32) (v_readPassed : Int32) (v_readHalves : Int32) (v_readNumber : Int32) (a_board : Nat → Int32) (a_before : Nat → Int32) (a_typed : Nat → Int32) (a_written : Nat → Int32) (a_froms : Nat → Int32) (a_tos : Nat → Int32) (a_turns : Nat → Int32) (a_counts : Nat → Int32) (a_changedSquare : Nat → Int32) (a_changedMan : Nat → Int32) (a_readBoard : Nat → Int32) (rv : Int32) (v_changed' : Int32) (a_board' : Nat → Int32) (a_froms' : Nat → Int32) (a_tos' : Nat → Int32) (a_turns' : Nat → Int32) (a_counts' : Nat → Int32) (a_changedSquare' : Nat → Int32) (a_changedMan' : Nat → Int32) (hm : m_X10_waysOne v_side v_rights v_passed v_changed a_board a_froms a_tos a_turns a_counts a_changedSquare a_changedMan = some (rv, v_changed', a_board', a_froms', a_tos', a_turns', a_counts', a_changedSquare', a_changedMan')) : kDi l yX10_waysOne wy_X10_waysOne rm_X10_waysOne D [(cI, .int)] rv (wM h0 q cI v_code v_side v_rights v_passed v_halves v_number v_top v_typedCount v_readAt v_place v_writtenCount v_chosenFrom v_chosenTo v_chosenTurn v_changed v_readSide v_readRights v_readPassed v_readHalves v_readNumber a_board a_before a_typed a_written a_froms a_tos a_turns a_counts a_changedSquare a_changedMan a_readBoard) (wM h0 q cI v_code v_side v_rights v_passed v_halves v_number v_top v_typedCount v_readAt v_place v_writtenCount v_chosenFrom v_chosenTo v_chosenTurn v_changed' v_readSide v_readRights v_readPassed v_readHalves v_readNumber a_board' a_before a_typed a_written a_froms' a_tos' a_turns' a_counts' a_changedSquare' a_changedMan' a_readBoard) [.ref h0] := by
  refine kDi.of cX10_waysOne 1 (some .int) (by decide) rfl (Or.inl rfl) (Nat.le_of_ble_eq_true rfl) ?_
  intro p e s m below meth c A Q C hret
  have hin10 : ∀ w ∈ wsX100, w ∈ wy_X10_waysOne := fun w h => List.mem_cons_of_mem _ (inG10 w h)
  unfold m_X10_waysOne at hm
  have h := hm
  refine kv_lv [0] (lv2 := [(0, .ref h0)]) rfl ?_
  refine kv_aload_n C 0 dX10_waysOne_0 rfl rfl ?_
  refine kv_iconst C 1 dX10_waysOne_1 (by decide) ?_
  obtain ⟨⟨v_changed_1, a_board_2, a_froms_3, a_tos_4, a_turns_5, a_counts_6, a_changedSquare_7, a_changedMan_8⟩, hm_9, h⟩ := ob_e h
  replace h : _ = _ := h
  refine kv_callWv C [.int 1] 0 (c_X10_find l D h0 q cI v_code v_side v_rights v_passed v_halves v_number v_top v_typedCount v_readAt v_place v_writtenCount v_chosenFrom v_chosenTo v_chosenTurn v_changed v_readSide v_readRights v_readPassed v_readHalves v_readNumber a_board a_before a_typed a_written a_froms a_tos a_turns a_counts a_changedSquare a_changedMan a_readBoard 1 v_changed_1 a_board_2 a_froms_3 a_tos_4 a_turns_5 a_counts_6 a_changedSquare_7 a_changedMan_8 hm_9) (cv_X10_find C.ts lm_RX10_158 ⟨Nat.le_of_ble_eq_true rfl, Nat.le_of_ble_eq_true rfl⟩) rfl rfl rfl rfl (Nat.le_of_ble_eq_true rfl) dX10_waysOne_2 ⟨Nat.zero_le _, Nat.zero_le _⟩ ?_
  refine kv_aload_n C 0 dX10_waysOne_5 rfl rfl ?_
  refine kv_get C (Cn := RX10) (T := TX10) (N := 31) 0 18 hin10 rfl rfl (by decide) (C.ts _ (List.mem_cons_of_mem _ lf_RX10_39)) rfl rfl dX10_waysOne_6 ?_
  refine kv_iconst C 1 dX10_waysOne_9 (by decide) ?_
  refine kv_iald C 8 0 rfl rfl (by unfold vp_in; decide) dX10_waysOne_10 ?_
  cases h
  exact hret _ _ dX10_waysOne_11 (fun q => by cases q)
def m_X10_waysTwo_b9 (k9 : Int32 → Int32 → Int32 → Int32 → Int32 → Int32 → Int32 → (Nat → Int32) → (Nat → Int32) → (Nat → Int32) → (Nat → Int32) → (Nat → Int32) → (Nat → Int32) → (Nat → Int32) → (Nat → Int32) → Int32 → Int32 → Option (Int32 × Int32 × Int32 × Int32 × Int32 × Int32 × Int32 × Int32 × (Nat → Int32) × (Nat → Int32) × (Nat → Int32) × (Nat → Int32) × (Nat → Int32) × (Nat → Int32) × (Nat → Int32) × (Nat → Int32))) (v_side : Int32) (v_rights : Int32) (v_passed : Int32) (v_halves : Int32) (v_number : Int32) (v_top : Int32) (v_changed : Int32) (a_board : Nat → Int32) (a_before : Nat → Int32) (a_froms : Nat → Int32) (a_tos : Nat → Int32) (a_turns : Nat → Int32) (a_counts : Nat → Int32) (a_changedSquare : Nat → Int32) (a_changedMan : Nat → Int32) (x1 : Int32) (x2 : Int32) : Option (Int32 × Int32 × Int32 × Int32 × Int32 × Int32 × Int32 × Int32 × (Nat → Int32) × (Nat → Int32) × (Nat → Int32) × (Nat → Int32) × (Nat → Int32) × (Nat → Int32) × (Nat → Int32) × (Nat → Int32)) := if (a_counts (Int32.toNatClampNeg 2)) ≤ x2 then some (x1, v_side, v_rights, v_passed, v_halves, v_number, v_top, v_changed, a_board, a_before, a_froms, a_tos, a_turns, a_counts, a_changedSquare, a_changedMan) else ob (m_X10_makeMove v_side v_rights v_passed v_halves v_number v_top v_changed a_board a_before a_froms a_tos a_turns a_changedSquare a_changedMan 2 x2) fun (v_side_2, v_rights_3, v_passed_4, v_halves_5, v_number_6, v_top_7, v_changed_8, a_board_9, a_before_10, a_changedSquare_11, a_changedMan_12) => ob (m_X10_waysOne v_side_2 v_rights_3 v_passed_4 v_changed_8 a_board_9 a_froms a_tos a_turns a_counts a_changedSquare_11 a_changedMan_12 ) fun (r_15, v_changed_16, a_board_17, a_froms_18, a_tos_19, a_turns_20, a_counts_21, a_changedSquare_22, a_changedMan_23) => ol (x1 + r_15) fun x1_26 => ob (m_X10_pop v_side_2 v_rights_3 v_passed_4 v_halves_5 v_number_6 v_top_7 a_board_17 a_before_10 ) fun (v_side_27, v_rights_28, v_passed_29, v_halves_30, v_number_31, v_top_32, a_board_33) => ol (x2 + 1) fun x2_36 => k9 v_side_27 v_rights_28 v_passed_29 v_halves_30 v_number_31 v_top_32 v_changed_16 a_board_33 a_before_10 a_froms_18 a_tos_19 a_turns_20 a_counts_21 a_changedSquare_22 a_changedMan_23 x1_26 x2_36
def m_X10_waysTwo_l9 (n : Nat) : Int32 → Int32 → Int32 → Int32 → Int32 → Int32 → Int32 → (Nat → Int32) → (Nat → Int32) → (Nat → Int32) → (Nat → Int32) → (Nat → Int32) → (Nat → Int32) → (Nat → Int32) → (Nat → Int32) → Int32 → Int32 → Option (Int32 × Int32 × Int32 × Int32 × Int32 × Int32 × Int32 × Int32 × (Nat → Int32) × (Nat → Int32) × (Nat → Int32) × (Nat → Int32) × (Nat → Int32) × (Nat → Int32) × (Nat → Int32) × (Nat → Int32)) := fz (fun _ _ _ _ _ _ _ _ _ _ _ _ _ _ _ _ _ => none) (fun k9 v_side v_rights v_passed v_halves v_number v_top v_changed a_board a_before a_froms a_tos a_turns a_counts a_changedSquare a_changedMan x1 x2 => m_X10_waysTwo_b9 k9 v_side v_rights v_passed v_halves v_number v_top v_changed a_board a_before a_froms a_tos a_turns a_counts a_changedSquare a_changedMan x1 x2) n
def m_X10_waysTwo (v_side : Int32) (v_rights : Int32) (v_passed : Int32) (v_halves : Int32) (v_number : Int32) (v_top : Int32) (v_changed : Int32) (a_board : Nat → Int32) (a_before : Nat → Int32) (a_froms : Nat → Int32) (a_tos : Nat → Int32) (a_turns : Nat → Int32) (a_counts : Nat → Int32) (a_changedSquare : Nat → Int32) (a_changedMan : Nat → Int32) : Option (Int32 × Int32 × Int32 × Int32 × Int32 × Int32 × Int32 × Int32 × (Nat → Int32) × (Nat → Int32) × (Nat → Int32) × (Nat → Int32) × (Nat → Int32) × (Nat → Int32) × (Nat → Int32) × (Nat → Int32)) := ob (m_X10_find v_side v_rights v_passed v_changed a_board a_froms a_tos a_turns a_counts a_changedSquare a_changedMan 2) fun (v_changed_37, a_board_38, a_froms_39, a_tos_40, a_turns_41, a_counts_42, a_changedSquare_43, a_changedMan_44) => m_X10_waysTwo_l9 kF v_side v_rights v_passed v_halves v_number v_top v_changed_37 a_board_38 a_before a_froms_39 a_tos_40 a_turns_41 a_counts_42 a_changedSquare_43 a_changedMan_44 0 0
abbrev rm_X10_waysTwo : Room := { frames := 9, cells := 0, slots := 0, locals := 224 }
abbrev wy_X10_waysTwo : List Cond := .code yX10_waysTwo cX10_waysTwo 3 (some .int) :: gT
theorem cv_X10_waysTwo {R : Room} {s : State} {args : Array Value} {own : String} {index : Nat} {w0 : Cond} (hts : ∀ w ∈ w0 :: gT, w.before args s = true) (hl : Cond.methodLink own index yX10_waysTwo ∈ gT) (hR : 9 + 1 ≤ R.frames ∧ 8 + (3 + 11) + 224 ≤ R.locals) : CallW R s args own RX10 index yX10_waysTwo cX10_waysTwo 3 (some .int) wy_X10_waysTwo rm_X10_waysTwo 0 0 0 :=
  cwV 0 hts (gT_call w0 (pre := [.methodLink own index yX10_waysTwo, .instanceMethod yX10_waysTwo, .selects RX10 yX10_waysTwo yX10_waysTwo, .initialized RX10]) (gT_lc hl (gT_lc ly_yX10_waysTwo (gT_lc lx_yX10_waysTwo (gT_l1 li_RX10)))) lc_yX10_waysTwo) rfl rfl rfl (by decide +kernel) hR
set_option maxRecDepth 100000 in
set_option maxHeartbeats 4000000 in
theorem c_X10_waysTwo (l : Launch) (D : va_G) (h0 : Nat) (q : Nat → Nat) (cI : ClassId) (v_code : Int32) (v_side : Int32) (v_rights : Int32) (v_passed : Int32) (v_halves : Int32) (v_number : Int32) (v_top : Int32) (v_typedCount : Int32) (v_readAt : Int32) (v_place : Int32) (v_writtenCount : Int32) (v_chosenFrom : Int32) (v_chosenTo : Int32) (v_chosenTurn : Int32) (v_changed : Int32) (v_readSide : Int32) (v_readRights : Int32) (v_readPassed : Int32) (v_readHalves : Int32) (v_readNumber : Int32) (a_board : Nat → Int32) (a_before : Nat → Int32) (a_typed : Nat → Int32) (a_written : Nat → Int32) (a_froms : Nat → Int32) (a_tos : Nat → Int32) (a_turns : Nat → Int32) (a_counts : Nat → Int32) (a_changedSquare : Nat → Int32) (a_changedMan : Nat → Int32) (a_readBoard : Nat → Int32) (rv : Int32) (v_side' : Int32) (v_rights' : Int32) (v_passed' : Int32) (v_halves' : Int32) (v_number' : Int32) (v_top' : Int32) (v_changed' : Int32) (a_board' : Nat → Int32) (a_before' : Nat → Int32) (a_froms' : Nat → Int32) (a_tos' : Nat → Int32) (a_turns' : Nat → Int32) (a_counts' : Nat → Int32) (a_changedSquare' : Nat → Int32) (a_changedMan' : Nat → Int32) (hm : m_X10_waysTwo v_side v_rights v_passed v_halves v_number v_top v_changed a_board a_before a_froms a_tos a_turns a_counts a_changedSquare a_changedMan = some (rv, v_side', v_rights', v_passed', v_halves', v_number', v_top', v_changed', a_board', a_before', a_froms', a_tos', a_turns', a_counts', a_changedSquare', a_changedMan')) : kDi l yX10_waysTwo wy_X10_waysTwo rm_X10_waysTwo D [(cI, .int)] rv (wM h0 q cI v_code v_side v_rights v_passed v_halves v_number v_top v_typedCount v_readAt v_place v_writtenCount v_chosenFrom v_chosenTo v_chosenTurn v_changed v_readSide v_readRights v_readPassed v_readHalves v_readNumber a_board a_before a_typed a_written a_froms a_tos a_turns a_counts a_changedSquare a_changedMan a_readBoard) (wM h0 q cI v_code v_side' v_rights' v_passed' v_halves' v_number' v_top' v_typedCount v_readAt v_place v_writtenCount v_chosenFrom v_chosenTo v_chosenTurn v_changed' v_readSide v_readRights v_readPassed v_readHalves v_readNumber a_board' a_before' a_typed a_written a_froms' a_tos' a_turns' a_counts' a_changedSquare' a_changedMan' a_readBoard) [.ref h0] := by
  refine kDi.of cX10_waysTwo 3 (some .int) (by decide) rfl (Or.inl rfl) (Nat.le_of_ble_eq_true rfl) ?_
  intro p e s m below meth c A Q C hret
  have hin10 : ∀ w ∈ wsX100, w ∈ wy_X10_waysTwo := fun w h => List.mem_cons_of_mem _ (inG10 w h)
  have l9 : ∀ (n9 : Nat) (v_side : Int32) (v_rights : Int32) (v_passed : Int32) (v_halves : Int32) (v_number : Int32) (v_top : Int32) (v_changed : Int32) (a_board : Nat → Int32) (a_before : Nat → Int32) (a_froms : Nat → Int32) (a_tos : Nat → Int32) (a_turns : Nat → Int32) (a_counts : Nat → Int32) (a_changedSquare : Nat → Int32) (a_changedMan : Nat → Int32) (x1 : Int32) (x2 : Int32), m_X10_waysTwo_l9   n9 v_side v_rights v_passed v_halves v_number v_top v_changed a_board a_before a_froms a_tos a_turns a_counts a_changedSquare a_changedMan x1 x2 = some (rv, v_side', v_rights', v_passed', v_halves', v_number', v_top', v_changed', a_board', a_before', a_froms', a_tos', a_turns', a_counts', a_changedSquare', a_changedMan') → kv p l e rm_X10_waysTwo s m ([.ref h0] : List Value).toArray below meth c D A 3 0 0 Q (wM h0 q cI v_code v_side v_rights v_passed v_halves v_number v_top v_typedCount v_readAt v_place v_writtenCount v_chosenFrom v_chosenTo v_chosenTurn v_changed v_readSide v_readRights v_readPassed v_readHalves v_readNumber a_board a_before a_typed a_written a_froms a_tos a_turns a_counts a_changedSquare a_changedMan a_readBoard) [(0, .ref h0), (1, .int x1), (2, .int x2)] 9 [] := by
    intro n9
    induction n9 with
    | zero =>
      intro v_side v_rights v_passed v_halves v_number v_top v_changed a_board a_before a_froms a_tos a_turns a_counts a_changedSquare a_changedMan x1 x2 h
      exact kv_no h
    | succ n9 ih9 =>
      intro v_side v_rights v_passed v_halves v_number v_top v_changed a_board a_before a_froms a_tos a_turns a_counts a_changedSquare a_changedMan x1 x2 h
      replace h : m_X10_waysTwo_b9  (m_X10_waysTwo_l9   n9) v_side v_rights v_passed v_halves v_number v_top v_changed a_board a_before a_froms a_tos a_turns a_counts a_changedSquare a_changedMan x1 x2 = some (rv, v_side', v_rights', v_passed', v_halves', v_number', v_top', v_changed', a_board', a_before', a_froms', a_tos', a_turns', a_counts', a_changedSquare', a_changedMan') := h
      unfold m_X10_waysTwo_b9 at h
      refine kv_iload_n C 2 dX10_waysTwo_9 rfl rfl ?_
      refine kv_aload_n C 0 dX10_waysTwo_10 rfl rfl ?_
      refine kv_get C (Cn := RX10) (T := TX10) (N := 31) 0 18 hin10 rfl rfl (by decide) (C.ts _ (List.mem_cons_of_mem _ lf_RX10_39)) rfl rfl dX10_waysTwo_11 ?_
      refine kv_iconst C 2 dX10_waysTwo_14 (by decide) ?_
      refine kv_iald C 8 0 rfl rfl (by unfold vp_in; decide) dX10_waysTwo_15 ?_
      refine kv_icmp_ge C 42 dX10_waysTwo_16 (by decide) (fun c_1 => ?_) (fun c_1 => ?_)
      · have h := oi_t h c_1
        refine kv_iload_n C 1 dX10_waysTwo_42 rfl rfl ?_
        cases h
        exact hret _ _ dX10_waysTwo_43 (fun q => by cases q)
      · have h := oi_f h c_1
        refine kv_aload_n C 0 dX10_waysTwo_19 rfl rfl ?_
        refine kv_iconst C 2 dX10_waysTwo_20 (by decide) ?_
        refine kv_iload_n C 2 dX10_waysTwo_21 rfl rfl ?_
        obtain ⟨⟨v_side_2, v_rights_3, v_passed_4, v_halves_5, v_number_6, v_top_7, v_changed_8, a_board_9, a_before_10, a_changedSquare_11, a_changedMan_12⟩, hm_13, h⟩ := ob_e h
        replace h : _ = _ := h
        refine kv_callWv C [.int 2, .int x2] 0 (c_X10_makeMove l D h0 q cI v_code v_side v_rights v_passed v_halves v_number v_top v_typedCount v_readAt v_place v_writtenCount v_chosenFrom v_chosenTo v_chosenTurn v_changed v_readSide v_readRights v_readPassed v_readHalves v_readNumber a_board a_before a_typed a_written a_froms a_tos a_turns a_counts a_changedSquare a_changedMan a_readBoard 2 x2 v_side_2 v_rights_3 v_passed_4 v_halves_5 v_number_6 v_top_7 v_changed_8 a_board_9 a_before_10 a_changedSquare_11 a_changedMan_12 hm_13) (cv_X10_makeMove C.ts lm_RX10_183 ⟨Nat.le_of_ble_eq_true rfl, Nat.le_of_ble_eq_true rfl⟩) rfl rfl rfl rfl (Nat.le_of_ble_eq_true rfl) dX10_waysTwo_22 ⟨Nat.zero_le _, Nat.zero_le _⟩ ?_
        refine kv_iload_n C 1 dX10_waysTwo_25 rfl rfl ?_
        refine kv_aload_n C 0 dX10_waysTwo_26 rfl rfl ?_
        obtain ⟨⟨r_15, v_changed_16, a_board_17, a_froms_18, a_tos_19, a_turns_20, a_counts_21, a_changedSquare_22, a_changedMan_23⟩, hm_24, h⟩ := ob_e h
        replace h : _ = _ := h
        refine kv_callWi C [] 0 (c_X10_waysOne l D h0 q cI v_code v_side_2 v_rights_3 v_passed_4 v_halves_5 v_number_6 v_top_7 v_typedCount v_readAt v_place v_writtenCount v_chosenFrom v_chosenTo v_chosenTurn v_changed_8 v_readSide v_readRights v_readPassed v_readHalves v_readNumber a_board_9 a_before_10 a_typed a_written a_froms a_tos a_turns a_counts a_changedSquare_11 a_changedMan_12 a_readBoard  r_15 v_changed_16 a_board_17 a_froms_18 a_tos_19 a_turns_20 a_counts_21 a_changedSquare_22 a_changedMan_23 hm_24) (cv_X10_waysOne C.ts lm_RX10_199 ⟨Nat.le_of_ble_eq_true rfl, Nat.le_of_ble_eq_true rfl⟩) rfl rfl rfl rfl (Nat.le_of_ble_eq_true rfl) dX10_waysTwo_27 ⟨Nat.zero_le _, Nat.zero_le _⟩ ?_
        refine kv_iadd C dX10_waysTwo_30 ?_
        obtain ⟨x1_26, ex1_26, h⟩ := ol_e h
        refine kv_top ex1_26 ?_
        refine kv_istore_n C (lv2 := [(0, .ref h0), (1, .int x1_26), (2, .int x2)]) [1, 0, 2] dX10_waysTwo_31 rfl (by decide) rfl rfl ?_
        refine kv_aload_n C 0 dX10_waysTwo_32 rfl rfl ?_
        obtain ⟨⟨v_side_27, v_rights_28, v_passed_29, v_halves_30, v_number_31, v_top_32, a_board_33⟩, hm_34, h⟩ := ob_e h
        replace h : _ = _ := h
        refine kv_callWv C [] 0 (c_X10_pop l D h0 q cI v_code v_side_2 v_rights_3 v_passed_4 v_halves_5 v_number_6 v_top_7 v_typedCount v_readAt v_place v_writtenCount v_chosenFrom v_chosenTo v_chosenTurn v_changed_16 v_readSide v_readRights v_readPassed v_readHalves v_readNumber a_board_17 a_before_10 a_typed a_written a_froms_18 a_tos_19 a_turns_20 a_counts_21 a_changedSquare_22 a_changedMan_23 a_readBoard  v_side_27 v_rights_28 v_passed_29 v_halves_30 v_number_31 v_top_32 a_board_33 hm_34) (cv_X10_pop C.ts lm_RX10_186 ⟨Nat.le_of_ble_eq_true rfl, Nat.le_of_ble_eq_true rfl⟩) rfl rfl rfl rfl (Nat.le_of_ble_eq_true rfl) dX10_waysTwo_33 ⟨Nat.zero_le _, Nat.zero_le _⟩ ?_
        obtain ⟨x2_36, ex2_36, h⟩ := ol_e h
        refine kv_iinc C (v := x2_36) (lv2 := [(0, .ref h0), (1, .int x1_26), (2, .int x2_36)]) 2 [1, 2, 0] dX10_waysTwo_36 rfl ex2_36.symm (by decide) rfl rfl ?_
        refine kv_goto C 9 dX10_waysTwo_39 (by decide) ?_
        exact kv_lv [0, 1, 2] (lv2 := [(0, .ref h0), (1, .int x1_26), (2, .int x2_36)]) rfl (ih9 v_side_27 v_rights_28 v_passed_29 v_halves_30 v_number_31 v_top_32 v_changed_16 a_board_33 a_before_10 a_froms_18 a_tos_19 a_turns_20 a_counts_21 a_changedSquare_22 a_changedMan_23 x1_26 x2_36 h)
  unfold m_X10_waysTwo at hm
  have h := hm
  refine kv_lv [0] (lv2 := [(0, .ref h0)]) rfl ?_
  refine kv_aload_n C 0 dX10_waysTwo_0 rfl rfl ?_
  refine kv_iconst C 2 dX10_waysTwo_1 (by decide) ?_
  obtain ⟨⟨v_changed_37, a_board_38, a_froms_39, a_tos_40, a_turns_41, a_counts_42, a_changedSquare_43, a_changedMan_44⟩, hm_45, h⟩ := ob_e h
  replace h : _ = _ := h
  refine kv_callWv C [.int 2] 0 (c_X10_find l D h0 q cI v_code v_side v_rights v_passed v_halves v_number v_top v_typedCount v_readAt v_place v_writtenCount v_chosenFrom v_chosenTo v_chosenTurn v_changed v_readSide v_readRights v_readPassed v_readHalves v_readNumber a_board a_before a_typed a_written a_froms a_tos a_turns a_counts a_changedSquare a_changedMan a_readBoard 2 v_changed_37 a_board_38 a_froms_39 a_tos_40 a_turns_41 a_counts_42 a_changedSquare_43 a_changedMan_44 hm_45) (cv_X10_find C.ts lm_RX10_158 ⟨Nat.le_of_ble_eq_true rfl, Nat.le_of_ble_eq_true rfl⟩) rfl rfl rfl rfl (Nat.le_of_ble_eq_true rfl) dX10_waysTwo_2 ⟨Nat.zero_le _, Nat.zero_le _⟩ ?_
  refine kv_iconst C 0 dX10_waysTwo_5 (by decide) ?_
  refine kv_istore_n C (lv2 := [(0, .ref h0), (1, .int 0)]) [1, 0] dX10_waysTwo_6 rfl (by decide) rfl rfl ?_
  refine kv_iconst C 0 dX10_waysTwo_7 (by decide) ?_
  refine kv_istore_n C (lv2 := [(0, .ref h0), (1, .int 0), (2, .int 0)]) [1, 2, 0] dX10_waysTwo_8 rfl (by decide) rfl rfl ?_
  exact kv_lv [0, 1, 2] (lv2 := [(0, .ref h0), (1, .int 0), (2, .int 0)]) rfl (l9 kF v_side v_rights v_passed v_halves v_number v_top v_changed_37 a_board_38 a_before a_froms_39 a_tos_40 a_turns_41 a_counts_42 a_changedSquare_43 a_changedMan_44 0 0 h)
def m_X10_waysThree_b9 (k9 : Int32 → Int32 → Int32 → Int32 → Int32 → Int32 → Int32 → (Nat → Int32) → (Nat → Int32) → (Nat → Int32) → (Nat → Int32) → (Nat → Int32) → (Nat → Int32) → (Nat → Int32) → (Nat → Int32) → Int32 → Int32 → Option (Int32 × Int32 × Int32 × Int32 × Int32 × Int32 × Int32 × Int32 × (Nat → Int32) × (Nat → Int32) × (Nat → Int32) × (Nat → Int32) × (Nat → Int32) × (Nat → Int32) × (Nat → Int32) × (Nat → Int32))) (v_side : Int32) (v_rights : Int32) (v_passed : Int32) (v_halves : Int32) (v_number : Int32) (v_top : Int32) (v_changed : Int32) (a_board : Nat → Int32) (a_before : Nat → Int32) (a_froms : Nat → Int32) (a_tos : Nat → Int32) (a_turns : Nat → Int32) (a_counts : Nat → Int32) (a_changedSquare : Nat → Int32) (a_changedMan : Nat → Int32) (x1 : Int32) (x2 : Int32) : Option (Int32 × Int32 × Int32 × Int32 × Int32 × Int32 × Int32 × Int32 × (Nat → Int32) × (Nat → Int32) × (Nat → Int32) × (Nat → Int32) × (Nat → Int32) × (Nat → Int32) × (Nat → Int32) × (Nat → Int32)) := if (a_counts (Int32.toNatClampNeg 3)) ≤ x2 then some (x1, v_side, v_rights, v_passed, v_halves, v_number, v_top, v_changed, a_board, a_before, a_froms, a_tos, a_turns, a_counts, a_changedSquare, a_changedMan) else ob (m_X10_makeMove v_side v_rights v_passed v_halves v_number v_top v_changed a_board a_before a_froms a_tos a_turns a_changedSquare a_changedMan 3 x2) fun (v_side_2, v_rights_3, v_passed_4, v_halves_5, v_number_6, v_top_7, v_changed_8, a_board_9, a_before_10, a_changedSquare_11, a_changedMan_12) => ob (m_X10_waysTwo v_side_2 v_rights_3 v_passed_4 v_halves_5 v_number_6 v_top_7 v_changed_8 a_board_9 a_before_10 a_froms a_tos a_turns a_counts a_changedSquare_11 a_changedMan_12 ) fun (r_15, v_side_16, v_rights_17, v_passed_18, v_halves_19, v_number_20, v_top_21, v_changed_22, a_board_23, a_before_24, a_froms_25, a_tos_26, a_turns_27, a_counts_28, a_changedSquare_29, a_changedMan_30) => ol (x1 + r_15) fun x1_33 => ob (m_X10_pop v_side_16 v_rights_17 v_passed_18 v_halves_19 v_number_20 v_top_21 a_board_23 a_before_24 ) fun (v_side_34, v_rights_35, v_passed_36, v_halves_37, v_number_38, v_top_39, a_board_40) => ol (x2 + 1) fun x2_43 => k9 v_side_34 v_rights_35 v_passed_36 v_halves_37 v_number_38 v_top_39 v_changed_22 a_board_40 a_before_24 a_froms_25 a_tos_26 a_turns_27 a_counts_28 a_changedSquare_29 a_changedMan_30 x1_33 x2_43
def m_X10_waysThree_l9 (n : Nat) : Int32 → Int32 → Int32 → Int32 → Int32 → Int32 → Int32 → (Nat → Int32) → (Nat → Int32) → (Nat → Int32) → (Nat → Int32) → (Nat → Int32) → (Nat → Int32) → (Nat → Int32) → (Nat → Int32) → Int32 → Int32 → Option (Int32 × Int32 × Int32 × Int32 × Int32 × Int32 × Int32 × Int32 × (Nat → Int32) × (Nat → Int32) × (Nat → Int32) × (Nat → Int32) × (Nat → Int32) × (Nat → Int32) × (Nat → Int32) × (Nat → Int32)) := fz (fun _ _ _ _ _ _ _ _ _ _ _ _ _ _ _ _ _ => none) (fun k9 v_side v_rights v_passed v_halves v_number v_top v_changed a_board a_before a_froms a_tos a_turns a_counts a_changedSquare a_changedMan x1 x2 => m_X10_waysThree_b9 k9 v_side v_rights v_passed v_halves v_number v_top v_changed a_board a_before a_froms a_tos a_turns a_counts a_changedSquare a_changedMan x1 x2) n
def m_X10_waysThree (v_side : Int32) (v_rights : Int32) (v_passed : Int32) (v_halves : Int32) (v_number : Int32) (v_top : Int32) (v_changed : Int32) (a_board : Nat → Int32) (a_before : Nat → Int32) (a_froms : Nat → Int32) (a_tos : Nat → Int32) (a_turns : Nat → Int32) (a_counts : Nat → Int32) (a_changedSquare : Nat → Int32) (a_changedMan : Nat → Int32) : Option (Int32 × Int32 × Int32 × Int32 × Int32 × Int32 × Int32 × Int32 × (Nat → Int32) × (Nat → Int32) × (Nat → Int32) × (Nat → Int32) × (Nat → Int32) × (Nat → Int32) × (Nat → Int32) × (Nat → Int32)) := ob (m_X10_find v_side v_rights v_passed v_changed a_board a_froms a_tos a_turns a_counts a_changedSquare a_changedMan 3) fun (v_changed_44, a_board_45, a_froms_46, a_tos_47, a_turns_48, a_counts_49, a_changedSquare_50, a_changedMan_51) => m_X10_waysThree_l9 kF v_side v_rights v_passed v_halves v_number v_top v_changed_44 a_board_45 a_before a_froms_46 a_tos_47 a_turns_48 a_counts_49 a_changedSquare_50 a_changedMan_51 0 0
abbrev rm_X10_waysThree : Room := { frames := 10, cells := 0, slots := 0, locals := 246 }
abbrev wy_X10_waysThree : List Cond := .code yX10_waysThree cX10_waysThree 3 (some .int) :: gT
theorem cv_X10_waysThree {R : Room} {s : State} {args : Array Value} {own : String} {index : Nat} {w0 : Cond} (hts : ∀ w ∈ w0 :: gT, w.before args s = true) (hl : Cond.methodLink own index yX10_waysThree ∈ gT) (hR : 10 + 1 ≤ R.frames ∧ 8 + (3 + 11) + 246 ≤ R.locals) : CallW R s args own RX10 index yX10_waysThree cX10_waysThree 3 (some .int) wy_X10_waysThree rm_X10_waysThree 0 0 0 :=
  cwV 0 hts (gT_call w0 (pre := [.methodLink own index yX10_waysThree, .instanceMethod yX10_waysThree, .selects RX10 yX10_waysThree yX10_waysThree, .initialized RX10]) (gT_lc hl (gT_lc ly_yX10_waysThree (gT_lc lx_yX10_waysThree (gT_l1 li_RX10)))) lc_yX10_waysThree) rfl rfl rfl (by decide +kernel) hR
set_option maxRecDepth 100000 in
set_option maxHeartbeats 4000000 in
theorem c_X10_waysThree (l : Launch) (D : va_G) (h0 : Nat) (q : Nat → Nat) (cI : ClassId) (v_code : Int32) (v_side : Int32) (v_rights : Int32) (v_passed : Int32) (v_halves : Int32) (v_number : Int32) (v_top : Int32) (v_typedCount : Int32) (v_readAt : Int32) (v_place : Int32) (v_writtenCount : Int32) (v_chosenFrom : Int32) (v_chosenTo : Int32) (v_chosenTurn : Int32) (v_changed : Int32) (v_readSide : Int32) (v_readRights : Int32) (v_readPassed : Int32) (v_readHalves : Int32) (v_readNumber : Int32) (a_board : Nat → Int32) (a_before : Nat → Int32) (a_typed : Nat → Int32) (a_written : Nat → Int32) (a_froms : Nat → Int32) (a_tos : Nat → Int32) (a_turns : Nat → Int32) (a_counts : Nat → Int32) (a_changedSquare : Nat → Int32) (a_changedMan : Nat → Int32) (a_readBoard : Nat → Int32) (rv : Int32) (v_side' : Int32) (v_rights' : Int32) (v_passed' : Int32) (v_halves' : Int32) (v_number' : Int32) (v_top' : Int32) (v_changed' : Int32) (a_board' : Nat → Int32) (a_before' : Nat → Int32) (a_froms' : Nat → Int32) (a_tos' : Nat → Int32) (a_turns' : Nat → Int32) (a_counts' : Nat → Int32) (a_changedSquare' : Nat → Int32) (a_changedMan' : Nat → Int32) (hm : m_X10_waysThree v_side v_rights v_passed v_halves v_number v_top v_changed a_board a_before a_froms a_tos a_turns a_counts a_changedSquare a_changedMan = some (rv, v_side', v_rights', v_passed', v_halves', v_number', v_top', v_changed', a_board', a_before', a_froms', a_tos', a_turns', a_counts', a_changedSquare', a_changedMan')) : kDi l yX10_waysThree wy_X10_waysThree rm_X10_waysThree D [(cI, .int)] rv (wM h0 q cI v_code v_side v_rights v_passed v_halves v_number v_top v_typedCount v_readAt v_place v_writtenCount v_chosenFrom v_chosenTo v_chosenTurn v_changed v_readSide v_readRights v_readPassed v_readHalves v_readNumber a_board a_before a_typed a_written a_froms a_tos a_turns a_counts a_changedSquare a_changedMan a_readBoard) (wM h0 q cI v_code v_side' v_rights' v_passed' v_halves' v_number' v_top' v_typedCount v_readAt v_place v_writtenCount v_chosenFrom v_chosenTo v_chosenTurn v_changed' v_readSide v_readRights v_readPassed v_readHalves v_readNumber a_board' a_before' a_typed a_written a_froms' a_tos' a_turns' a_counts' a_changedSquare' a_changedMan' a_readBoard) [.ref h0] := by
  refine kDi.of cX10_waysThree 3 (some .int) (by decide) rfl (Or.inl rfl) (Nat.le_of_ble_eq_true rfl) ?_
  intro p e s m below meth c A Q C hret
  have hin10 : ∀ w ∈ wsX100, w ∈ wy_X10_waysThree := fun w h => List.mem_cons_of_mem _ (inG10 w h)
  have l9 : ∀ (n9 : Nat) (v_side : Int32) (v_rights : Int32) (v_passed : Int32) (v_halves : Int32) (v_number : Int32) (v_top : Int32) (v_changed : Int32) (a_board : Nat → Int32) (a_before : Nat → Int32) (a_froms : Nat → Int32) (a_tos : Nat → Int32) (a_turns : Nat → Int32) (a_counts : Nat → Int32) (a_changedSquare : Nat → Int32) (a_changedMan : Nat → Int32) (x1 : Int32) (x2 : Int32), m_X10_waysThree_l9   n9 v_side v_rights v_passed v_halves v_number v_top v_changed a_board a_before a_froms a_tos a_turns a_counts a_changedSquare a_changedMan x1 x2 = some (rv, v_side', v_rights', v_passed', v_halves', v_number', v_top', v_changed', a_board', a_before', a_froms', a_tos', a_turns', a_counts', a_changedSquare', a_changedMan') → kv p l e rm_X10_waysThree s m ([.ref h0] : List Value).toArray below meth c D A 3 0 0 Q (wM h0 q cI v_code v_side v_rights v_passed v_halves v_number v_top v_typedCount v_readAt v_place v_writtenCount v_chosenFrom v_chosenTo v_chosenTurn v_changed v_readSide v_readRights v_readPassed v_readHalves v_readNumber a_board a_before a_typed a_written a_froms a_tos a_turns a_counts a_changedSquare a_changedMan a_readBoard) [(0, .ref h0), (1, .int x1), (2, .int x2)] 9 [] := by
    intro n9
    induction n9 with
    | zero =>
      intro v_side v_rights v_passed v_halves v_number v_top v_changed a_board a_before a_froms a_tos a_turns a_counts a_changedSquare a_changedMan x1 x2 h
      exact kv_no h
    | succ n9 ih9 =>
      intro v_side v_rights v_passed v_halves v_number v_top v_changed a_board a_before a_froms a_tos a_turns a_counts a_changedSquare a_changedMan x1 x2 h
      replace h : m_X10_waysThree_b9  (m_X10_waysThree_l9   n9) v_side v_rights v_passed v_halves v_number v_top v_changed a_board a_before a_froms a_tos a_turns a_counts a_changedSquare a_changedMan x1 x2 = some (rv, v_side', v_rights', v_passed', v_halves', v_number', v_top', v_changed', a_board', a_before', a_froms', a_tos', a_turns', a_counts', a_changedSquare', a_changedMan') := h
      unfold m_X10_waysThree_b9 at h
      refine kv_iload_n C 2 dX10_waysThree_9 rfl rfl ?_
      refine kv_aload_n C 0 dX10_waysThree_10 rfl rfl ?_
      refine kv_get C (Cn := RX10) (T := TX10) (N := 31) 0 18 hin10 rfl rfl (by decide) (C.ts _ (List.mem_cons_of_mem _ lf_RX10_39)) rfl rfl dX10_waysThree_11 ?_
      refine kv_iconst C 3 dX10_waysThree_14 (by decide) ?_
      refine kv_iald C 8 0 rfl rfl (by unfold vp_in; decide) dX10_waysThree_15 ?_
      refine kv_icmp_ge C 42 dX10_waysThree_16 (by decide) (fun c_1 => ?_) (fun c_1 => ?_)
      · have h := oi_t h c_1
        refine kv_iload_n C 1 dX10_waysThree_42 rfl rfl ?_
        cases h
        exact hret _ _ dX10_waysThree_43 (fun q => by cases q)
      · have h := oi_f h c_1
        refine kv_aload_n C 0 dX10_waysThree_19 rfl rfl ?_
        refine kv_iconst C 3 dX10_waysThree_20 (by decide) ?_
        refine kv_iload_n C 2 dX10_waysThree_21 rfl rfl ?_
        obtain ⟨⟨v_side_2, v_rights_3, v_passed_4, v_halves_5, v_number_6, v_top_7, v_changed_8, a_board_9, a_before_10, a_changedSquare_11, a_changedMan_12⟩, hm_13, h⟩ := ob_e h
        replace h : _ = _ := h
        refine kv_callWv C [.int 3, .int x2] 0 (c_X10_makeMove l D h0 q cI v_code v_side v_rights v_passed v_halves v_number v_top v_typedCount v_readAt v_place v_writtenCount v_chosenFrom v_chosenTo v_chosenTurn v_changed v_readSide v_readRights v_readPassed v_readHalves v_readNumber a_board a_before a_typed a_written a_froms a_tos a_turns a_counts a_changedSquare a_changedMan a_readBoard 3 x2 v_side_2 v_rights_3 v_passed_4 v_halves_5 v_number_6 v_top_7 v_changed_8 a_board_9 a_before_10 a_changedSquare_11 a_changedMan_12 hm_13) (cv_X10_makeMove C.ts lm_RX10_183 ⟨Nat.le_of_ble_eq_true rfl, Nat.le_of_ble_eq_true rfl⟩) rfl rfl rfl rfl (Nat.le_of_ble_eq_true rfl) dX10_waysThree_22 ⟨Nat.zero_le _, Nat.zero_le _⟩ ?_
        refine kv_iload_n C 1 dX10_waysThree_25 rfl rfl ?_
        refine kv_aload_n C 0 dX10_waysThree_26 rfl rfl ?_
        obtain ⟨⟨r_15, v_side_16, v_rights_17, v_passed_18, v_halves_19, v_number_20, v_top_21, v_changed_22, a_board_23, a_before_24, a_froms_25, a_tos_26, a_turns_27, a_counts_28, a_changedSquare_29, a_changedMan_30⟩, hm_31, h⟩ := ob_e h
        replace h : _ = _ := h
        refine kv_callWi C [] 0 (c_X10_waysTwo l D h0 q cI v_code v_side_2 v_rights_3 v_passed_4 v_halves_5 v_number_6 v_top_7 v_typedCount v_readAt v_place v_writtenCount v_chosenFrom v_chosenTo v_chosenTurn v_changed_8 v_readSide v_readRights v_readPassed v_readHalves v_readNumber a_board_9 a_before_10 a_typed a_written a_froms a_tos a_turns a_counts a_changedSquare_11 a_changedMan_12 a_readBoard  r_15 v_side_16 v_rights_17 v_passed_18 v_halves_19 v_number_20 v_top_21 v_changed_22 a_board_23 a_before_24 a_froms_25 a_tos_26 a_turns_27 a_counts_28 a_changedSquare_29 a_changedMan_30 hm_31) (cv_X10_waysTwo C.ts lm_RX10_202 ⟨Nat.le_of_ble_eq_true rfl, Nat.le_of_ble_eq_true rfl⟩) rfl rfl rfl rfl (Nat.le_of_ble_eq_true rfl) dX10_waysThree_27 ⟨Nat.zero_le _, Nat.zero_le _⟩ ?_
        refine kv_iadd C dX10_waysThree_30 ?_
        obtain ⟨x1_33, ex1_33, h⟩ := ol_e h
        refine kv_top ex1_33 ?_
        refine kv_istore_n C (lv2 := [(0, .ref h0), (1, .int x1_33), (2, .int x2)]) [1, 0, 2] dX10_waysThree_31 rfl (by decide) rfl rfl ?_
        refine kv_aload_n C 0 dX10_waysThree_32 rfl rfl ?_
        obtain ⟨⟨v_side_34, v_rights_35, v_passed_36, v_halves_37, v_number_38, v_top_39, a_board_40⟩, hm_41, h⟩ := ob_e h
        replace h : _ = _ := h
        refine kv_callWv C [] 0 (c_X10_pop l D h0 q cI v_code v_side_16 v_rights_17 v_passed_18 v_halves_19 v_number_20 v_top_21 v_typedCount v_readAt v_place v_writtenCount v_chosenFrom v_chosenTo v_chosenTurn v_changed_22 v_readSide v_readRights v_readPassed v_readHalves v_readNumber a_board_23 a_before_24 a_typed a_written a_froms_25 a_tos_26 a_turns_27 a_counts_28 a_changedSquare_29 a_changedMan_30 a_readBoard  v_side_34 v_rights_35 v_passed_36 v_halves_37 v_number_38 v_top_39 a_board_40 hm_41) (cv_X10_pop C.ts lm_RX10_186 ⟨Nat.le_of_ble_eq_true rfl, Nat.le_of_ble_eq_true rfl⟩) rfl rfl rfl rfl (Nat.le_of_ble_eq_true rfl) dX10_waysThree_33 ⟨Nat.zero_le _, Nat.zero_le _⟩ ?_
        obtain ⟨x2_43, ex2_43, h⟩ := ol_e h
        refine kv_iinc C (v := x2_43) (lv2 := [(0, .ref h0), (1, .int x1_33), (2, .int x2_43)]) 2 [1, 2, 0] dX10_waysThree_36 rfl ex2_43.symm (by decide) rfl rfl ?_
        refine kv_goto C 9 dX10_waysThree_39 (by decide) ?_
        exact kv_lv [0, 1, 2] (lv2 := [(0, .ref h0), (1, .int x1_33), (2, .int x2_43)]) rfl (ih9 v_side_34 v_rights_35 v_passed_36 v_halves_37 v_number_38 v_top_39 v_changed_22 a_board_40 a_before_24 a_froms_25 a_tos_26 a_turns_27 a_counts_28 a_changedSquare_29 a_changedMan_30 x1_33 x2_43 h)
  unfold m_X10_waysThree at hm
  have h := hm
  refine kv_lv [0] (lv2 := [(0, .ref h0)]) rfl ?_
  refine kv_aload_n C 0 dX10_waysThree_0 rfl rfl ?_
  refine kv_iconst C 3 dX10_waysThree_1 (by decide) ?_
  obtain ⟨⟨v_changed_44, a_board_45, a_froms_46, a_tos_47, a_turns_48, a_counts_49, a_changedSquare_50, a_changedMan_51⟩, hm_52, h⟩ := ob_e h
  replace h : _ = _ := h
  refine kv_callWv C [.int 3] 0 (c_X10_find l D h0 q cI v_code v_side v_rights v_passed v_halves v_number v_top v_typedCount v_readAt v_place v_writtenCount v_chosenFrom v_chosenTo v_chosenTurn v_changed v_readSide v_readRights v_readPassed v_readHalves v_readNumber a_board a_before a_typed a_written a_froms a_tos a_turns a_counts a_changedSquare a_changedMan a_readBoard 3 v_changed_44 a_board_45 a_froms_46 a_tos_47 a_turns_48 a_counts_49 a_changedSquare_50 a_changedMan_51 hm_52) (cv_X10_find C.ts lm_RX10_158 ⟨Nat.le_of_ble_eq_true rfl, Nat.le_of_ble_eq_true rfl⟩) rfl rfl rfl rfl (Nat.le_of_ble_eq_true rfl) dX10_waysThree_2 ⟨Nat.zero_le _, Nat.zero_le _⟩ ?_
  refine kv_iconst C 0 dX10_waysThree_5 (by decide) ?_
  refine kv_istore_n C (lv2 := [(0, .ref h0), (1, .int 0)]) [1, 0] dX10_waysThree_6 rfl (by decide) rfl rfl ?_
  refine kv_iconst C 0 dX10_waysThree_7 (by decide) ?_
  refine kv_istore_n C (lv2 := [(0, .ref h0), (1, .int 0), (2, .int 0)]) [1, 2, 0] dX10_waysThree_8 rfl (by decide) rfl rfl ?_
  exact kv_lv [0, 1, 2] (lv2 := [(0, .ref h0), (1, .int 0), (2, .int 0)]) rfl (l9 kF v_side v_rights v_passed v_halves v_number v_top v_changed_44 a_board_45 a_before a_froms_46 a_tos_47 a_turns_48 a_counts_49 a_changedSquare_50 a_changedMan_51 0 0 h)
def m_X10_ways_b63 (v_code : Int32) (v_side : Int32) (v_rights : Int32) (v_passed : Int32) (v_halves : Int32) (v_number : Int32) (v_top : Int32) (v_changed : Int32) (a_board : Nat → Int32) (a_before : Nat → Int32) (a_froms : Nat → Int32) (a_tos : Nat → Int32) (a_turns : Nat → Int32) (a_counts : Nat → Int32) (a_changedSquare : Nat → Int32) (a_changedMan : Nat → Int32) (t0 : Int32) : Option (Int32 × Int32 × Int32 × Int32 × Int32 × Int32 × Int32 × Int32 × Int32 × (Nat → Int32) × (Nat → Int32) × (Nat → Int32) × (Nat → Int32) × (Nat → Int32) × (Nat → Int32) × (Nat → Int32) × (Nat → Int32)) := some (t0, v_code, v_side, v_rights, v_passed, v_halves, v_number, v_top, v_changed, a_board, a_before, a_froms, a_tos, a_turns, a_counts, a_changedSquare, a_changedMan)
def m_X10_ways_b15 (v_code : Int32) (v_side : Int32) (v_rights : Int32) (v_passed : Int32) (v_halves : Int32) (v_number : Int32) (v_top : Int32) (v_changed : Int32) (a_board : Nat → Int32) (a_before : Nat → Int32) (a_froms : Nat → Int32) (a_tos : Nat → Int32) (a_turns : Nat → Int32) (a_counts : Nat → Int32) (a_changedSquare : Nat → Int32) (a_changedMan : Nat → Int32) (x1 : Int32) (t1 : Int32) : Option (Int32 × Int32 × Int32 × Int32 × Int32 × Int32 × Int32 × Int32 × Int32 × (Nat → Int32) × (Nat → Int32) × (Nat → Int32) × (Nat → Int32) × (Nat → Int32) × (Nat → Int32) × (Nat → Int32) × (Nat → Int32)) := if t1 ≤ 0 then if x1 = 0 then m_X10_ways_b63 t1 v_side v_rights v_passed v_halves v_number v_top v_changed a_board a_before a_froms a_tos a_turns a_counts a_changedSquare a_changedMan 1 else if x1 = 1 then ob (m_X10_waysOne v_side v_rights v_passed v_changed a_board a_froms a_tos a_turns a_counts a_changedSquare a_changedMan ) fun (r_41, v_changed_42, a_board_43, a_froms_44, a_tos_45, a_turns_46, a_counts_47, a_changedSquare_48, a_changedMan_49) => m_X10_ways_b63 t1 v_side v_rights v_passed v_halves v_number v_top v_changed_42 a_board_43 a_before a_froms_44 a_tos_45 a_turns_46 a_counts_47 a_changedSquare_48 a_changedMan_49 r_41 else if x1 = 2 then ob (m_X10_waysTwo v_side v_rights v_passed v_halves v_number v_top v_changed a_board a_before a_froms a_tos a_turns a_counts a_changedSquare a_changedMan ) fun (r_23, v_side_24, v_rights_25, v_passed_26, v_halves_27, v_number_28, v_top_29, v_changed_30, a_board_31, a_before_32, a_froms_33, a_tos_34, a_turns_35, a_counts_36, a_changedSquare_37, a_changedMan_38) => m_X10_ways_b63 t1 v_side_24 v_rights_25 v_passed_26 v_halves_27 v_number_28 v_top_29 v_changed_30 a_board_31 a_before_32 a_froms_33 a_tos_34 a_turns_35 a_counts_36 a_changedSquare_37 a_changedMan_38 r_23 else ob (m_X10_waysThree v_side v_rights v_passed v_halves v_number v_top v_changed a_board a_before a_froms a_tos a_turns a_counts a_changedSquare a_changedMan ) fun (r_5, v_side_6, v_rights_7, v_passed_8, v_halves_9, v_number_10, v_top_11, v_changed_12, a_board_13, a_before_14, a_froms_15, a_tos_16, a_turns_17, a_counts_18, a_changedSquare_19, a_changedMan_20) => m_X10_ways_b63 t1 v_side_6 v_rights_7 v_passed_8 v_halves_9 v_number_10 v_top_11 v_changed_12 a_board_13 a_before_14 a_froms_15 a_tos_16 a_turns_17 a_counts_18 a_changedSquare_19 a_changedMan_20 r_5 else some (0, t1, v_side, v_rights, v_passed, v_halves, v_number, v_top, v_changed, a_board, a_before, a_froms, a_tos, a_turns, a_counts, a_changedSquare, a_changedMan)
def m_X10_ways_b10 (v_code : Int32) (v_side : Int32) (v_rights : Int32) (v_passed : Int32) (v_halves : Int32) (v_number : Int32) (v_top : Int32) (v_changed : Int32) (a_board : Nat → Int32) (a_before : Nat → Int32) (a_froms : Nat → Int32) (a_tos : Nat → Int32) (a_turns : Nat → Int32) (a_counts : Nat → Int32) (a_changedSquare : Nat → Int32) (a_changedMan : Nat → Int32) (x1 : Int32) : Option (Int32 × Int32 × Int32 × Int32 × Int32 × Int32 × Int32 × Int32 × Int32 × (Nat → Int32) × (Nat → Int32) × (Nat → Int32) × (Nat → Int32) × (Nat → Int32) × (Nat → Int32) × (Nat → Int32) × (Nat → Int32)) := m_X10_ways_b15 v_code v_side v_rights v_passed v_halves v_number v_top v_changed a_board a_before a_froms a_tos a_turns a_counts a_changedSquare a_changedMan x1 1
def m_X10_ways (v_code : Int32) (v_side : Int32) (v_rights : Int32) (v_passed : Int32) (v_halves : Int32) (v_number : Int32) (v_top : Int32) (v_changed : Int32) (a_board : Nat → Int32) (a_before : Nat → Int32) (a_froms : Nat → Int32) (a_tos : Nat → Int32) (a_turns : Nat → Int32) (a_counts : Nat → Int32) (a_changedSquare : Nat → Int32) (a_changedMan : Nat → Int32) (p0 : Int32) : Option (Int32 × Int32 × Int32 × Int32 × Int32 × Int32 × Int32 × Int32 × Int32 × (Nat → Int32) × (Nat → Int32) × (Nat → Int32) × (Nat → Int32) × (Nat → Int32) × (Nat → Int32) × (Nat → Int32) × (Nat → Int32)) := if p0 < 0 then m_X10_ways_b10 v_code v_side v_rights v_passed v_halves v_number v_top v_changed a_board a_before a_froms a_tos a_turns a_counts a_changedSquare a_changedMan p0 else if p0 ≤ 3 then m_X10_ways_b15 v_code v_side v_rights v_passed v_halves v_number v_top v_changed a_board a_before a_froms a_tos a_turns a_counts a_changedSquare a_changedMan p0 0 else m_X10_ways_b10 v_code v_side v_rights v_passed v_halves v_number v_top v_changed a_board a_before a_froms a_tos a_turns a_counts a_changedSquare a_changedMan p0
abbrev rm_X10_ways : Room := { frames := 11, cells := 0, slots := 0, locals := 268 }
abbrev wy_X10_ways : List Cond := .code yX10_ways cX10_ways 2 (some .int) :: gT
theorem cv_X10_ways {R : Room} {s : State} {args : Array Value} {own : String} {index : Nat} {w0 : Cond} (hts : ∀ w ∈ w0 :: gT, w.before args s = true) (hl : Cond.methodLink own index yX10_ways ∈ gT) (hR : 11 + 1 ≤ R.frames ∧ 8 + (2 + 11) + 268 ≤ R.locals) : CallW R s args own RX10 index yX10_ways cX10_ways 2 (some .int) wy_X10_ways rm_X10_ways 0 0 1 :=
  cwV 1 hts (gT_call w0 (pre := [.methodLink own index yX10_ways, .instanceMethod yX10_ways, .selects RX10 yX10_ways yX10_ways, .initialized RX10]) (gT_lc hl (gT_lc ly_yX10_ways (gT_lc lx_yX10_ways (gT_l1 li_RX10)))) lc_yX10_ways) rfl rfl rfl (by decide +kernel) hR
set_option maxRecDepth 100000 in
set_option maxHeartbeats 4000000 in
theorem c_X10_ways (l : Launch) (D : va_G) (h0 : Nat) (q : Nat → Nat) (cI : ClassId) (v_code : Int32) (v_side : Int32) (v_rights : Int32) (v_passed : Int32) (v_halves : Int32) (v_number : Int32) (v_top : Int32) (v_typedCount : Int32) (v_readAt : Int32) (v_place : Int32) (v_writtenCount : Int32) (v_chosenFrom : Int32) (v_chosenTo : Int32) (v_chosenTurn : Int32) (v_changed : Int32) (v_readSide : Int32) (v_readRights : Int32) (v_readPassed : Int32) (v_readHalves : Int32) (v_readNumber : Int32) (a_board : Nat → Int32) (a_before : Nat → Int32) (a_typed : Nat → Int32) (a_written : Nat → Int32) (a_froms : Nat → Int32) (a_tos : Nat → Int32) (a_turns : Nat → Int32) (a_counts : Nat → Int32) (a_changedSquare : Nat → Int32) (a_changedMan : Nat → Int32) (a_readBoard : Nat → Int32) (p0 : Int32) (rv : Int32) (v_code' : Int32) (v_side' : Int32) (v_rights' : Int32) (v_passed' : Int32) (v_halves' : Int32) (v_number' : Int32) (v_top' : Int32) (v_changed' : Int32) (a_board' : Nat → Int32) (a_before' : Nat → Int32) (a_froms' : Nat → Int32) (a_tos' : Nat → Int32) (a_turns' : Nat → Int32) (a_counts' : Nat → Int32) (a_changedSquare' : Nat → Int32) (a_changedMan' : Nat → Int32) (hm : m_X10_ways v_code v_side v_rights v_passed v_halves v_number v_top v_changed a_board a_before a_froms a_tos a_turns a_counts a_changedSquare a_changedMan p0 = some (rv, v_code', v_side', v_rights', v_passed', v_halves', v_number', v_top', v_changed', a_board', a_before', a_froms', a_tos', a_turns', a_counts', a_changedSquare', a_changedMan')) : kDi l yX10_ways wy_X10_ways rm_X10_ways D [(cI, .int)] rv (wM h0 q cI v_code v_side v_rights v_passed v_halves v_number v_top v_typedCount v_readAt v_place v_writtenCount v_chosenFrom v_chosenTo v_chosenTurn v_changed v_readSide v_readRights v_readPassed v_readHalves v_readNumber a_board a_before a_typed a_written a_froms a_tos a_turns a_counts a_changedSquare a_changedMan a_readBoard) (wM h0 q cI v_code' v_side' v_rights' v_passed' v_halves' v_number' v_top' v_typedCount v_readAt v_place v_writtenCount v_chosenFrom v_chosenTo v_chosenTurn v_changed' v_readSide v_readRights v_readPassed v_readHalves v_readNumber a_board' a_before' a_typed a_written a_froms' a_tos' a_turns' a_counts' a_changedSquare' a_changedMan' a_readBoard) [.ref h0, .int p0] := by
  refine kDi.of cX10_ways 2 (some .int) (by decide) rfl (Or.inl rfl) (Nat.le_of_ble_eq_true rfl) ?_
  intro p e s m below meth c A Q C hret
  have hin10 : ∀ w ∈ wsX100, w ∈ wy_X10_ways := fun w h => List.mem_cons_of_mem _ (inG10 w h)
  have j63 : ∀ (v_code : Int32) (v_side : Int32) (v_rights : Int32) (v_passed : Int32) (v_halves : Int32) (v_number : Int32) (v_top : Int32) (v_changed : Int32) (a_board : Nat → Int32) (a_before : Nat → Int32) (a_froms : Nat → Int32) (a_tos : Nat → Int32) (a_turns : Nat → Int32) (a_counts : Nat → Int32) (a_changedSquare : Nat → Int32) (a_changedMan : Nat → Int32) (t0 : Int32), m_X10_ways_b63  v_code v_side v_rights v_passed v_halves v_number v_top v_changed a_board a_before a_froms a_tos a_turns a_counts a_changedSquare a_changedMan t0 = some (rv, v_code', v_side', v_rights', v_passed', v_halves', v_number', v_top', v_changed', a_board', a_before', a_froms', a_tos', a_turns', a_counts', a_changedSquare', a_changedMan') → kv p l e rm_X10_ways s m ([.ref h0, .int p0] : List Value).toArray below meth c D A 2 0 0 Q (wM h0 q cI v_code v_side v_rights v_passed v_halves v_number v_top v_typedCount v_readAt v_place v_writtenCount v_chosenFrom v_chosenTo v_chosenTurn v_changed v_readSide v_readRights v_readPassed v_readHalves v_readNumber a_board a_before a_typed a_written a_froms a_tos a_turns a_counts a_changedSquare a_changedMan a_readBoard) [] 63 [.int t0] := by
    intro v_code v_side v_rights v_passed v_halves v_number v_top v_changed a_board a_before a_froms a_tos a_turns a_counts a_changedSquare a_changedMan t0 h
    unfold m_X10_ways_b63 at h
    cases h
    exact hret _ _ dX10_ways_63 (fun q => by cases q)
  have j15 : ∀ (v_code : Int32) (v_side : Int32) (v_rights : Int32) (v_passed : Int32) (v_halves : Int32) (v_number : Int32) (v_top : Int32) (v_changed : Int32) (a_board : Nat → Int32) (a_before : Nat → Int32) (a_froms : Nat → Int32) (a_tos : Nat → Int32) (a_turns : Nat → Int32) (a_counts : Nat → Int32) (a_changedSquare : Nat → Int32) (a_changedMan : Nat → Int32) (x1 : Int32) (t1 : Int32), m_X10_ways_b15  v_code v_side v_rights v_passed v_halves v_number v_top v_changed a_board a_before a_froms a_tos a_turns a_counts a_changedSquare a_changedMan x1 t1 = some (rv, v_code', v_side', v_rights', v_passed', v_halves', v_number', v_top', v_changed', a_board', a_before', a_froms', a_tos', a_turns', a_counts', a_changedSquare', a_changedMan') → kv p l e rm_X10_ways s m ([.ref h0, .int p0] : List Value).toArray below meth c D A 2 0 0 Q (wM h0 q cI v_code v_side v_rights v_passed v_halves v_number v_top v_typedCount v_readAt v_place v_writtenCount v_chosenFrom v_chosenTo v_chosenTurn v_changed v_readSide v_readRights v_readPassed v_readHalves v_readNumber a_board a_before a_typed a_written a_froms a_tos a_turns a_counts a_changedSquare a_changedMan a_readBoard) [(0, .ref h0), (1, .int x1)] 15 [.int t1, .ref h0] := by
    intro v_code v_side v_rights v_passed v_halves v_number v_top v_changed a_board a_before a_froms a_tos a_turns a_counts a_changedSquare a_changedMan x1 t1 h
    unfold m_X10_ways_b15 at h
    refine kv_put C (Cn := RX10) (T := TX10) (N := 31) (ty := .int) (ws1 := (wM h0 q cI t1 v_side v_rights v_passed v_halves v_number v_top v_typedCount v_readAt v_place v_writtenCount v_chosenFrom v_chosenTo v_chosenTurn v_changed v_readSide v_readRights v_readPassed v_readHalves v_readNumber a_board a_before a_typed a_written a_froms a_tos a_turns a_counts a_changedSquare a_changedMan a_readBoard)) 0 0 hin10 tyX10 tyX10_ok nmX10 rfl rfl (by decide) (C.ts _ (List.mem_cons_of_mem _ lf_RX10_66)) rfl rfl (by decide +kernel) rfl rfl (Nat.le_of_ble_eq_true rfl) rfl dX10_ways_15 ?_
    refine kv_aload_n C 0 dX10_ways_18 rfl rfl ?_
    refine kv_get C (Cn := RX10) (T := TX10) (N := 31) 0 0 hin10 rfl rfl (by decide) (C.ts _ (List.mem_cons_of_mem _ lf_RX10_66)) rfl rfl dX10_ways_19 ?_
    refine kv_if_le C 27 dX10_ways_22 (by decide) (fun c_1 => ?_) (fun c_1 => ?_)
    · have h := oi_t h c_1
      refine kv_iload_n C 1 dX10_ways_27 rfl rfl ?_
      refine kv_if_ne C 35 dX10_ways_28 (by decide) (fun c_2 => ?_) (fun c_2 => ?_)
      · have h := oi_f h c_2
        refine kv_iload_n C 1 dX10_ways_35 rfl rfl ?_
        refine kv_iconst C 1 dX10_ways_36 (by decide) ?_
        refine kv_icmp_ne C 47 dX10_ways_37 (by decide) (fun c_3 => ?_) (fun c_3 => ?_)
        · have h := oi_f h c_3
          refine kv_iload_n C 1 dX10_ways_47 rfl rfl ?_
          refine kv_iconst C 2 dX10_ways_48 (by decide) ?_
          refine kv_icmp_ne C 59 dX10_ways_49 (by decide) (fun c_4 => ?_) (fun c_4 => ?_)
          · have h := oi_f h c_4
            refine kv_aload_n C 0 dX10_ways_59 rfl rfl ?_
            obtain ⟨⟨r_5, v_side_6, v_rights_7, v_passed_8, v_halves_9, v_number_10, v_top_11, v_changed_12, a_board_13, a_before_14, a_froms_15, a_tos_16, a_turns_17, a_counts_18, a_changedSquare_19, a_changedMan_20⟩, hm_21, h⟩ := ob_e h
            replace h : _ = _ := h
            refine kv_callWi C [] 0 (c_X10_waysThree l D h0 q cI t1 v_side v_rights v_passed v_halves v_number v_top v_typedCount v_readAt v_place v_writtenCount v_chosenFrom v_chosenTo v_chosenTurn v_changed v_readSide v_readRights v_readPassed v_readHalves v_readNumber a_board a_before a_typed a_written a_froms a_tos a_turns a_counts a_changedSquare a_changedMan a_readBoard  r_5 v_side_6 v_rights_7 v_passed_8 v_halves_9 v_number_10 v_top_11 v_changed_12 a_board_13 a_before_14 a_froms_15 a_tos_16 a_turns_17 a_counts_18 a_changedSquare_19 a_changedMan_20 hm_21) (cv_X10_waysThree C.ts lm_RX10_205 ⟨Nat.le_of_ble_eq_true rfl, Nat.le_of_ble_eq_true rfl⟩) rfl rfl rfl rfl (Nat.le_of_ble_eq_true rfl) dX10_ways_60 ⟨Nat.zero_le _, Nat.zero_le _⟩ ?_
            exact kv_lv [] (lv2 := []) rfl (j63 t1 v_side_6 v_rights_7 v_passed_8 v_halves_9 v_number_10 v_top_11 v_changed_12 a_board_13 a_before_14 a_froms_15 a_tos_16 a_turns_17 a_counts_18 a_changedSquare_19 a_changedMan_20 r_5 h)
          · have h := oi_t h c_4
            refine kv_aload_n C 0 dX10_ways_52 rfl rfl ?_
            obtain ⟨⟨r_23, v_side_24, v_rights_25, v_passed_26, v_halves_27, v_number_28, v_top_29, v_changed_30, a_board_31, a_before_32, a_froms_33, a_tos_34, a_turns_35, a_counts_36, a_changedSquare_37, a_changedMan_38⟩, hm_39, h⟩ := ob_e h
            replace h : _ = _ := h
            refine kv_callWi C [] 0 (c_X10_waysTwo l D h0 q cI t1 v_side v_rights v_passed v_halves v_number v_top v_typedCount v_readAt v_place v_writtenCount v_chosenFrom v_chosenTo v_chosenTurn v_changed v_readSide v_readRights v_readPassed v_readHalves v_readNumber a_board a_before a_typed a_written a_froms a_tos a_turns a_counts a_changedSquare a_changedMan a_readBoard  r_23 v_side_24 v_rights_25 v_passed_26 v_halves_27 v_number_28 v_top_29 v_changed_30 a_board_31 a_before_32 a_froms_33 a_tos_34 a_turns_35 a_counts_36 a_changedSquare_37 a_changedMan_38 hm_39) (cv_X10_waysTwo C.ts lm_RX10_202 ⟨Nat.le_of_ble_eq_true rfl, Nat.le_of_ble_eq_true rfl⟩) rfl rfl rfl rfl (Nat.le_of_ble_eq_true rfl) dX10_ways_53 ⟨Nat.zero_le _, Nat.zero_le _⟩ ?_
            refine kv_goto C 63 dX10_ways_56 (by decide) ?_
            exact kv_lv [] (lv2 := []) rfl (j63 t1 v_side_24 v_rights_25 v_passed_26 v_halves_27 v_number_28 v_top_29 v_changed_30 a_board_31 a_before_32 a_froms_33 a_tos_34 a_turns_35 a_counts_36 a_changedSquare_37 a_changedMan_38 r_23 h)
        · have h := oi_t h c_3
          refine kv_aload_n C 0 dX10_ways_40 rfl rfl ?_
          obtain ⟨⟨r_41, v_changed_42, a_board_43, a_froms_44, a_tos_45, a_turns_46, a_counts_47, a_changedSquare_48, a_changedMan_49⟩, hm_50, h⟩ := ob_e h
          replace h : _ = _ := h
          refine kv_callWi C [] 0 (c_X10_waysOne l D h0 q cI t1 v_side v_rights v_passed v_halves v_number v_top v_typedCount v_readAt v_place v_writtenCount v_chosenFrom v_chosenTo v_chosenTurn v_changed v_readSide v_readRights v_readPassed v_readHalves v_readNumber a_board a_before a_typed a_written a_froms a_tos a_turns a_counts a_changedSquare a_changedMan a_readBoard  r_41 v_changed_42 a_board_43 a_froms_44 a_tos_45 a_turns_46 a_counts_47 a_changedSquare_48 a_changedMan_49 hm_50) (cv_X10_waysOne C.ts lm_RX10_199 ⟨Nat.le_of_ble_eq_true rfl, Nat.le_of_ble_eq_true rfl⟩) rfl rfl rfl rfl (Nat.le_of_ble_eq_true rfl) dX10_ways_41 ⟨Nat.zero_le _, Nat.zero_le _⟩ ?_
          refine kv_goto C 63 dX10_ways_44 (by decide) ?_
          exact kv_lv [] (lv2 := []) rfl (j63 t1 v_side v_rights v_passed v_halves v_number v_top v_changed_42 a_board_43 a_before a_froms_44 a_tos_45 a_turns_46 a_counts_47 a_changedSquare_48 a_changedMan_49 r_41 h)
      · have h := oi_t h c_2
        refine kv_iconst C 1 dX10_ways_31 (by decide) ?_
        refine kv_goto C 63 dX10_ways_32 (by decide) ?_
        exact kv_lv [] (lv2 := []) rfl (j63 t1 v_side v_rights v_passed v_halves v_number v_top v_changed a_board a_before a_froms a_tos a_turns a_counts a_changedSquare a_changedMan 1 h)
    · have h := oi_f h c_1
      refine kv_iconst C 0 dX10_ways_25 (by decide) ?_
      cases h
      exact hret _ _ dX10_ways_26 (fun q => by cases q)
  have j10 : ∀ (v_code : Int32) (v_side : Int32) (v_rights : Int32) (v_passed : Int32) (v_halves : Int32) (v_number : Int32) (v_top : Int32) (v_changed : Int32) (a_board : Nat → Int32) (a_before : Nat → Int32) (a_froms : Nat → Int32) (a_tos : Nat → Int32) (a_turns : Nat → Int32) (a_counts : Nat → Int32) (a_changedSquare : Nat → Int32) (a_changedMan : Nat → Int32) (x1 : Int32), m_X10_ways_b10  v_code v_side v_rights v_passed v_halves v_number v_top v_changed a_board a_before a_froms a_tos a_turns a_counts a_changedSquare a_changedMan x1 = some (rv, v_code', v_side', v_rights', v_passed', v_halves', v_number', v_top', v_changed', a_board', a_before', a_froms', a_tos', a_turns', a_counts', a_changedSquare', a_changedMan') → kv p l e rm_X10_ways s m ([.ref h0, .int p0] : List Value).toArray below meth c D A 2 0 0 Q (wM h0 q cI v_code v_side v_rights v_passed v_halves v_number v_top v_typedCount v_readAt v_place v_writtenCount v_chosenFrom v_chosenTo v_chosenTurn v_changed v_readSide v_readRights v_readPassed v_readHalves v_readNumber a_board a_before a_typed a_written a_froms a_tos a_turns a_counts a_changedSquare a_changedMan a_readBoard) [(0, .ref h0), (1, .int x1)] 10 [.ref h0] := by
    intro v_code v_side v_rights v_passed v_halves v_number v_top v_changed a_board a_before a_froms a_tos a_turns a_counts a_changedSquare a_changedMan x1 h
    unfold m_X10_ways_b10 at h
    refine kv_iconst C 1 dX10_ways_10 (by decide) ?_
    refine kv_goto C 15 dX10_ways_11 (by decide) ?_
    exact kv_lv [0, 1] (lv2 := [(0, .ref h0), (1, .int x1)]) rfl (j15 v_code v_side v_rights v_passed v_halves v_number v_top v_changed a_board a_before a_froms a_tos a_turns a_counts a_changedSquare a_changedMan x1 1 h)
  unfold m_X10_ways at hm
  have h := hm
  refine kv_lv [0, 1] (lv2 := [(0, .ref h0), (1, .int p0)]) rfl ?_
  refine kv_aload_n C 0 dX10_ways_0 rfl rfl ?_
  refine kv_iload_n C 1 dX10_ways_1 rfl rfl ?_
  refine kv_if_lt C 10 dX10_ways_2 (by decide) (fun c_52 => ?_) (fun c_52 => ?_)
  · have h := oi_t h c_52
    exact kv_lv [0, 1] (lv2 := [(0, .ref h0), (1, .int p0)]) rfl (j10 v_code v_side v_rights v_passed v_halves v_number v_top v_changed a_board a_before a_froms a_tos a_turns a_counts a_changedSquare a_changedMan p0 h)
  · have h := oi_f h c_52
    refine kv_iload_n C 1 dX10_ways_5 rfl rfl ?_
    refine kv_iconst C 3 dX10_ways_6 (by decide) ?_
    refine kv_icmp_le C 14 dX10_ways_7 (by decide) (fun c_53 => ?_) (fun c_53 => ?_)
    · have h := oi_t h c_53
      refine kv_iconst C 0 dX10_ways_14 (by decide) ?_
      exact kv_lv [0, 1] (lv2 := [(0, .ref h0), (1, .int p0)]) rfl (j15 v_code v_side v_rights v_passed v_halves v_number v_top v_changed a_board a_before a_froms a_tos a_turns a_counts a_changedSquare a_changedMan p0 0 h)
    · have h := oi_f h c_53
      exact kv_lv [0, 1] (lv2 := [(0, .ref h0), (1, .int p0)]) rfl (j10 v_code v_side v_rights v_passed v_halves v_number v_top v_changed a_board a_before a_froms a_tos a_turns a_counts a_changedSquare a_changedMan p0 h)
def m_X10_moves (v_code : Int32) (v_side : Int32) (v_rights : Int32) (v_passed : Int32) (v_changed : Int32) (a_board : Nat → Int32) (a_froms : Nat → Int32) (a_tos : Nat → Int32) (a_turns : Nat → Int32) (a_counts : Nat → Int32) (a_changedSquare : Nat → Int32) (a_changedMan : Nat → Int32) : Option (Int32 × Int32 × Int32 × (Nat → Int32) × (Nat → Int32) × (Nat → Int32) × (Nat → Int32) × (Nat → Int32) × (Nat → Int32) × (Nat → Int32)) := ob (m_X10_find v_side v_rights v_passed v_changed a_board a_froms a_tos a_turns a_counts a_changedSquare a_changedMan 0) fun (v_changed_1, a_board_2, a_froms_3, a_tos_4, a_turns_5, a_counts_6, a_changedSquare_7, a_changedMan_8) => some (a_counts_6 (Int32.toNatClampNeg 0), 0, v_changed_1, a_board_2, a_froms_3, a_tos_4, a_turns_5, a_counts_6, a_changedSquare_7, a_changedMan_8)
abbrev rm_X10_moves : Room := { frames := 8, cells := 0, slots := 0, locals := 198 }
abbrev wy_X10_moves : List Cond := .code yX10_moves cX10_moves 1 (some .int) :: gT
theorem cv_X10_moves {R : Room} {s : State} {args : Array Value} {own : String} {index : Nat} {w0 : Cond} (hts : ∀ w ∈ w0 :: gT, w.before args s = true) (hl : Cond.methodLink own index yX10_moves ∈ gT) (hR : 8 + 1 ≤ R.frames ∧ 8 + (1 + 11) + 198 ≤ R.locals) : CallW R s args own RX10 index yX10_moves cX10_moves 1 (some .int) wy_X10_moves rm_X10_moves 0 0 0 :=
  cwV 0 hts (gT_call w0 (pre := [.methodLink own index yX10_moves, .instanceMethod yX10_moves, .selects RX10 yX10_moves yX10_moves, .initialized RX10]) (gT_lc hl (gT_lc ly_yX10_moves (gT_lc lx_yX10_moves (gT_l1 li_RX10)))) lc_yX10_moves) rfl rfl rfl (by decide +kernel) hR
set_option maxRecDepth 100000 in
set_option maxHeartbeats 4000000 in
theorem c_X10_moves (l : Launch) (D : va_G) (h0 : Nat) (q : Nat → Nat) (cI : ClassId) (v_code : Int32) (v_side : Int32) (v_rights : Int32) (v_passed : Int32) (v_halves : Int32) (v_number : Int32) (v_top : Int32) (v_typedCount : Int32) (v_readAt : Int32) (v_place : Int32) (v_writtenCount : Int32) (v_chosenFrom : Int32) (v_chosenTo : Int32) (v_chosenTurn : Int32) (v_changed : Int32) (v_readSide : Int32) (v_readRights : Int32) (v_readPassed : Int32) (v_readHalves : Int32) (v_readNumber : Int32) (a_board : Nat → Int32) (a_before : Nat → Int32) (a_typed : Nat → Int32) (a_written : Nat → Int32) (a_froms : Nat → Int32) (a_tos : Nat → Int32) (a_turns : Nat → Int32) (a_counts : Nat → Int32) (a_changedSquare : Nat → Int32) (a_changedMan : Nat → Int32) (a_readBoard : Nat → Int32) (rv : Int32) (v_code' : Int32) (v_changed' : Int32) (a_board' : Nat → Int32) (a_froms' : Nat → Int32) (a_tos' : Nat → Int32) (a_turns' : Nat → Int32) (a_counts' : Nat → Int32) (a_changedSquare' : Nat → Int32) (a_changedMan' : Nat → Int32) (hm : m_X10_moves v_code v_side v_rights v_passed v_changed a_board a_froms a_tos a_turns a_counts a_changedSquare a_changedMan = some (rv, v_code', v_changed', a_board', a_froms', a_tos', a_turns', a_counts', a_changedSquare', a_changedMan')) : kDi l yX10_moves wy_X10_moves rm_X10_moves D [(cI, .int)] rv (wM h0 q cI v_code v_side v_rights v_passed v_halves v_number v_top v_typedCount v_readAt v_place v_writtenCount v_chosenFrom v_chosenTo v_chosenTurn v_changed v_readSide v_readRights v_readPassed v_readHalves v_readNumber a_board a_before a_typed a_written a_froms a_tos a_turns a_counts a_changedSquare a_changedMan a_readBoard) (wM h0 q cI v_code' v_side v_rights v_passed v_halves v_number v_top v_typedCount v_readAt v_place v_writtenCount v_chosenFrom v_chosenTo v_chosenTurn v_changed' v_readSide v_readRights v_readPassed v_readHalves v_readNumber a_board' a_before a_typed a_written a_froms' a_tos' a_turns' a_counts' a_changedSquare' a_changedMan' a_readBoard) [.ref h0] := by
  refine kDi.of cX10_moves 1 (some .int) (by decide) rfl (Or.inl rfl) (Nat.le_of_ble_eq_true rfl) ?_
  intro p e s m below meth c A Q C hret
  have hin10 : ∀ w ∈ wsX100, w ∈ wy_X10_moves := fun w h => List.mem_cons_of_mem _ (inG10 w h)
  unfold m_X10_moves at hm
  have h := hm
  refine kv_lv [0] (lv2 := [(0, .ref h0)]) rfl ?_
  refine kv_aload_n C 0 dX10_moves_0 rfl rfl ?_
  refine kv_iconst C 0 dX10_moves_1 (by decide) ?_
  refine kv_put C (Cn := RX10) (T := TX10) (N := 31) (ty := .int) (ws1 := (wM h0 q cI 0 v_side v_rights v_passed v_halves v_number v_top v_typedCount v_readAt v_place v_writtenCount v_chosenFrom v_chosenTo v_chosenTurn v_changed v_readSide v_readRights v_readPassed v_readHalves v_readNumber a_board a_before a_typed a_written a_froms a_tos a_turns a_counts a_changedSquare a_changedMan a_readBoard)) 0 0 hin10 tyX10 tyX10_ok nmX10 rfl rfl (by decide) (C.ts _ (List.mem_cons_of_mem _ lf_RX10_66)) rfl rfl (by decide +kernel) rfl rfl (Nat.le_of_ble_eq_true rfl) rfl dX10_moves_2 ?_
  refine kv_aload_n C 0 dX10_moves_5 rfl rfl ?_
  refine kv_iconst C 0 dX10_moves_6 (by decide) ?_
  obtain ⟨⟨v_changed_1, a_board_2, a_froms_3, a_tos_4, a_turns_5, a_counts_6, a_changedSquare_7, a_changedMan_8⟩, hm_9, h⟩ := ob_e h
  replace h : _ = _ := h
  refine kv_callWv C [.int 0] 0 (c_X10_find l D h0 q cI 0 v_side v_rights v_passed v_halves v_number v_top v_typedCount v_readAt v_place v_writtenCount v_chosenFrom v_chosenTo v_chosenTurn v_changed v_readSide v_readRights v_readPassed v_readHalves v_readNumber a_board a_before a_typed a_written a_froms a_tos a_turns a_counts a_changedSquare a_changedMan a_readBoard 0 v_changed_1 a_board_2 a_froms_3 a_tos_4 a_turns_5 a_counts_6 a_changedSquare_7 a_changedMan_8 hm_9) (cv_X10_find C.ts lm_RX10_158 ⟨Nat.le_of_ble_eq_true rfl, Nat.le_of_ble_eq_true rfl⟩) rfl rfl rfl rfl (Nat.le_of_ble_eq_true rfl) dX10_moves_7 ⟨Nat.zero_le _, Nat.zero_le _⟩ ?_
  refine kv_aload_n C 0 dX10_moves_10 rfl rfl ?_
  refine kv_get C (Cn := RX10) (T := TX10) (N := 31) 0 18 hin10 rfl rfl (by decide) (C.ts _ (List.mem_cons_of_mem _ lf_RX10_39)) rfl rfl dX10_moves_11 ?_
  refine kv_iconst C 0 dX10_moves_14 (by decide) ?_
  refine kv_iald C 8 0 rfl rfl (by unfold vp_in; decide) dX10_moves_15 ?_
  cases h
  exact hret _ _ dX10_moves_16 (fun q => by cases q)
def m_X10_move_b85 (v_code : Int32) (v_side : Int32) (v_rights : Int32) (v_passed : Int32) (v_changed : Int32) (a_board : Nat → Int32) (a_froms : Nat → Int32) (a_tos : Nat → Int32) (a_turns : Nat → Int32) (a_counts : Nat → Int32) (a_changedSquare : Nat → Int32) (a_changedMan : Nat → Int32) (t0 : Int32) : Option (Int32 × Int32 × Int32 × (Nat → Int32) × (Nat → Int32) × (Nat → Int32) × (Nat → Int32) × (Nat → Int32) × (Nat → Int32) × (Nat → Int32)) := some (t0, v_code, v_changed, a_board, a_froms, a_tos, a_turns, a_counts, a_changedSquare, a_changedMan)
def m_X10_move_b38 (v_code : Int32) (v_side : Int32) (v_rights : Int32) (v_passed : Int32) (v_changed : Int32) (a_board : Nat → Int32) (a_froms : Nat → Int32) (a_tos : Nat → Int32) (a_turns : Nat → Int32) (a_counts : Nat → Int32) (a_changedSquare : Nat → Int32) (a_changedMan : Nat → Int32) (x1 : Int32) (x2 : Int32) (t1 : Int32) : Option (Int32 × Int32 × Int32 × (Nat → Int32) × (Nat → Int32) × (Nat → Int32) × (Nat → Int32) × (Nat → Int32) × (Nat → Int32) × (Nat → Int32)) := if t1 ≤ 0 then if x2 = 0 then oin (x1) 2560 (m_X10_move_b85 t1 v_side v_rights v_passed v_changed a_board a_froms a_tos a_turns a_counts a_changedSquare a_changedMan (a_froms x1.toNatClampNeg)) else if x2 = 1 then oin (x1) 2560 (m_X10_move_b85 t1 v_side v_rights v_passed v_changed a_board a_froms a_tos a_turns a_counts a_changedSquare a_changedMan (a_tos x1.toNatClampNeg)) else oin (x1) 2560 (m_X10_move_b85 t1 v_side v_rights v_passed v_changed a_board a_froms a_tos a_turns a_counts a_changedSquare a_changedMan (a_turns x1.toNatClampNeg)) else m_X10_move_b85 t1 v_side v_rights v_passed v_changed a_board a_froms a_tos a_turns a_counts a_changedSquare a_changedMan 0
def m_X10_move_b33 (v_code : Int32) (v_side : Int32) (v_rights : Int32) (v_passed : Int32) (v_changed : Int32) (a_board : Nat → Int32) (a_froms : Nat → Int32) (a_tos : Nat → Int32) (a_turns : Nat → Int32) (a_counts : Nat → Int32) (a_changedSquare : Nat → Int32) (a_changedMan : Nat → Int32) (x1 : Int32) (x2 : Int32) : Option (Int32 × Int32 × Int32 × (Nat → Int32) × (Nat → Int32) × (Nat → Int32) × (Nat → Int32) × (Nat → Int32) × (Nat → Int32) × (Nat → Int32)) := m_X10_move_b38 v_code v_side v_rights v_passed v_changed a_board a_froms a_tos a_turns a_counts a_changedSquare a_changedMan x1 x2 2
def m_X10_move_b20 (v_code : Int32) (v_side : Int32) (v_rights : Int32) (v_passed : Int32) (v_changed : Int32) (a_board : Nat → Int32) (a_froms : Nat → Int32) (a_tos : Nat → Int32) (a_turns : Nat → Int32) (a_counts : Nat → Int32) (a_changedSquare : Nat → Int32) (a_changedMan : Nat → Int32) (x1 : Int32) (x2 : Int32) : Option (Int32 × Int32 × Int32 × (Nat → Int32) × (Nat → Int32) × (Nat → Int32) × (Nat → Int32) × (Nat → Int32) × (Nat → Int32) × (Nat → Int32)) := m_X10_move_b38 v_code v_side v_rights v_passed v_changed a_board a_froms a_tos a_turns a_counts a_changedSquare a_changedMan x1 x2 1
def m_X10_move (v_code : Int32) (v_side : Int32) (v_rights : Int32) (v_passed : Int32) (v_changed : Int32) (a_board : Nat → Int32) (a_froms : Nat → Int32) (a_tos : Nat → Int32) (a_turns : Nat → Int32) (a_counts : Nat → Int32) (a_changedSquare : Nat → Int32) (a_changedMan : Nat → Int32) (p0 : Int32) (p1 : Int32) : Option (Int32 × Int32 × Int32 × (Nat → Int32) × (Nat → Int32) × (Nat → Int32) × (Nat → Int32) × (Nat → Int32) × (Nat → Int32) × (Nat → Int32)) := ob (m_X10_find v_side v_rights v_passed v_changed a_board a_froms a_tos a_turns a_counts a_changedSquare a_changedMan 0) fun (v_changed_7, a_board_8, a_froms_9, a_tos_10, a_turns_11, a_counts_12, a_changedSquare_13, a_changedMan_14) => if p0 < 0 then m_X10_move_b20 v_code v_side v_rights v_passed v_changed_7 a_board_8 a_froms_9 a_tos_10 a_turns_11 a_counts_12 a_changedSquare_13 a_changedMan_14 p0 p1 else if p0 < (a_counts_12 (Int32.toNatClampNeg 0)) then if p1 < 0 then m_X10_move_b33 v_code v_side v_rights v_passed v_changed_7 a_board_8 a_froms_9 a_tos_10 a_turns_11 a_counts_12 a_changedSquare_13 a_changedMan_14 p0 p1 else if p1 ≤ 2 then m_X10_move_b38 v_code v_side v_rights v_passed v_changed_7 a_board_8 a_froms_9 a_tos_10 a_turns_11 a_counts_12 a_changedSquare_13 a_changedMan_14 p0 p1 0 else m_X10_move_b33 v_code v_side v_rights v_passed v_changed_7 a_board_8 a_froms_9 a_tos_10 a_turns_11 a_counts_12 a_changedSquare_13 a_changedMan_14 p0 p1 else m_X10_move_b20 v_code v_side v_rights v_passed v_changed_7 a_board_8 a_froms_9 a_tos_10 a_turns_11 a_counts_12 a_changedSquare_13 a_changedMan_14 p0 p1
abbrev rm_X10_move : Room := { frames := 8, cells := 0, slots := 0, locals := 198 }
abbrev wy_X10_move : List Cond := .code yX10_move cX10_move 3 (some .int) :: gT
theorem cv_X10_move {R : Room} {s : State} {args : Array Value} {own : String} {index : Nat} {w0 : Cond} (hts : ∀ w ∈ w0 :: gT, w.before args s = true) (hl : Cond.methodLink own index yX10_move ∈ gT) (hR : 8 + 1 ≤ R.frames ∧ 8 + (3 + 11) + 198 ≤ R.locals) : CallW R s args own RX10 index yX10_move cX10_move 3 (some .int) wy_X10_move rm_X10_move 0 0 2 :=
  cwV 2 hts (gT_call w0 (pre := [.methodLink own index yX10_move, .instanceMethod yX10_move, .selects RX10 yX10_move yX10_move, .initialized RX10]) (gT_lc hl (gT_lc ly_yX10_move (gT_lc lx_yX10_move (gT_l1 li_RX10)))) lc_yX10_move) rfl rfl rfl (by decide +kernel) hR
set_option maxRecDepth 100000 in
set_option maxHeartbeats 4000000 in
theorem c_X10_move (l : Launch) (D : va_G) (h0 : Nat) (q : Nat → Nat) (cI : ClassId) (v_code : Int32) (v_side : Int32) (v_rights : Int32) (v_passed : Int32) (v_halves : Int32) (v_number : Int32) (v_top : Int32) (v_typedCount : Int32) (v_readAt : Int32) (v_place : Int32) (v_writtenCount : Int32) (v_chosenFrom : Int32) (v_chosenTo : Int32) (v_chosenTurn : Int32) (v_changed : Int32) (v_readSide : Int32) (v_readRights : Int32) (v_readPassed : Int32) (v_readHalves : Int32) (v_readNumber : Int32) (a_board : Nat → Int32) (a_before : Nat → Int32) (a_typed : Nat → Int32) (a_written : Nat → Int32) (a_froms : Nat → Int32) (a_tos : Nat → Int32) (a_turns : Nat → Int32) (a_counts : Nat → Int32) (a_changedSquare : Nat → Int32) (a_changedMan : Nat → Int32) (a_readBoard : Nat → Int32) (p0 : Int32) (p1 : Int32) (rv : Int32) (v_code' : Int32) (v_changed' : Int32) (a_board' : Nat → Int32) (a_froms' : Nat → Int32) (a_tos' : Nat → Int32) (a_turns' : Nat → Int32) (a_counts' : Nat → Int32) (a_changedSquare' : Nat → Int32) (a_changedMan' : Nat → Int32) (hm : m_X10_move v_code v_side v_rights v_passed v_changed a_board a_froms a_tos a_turns a_counts a_changedSquare a_changedMan p0 p1 = some (rv, v_code', v_changed', a_board', a_froms', a_tos', a_turns', a_counts', a_changedSquare', a_changedMan')) : kDi l yX10_move wy_X10_move rm_X10_move D [(cI, .int)] rv (wM h0 q cI v_code v_side v_rights v_passed v_halves v_number v_top v_typedCount v_readAt v_place v_writtenCount v_chosenFrom v_chosenTo v_chosenTurn v_changed v_readSide v_readRights v_readPassed v_readHalves v_readNumber a_board a_before a_typed a_written a_froms a_tos a_turns a_counts a_changedSquare a_changedMan a_readBoard) (wM h0 q cI v_code' v_side v_rights v_passed v_halves v_number v_top v_typedCount v_readAt v_place v_writtenCount v_chosenFrom v_chosenTo v_chosenTurn v_changed' v_readSide v_readRights v_readPassed v_readHalves v_readNumber a_board' a_before a_typed a_written a_froms' a_tos' a_turns' a_counts' a_changedSquare' a_changedMan' a_readBoard) [.ref h0, .int p0, .int p1] := by
  refine kDi.of cX10_move 3 (some .int) (by decide) rfl (Or.inl rfl) (Nat.le_of_ble_eq_true rfl) ?_
  intro p e s m below meth c A Q C hret
  have hin10 : ∀ w ∈ wsX100, w ∈ wy_X10_move := fun w h => List.mem_cons_of_mem _ (inG10 w h)
  have j85 : ∀ (v_code : Int32) (v_changed : Int32) (a_board : Nat → Int32) (a_froms : Nat → Int32) (a_tos : Nat → Int32) (a_turns : Nat → Int32) (a_counts : Nat → Int32) (a_changedSquare : Nat → Int32) (a_changedMan : Nat → Int32) (t0 : Int32), m_X10_move_b85  v_code v_side v_rights v_passed v_changed a_board a_froms a_tos a_turns a_counts a_changedSquare a_changedMan t0 = some (rv, v_code', v_changed', a_board', a_froms', a_tos', a_turns', a_counts', a_changedSquare', a_changedMan') → kv p l e rm_X10_move s m ([.ref h0, .int p0, .int p1] : List Value).toArray below meth c D A 3 0 0 Q (wM h0 q cI v_code v_side v_rights v_passed v_halves v_number v_top v_typedCount v_readAt v_place v_writtenCount v_chosenFrom v_chosenTo v_chosenTurn v_changed v_readSide v_readRights v_readPassed v_readHalves v_readNumber a_board a_before a_typed a_written a_froms a_tos a_turns a_counts a_changedSquare a_changedMan a_readBoard) [] 85 [.int t0] := by
    intro v_code v_changed a_board a_froms a_tos a_turns a_counts a_changedSquare a_changedMan t0 h
    unfold m_X10_move_b85 at h
    cases h
    exact hret _ _ dX10_move_85 (fun q => by cases q)
  have j38 : ∀ (v_code : Int32) (v_changed : Int32) (a_board : Nat → Int32) (a_froms : Nat → Int32) (a_tos : Nat → Int32) (a_turns : Nat → Int32) (a_counts : Nat → Int32) (a_changedSquare : Nat → Int32) (a_changedMan : Nat → Int32) (x1 : Int32) (x2 : Int32) (t1 : Int32), m_X10_move_b38  v_code v_side v_rights v_passed v_changed a_board a_froms a_tos a_turns a_counts a_changedSquare a_changedMan x1 x2 t1 = some (rv, v_code', v_changed', a_board', a_froms', a_tos', a_turns', a_counts', a_changedSquare', a_changedMan') → kv p l e rm_X10_move s m ([.ref h0, .int p0, .int p1] : List Value).toArray below meth c D A 3 0 0 Q (wM h0 q cI v_code v_side v_rights v_passed v_halves v_number v_top v_typedCount v_readAt v_place v_writtenCount v_chosenFrom v_chosenTo v_chosenTurn v_changed v_readSide v_readRights v_readPassed v_readHalves v_readNumber a_board a_before a_typed a_written a_froms a_tos a_turns a_counts a_changedSquare a_changedMan a_readBoard) [(0, .ref h0), (1, .int x1), (2, .int x2)] 38 [.int t1, .ref h0] := by
    intro v_code v_changed a_board a_froms a_tos a_turns a_counts a_changedSquare a_changedMan x1 x2 t1 h
    unfold m_X10_move_b38 at h
    refine kv_put C (Cn := RX10) (T := TX10) (N := 31) (ty := .int) (ws1 := (wM h0 q cI t1 v_side v_rights v_passed v_halves v_number v_top v_typedCount v_readAt v_place v_writtenCount v_chosenFrom v_chosenTo v_chosenTurn v_changed v_readSide v_readRights v_readPassed v_readHalves v_readNumber a_board a_before a_typed a_written a_froms a_tos a_turns a_counts a_changedSquare a_changedMan a_readBoard)) 0 0 hin10 tyX10 tyX10_ok nmX10 rfl rfl (by decide) (C.ts _ (List.mem_cons_of_mem _ lf_RX10_66)) rfl rfl (by decide +kernel) rfl rfl (Nat.le_of_ble_eq_true rfl) rfl dX10_move_38 ?_
    refine kv_aload_n C 0 dX10_move_41 rfl rfl ?_
    refine kv_get C (Cn := RX10) (T := TX10) (N := 31) 0 0 hin10 rfl rfl (by decide) (C.ts _ (List.mem_cons_of_mem _ lf_RX10_66)) rfl rfl dX10_move_42 ?_
    refine kv_if_le C 52 dX10_move_45 (by decide) (fun c_1 => ?_) (fun c_1 => ?_)
    · have h := oi_t h c_1
      refine kv_iload_n C 2 dX10_move_52 rfl rfl ?_
      refine kv_if_ne C 65 dX10_move_53 (by decide) (fun c_2 => ?_) (fun c_2 => ?_)
      · have h := oi_f h c_2
        refine kv_iload_n C 2 dX10_move_65 rfl rfl ?_
        refine kv_iconst C 1 dX10_move_66 (by decide) ?_
        refine kv_icmp_ne C 79 dX10_move_67 (by decide) (fun c_3 => ?_) (fun c_3 => ?_)
        · have h := oi_f h c_3
          refine kv_aload_n C 0 dX10_move_79 rfl rfl ?_
          refine kv_get C (Cn := RX10) (T := TX10) (N := 31) 0 17 hin10 rfl rfl (by decide) (C.ts _ (List.mem_cons_of_mem _ lf_RX10_36)) rfl rfl dX10_move_80 ?_
          refine kv_iload_n C 1 dX10_move_83 rfl rfl ?_
          obtain ⟨g_4, h⟩ := oin_e h
          refine kv_iald C 7 0 rfl rfl g_4 dX10_move_84 ?_
          exact kv_lv [] (lv2 := []) rfl (j85 t1 v_changed a_board a_froms a_tos a_turns a_counts a_changedSquare a_changedMan (a_turns x1.toNatClampNeg) h)
        · have h := oi_t h c_3
          refine kv_aload_n C 0 dX10_move_70 rfl rfl ?_
          refine kv_get C (Cn := RX10) (T := TX10) (N := 31) 0 16 hin10 rfl rfl (by decide) (C.ts _ (List.mem_cons_of_mem _ lf_RX10_33)) rfl rfl dX10_move_71 ?_
          refine kv_iload_n C 1 dX10_move_74 rfl rfl ?_
          obtain ⟨g_5, h⟩ := oin_e h
          refine kv_iald C 6 0 rfl rfl g_5 dX10_move_75 ?_
          refine kv_goto C 85 dX10_move_76 (by decide) ?_
          exact kv_lv [] (lv2 := []) rfl (j85 t1 v_changed a_board a_froms a_tos a_turns a_counts a_changedSquare a_changedMan (a_tos x1.toNatClampNeg) h)
      · have h := oi_t h c_2
        refine kv_aload_n C 0 dX10_move_56 rfl rfl ?_
        refine kv_get C (Cn := RX10) (T := TX10) (N := 31) 0 15 hin10 rfl rfl (by decide) (C.ts _ (List.mem_cons_of_mem _ lf_RX10_30)) rfl rfl dX10_move_57 ?_
        refine kv_iload_n C 1 dX10_move_60 rfl rfl ?_
        obtain ⟨g_6, h⟩ := oin_e h
        refine kv_iald C 5 0 rfl rfl g_6 dX10_move_61 ?_
        refine kv_goto C 85 dX10_move_62 (by decide) ?_
        exact kv_lv [] (lv2 := []) rfl (j85 t1 v_changed a_board a_froms a_tos a_turns a_counts a_changedSquare a_changedMan (a_froms x1.toNatClampNeg) h)
    · have h := oi_f h c_1
      refine kv_iconst C 0 dX10_move_48 (by decide) ?_
      refine kv_goto C 85 dX10_move_49 (by decide) ?_
      exact kv_lv [] (lv2 := []) rfl (j85 t1 v_changed a_board a_froms a_tos a_turns a_counts a_changedSquare a_changedMan 0 h)
  have j33 : ∀ (v_code : Int32) (v_changed : Int32) (a_board : Nat → Int32) (a_froms : Nat → Int32) (a_tos : Nat → Int32) (a_turns : Nat → Int32) (a_counts : Nat → Int32) (a_changedSquare : Nat → Int32) (a_changedMan : Nat → Int32) (x1 : Int32) (x2 : Int32), m_X10_move_b33  v_code v_side v_rights v_passed v_changed a_board a_froms a_tos a_turns a_counts a_changedSquare a_changedMan x1 x2 = some (rv, v_code', v_changed', a_board', a_froms', a_tos', a_turns', a_counts', a_changedSquare', a_changedMan') → kv p l e rm_X10_move s m ([.ref h0, .int p0, .int p1] : List Value).toArray below meth c D A 3 0 0 Q (wM h0 q cI v_code v_side v_rights v_passed v_halves v_number v_top v_typedCount v_readAt v_place v_writtenCount v_chosenFrom v_chosenTo v_chosenTurn v_changed v_readSide v_readRights v_readPassed v_readHalves v_readNumber a_board a_before a_typed a_written a_froms a_tos a_turns a_counts a_changedSquare a_changedMan a_readBoard) [(0, .ref h0), (1, .int x1), (2, .int x2)] 33 [.ref h0] := by
    intro v_code v_changed a_board a_froms a_tos a_turns a_counts a_changedSquare a_changedMan x1 x2 h
    unfold m_X10_move_b33 at h
    refine kv_iconst C 2 dX10_move_33 (by decide) ?_
    refine kv_goto C 38 dX10_move_34 (by decide) ?_
    exact kv_lv [0, 1, 2] (lv2 := [(0, .ref h0), (1, .int x1), (2, .int x2)]) rfl (j38 v_code v_changed a_board a_froms a_tos a_turns a_counts a_changedSquare a_changedMan x1 x2 2 h)
  have j20 : ∀ (v_code : Int32) (v_changed : Int32) (a_board : Nat → Int32) (a_froms : Nat → Int32) (a_tos : Nat → Int32) (a_turns : Nat → Int32) (a_counts : Nat → Int32) (a_changedSquare : Nat → Int32) (a_changedMan : Nat → Int32) (x1 : Int32) (x2 : Int32), m_X10_move_b20  v_code v_side v_rights v_passed v_changed a_board a_froms a_tos a_turns a_counts a_changedSquare a_changedMan x1 x2 = some (rv, v_code', v_changed', a_board', a_froms', a_tos', a_turns', a_counts', a_changedSquare', a_changedMan') → kv p l e rm_X10_move s m ([.ref h0, .int p0, .int p1] : List Value).toArray below meth c D A 3 0 0 Q (wM h0 q cI v_code v_side v_rights v_passed v_halves v_number v_top v_typedCount v_readAt v_place v_writtenCount v_chosenFrom v_chosenTo v_chosenTurn v_changed v_readSide v_readRights v_readPassed v_readHalves v_readNumber a_board a_before a_typed a_written a_froms a_tos a_turns a_counts a_changedSquare a_changedMan a_readBoard) [(0, .ref h0), (1, .int x1), (2, .int x2)] 20 [.ref h0] := by
    intro v_code v_changed a_board a_froms a_tos a_turns a_counts a_changedSquare a_changedMan x1 x2 h
    unfold m_X10_move_b20 at h
    refine kv_iconst C 1 dX10_move_20 (by decide) ?_
    refine kv_goto C 38 dX10_move_21 (by decide) ?_
    exact kv_lv [0, 1, 2] (lv2 := [(0, .ref h0), (1, .int x1), (2, .int x2)]) rfl (j38 v_code v_changed a_board a_froms a_tos a_turns a_counts a_changedSquare a_changedMan x1 x2 1 h)
  unfold m_X10_move at hm
  have h := hm
  refine kv_lv [0, 1, 2] (lv2 := [(0, .ref h0), (1, .int p0), (2, .int p1)]) rfl ?_
  refine kv_aload_n C 0 dX10_move_0 rfl rfl ?_
  refine kv_iconst C 0 dX10_move_1 (by decide) ?_
  obtain ⟨⟨v_changed_7, a_board_8, a_froms_9, a_tos_10, a_turns_11, a_counts_12, a_changedSquare_13, a_changedMan_14⟩, hm_15, h⟩ := ob_e h
  replace h : _ = _ := h
  refine kv_callWv C [.int 0] 0 (c_X10_find l D h0 q cI v_code v_side v_rights v_passed v_halves v_number v_top v_typedCount v_readAt v_place v_writtenCount v_chosenFrom v_chosenTo v_chosenTurn v_changed v_readSide v_readRights v_readPassed v_readHalves v_readNumber a_board a_before a_typed a_written a_froms a_tos a_turns a_counts a_changedSquare a_changedMan a_readBoard 0 v_changed_7 a_board_8 a_froms_9 a_tos_10 a_turns_11 a_counts_12 a_changedSquare_13 a_changedMan_14 hm_15) (cv_X10_find C.ts lm_RX10_158 ⟨Nat.le_of_ble_eq_true rfl, Nat.le_of_ble_eq_true rfl⟩) rfl rfl rfl rfl (Nat.le_of_ble_eq_true rfl) dX10_move_2 ⟨Nat.zero_le _, Nat.zero_le _⟩ ?_
  refine kv_aload_n C 0 dX10_move_5 rfl rfl ?_
  refine kv_iload_n C 1 dX10_move_6 rfl rfl ?_
  refine kv_if_lt C 20 dX10_move_7 (by decide) (fun c_17 => ?_) (fun c_17 => ?_)
  · have h := oi_t h c_17
    exact kv_lv [0, 1, 2] (lv2 := [(0, .ref h0), (1, .int p0), (2, .int p1)]) rfl (j20 v_code v_changed_7 a_board_8 a_froms_9 a_tos_10 a_turns_11 a_counts_12 a_changedSquare_13 a_changedMan_14 p0 p1 h)
  · have h := oi_f h c_17
    refine kv_iload_n C 1 dX10_move_10 rfl rfl ?_
    refine kv_aload_n C 0 dX10_move_11 rfl rfl ?_
    refine kv_get C (Cn := RX10) (T := TX10) (N := 31) 0 18 hin10 rfl rfl (by decide) (C.ts _ (List.mem_cons_of_mem _ lf_RX10_39)) rfl rfl dX10_move_12 ?_
    refine kv_iconst C 0 dX10_move_15 (by decide) ?_
    refine kv_iald C 8 0 rfl rfl (by unfold vp_in; decide) dX10_move_16 ?_
    refine kv_icmp_lt C 24 dX10_move_17 (by decide) (fun c_18 => ?_) (fun c_18 => ?_)
    · have h := oi_t h c_18
      refine kv_iload_n C 2 dX10_move_24 rfl rfl ?_
      refine kv_if_lt C 33 dX10_move_25 (by decide) (fun c_19 => ?_) (fun c_19 => ?_)
      · have h := oi_t h c_19
        exact kv_lv [0, 1, 2] (lv2 := [(0, .ref h0), (1, .int p0), (2, .int p1)]) rfl (j33 v_code v_changed_7 a_board_8 a_froms_9 a_tos_10 a_turns_11 a_counts_12 a_changedSquare_13 a_changedMan_14 p0 p1 h)
      · have h := oi_f h c_19
        refine kv_iload_n C 2 dX10_move_28 rfl rfl ?_
        refine kv_iconst C 2 dX10_move_29 (by decide) ?_
        refine kv_icmp_le C 37 dX10_move_30 (by decide) (fun c_20 => ?_) (fun c_20 => ?_)
        · have h := oi_t h c_20
          refine kv_iconst C 0 dX10_move_37 (by decide) ?_
          exact kv_lv [0, 1, 2] (lv2 := [(0, .ref h0), (1, .int p0), (2, .int p1)]) rfl (j38 v_code v_changed_7 a_board_8 a_froms_9 a_tos_10 a_turns_11 a_counts_12 a_changedSquare_13 a_changedMan_14 p0 p1 0 h)
        · have h := oi_f h c_20
          exact kv_lv [0, 1, 2] (lv2 := [(0, .ref h0), (1, .int p0), (2, .int p1)]) rfl (j33 v_code v_changed_7 a_board_8 a_froms_9 a_tos_10 a_turns_11 a_counts_12 a_changedSquare_13 a_changedMan_14 p0 p1 h)
    · have h := oi_f h c_18
      exact kv_lv [0, 1, 2] (lv2 := [(0, .ref h0), (1, .int p0), (2, .int p1)]) rfl (j20 v_code v_changed_7 a_board_8 a_froms_9 a_tos_10 a_turns_11 a_counts_12 a_changedSquare_13 a_changedMan_14 p0 p1 h)
def m_X10_play_b153 (v_code : Int32) (v_side : Int32) (v_rights : Int32) (v_passed : Int32) (v_halves : Int32) (v_number : Int32) (v_top : Int32) (v_changed : Int32) (a_board : Nat → Int32) (a_before : Nat → Int32) (a_froms : Nat → Int32) (a_tos : Nat → Int32) (a_turns : Nat → Int32) (a_counts : Nat → Int32) (a_changedSquare : Nat → Int32) (a_changedMan : Nat → Int32) (t0 : Int32) : Option (Int32 × Int32 × Int32 × Int32 × Int32 × Int32 × Int32 × Int32 × Int32 × (Nat → Int32) × (Nat → Int32) × (Nat → Int32) × (Nat → Int32) × (Nat → Int32) × (Nat → Int32) × (Nat → Int32) × (Nat → Int32)) := some (t0, v_code, v_side, v_rights, v_passed, v_halves, v_number, v_top, v_changed, a_board, a_before, a_froms, a_tos, a_turns, a_counts, a_changedSquare, a_changedMan)
def m_X10_play_b132 (v_code : Int32) (v_side : Int32) (v_rights : Int32) (v_passed : Int32) (v_halves : Int32) (v_number : Int32) (v_top : Int32) (v_changed : Int32) (a_board : Nat → Int32) (a_before : Nat → Int32) (a_froms : Nat → Int32) (a_tos : Nat → Int32) (a_turns : Nat → Int32) (a_counts : Nat → Int32) (a_changedSquare : Nat → Int32) (a_changedMan : Nat → Int32) (x1 : Int32) (x2 : Int32) (x3 : Int32) (t1 : Int32) : Option (Int32 × Int32 × Int32 × Int32 × Int32 × Int32 × Int32 × Int32 × Int32 × (Nat → Int32) × (Nat → Int32) × (Nat → Int32) × (Nat → Int32) × (Nat → Int32) × (Nat → Int32) × (Nat → Int32) × (Nat → Int32)) := if t1 ≤ 0 then ob (m_X10_make v_side v_rights v_passed v_halves v_number v_top v_changed a_board a_before a_changedSquare a_changedMan x1 x2 x3) fun (r_2, v_side_3, v_rights_4, v_passed_5, v_halves_6, v_number_7, v_top_8, v_changed_9, a_board_10, a_before_11, a_changedSquare_12, a_changedMan_13) => m_X10_play_b153 t1 v_side_3 v_rights_4 v_passed_5 v_halves_6 v_number_7 v_top_8 v_changed_9 a_board_10 a_before_11 a_froms a_tos a_turns a_counts a_changedSquare_12 a_changedMan_13 r_2 else m_X10_play_b153 t1 v_side v_rights v_passed v_halves v_number v_top v_changed a_board a_before a_froms a_tos a_turns a_counts a_changedSquare a_changedMan 0
def m_X10_play_b127 (v_code : Int32) (v_side : Int32) (v_rights : Int32) (v_passed : Int32) (v_halves : Int32) (v_number : Int32) (v_top : Int32) (v_changed : Int32) (a_board : Nat → Int32) (a_before : Nat → Int32) (a_froms : Nat → Int32) (a_tos : Nat → Int32) (a_turns : Nat → Int32) (a_counts : Nat → Int32) (a_changedSquare : Nat → Int32) (a_changedMan : Nat → Int32) (x1 : Int32) (x2 : Int32) (x3 : Int32) : Option (Int32 × Int32 × Int32 × Int32 × Int32 × Int32 × Int32 × Int32 × Int32 × (Nat → Int32) × (Nat → Int32) × (Nat → Int32) × (Nat → Int32) × (Nat → Int32) × (Nat → Int32) × (Nat → Int32) × (Nat → Int32)) := m_X10_play_b132 v_code v_side v_rights v_passed v_halves v_number v_top v_changed a_board a_before a_froms a_tos a_turns a_counts a_changedSquare a_changedMan x1 x2 x3 2
def m_X10_play_b103 (k49 : Int32 → Int32 → Int32 → Int32 → Int32 → Int32 → Int32 → Int32 → (Nat → Int32) → (Nat → Int32) → (Nat → Int32) → (Nat → Int32) → (Nat → Int32) → (Nat → Int32) → (Nat → Int32) → (Nat → Int32) → Int32 → Int32 → Int32 → Int32 → Int32 → Option (Int32 × Int32 × Int32 × Int32 × Int32 × Int32 × Int32 × Int32 × Int32 × (Nat → Int32) × (Nat → Int32) × (Nat → Int32) × (Nat → Int32) × (Nat → Int32) × (Nat → Int32) × (Nat → Int32) × (Nat → Int32))) (v_code : Int32) (v_side : Int32) (v_rights : Int32) (v_passed : Int32) (v_halves : Int32) (v_number : Int32) (v_top : Int32) (v_changed : Int32) (a_board : Nat → Int32) (a_before : Nat → Int32) (a_froms : Nat → Int32) (a_tos : Nat → Int32) (a_turns : Nat → Int32) (a_counts : Nat → Int32) (a_changedSquare : Nat → Int32) (a_changedMan : Nat → Int32) (x1 : Int32) (x2 : Int32) (x3 : Int32) (x5 : Int32) (t0 : Int32) : Option (Int32 × Int32 × Int32 × Int32 × Int32 × Int32 × Int32 × Int32 × Int32 × (Nat → Int32) × (Nat → Int32) × (Nat → Int32) × (Nat → Int32) × (Nat → Int32) × (Nat → Int32) × (Nat → Int32) × (Nat → Int32)) := ol (x5 + 1) fun x5_16 => k49 v_code v_side v_rights v_passed v_halves v_number v_top v_changed a_board a_before a_froms a_tos a_turns a_counts a_changedSquare a_changedMan x1 x2 x3 t0 x5_16
def m_X10_play_b102 (k49 : Int32 → Int32 → Int32 → Int32 → Int32 → Int32 → Int32 → Int32 → (Nat → Int32) → (Nat → Int32) → (Nat → Int32) → (Nat → Int32) → (Nat → Int32) → (Nat → Int32) → (Nat → Int32) → (Nat → Int32) → Int32 → Int32 → Int32 → Int32 → Int32 → Option (Int32 × Int32 × Int32 × Int32 × Int32 × Int32 × Int32 × Int32 × Int32 × (Nat → Int32) × (Nat → Int32) × (Nat → Int32) × (Nat → Int32) × (Nat → Int32) × (Nat → Int32) × (Nat → Int32) × (Nat → Int32))) (v_code : Int32) (v_side : Int32) (v_rights : Int32) (v_passed : Int32) (v_halves : Int32) (v_number : Int32) (v_top : Int32) (v_changed : Int32) (a_board : Nat → Int32) (a_before : Nat → Int32) (a_froms : Nat → Int32) (a_tos : Nat → Int32) (a_turns : Nat → Int32) (a_counts : Nat → Int32) (a_changedSquare : Nat → Int32) (a_changedMan : Nat → Int32) (x1 : Int32) (x2 : Int32) (x3 : Int32) (x5 : Int32) : Option (Int32 × Int32 × Int32 × Int32 × Int32 × Int32 × Int32 × Int32 × Int32 × (Nat → Int32) × (Nat → Int32) × (Nat → Int32) × (Nat → Int32) × (Nat → Int32) × (Nat → Int32) × (Nat → Int32) × (Nat → Int32)) := m_X10_play_b103 k49 v_code v_side v_rights v_passed v_halves v_number v_top v_changed a_board a_before a_froms a_tos a_turns a_counts a_changedSquare a_changedMan x1 x2 x3 x5 0
def m_X10_play_b98 (k49 : Int32 → Int32 → Int32 → Int32 → Int32 → Int32 → Int32 → Int32 → (Nat → Int32) → (Nat → Int32) → (Nat → Int32) → (Nat → Int32) → (Nat → Int32) → (Nat → Int32) → (Nat → Int32) → (Nat → Int32) → Int32 → Int32 → Int32 → Int32 → Int32 → Option (Int32 × Int32 × Int32 × Int32 × Int32 × Int32 × Int32 × Int32 × Int32 × (Nat → Int32) × (Nat → Int32) × (Nat → Int32) × (Nat → Int32) × (Nat → Int32) × (Nat → Int32) × (Nat → Int32) × (Nat → Int32))) (v_code : Int32) (v_side : Int32) (v_rights : Int32) (v_passed : Int32) (v_halves : Int32) (v_number : Int32) (v_top : Int32) (v_changed : Int32) (a_board : Nat → Int32) (a_before : Nat → Int32) (a_froms : Nat → Int32) (a_tos : Nat → Int32) (a_turns : Nat → Int32) (a_counts : Nat → Int32) (a_changedSquare : Nat → Int32) (a_changedMan : Nat → Int32) (x1 : Int32) (x2 : Int32) (x3 : Int32) (x5 : Int32) : Option (Int32 × Int32 × Int32 × Int32 × Int32 × Int32 × Int32 × Int32 × Int32 × (Nat → Int32) × (Nat → Int32) × (Nat → Int32) × (Nat → Int32) × (Nat → Int32) × (Nat → Int32) × (Nat → Int32) × (Nat → Int32)) := m_X10_play_b103 k49 v_code v_side v_rights v_passed v_halves v_number v_top v_changed a_board a_before a_froms a_tos a_turns a_counts a_changedSquare a_changedMan x1 x2 x3 x5 1
def m_X10_play_b49 (k49 : Int32 → Int32 → Int32 → Int32 → Int32 → Int32 → Int32 → Int32 → (Nat → Int32) → (Nat → Int32) → (Nat → Int32) → (Nat → Int32) → (Nat → Int32) → (Nat → Int32) → (Nat → Int32) → (Nat → Int32) → Int32 → Int32 → Int32 → Int32 → Int32 → Option (Int32 × Int32 × Int32 × Int32 × Int32 × Int32 × Int32 × Int32 × Int32 × (Nat → Int32) × (Nat → Int32) × (Nat → Int32) × (Nat → Int32) × (Nat → Int32) × (Nat → Int32) × (Nat → Int32) × (Nat → Int32))) (v_code : Int32) (v_side : Int32) (v_rights : Int32) (v_passed : Int32) (v_halves : Int32) (v_number : Int32) (v_top : Int32) (v_changed : Int32) (a_board : Nat → Int32) (a_before : Nat → Int32) (a_froms : Nat → Int32) (a_tos : Nat → Int32) (a_turns : Nat → Int32) (a_counts : Nat → Int32) (a_changedSquare : Nat → Int32) (a_changedMan : Nat → Int32) (x1 : Int32) (x2 : Int32) (x3 : Int32) (x4 : Int32) (x5 : Int32) : Option (Int32 × Int32 × Int32 × Int32 × Int32 × Int32 × Int32 × Int32 × Int32 × (Nat → Int32) × (Nat → Int32) × (Nat → Int32) × (Nat → Int32) × (Nat → Int32) × (Nat → Int32) × (Nat → Int32) × (Nat → Int32)) := if (a_counts (Int32.toNatClampNeg 0)) ≤ x5 then if x4 = 0 then m_X10_play_b127 v_code v_side v_rights v_passed v_halves v_number v_top v_changed a_board a_before a_froms a_tos a_turns a_counts a_changedSquare a_changedMan x1 x2 x3 else if v_top = 1024 then m_X10_play_b127 v_code v_side v_rights v_passed v_halves v_number v_top v_changed a_board a_before a_froms a_tos a_turns a_counts a_changedSquare a_changedMan x1 x2 x3 else m_X10_play_b132 v_code v_side v_rights v_passed v_halves v_number v_top v_changed a_board a_before a_froms a_tos a_turns a_counts a_changedSquare a_changedMan x1 x2 x3 0 else if x4 = 0 then oin (x5) 2560 (if (a_froms x5.toNatClampNeg) = x1 then oin (x5) 2560 (if (a_tos x5.toNatClampNeg) = x2 then oin (x5) 2560 (if (a_turns x5.toNatClampNeg) = x3 then m_X10_play_b98 k49 v_code v_side v_rights v_passed v_halves v_number v_top v_changed a_board a_before a_froms a_tos a_turns a_counts a_changedSquare a_changedMan x1 x2 x3 x5 else m_X10_play_b102 k49 v_code v_side v_rights v_passed v_halves v_number v_top v_changed a_board a_before a_froms a_tos a_turns a_counts a_changedSquare a_changedMan x1 x2 x3 x5) else m_X10_play_b102 k49 v_code v_side v_rights v_passed v_halves v_number v_top v_changed a_board a_before a_froms a_tos a_turns a_counts a_changedSquare a_changedMan x1 x2 x3 x5) else m_X10_play_b102 k49 v_code v_side v_rights v_passed v_halves v_number v_top v_changed a_board a_before a_froms a_tos a_turns a_counts a_changedSquare a_changedMan x1 x2 x3 x5) else m_X10_play_b98 k49 v_code v_side v_rights v_passed v_halves v_number v_top v_changed a_board a_before a_froms a_tos a_turns a_counts a_changedSquare a_changedMan x1 x2 x3 x5
def m_X10_play_l49 (n : Nat) : Int32 → Int32 → Int32 → Int32 → Int32 → Int32 → Int32 → Int32 → (Nat → Int32) → (Nat → Int32) → (Nat → Int32) → (Nat → Int32) → (Nat → Int32) → (Nat → Int32) → (Nat → Int32) → (Nat → Int32) → Int32 → Int32 → Int32 → Int32 → Int32 → Option (Int32 × Int32 × Int32 × Int32 × Int32 × Int32 × Int32 × Int32 × Int32 × (Nat → Int32) × (Nat → Int32) × (Nat → Int32) × (Nat → Int32) × (Nat → Int32) × (Nat → Int32) × (Nat → Int32) × (Nat → Int32)) := fz (fun _ _ _ _ _ _ _ _ _ _ _ _ _ _ _ _ _ _ _ _ _ => none) (fun k49 v_code v_side v_rights v_passed v_halves v_number v_top v_changed a_board a_before a_froms a_tos a_turns a_counts a_changedSquare a_changedMan x1 x2 x3 x4 x5 => m_X10_play_b49 k49 v_code v_side v_rights v_passed v_halves v_number v_top v_changed a_board a_before a_froms a_tos a_turns a_counts a_changedSquare a_changedMan x1 x2 x3 x4 x5) n
def m_X10_play_b26 (v_code : Int32) (v_side : Int32) (v_rights : Int32) (v_passed : Int32) (v_halves : Int32) (v_number : Int32) (v_top : Int32) (v_changed : Int32) (a_board : Nat → Int32) (a_before : Nat → Int32) (a_froms : Nat → Int32) (a_tos : Nat → Int32) (a_turns : Nat → Int32) (a_counts : Nat → Int32) (a_changedSquare : Nat → Int32) (a_changedMan : Nat → Int32) (x1 : Int32) (x2 : Int32) (x3 : Int32) (t1 : Int32) : Option (Int32 × Int32 × Int32 × Int32 × Int32 × Int32 × Int32 × Int32 × Int32 × (Nat → Int32) × (Nat → Int32) × (Nat → Int32) × (Nat → Int32) × (Nat → Int32) × (Nat → Int32) × (Nat → Int32) × (Nat → Int32)) := if t1 ≤ 0 then ob (m_X10_find v_side v_rights v_passed v_changed a_board a_froms a_tos a_turns a_counts a_changedSquare a_changedMan 0) fun (v_changed_28, a_board_29, a_froms_30, a_tos_31, a_turns_32, a_counts_33, a_changedSquare_34, a_changedMan_35) => m_X10_play_l49 kF t1 v_side v_rights v_passed v_halves v_number v_top v_changed_28 a_board_29 a_before a_froms_30 a_tos_31 a_turns_32 a_counts_33 a_changedSquare_34 a_changedMan_35 x1 x2 x3 0 0 else some (0, t1, v_side, v_rights, v_passed, v_halves, v_number, v_top, v_changed, a_board, a_before, a_froms, a_tos, a_turns, a_counts, a_changedSquare, a_changedMan)
def m_X10_play_b21 (v_code : Int32) (v_side : Int32) (v_rights : Int32) (v_passed : Int32) (v_halves : Int32) (v_number : Int32) (v_top : Int32) (v_changed : Int32) (a_board : Nat → Int32) (a_before : Nat → Int32) (a_froms : Nat → Int32) (a_tos : Nat → Int32) (a_turns : Nat → Int32) (a_counts : Nat → Int32) (a_changedSquare : Nat → Int32) (a_changedMan : Nat → Int32) (x1 : Int32) (x2 : Int32) (x3 : Int32) : Option (Int32 × Int32 × Int32 × Int32 × Int32 × Int32 × Int32 × Int32 × Int32 × (Nat → Int32) × (Nat → Int32) × (Nat → Int32) × (Nat → Int32) × (Nat → Int32) × (Nat → Int32) × (Nat → Int32) × (Nat → Int32)) := m_X10_play_b26 v_code v_side v_rights v_passed v_halves v_number v_top v_changed a_board a_before a_froms a_tos a_turns a_counts a_changedSquare a_changedMan x1 x2 x3 1
def m_X10_play (v_code : Int32) (v_side : Int32) (v_rights : Int32) (v_passed : Int32) (v_halves : Int32) (v_number : Int32) (v_top : Int32) (v_changed : Int32) (a_board : Nat → Int32) (a_before : Nat → Int32) (a_froms : Nat → Int32) (a_tos : Nat → Int32) (a_turns : Nat → Int32) (a_counts : Nat → Int32) (a_changedSquare : Nat → Int32) (a_changedMan : Nat → Int32) (p0 : Int32) (p1 : Int32) (p2 : Int32) : Option (Int32 × Int32 × Int32 × Int32 × Int32 × Int32 × Int32 × Int32 × Int32 × (Nat → Int32) × (Nat → Int32) × (Nat → Int32) × (Nat → Int32) × (Nat → Int32) × (Nat → Int32) × (Nat → Int32) × (Nat → Int32)) := if p0 < 0 then m_X10_play_b21 v_code v_side v_rights v_passed v_halves v_number v_top v_changed a_board a_before a_froms a_tos a_turns a_counts a_changedSquare a_changedMan p0 p1 p2 else if 63 < p0 then m_X10_play_b21 v_code v_side v_rights v_passed v_halves v_number v_top v_changed a_board a_before a_froms a_tos a_turns a_counts a_changedSquare a_changedMan p0 p1 p2 else if p1 < 0 then m_X10_play_b21 v_code v_side v_rights v_passed v_halves v_number v_top v_changed a_board a_before a_froms a_tos a_turns a_counts a_changedSquare a_changedMan p0 p1 p2 else if p1 ≤ 63 then m_X10_play_b26 v_code v_side v_rights v_passed v_halves v_number v_top v_changed a_board a_before a_froms a_tos a_turns a_counts a_changedSquare a_changedMan p0 p1 p2 0 else m_X10_play_b21 v_code v_side v_rights v_passed v_halves v_number v_top v_changed a_board a_before a_froms a_tos a_turns a_counts a_changedSquare a_changedMan p0 p1 p2
abbrev rm_X10_play : Room := { frames := 8, cells := 0, slots := 0, locals := 200 }
abbrev wy_X10_play : List Cond := .code yX10_play cX10_play 6 (some .int) :: gT
theorem cv_X10_play {R : Room} {s : State} {args : Array Value} {own : String} {index : Nat} {w0 : Cond} (hts : ∀ w ∈ w0 :: gT, w.before args s = true) (hl : Cond.methodLink own index yX10_play ∈ gT) (hR : 8 + 1 ≤ R.frames ∧ 8 + (6 + 11) + 200 ≤ R.locals) : CallW R s args own RX10 index yX10_play cX10_play 6 (some .int) wy_X10_play rm_X10_play 0 0 3 :=
  cwV 3 hts (gT_call w0 (pre := [.methodLink own index yX10_play, .instanceMethod yX10_play, .selects RX10 yX10_play yX10_play, .initialized RX10]) (gT_lc hl (gT_lc ly_yX10_play (gT_lc lx_yX10_play (gT_l1 li_RX10)))) lc_yX10_play) rfl rfl rfl (by decide +kernel) hR
set_option maxRecDepth 100000 in
set_option maxHeartbeats 4000000 in
theorem c_X10_play (l : Launch) (D : va_G) (h0 : Nat) (q : Nat → Nat) (cI : ClassId) (v_code : Int32) (v_side : Int32) (v_rights : Int32) (v_passed : Int32) (v_halves : Int32) (v_number : Int32) (v_top : Int32) (v_typedCount : Int32) (v_readAt : Int32) (v_place : Int32) (v_writtenCount : Int32) (v_chosenFrom : Int32) (v_chosenTo : Int32) (v_chosenTurn : Int32) (v_changed : Int32) (v_readSide : Int32) (v_readRights : Int32) (v_readPassed : Int32) (v_readHalves : Int32) (v_readNumber : Int32) (a_board : Nat → Int32) (a_before : Nat → Int32) (a_typed : Nat → Int32) (a_written : Nat → Int32) (a_froms : Nat → Int32) (a_tos : Nat → Int32) (a_turns : Nat → Int32) (a_counts : Nat → Int32) (a_changedSquare : Nat → Int32) (a_changedMan : Nat → Int32) (a_readBoard : Nat → Int32) (p0 : Int32) (p1 : Int32) (p2 : Int32) (rv : Int32) (v_code' : Int32) (v_side' : Int32) (v_rights' : Int32) (v_passed' : Int32) (v_halves' : Int32) (v_number' : Int32) (v_top' : Int32) (v_changed' : Int32) (a_board' : Nat → Int32) (a_before' : Nat → Int32) (a_froms' : Nat → Int32) (a_tos' : Nat → Int32) (a_turns' : Nat → Int32) (a_counts' : Nat → Int32) (a_changedSquare' : Nat → Int32) (a_changedMan' : Nat → Int32) (hm : m_X10_play v_code v_side v_rights v_passed v_halves v_number v_top v_changed a_board a_before a_froms a_tos a_turns a_counts a_changedSquare a_changedMan p0 p1 p2 = some (rv, v_code', v_side', v_rights', v_passed', v_halves', v_number', v_top', v_changed', a_board', a_before', a_froms', a_tos', a_turns', a_counts', a_changedSquare', a_changedMan')) : kDi l yX10_play wy_X10_play rm_X10_play D [(cI, .int)] rv (wM h0 q cI v_code v_side v_rights v_passed v_halves v_number v_top v_typedCount v_readAt v_place v_writtenCount v_chosenFrom v_chosenTo v_chosenTurn v_changed v_readSide v_readRights v_readPassed v_readHalves v_readNumber a_board a_before a_typed a_written a_froms a_tos a_turns a_counts a_changedSquare a_changedMan a_readBoard) (wM h0 q cI v_code' v_side' v_rights' v_passed' v_halves' v_number' v_top' v_typedCount v_readAt v_place v_writtenCount v_chosenFrom v_chosenTo v_chosenTurn v_changed' v_readSide v_readRights v_readPassed v_readHalves v_readNumber a_board' a_before' a_typed a_written a_froms' a_tos' a_turns' a_counts' a_changedSquare' a_changedMan' a_readBoard) [.ref h0, .int p0, .int p1, .int p2] := by
  refine kDi.of cX10_play 6 (some .int) (by decide) rfl (Or.inl rfl) (Nat.le_of_ble_eq_true rfl) ?_
  intro p e s m below meth c A Q C hret
  have hin10 : ∀ w ∈ wsX100, w ∈ wy_X10_play := fun w h => List.mem_cons_of_mem _ (inG10 w h)
  have j153 : ∀ (v_code : Int32) (v_side : Int32) (v_rights : Int32) (v_passed : Int32) (v_halves : Int32) (v_number : Int32) (v_top : Int32) (v_changed : Int32) (a_board : Nat → Int32) (a_before : Nat → Int32) (a_froms : Nat → Int32) (a_tos : Nat → Int32) (a_turns : Nat → Int32) (a_counts : Nat → Int32) (a_changedSquare : Nat → Int32) (a_changedMan : Nat → Int32) (t0 : Int32), m_X10_play_b153  v_code v_side v_rights v_passed v_halves v_number v_top v_changed a_board a_before a_froms a_tos a_turns a_counts a_changedSquare a_changedMan t0 = some (rv, v_code', v_side', v_rights', v_passed', v_halves', v_number', v_top', v_changed', a_board', a_before', a_froms', a_tos', a_turns', a_counts', a_changedSquare', a_changedMan') → kv p l e rm_X10_play s m ([.ref h0, .int p0, .int p1, .int p2] : List Value).toArray below meth c D A 6 0 0 Q (wM h0 q cI v_code v_side v_rights v_passed v_halves v_number v_top v_typedCount v_readAt v_place v_writtenCount v_chosenFrom v_chosenTo v_chosenTurn v_changed v_readSide v_readRights v_readPassed v_readHalves v_readNumber a_board a_before a_typed a_written a_froms a_tos a_turns a_counts a_changedSquare a_changedMan a_readBoard) [] 153 [.int t0] := by
    intro v_code v_side v_rights v_passed v_halves v_number v_top v_changed a_board a_before a_froms a_tos a_turns a_counts a_changedSquare a_changedMan t0 h
    unfold m_X10_play_b153 at h
    cases h
    exact hret _ _ dX10_play_153 (fun q => by cases q)
  have j132 : ∀ (v_code : Int32) (v_side : Int32) (v_rights : Int32) (v_passed : Int32) (v_halves : Int32) (v_number : Int32) (v_top : Int32) (v_changed : Int32) (a_board : Nat → Int32) (a_before : Nat → Int32) (a_froms : Nat → Int32) (a_tos : Nat → Int32) (a_turns : Nat → Int32) (a_counts : Nat → Int32) (a_changedSquare : Nat → Int32) (a_changedMan : Nat → Int32) (x1 : Int32) (x2 : Int32) (x3 : Int32) (t1 : Int32), m_X10_play_b132  v_code v_side v_rights v_passed v_halves v_number v_top v_changed a_board a_before a_froms a_tos a_turns a_counts a_changedSquare a_changedMan x1 x2 x3 t1 = some (rv, v_code', v_side', v_rights', v_passed', v_halves', v_number', v_top', v_changed', a_board', a_before', a_froms', a_tos', a_turns', a_counts', a_changedSquare', a_changedMan') → kv p l e rm_X10_play s m ([.ref h0, .int p0, .int p1, .int p2] : List Value).toArray below meth c D A 6 0 0 Q (wM h0 q cI v_code v_side v_rights v_passed v_halves v_number v_top v_typedCount v_readAt v_place v_writtenCount v_chosenFrom v_chosenTo v_chosenTurn v_changed v_readSide v_readRights v_readPassed v_readHalves v_readNumber a_board a_before a_typed a_written a_froms a_tos a_turns a_counts a_changedSquare a_changedMan a_readBoard) [(0, .ref h0), (1, .int x1), (2, .int x2), (3, .int x3)] 132 [.int t1, .ref h0] := by
    intro v_code v_side v_rights v_passed v_halves v_number v_top v_changed a_board a_before a_froms a_tos a_turns a_counts a_changedSquare a_changedMan x1 x2 x3 t1 h
    unfold m_X10_play_b132 at h
    refine kv_put C (Cn := RX10) (T := TX10) (N := 31) (ty := .int) (ws1 := (wM h0 q cI t1 v_side v_rights v_passed v_halves v_number v_top v_typedCount v_readAt v_place v_writtenCount v_chosenFrom v_chosenTo v_chosenTurn v_changed v_readSide v_readRights v_readPassed v_readHalves v_readNumber a_board a_before a_typed a_written a_froms a_tos a_turns a_counts a_changedSquare a_changedMan a_readBoard)) 0 0 hin10 tyX10 tyX10_ok nmX10 rfl rfl (by decide) (C.ts _ (List.mem_cons_of_mem _ lf_RX10_66)) rfl rfl (by decide +kernel) rfl rfl (Nat.le_of_ble_eq_true rfl) rfl dX10_play_132 ?_
    refine kv_aload_n C 0 dX10_play_135 rfl rfl ?_
    refine kv_get C (Cn := RX10) (T := TX10) (N := 31) 0 0 hin10 rfl rfl (by decide) (C.ts _ (List.mem_cons_of_mem _ lf_RX10_66)) rfl rfl dX10_play_136 ?_
    refine kv_if_le C 146 dX10_play_139 (by decide) (fun c_1 => ?_) (fun c_1 => ?_)
    · have h := oi_t h c_1
      refine kv_aload_n C 0 dX10_play_146 rfl rfl ?_
      refine kv_iload_n C 1 dX10_play_147 rfl rfl ?_
      refine kv_iload_n C 2 dX10_play_148 rfl rfl ?_
      refine kv_iload_n C 3 dX10_play_149 rfl rfl ?_
      obtain ⟨⟨r_2, v_side_3, v_rights_4, v_passed_5, v_halves_6, v_number_7, v_top_8, v_changed_9, a_board_10, a_before_11, a_changedSquare_12, a_changedMan_13⟩, hm_14, h⟩ := ob_e h
      replace h : _ = _ := h
      refine kv_callWi C [.int x1, .int x2, .int x3] 0 (c_X10_make l D h0 q cI t1 v_side v_rights v_passed v_halves v_number v_top v_typedCount v_readAt v_place v_writtenCount v_chosenFrom v_chosenTo v_chosenTurn v_changed v_readSide v_readRights v_readPassed v_readHalves v_readNumber a_board a_before a_typed a_written a_froms a_tos a_turns a_counts a_changedSquare a_changedMan a_readBoard x1 x2 x3 r_2 v_side_3 v_rights_4 v_passed_5 v_halves_6 v_number_7 v_top_8 v_changed_9 a_board_10 a_before_11 a_changedSquare_12 a_changedMan_13 hm_14) (cv_X10_make C.ts lm_RX10_176 ⟨Nat.le_of_ble_eq_true rfl, Nat.le_of_ble_eq_true rfl⟩) rfl rfl rfl rfl (Nat.le_of_ble_eq_true rfl) dX10_play_150 ⟨Nat.zero_le _, Nat.zero_le _⟩ ?_
      exact kv_lv [] (lv2 := []) rfl (j153 t1 v_side_3 v_rights_4 v_passed_5 v_halves_6 v_number_7 v_top_8 v_changed_9 a_board_10 a_before_11 a_froms a_tos a_turns a_counts a_changedSquare_12 a_changedMan_13 r_2 h)
    · have h := oi_f h c_1
      refine kv_iconst C 0 dX10_play_142 (by decide) ?_
      refine kv_goto C 153 dX10_play_143 (by decide) ?_
      exact kv_lv [] (lv2 := []) rfl (j153 t1 v_side v_rights v_passed v_halves v_number v_top v_changed a_board a_before a_froms a_tos a_turns a_counts a_changedSquare a_changedMan 0 h)
  have j127 : ∀ (v_code : Int32) (v_side : Int32) (v_rights : Int32) (v_passed : Int32) (v_halves : Int32) (v_number : Int32) (v_top : Int32) (v_changed : Int32) (a_board : Nat → Int32) (a_before : Nat → Int32) (a_froms : Nat → Int32) (a_tos : Nat → Int32) (a_turns : Nat → Int32) (a_counts : Nat → Int32) (a_changedSquare : Nat → Int32) (a_changedMan : Nat → Int32) (x1 : Int32) (x2 : Int32) (x3 : Int32), m_X10_play_b127  v_code v_side v_rights v_passed v_halves v_number v_top v_changed a_board a_before a_froms a_tos a_turns a_counts a_changedSquare a_changedMan x1 x2 x3 = some (rv, v_code', v_side', v_rights', v_passed', v_halves', v_number', v_top', v_changed', a_board', a_before', a_froms', a_tos', a_turns', a_counts', a_changedSquare', a_changedMan') → kv p l e rm_X10_play s m ([.ref h0, .int p0, .int p1, .int p2] : List Value).toArray below meth c D A 6 0 0 Q (wM h0 q cI v_code v_side v_rights v_passed v_halves v_number v_top v_typedCount v_readAt v_place v_writtenCount v_chosenFrom v_chosenTo v_chosenTurn v_changed v_readSide v_readRights v_readPassed v_readHalves v_readNumber a_board a_before a_typed a_written a_froms a_tos a_turns a_counts a_changedSquare a_changedMan a_readBoard) [(0, .ref h0), (1, .int x1), (2, .int x2), (3, .int x3)] 127 [.ref h0] := by
    intro v_code v_side v_rights v_passed v_halves v_number v_top v_changed a_board a_before a_froms a_tos a_turns a_counts a_changedSquare a_changedMan x1 x2 x3 h
    unfold m_X10_play_b127 at h
    refine kv_iconst C 2 dX10_play_127 (by decide) ?_
    refine kv_goto C 132 dX10_play_128 (by decide) ?_
    exact kv_lv [0, 1, 2, 3] (lv2 := [(0, .ref h0), (1, .int x1), (2, .int x2), (3, .int x3)]) rfl (j132 v_code v_side v_rights v_passed v_halves v_number v_top v_changed a_board a_before a_froms a_tos a_turns a_counts a_changedSquare a_changedMan x1 x2 x3 2 h)
  have l49 : ∀ (n49 : Nat) (v_code : Int32) (v_side : Int32) (v_rights : Int32) (v_passed : Int32) (v_halves : Int32) (v_number : Int32) (v_top : Int32) (v_changed : Int32) (a_board : Nat → Int32) (a_before : Nat → Int32) (a_froms : Nat → Int32) (a_tos : Nat → Int32) (a_turns : Nat → Int32) (a_counts : Nat → Int32) (a_changedSquare : Nat → Int32) (a_changedMan : Nat → Int32) (x1 : Int32) (x2 : Int32) (x3 : Int32) (x4 : Int32) (x5 : Int32), m_X10_play_l49   n49 v_code v_side v_rights v_passed v_halves v_number v_top v_changed a_board a_before a_froms a_tos a_turns a_counts a_changedSquare a_changedMan x1 x2 x3 x4 x5 = some (rv, v_code', v_side', v_rights', v_passed', v_halves', v_number', v_top', v_changed', a_board', a_before', a_froms', a_tos', a_turns', a_counts', a_changedSquare', a_changedMan') → kv p l e rm_X10_play s m ([.ref h0, .int p0, .int p1, .int p2] : List Value).toArray below meth c D A 6 0 0 Q (wM h0 q cI v_code v_side v_rights v_passed v_halves v_number v_top v_typedCount v_readAt v_place v_writtenCount v_chosenFrom v_chosenTo v_chosenTurn v_changed v_readSide v_readRights v_readPassed v_readHalves v_readNumber a_board a_before a_typed a_written a_froms a_tos a_turns a_counts a_changedSquare a_changedMan a_readBoard) [(0, .ref h0), (1, .int x1), (2, .int x2), (3, .int x3), (4, .int x4), (5, .int x5)] 49 [] := by
    intro n49
    induction n49 with
    | zero =>
      intro v_code v_side v_rights v_passed v_halves v_number v_top v_changed a_board a_before a_froms a_tos a_turns a_counts a_changedSquare a_changedMan x1 x2 x3 x4 x5 h
      exact kv_no h
    | succ n49 ih49 =>
      have j103 : ∀ (v_code : Int32) (v_side : Int32) (v_rights : Int32) (v_passed : Int32) (v_halves : Int32) (v_number : Int32) (v_top : Int32) (v_changed : Int32) (a_board : Nat → Int32) (a_before : Nat → Int32) (a_froms : Nat → Int32) (a_tos : Nat → Int32) (a_turns : Nat → Int32) (a_counts : Nat → Int32) (a_changedSquare : Nat → Int32) (a_changedMan : Nat → Int32) (x1 : Int32) (x2 : Int32) (x3 : Int32) (x5 : Int32) (t0 : Int32), m_X10_play_b103 (m_X10_play_l49   n49) v_code v_side v_rights v_passed v_halves v_number v_top v_changed a_board a_before a_froms a_tos a_turns a_counts a_changedSquare a_changedMan x1 x2 x3 x5 t0 = some (rv, v_code', v_side', v_rights', v_passed', v_halves', v_number', v_top', v_changed', a_board', a_before', a_froms', a_tos', a_turns', a_counts', a_changedSquare', a_changedMan') → kv p l e rm_X10_play s m ([.ref h0, .int p0, .int p1, .int p2] : List Value).toArray below meth c D A 6 0 0 Q (wM h0 q cI v_code v_side v_rights v_passed v_halves v_number v_top v_typedCount v_readAt v_place v_writtenCount v_chosenFrom v_chosenTo v_chosenTurn v_changed v_readSide v_readRights v_readPassed v_readHalves v_readNumber a_board a_before a_typed a_written a_froms a_tos a_turns a_counts a_changedSquare a_changedMan a_readBoard) [(0, .ref h0), (1, .int x1), (2, .int x2), (3, .int x3), (5, .int x5)] 103 [.int t0] := by
        intro v_code v_side v_rights v_passed v_halves v_number v_top v_changed a_board a_before a_froms a_tos a_turns a_counts a_changedSquare a_changedMan x1 x2 x3 x5 t0 h
        unfold m_X10_play_b103 at h
        refine kv_istore C (lv2 := [(0, .ref h0), (1, .int x1), (2, .int x2), (3, .int x3), (4, .int t0), (5, .int x5)]) [1, 2, 3, 4, 0, 5] dX10_play_103 (by decide) rfl rfl ?_
        obtain ⟨x5_16, ex5_16, h⟩ := ol_e h
        refine kv_iinc C (v := x5_16) (lv2 := [(0, .ref h0), (1, .int x1), (2, .int x2), (3, .int x3), (4, .int t0), (5, .int x5_16)]) 5 [1, 2, 3, 4, 5, 0] dX10_play_105 rfl ex5_16.symm (by decide) rfl rfl ?_
        refine kv_goto C 49 dX10_play_108 (by decide) ?_
        exact kv_lv [0, 1, 2, 3, 4, 5] (lv2 := [(0, .ref h0), (1, .int x1), (2, .int x2), (3, .int x3), (4, .int t0), (5, .int x5_16)]) rfl (ih49 v_code v_side v_rights v_passed v_halves v_number v_top v_changed a_board a_before a_froms a_tos a_turns a_counts a_changedSquare a_changedMan x1 x2 x3 t0 x5_16 h)
      have j102 : ∀ (v_code : Int32) (v_side : Int32) (v_rights : Int32) (v_passed : Int32) (v_halves : Int32) (v_number : Int32) (v_top : Int32) (v_changed : Int32) (a_board : Nat → Int32) (a_before : Nat → Int32) (a_froms : Nat → Int32) (a_tos : Nat → Int32) (a_turns : Nat → Int32) (a_counts : Nat → Int32) (a_changedSquare : Nat → Int32) (a_changedMan : Nat → Int32) (x1 : Int32) (x2 : Int32) (x3 : Int32) (x5 : Int32), m_X10_play_b102 (m_X10_play_l49   n49) v_code v_side v_rights v_passed v_halves v_number v_top v_changed a_board a_before a_froms a_tos a_turns a_counts a_changedSquare a_changedMan x1 x2 x3 x5 = some (rv, v_code', v_side', v_rights', v_passed', v_halves', v_number', v_top', v_changed', a_board', a_before', a_froms', a_tos', a_turns', a_counts', a_changedSquare', a_changedMan') → kv p l e rm_X10_play s m ([.ref h0, .int p0, .int p1, .int p2] : List Value).toArray below meth c D A 6 0 0 Q (wM h0 q cI v_code v_side v_rights v_passed v_halves v_number v_top v_typedCount v_readAt v_place v_writtenCount v_chosenFrom v_chosenTo v_chosenTurn v_changed v_readSide v_readRights v_readPassed v_readHalves v_readNumber a_board a_before a_typed a_written a_froms a_tos a_turns a_counts a_changedSquare a_changedMan a_readBoard) [(0, .ref h0), (1, .int x1), (2, .int x2), (3, .int x3), (5, .int x5)] 102 [] := by
        intro v_code v_side v_rights v_passed v_halves v_number v_top v_changed a_board a_before a_froms a_tos a_turns a_counts a_changedSquare a_changedMan x1 x2 x3 x5 h
        unfold m_X10_play_b102 at h
        refine kv_iconst C 0 dX10_play_102 (by decide) ?_
        exact kv_lv [0, 1, 2, 3, 4] (lv2 := [(0, .ref h0), (1, .int x1), (2, .int x2), (3, .int x3), (5, .int x5)]) rfl (j103 v_code v_side v_rights v_passed v_halves v_number v_top v_changed a_board a_before a_froms a_tos a_turns a_counts a_changedSquare a_changedMan x1 x2 x3 x5 0 h)
      have j98 : ∀ (v_code : Int32) (v_side : Int32) (v_rights : Int32) (v_passed : Int32) (v_halves : Int32) (v_number : Int32) (v_top : Int32) (v_changed : Int32) (a_board : Nat → Int32) (a_before : Nat → Int32) (a_froms : Nat → Int32) (a_tos : Nat → Int32) (a_turns : Nat → Int32) (a_counts : Nat → Int32) (a_changedSquare : Nat → Int32) (a_changedMan : Nat → Int32) (x1 : Int32) (x2 : Int32) (x3 : Int32) (x5 : Int32), m_X10_play_b98 (m_X10_play_l49   n49) v_code v_side v_rights v_passed v_halves v_number v_top v_changed a_board a_before a_froms a_tos a_turns a_counts a_changedSquare a_changedMan x1 x2 x3 x5 = some (rv, v_code', v_side', v_rights', v_passed', v_halves', v_number', v_top', v_changed', a_board', a_before', a_froms', a_tos', a_turns', a_counts', a_changedSquare', a_changedMan') → kv p l e rm_X10_play s m ([.ref h0, .int p0, .int p1, .int p2] : List Value).toArray below meth c D A 6 0 0 Q (wM h0 q cI v_code v_side v_rights v_passed v_halves v_number v_top v_typedCount v_readAt v_place v_writtenCount v_chosenFrom v_chosenTo v_chosenTurn v_changed v_readSide v_readRights v_readPassed v_readHalves v_readNumber a_board a_before a_typed a_written a_froms a_tos a_turns a_counts a_changedSquare a_changedMan a_readBoard) [(0, .ref h0), (1, .int x1), (2, .int x2), (3, .int x3), (5, .int x5)] 98 [] := by
        intro v_code v_side v_rights v_passed v_halves v_number v_top v_changed a_board a_before a_froms a_tos a_turns a_counts a_changedSquare a_changedMan x1 x2 x3 x5 h
        unfold m_X10_play_b98 at h
        refine kv_iconst C 1 dX10_play_98 (by decide) ?_
        refine kv_goto C 103 dX10_play_99 (by decide) ?_
        exact kv_lv [0, 1, 2, 3, 4] (lv2 := [(0, .ref h0), (1, .int x1), (2, .int x2), (3, .int x3), (5, .int x5)]) rfl (j103 v_code v_side v_rights v_passed v_halves v_number v_top v_changed a_board a_before a_froms a_tos a_turns a_counts a_changedSquare a_changedMan x1 x2 x3 x5 1 h)
      intro v_code v_side v_rights v_passed v_halves v_number v_top v_changed a_board a_before a_froms a_tos a_turns a_counts a_changedSquare a_changedMan x1 x2 x3 x4 x5 h
      replace h : m_X10_play_b49  (m_X10_play_l49   n49) v_code v_side v_rights v_passed v_halves v_number v_top v_changed a_board a_before a_froms a_tos a_turns a_counts a_changedSquare a_changedMan x1 x2 x3 x4 x5 = some (rv, v_code', v_side', v_rights', v_passed', v_halves', v_number', v_top', v_changed', a_board', a_before', a_froms', a_tos', a_turns', a_counts', a_changedSquare', a_changedMan') := h
      unfold m_X10_play_b49 at h
      refine kv_iload C 5 dX10_play_49 rfl ?_
      refine kv_aload_n C 0 dX10_play_51 rfl rfl ?_
      refine kv_get C (Cn := RX10) (T := TX10) (N := 31) 0 18 hin10 rfl rfl (by decide) (C.ts _ (List.mem_cons_of_mem _ lf_RX10_39)) rfl rfl dX10_play_52 ?_
      refine kv_iconst C 0 dX10_play_55 (by decide) ?_
      refine kv_iald C 8 0 rfl rfl (by unfold vp_in; decide) dX10_play_56 ?_
      refine kv_icmp_ge C 111 dX10_play_57 (by decide) (fun c_17 => ?_) (fun c_17 => ?_)
      · have h := oi_t h c_17
        refine kv_aload_n C 0 dX10_play_111 rfl rfl ?_
        refine kv_iload C 4 dX10_play_112 rfl ?_
        refine kv_if_eq C 127 dX10_play_114 (by decide) (fun c_18 => ?_) (fun c_18 => ?_)
        · have h := oi_t h c_18
          exact kv_lv [0, 1, 2, 3] (lv2 := [(0, .ref h0), (1, .int x1), (2, .int x2), (3, .int x3)]) rfl (j127 v_code v_side v_rights v_passed v_halves v_number v_top v_changed a_board a_before a_froms a_tos a_turns a_counts a_changedSquare a_changedMan x1 x2 x3 h)
        · have h := oi_f h c_18
          refine kv_aload_n C 0 dX10_play_117 rfl rfl ?_
          refine kv_get C (Cn := RX10) (T := TX10) (N := 31) 0 8 hin10 rfl rfl (by decide) (C.ts _ (List.mem_cons_of_mem _ lf_RX10_116)) rfl rfl dX10_play_118 ?_
          refine kv_sipush C 1024 dX10_play_121 (by decide) ?_
          refine kv_icmp_ne C 131 dX10_play_124 (by decide) (fun c_19 => ?_) (fun c_19 => ?_)
          · have h := oi_f h c_19
            refine kv_iconst C 0 dX10_play_131 (by decide) ?_
            exact kv_lv [0, 1, 2, 3] (lv2 := [(0, .ref h0), (1, .int x1), (2, .int x2), (3, .int x3)]) rfl (j132 v_code v_side v_rights v_passed v_halves v_number v_top v_changed a_board a_before a_froms a_tos a_turns a_counts a_changedSquare a_changedMan x1 x2 x3 0 h)
          · have h := oi_t h c_19
            exact kv_lv [0, 1, 2, 3] (lv2 := [(0, .ref h0), (1, .int x1), (2, .int x2), (3, .int x3)]) rfl (j127 v_code v_side v_rights v_passed v_halves v_number v_top v_changed a_board a_before a_froms a_tos a_turns a_counts a_changedSquare a_changedMan x1 x2 x3 h)
      · have h := oi_f h c_17
        refine kv_iload C 4 dX10_play_60 rfl ?_
        refine kv_if_ne C 98 dX10_play_62 (by decide) (fun c_20 => ?_) (fun c_20 => ?_)
        · have h := oi_f h c_20
          exact kv_lv [0, 1, 2, 3, 5] (lv2 := [(0, .ref h0), (1, .int x1), (2, .int x2), (3, .int x3), (5, .int x5)]) rfl (j98 v_code v_side v_rights v_passed v_halves v_number v_top v_changed a_board a_before a_froms a_tos a_turns a_counts a_changedSquare a_changedMan x1 x2 x3 x5 h)
        · have h := oi_t h c_20
          refine kv_aload_n C 0 dX10_play_65 rfl rfl ?_
          refine kv_get C (Cn := RX10) (T := TX10) (N := 31) 0 15 hin10 rfl rfl (by decide) (C.ts _ (List.mem_cons_of_mem _ lf_RX10_30)) rfl rfl dX10_play_66 ?_
          refine kv_iload C 5 dX10_play_69 rfl ?_
          obtain ⟨g_21, h⟩ := oin_e h
          refine kv_iald C 5 0 rfl rfl g_21 dX10_play_71 ?_
          refine kv_iload_n C 1 dX10_play_72 rfl rfl ?_
          refine kv_icmp_ne C 102 dX10_play_73 (by decide) (fun c_22 => ?_) (fun c_22 => ?_)
          · have h := oi_f h c_22
            exact kv_lv [0, 1, 2, 3, 5] (lv2 := [(0, .ref h0), (1, .int x1), (2, .int x2), (3, .int x3), (5, .int x5)]) rfl (j102 v_code v_side v_rights v_passed v_halves v_number v_top v_changed a_board a_before a_froms a_tos a_turns a_counts a_changedSquare a_changedMan x1 x2 x3 x5 h)
          · have h := oi_t h c_22
            refine kv_aload_n C 0 dX10_play_76 rfl rfl ?_
            refine kv_get C (Cn := RX10) (T := TX10) (N := 31) 0 16 hin10 rfl rfl (by decide) (C.ts _ (List.mem_cons_of_mem _ lf_RX10_33)) rfl rfl dX10_play_77 ?_
            refine kv_iload C 5 dX10_play_80 rfl ?_
            obtain ⟨g_23, h⟩ := oin_e h
            refine kv_iald C 6 0 rfl rfl g_23 dX10_play_82 ?_
            refine kv_iload_n C 2 dX10_play_83 rfl rfl ?_
            refine kv_icmp_ne C 102 dX10_play_84 (by decide) (fun c_24 => ?_) (fun c_24 => ?_)
            · have h := oi_f h c_24
              exact kv_lv [0, 1, 2, 3, 5] (lv2 := [(0, .ref h0), (1, .int x1), (2, .int x2), (3, .int x3), (5, .int x5)]) rfl (j102 v_code v_side v_rights v_passed v_halves v_number v_top v_changed a_board a_before a_froms a_tos a_turns a_counts a_changedSquare a_changedMan x1 x2 x3 x5 h)
            · have h := oi_t h c_24
              refine kv_aload_n C 0 dX10_play_87 rfl rfl ?_
              refine kv_get C (Cn := RX10) (T := TX10) (N := 31) 0 17 hin10 rfl rfl (by decide) (C.ts _ (List.mem_cons_of_mem _ lf_RX10_36)) rfl rfl dX10_play_88 ?_
              refine kv_iload C 5 dX10_play_91 rfl ?_
              obtain ⟨g_25, h⟩ := oin_e h
              refine kv_iald C 7 0 rfl rfl g_25 dX10_play_93 ?_
              refine kv_iload_n C 3 dX10_play_94 rfl rfl ?_
              refine kv_icmp_ne C 102 dX10_play_95 (by decide) (fun c_26 => ?_) (fun c_26 => ?_)
              · have h := oi_f h c_26
                exact kv_lv [0, 1, 2, 3, 5] (lv2 := [(0, .ref h0), (1, .int x1), (2, .int x2), (3, .int x3), (5, .int x5)]) rfl (j102 v_code v_side v_rights v_passed v_halves v_number v_top v_changed a_board a_before a_froms a_tos a_turns a_counts a_changedSquare a_changedMan x1 x2 x3 x5 h)
              · have h := oi_t h c_26
                exact kv_lv [0, 1, 2, 3, 5] (lv2 := [(0, .ref h0), (1, .int x1), (2, .int x2), (3, .int x3), (5, .int x5)]) rfl (j98 v_code v_side v_rights v_passed v_halves v_number v_top v_changed a_board a_before a_froms a_tos a_turns a_counts a_changedSquare a_changedMan x1 x2 x3 x5 h)
  have j26 : ∀ (v_code : Int32) (v_side : Int32) (v_rights : Int32) (v_passed : Int32) (v_halves : Int32) (v_number : Int32) (v_top : Int32) (v_changed : Int32) (a_board : Nat → Int32) (a_before : Nat → Int32) (a_froms : Nat → Int32) (a_tos : Nat → Int32) (a_turns : Nat → Int32) (a_counts : Nat → Int32) (a_changedSquare : Nat → Int32) (a_changedMan : Nat → Int32) (x1 : Int32) (x2 : Int32) (x3 : Int32) (t1 : Int32), m_X10_play_b26  v_code v_side v_rights v_passed v_halves v_number v_top v_changed a_board a_before a_froms a_tos a_turns a_counts a_changedSquare a_changedMan x1 x2 x3 t1 = some (rv, v_code', v_side', v_rights', v_passed', v_halves', v_number', v_top', v_changed', a_board', a_before', a_froms', a_tos', a_turns', a_counts', a_changedSquare', a_changedMan') → kv p l e rm_X10_play s m ([.ref h0, .int p0, .int p1, .int p2] : List Value).toArray below meth c D A 6 0 0 Q (wM h0 q cI v_code v_side v_rights v_passed v_halves v_number v_top v_typedCount v_readAt v_place v_writtenCount v_chosenFrom v_chosenTo v_chosenTurn v_changed v_readSide v_readRights v_readPassed v_readHalves v_readNumber a_board a_before a_typed a_written a_froms a_tos a_turns a_counts a_changedSquare a_changedMan a_readBoard) [(0, .ref h0), (1, .int x1), (2, .int x2), (3, .int x3)] 26 [.int t1, .ref h0] := by
    intro v_code v_side v_rights v_passed v_halves v_number v_top v_changed a_board a_before a_froms a_tos a_turns a_counts a_changedSquare a_changedMan x1 x2 x3 t1 h
    unfold m_X10_play_b26 at h
    refine kv_put C (Cn := RX10) (T := TX10) (N := 31) (ty := .int) (ws1 := (wM h0 q cI t1 v_side v_rights v_passed v_halves v_number v_top v_typedCount v_readAt v_place v_writtenCount v_chosenFrom v_chosenTo v_chosenTurn v_changed v_readSide v_readRights v_readPassed v_readHalves v_readNumber a_board a_before a_typed a_written a_froms a_tos a_turns a_counts a_changedSquare a_changedMan a_readBoard)) 0 0 hin10 tyX10 tyX10_ok nmX10 rfl rfl (by decide) (C.ts _ (List.mem_cons_of_mem _ lf_RX10_66)) rfl rfl (by decide +kernel) rfl rfl (Nat.le_of_ble_eq_true rfl) rfl dX10_play_26 ?_
    refine kv_aload_n C 0 dX10_play_29 rfl rfl ?_
    refine kv_get C (Cn := RX10) (T := TX10) (N := 31) 0 0 hin10 rfl rfl (by decide) (C.ts _ (List.mem_cons_of_mem _ lf_RX10_66)) rfl rfl dX10_play_30 ?_
    refine kv_if_le C 38 dX10_play_33 (by decide) (fun c_27 => ?_) (fun c_27 => ?_)
    · have h := oi_t h c_27
      refine kv_aload_n C 0 dX10_play_38 rfl rfl ?_
      refine kv_iconst C 0 dX10_play_39 (by decide) ?_
      obtain ⟨⟨v_changed_28, a_board_29, a_froms_30, a_tos_31, a_turns_32, a_counts_33, a_changedSquare_34, a_changedMan_35⟩, hm_36, h⟩ := ob_e h
      replace h : _ = _ := h
      refine kv_callWv C [.int 0] 0 (c_X10_find l D h0 q cI t1 v_side v_rights v_passed v_halves v_number v_top v_typedCount v_readAt v_place v_writtenCount v_chosenFrom v_chosenTo v_chosenTurn v_changed v_readSide v_readRights v_readPassed v_readHalves v_readNumber a_board a_before a_typed a_written a_froms a_tos a_turns a_counts a_changedSquare a_changedMan a_readBoard 0 v_changed_28 a_board_29 a_froms_30 a_tos_31 a_turns_32 a_counts_33 a_changedSquare_34 a_changedMan_35 hm_36) (cv_X10_find C.ts lm_RX10_158 ⟨Nat.le_of_ble_eq_true rfl, Nat.le_of_ble_eq_true rfl⟩) rfl rfl rfl rfl (Nat.le_of_ble_eq_true rfl) dX10_play_40 ⟨Nat.zero_le _, Nat.zero_le _⟩ ?_
      refine kv_iconst C 0 dX10_play_43 (by decide) ?_
      refine kv_istore C (lv2 := [(0, .ref h0), (1, .int x1), (2, .int x2), (3, .int x3), (4, .int 0)]) [1, 2, 3, 4, 0] dX10_play_44 (by decide) rfl rfl ?_
      refine kv_iconst C 0 dX10_play_46 (by decide) ?_
      refine kv_istore C (lv2 := [(0, .ref h0), (1, .int x1), (2, .int x2), (3, .int x3), (4, .int 0), (5, .int 0)]) [1, 2, 3, 4, 5, 0] dX10_play_47 (by decide) rfl rfl ?_
      exact kv_lv [0, 1, 2, 3, 4, 5] (lv2 := [(0, .ref h0), (1, .int x1), (2, .int x2), (3, .int x3), (4, .int 0), (5, .int 0)]) rfl (l49 kF t1 v_side v_rights v_passed v_halves v_number v_top v_changed_28 a_board_29 a_before a_froms_30 a_tos_31 a_turns_32 a_counts_33 a_changedSquare_34 a_changedMan_35 x1 x2 x3 0 0 h)
    · have h := oi_f h c_27
      refine kv_iconst C 0 dX10_play_36 (by decide) ?_
      cases h
      exact hret _ _ dX10_play_37 (fun q => by cases q)
  have j21 : ∀ (v_code : Int32) (v_side : Int32) (v_rights : Int32) (v_passed : Int32) (v_halves : Int32) (v_number : Int32) (v_top : Int32) (v_changed : Int32) (a_board : Nat → Int32) (a_before : Nat → Int32) (a_froms : Nat → Int32) (a_tos : Nat → Int32) (a_turns : Nat → Int32) (a_counts : Nat → Int32) (a_changedSquare : Nat → Int32) (a_changedMan : Nat → Int32) (x1 : Int32) (x2 : Int32) (x3 : Int32), m_X10_play_b21  v_code v_side v_rights v_passed v_halves v_number v_top v_changed a_board a_before a_froms a_tos a_turns a_counts a_changedSquare a_changedMan x1 x2 x3 = some (rv, v_code', v_side', v_rights', v_passed', v_halves', v_number', v_top', v_changed', a_board', a_before', a_froms', a_tos', a_turns', a_counts', a_changedSquare', a_changedMan') → kv p l e rm_X10_play s m ([.ref h0, .int p0, .int p1, .int p2] : List Value).toArray below meth c D A 6 0 0 Q (wM h0 q cI v_code v_side v_rights v_passed v_halves v_number v_top v_typedCount v_readAt v_place v_writtenCount v_chosenFrom v_chosenTo v_chosenTurn v_changed v_readSide v_readRights v_readPassed v_readHalves v_readNumber a_board a_before a_typed a_written a_froms a_tos a_turns a_counts a_changedSquare a_changedMan a_readBoard) [(0, .ref h0), (1, .int x1), (2, .int x2), (3, .int x3)] 21 [.ref h0] := by
    intro v_code v_side v_rights v_passed v_halves v_number v_top v_changed a_board a_before a_froms a_tos a_turns a_counts a_changedSquare a_changedMan x1 x2 x3 h
    unfold m_X10_play_b21 at h
    refine kv_iconst C 1 dX10_play_21 (by decide) ?_
    refine kv_goto C 26 dX10_play_22 (by decide) ?_
    exact kv_lv [0, 1, 2, 3] (lv2 := [(0, .ref h0), (1, .int x1), (2, .int x2), (3, .int x3)]) rfl (j26 v_code v_side v_rights v_passed v_halves v_number v_top v_changed a_board a_before a_froms a_tos a_turns a_counts a_changedSquare a_changedMan x1 x2 x3 1 h)
  unfold m_X10_play at hm
  have h := hm
  refine kv_lv [0, 1, 2, 3] (lv2 := [(0, .ref h0), (1, .int p0), (2, .int p1), (3, .int p2)]) rfl ?_
  refine kv_aload_n C 0 dX10_play_0 rfl rfl ?_
  refine kv_iload_n C 1 dX10_play_1 rfl rfl ?_
  refine kv_if_lt C 21 dX10_play_2 (by decide) (fun c_38 => ?_) (fun c_38 => ?_)
  · have h := oi_t h c_38
    exact kv_lv [0, 1, 2, 3] (lv2 := [(0, .ref h0), (1, .int p0), (2, .int p1), (3, .int p2)]) rfl (j21 v_code v_side v_rights v_passed v_halves v_number v_top v_changed a_board a_before a_froms a_tos a_turns a_counts a_changedSquare a_changedMan p0 p1 p2 h)
  · have h := oi_f h c_38
    refine kv_iload_n C 1 dX10_play_5 rfl rfl ?_
    refine kv_bipush C 63 dX10_play_6 (by decide) ?_
    refine kv_icmp_gt C 21 dX10_play_8 (by decide) (fun c_39 => ?_) (fun c_39 => ?_)
    · have h := oi_t h c_39
      exact kv_lv [0, 1, 2, 3] (lv2 := [(0, .ref h0), (1, .int p0), (2, .int p1), (3, .int p2)]) rfl (j21 v_code v_side v_rights v_passed v_halves v_number v_top v_changed a_board a_before a_froms a_tos a_turns a_counts a_changedSquare a_changedMan p0 p1 p2 h)
    · have h := oi_f h c_39
      refine kv_iload_n C 2 dX10_play_11 rfl rfl ?_
      refine kv_if_lt C 21 dX10_play_12 (by decide) (fun c_40 => ?_) (fun c_40 => ?_)
      · have h := oi_t h c_40
        exact kv_lv [0, 1, 2, 3] (lv2 := [(0, .ref h0), (1, .int p0), (2, .int p1), (3, .int p2)]) rfl (j21 v_code v_side v_rights v_passed v_halves v_number v_top v_changed a_board a_before a_froms a_tos a_turns a_counts a_changedSquare a_changedMan p0 p1 p2 h)
      · have h := oi_f h c_40
        refine kv_iload_n C 2 dX10_play_15 rfl rfl ?_
        refine kv_bipush C 63 dX10_play_16 (by decide) ?_
        refine kv_icmp_le C 25 dX10_play_18 (by decide) (fun c_41 => ?_) (fun c_41 => ?_)
        · have h := oi_t h c_41
          refine kv_iconst C 0 dX10_play_25 (by decide) ?_
          exact kv_lv [0, 1, 2, 3] (lv2 := [(0, .ref h0), (1, .int p0), (2, .int p1), (3, .int p2)]) rfl (j26 v_code v_side v_rights v_passed v_halves v_number v_top v_changed a_board a_before a_froms a_tos a_turns a_counts a_changedSquare a_changedMan p0 p1 p2 0 h)
        · have h := oi_f h c_41
          exact kv_lv [0, 1, 2, 3] (lv2 := [(0, .ref h0), (1, .int p0), (2, .int p1), (3, .int p2)]) rfl (j21 v_code v_side v_rights v_passed v_halves v_number v_top v_changed a_board a_before a_froms a_tos a_turns a_counts a_changedSquare a_changedMan p0 p1 p2 h)
def m_X10_back_b13 (v_code : Int32) (v_side : Int32) (v_rights : Int32) (v_passed : Int32) (v_halves : Int32) (v_number : Int32) (v_top : Int32) (a_board : Nat → Int32) (a_before : Nat → Int32) (t1 : Int32) : Option (Int32 × Int32 × Int32 × Int32 × Int32 × Int32 × Int32 × Int32 × (Nat → Int32)) := if t1 ≤ 0 then ob (m_X10_pop v_side v_rights v_passed v_halves v_number v_top a_board a_before ) fun (v_side_2, v_rights_3, v_passed_4, v_halves_5, v_number_6, v_top_7, a_board_8) => some (v_top_7, t1, v_side_2, v_rights_3, v_passed_4, v_halves_5, v_number_6, v_top_7, a_board_8) else some (0, t1, v_side, v_rights, v_passed, v_halves, v_number, v_top, a_board)
def m_X10_back (v_code : Int32) (v_side : Int32) (v_rights : Int32) (v_passed : Int32) (v_halves : Int32) (v_number : Int32) (v_top : Int32) (a_board : Nat → Int32) (a_before : Nat → Int32) : Option (Int32 × Int32 × Int32 × Int32 × Int32 × Int32 × Int32 × Int32 × (Nat → Int32)) := if v_top = 0 then m_X10_back_b13 v_code v_side v_rights v_passed v_halves v_number v_top a_board a_before 1 else m_X10_back_b13 v_code v_side v_rights v_passed v_halves v_number v_top a_board a_before 0
abbrev rm_X10_back : Room := { frames := 1, cells := 0, slots := 0, locals := 22 }
abbrev wy_X10_back : List Cond := .code yX10_back cX10_back 1 (some .int) :: gT
theorem cv_X10_back {R : Room} {s : State} {args : Array Value} {own : String} {index : Nat} {w0 : Cond} (hts : ∀ w ∈ w0 :: gT, w.before args s = true) (hl : Cond.methodLink own index yX10_back ∈ gT) (hR : 1 + 1 ≤ R.frames ∧ 8 + (1 + 11) + 22 ≤ R.locals) : CallW R s args own RX10 index yX10_back cX10_back 1 (some .int) wy_X10_back rm_X10_back 0 0 0 :=
  cwV 0 hts (gT_call w0 (pre := [.methodLink own index yX10_back, .instanceMethod yX10_back, .selects RX10 yX10_back yX10_back, .initialized RX10]) (gT_lc hl (gT_lc ly_yX10_back (gT_lc lx_yX10_back (gT_l1 li_RX10)))) lc_yX10_back) rfl rfl rfl (by decide +kernel) hR
set_option maxRecDepth 100000 in
set_option maxHeartbeats 4000000 in
theorem c_X10_back (l : Launch) (D : va_G) (h0 : Nat) (q : Nat → Nat) (cI : ClassId) (v_code : Int32) (v_side : Int32) (v_rights : Int32) (v_passed : Int32) (v_halves : Int32) (v_number : Int32) (v_top : Int32) (v_typedCount : Int32) (v_readAt : Int32) (v_place : Int32) (v_writtenCount : Int32) (v_chosenFrom : Int32) (v_chosenTo : Int32) (v_chosenTurn : Int32) (v_changed : Int32) (v_readSide : Int32) (v_readRights : Int32) (v_readPassed : Int32) (v_readHalves : Int32) (v_readNumber : Int32) (a_board : Nat → Int32) (a_before : Nat → Int32) (a_typed : Nat → Int32) (a_written : Nat → Int32) (a_froms : Nat → Int32) (a_tos : Nat → Int32) (a_turns : Nat → Int32) (a_counts : Nat → Int32) (a_changedSquare : Nat → Int32) (a_changedMan : Nat → Int32) (a_readBoard : Nat → Int32) (rv : Int32) (v_code' : Int32) (v_side' : Int32) (v_rights' : Int32) (v_passed' : Int32) (v_halves' : Int32) (v_number' : Int32) (v_top' : Int32) (a_board' : Nat → Int32) (hm : m_X10_back v_code v_side v_rights v_passed v_halves v_number v_top a_board a_before = some (rv, v_code', v_side', v_rights', v_passed', v_halves', v_number', v_top', a_board')) : kDi l yX10_back wy_X10_back rm_X10_back D [(cI, .int)] rv (wM h0 q cI v_code v_side v_rights v_passed v_halves v_number v_top v_typedCount v_readAt v_place v_writtenCount v_chosenFrom v_chosenTo v_chosenTurn v_changed v_readSide v_readRights v_readPassed v_readHalves v_readNumber a_board a_before a_typed a_written a_froms a_tos a_turns a_counts a_changedSquare a_changedMan a_readBoard) (wM h0 q cI v_code' v_side' v_rights' v_passed' v_halves' v_number' v_top' v_typedCount v_readAt v_place v_writtenCount v_chosenFrom v_chosenTo v_chosenTurn v_changed v_readSide v_readRights v_readPassed v_readHalves v_readNumber a_board' a_before a_typed a_written a_froms a_tos a_turns a_counts a_changedSquare a_changedMan a_readBoard) [.ref h0] := by
  refine kDi.of cX10_back 1 (some .int) (by decide) rfl (Or.inl rfl) (Nat.le_of_ble_eq_true rfl) ?_
  intro p e s m below meth c A Q C hret
  have hin10 : ∀ w ∈ wsX100, w ∈ wy_X10_back := fun w h => List.mem_cons_of_mem _ (inG10 w h)
  have j13 : ∀ (v_code : Int32) (v_side : Int32) (v_rights : Int32) (v_passed : Int32) (v_halves : Int32) (v_number : Int32) (v_top : Int32) (a_board : Nat → Int32) (t1 : Int32), m_X10_back_b13  v_code v_side v_rights v_passed v_halves v_number v_top a_board a_before t1 = some (rv, v_code', v_side', v_rights', v_passed', v_halves', v_number', v_top', a_board') → kv p l e rm_X10_back s m ([.ref h0] : List Value).toArray below meth c D A 1 0 0 Q (wM h0 q cI v_code v_side v_rights v_passed v_halves v_number v_top v_typedCount v_readAt v_place v_writtenCount v_chosenFrom v_chosenTo v_chosenTurn v_changed v_readSide v_readRights v_readPassed v_readHalves v_readNumber a_board a_before a_typed a_written a_froms a_tos a_turns a_counts a_changedSquare a_changedMan a_readBoard) [(0, .ref h0)] 13 [.int t1, .ref h0] := by
    intro v_code v_side v_rights v_passed v_halves v_number v_top a_board t1 h
    unfold m_X10_back_b13 at h
    refine kv_put C (Cn := RX10) (T := TX10) (N := 31) (ty := .int) (ws1 := (wM h0 q cI t1 v_side v_rights v_passed v_halves v_number v_top v_typedCount v_readAt v_place v_writtenCount v_chosenFrom v_chosenTo v_chosenTurn v_changed v_readSide v_readRights v_readPassed v_readHalves v_readNumber a_board a_before a_typed a_written a_froms a_tos a_turns a_counts a_changedSquare a_changedMan a_readBoard)) 0 0 hin10 tyX10 tyX10_ok nmX10 rfl rfl (by decide) (C.ts _ (List.mem_cons_of_mem _ lf_RX10_66)) rfl rfl (by decide +kernel) rfl rfl (Nat.le_of_ble_eq_true rfl) rfl dX10_back_13 ?_
    refine kv_aload_n C 0 dX10_back_16 rfl rfl ?_
    refine kv_get C (Cn := RX10) (T := TX10) (N := 31) 0 0 hin10 rfl rfl (by decide) (C.ts _ (List.mem_cons_of_mem _ lf_RX10_66)) rfl rfl dX10_back_17 ?_
    refine kv_if_le C 25 dX10_back_20 (by decide) (fun c_1 => ?_) (fun c_1 => ?_)
    · have h := oi_t h c_1
      refine kv_aload_n C 0 dX10_back_25 rfl rfl ?_
      obtain ⟨⟨v_side_2, v_rights_3, v_passed_4, v_halves_5, v_number_6, v_top_7, a_board_8⟩, hm_9, h⟩ := ob_e h
      replace h : _ = _ := h
      refine kv_callWv C [] 0 (c_X10_pop l D h0 q cI t1 v_side v_rights v_passed v_halves v_number v_top v_typedCount v_readAt v_place v_writtenCount v_chosenFrom v_chosenTo v_chosenTurn v_changed v_readSide v_readRights v_readPassed v_readHalves v_readNumber a_board a_before a_typed a_written a_froms a_tos a_turns a_counts a_changedSquare a_changedMan a_readBoard  v_side_2 v_rights_3 v_passed_4 v_halves_5 v_number_6 v_top_7 a_board_8 hm_9) (cv_X10_pop C.ts lm_RX10_186 ⟨Nat.le_of_ble_eq_true rfl, Nat.le_of_ble_eq_true rfl⟩) rfl rfl rfl rfl (Nat.le_of_ble_eq_true rfl) dX10_back_26 ⟨Nat.zero_le _, Nat.zero_le _⟩ ?_
      refine kv_aload_n C 0 dX10_back_29 rfl rfl ?_
      refine kv_get C (Cn := RX10) (T := TX10) (N := 31) 0 8 hin10 rfl rfl (by decide) (C.ts _ (List.mem_cons_of_mem _ lf_RX10_116)) rfl rfl dX10_back_30 ?_
      cases h
      exact hret _ _ dX10_back_33 (fun q => by cases q)
    · have h := oi_f h c_1
      refine kv_iconst C 0 dX10_back_23 (by decide) ?_
      cases h
      exact hret _ _ dX10_back_24 (fun q => by cases q)
  unfold m_X10_back at hm
  have h := hm
  refine kv_lv [0] (lv2 := [(0, .ref h0)]) rfl ?_
  refine kv_aload_n C 0 dX10_back_0 rfl rfl ?_
  refine kv_aload_n C 0 dX10_back_1 rfl rfl ?_
  refine kv_get C (Cn := RX10) (T := TX10) (N := 31) 0 8 hin10 rfl rfl (by decide) (C.ts _ (List.mem_cons_of_mem _ lf_RX10_116)) rfl rfl dX10_back_2 ?_
  refine kv_if_ne C 12 dX10_back_5 (by decide) (fun c_11 => ?_) (fun c_11 => ?_)
  · have h := oi_f h c_11
    refine kv_iconst C 0 dX10_back_12 (by decide) ?_
    exact kv_lv [0] (lv2 := [(0, .ref h0)]) rfl (j13 v_code v_side v_rights v_passed v_halves v_number v_top a_board 0 h)
  · have h := oi_t h c_11
    refine kv_iconst C 1 dX10_back_8 (by decide) ?_
    refine kv_goto C 13 dX10_back_9 (by decide) ?_
    exact kv_lv [0] (lv2 := [(0, .ref h0)]) rfl (j13 v_code v_side v_rights v_passed v_halves v_number v_top a_board 1 h)
def m_X10_man_b36 (v_code : Int32) (a_board : Nat → Int32) (t0 : Int32) : Option (Int32 × Int32) := some (t0, v_code)
def m_X10_man_b16 (v_code : Int32) (a_board : Nat → Int32) (x1 : Int32) (t1 : Int32) : Option (Int32 × Int32) := if t1 ≤ 0 then oin (x1) 64 (m_X10_man_b36 t1 a_board (a_board x1.toNatClampNeg)) else m_X10_man_b36 t1 a_board 0
def m_X10_man_b11 (v_code : Int32) (a_board : Nat → Int32) (x1 : Int32) : Option (Int32 × Int32) := m_X10_man_b16 v_code a_board x1 1
def m_X10_man (v_code : Int32) (a_board : Nat → Int32) (p0 : Int32) : Option (Int32 × Int32) := if p0 < 0 then m_X10_man_b11 v_code a_board p0 else if p0 ≤ 63 then m_X10_man_b16 v_code a_board p0 0 else m_X10_man_b11 v_code a_board p0
abbrev rm_X10_man : Room := { frames := 0, cells := 0, slots := 0, locals := 0 }
abbrev wy_X10_man : List Cond := .code yX10_man cX10_man 2 (some .int) :: gT
theorem cv_X10_man {R : Room} {s : State} {args : Array Value} {own : String} {index : Nat} {w0 : Cond} (hts : ∀ w ∈ w0 :: gT, w.before args s = true) (hl : Cond.methodLink own index yX10_man ∈ gT) (hR : 0 + 1 ≤ R.frames ∧ 8 + (2 + 11) + 0 ≤ R.locals) : CallW R s args own RX10 index yX10_man cX10_man 2 (some .int) wy_X10_man rm_X10_man 0 0 1 :=
  cwV 1 hts (gT_call w0 (pre := [.methodLink own index yX10_man, .instanceMethod yX10_man, .selects RX10 yX10_man yX10_man, .initialized RX10]) (gT_lc hl (gT_lc ly_yX10_man (gT_lc lx_yX10_man (gT_l1 li_RX10)))) lc_yX10_man) rfl rfl rfl (by decide +kernel) hR
set_option maxRecDepth 100000 in
set_option maxHeartbeats 4000000 in
theorem c_X10_man (l : Launch) (D : va_G) (h0 : Nat) (q : Nat → Nat) (cI : ClassId) (v_code : Int32) (v_side : Int32) (v_rights : Int32) (v_passed : Int32) (v_halves : Int32) (v_number : Int32) (v_top : Int32) (v_typedCount : Int32) (v_readAt : Int32) (v_place : Int32) (v_writtenCount : Int32) (v_chosenFrom : Int32) (v_chosenTo : Int32) (v_chosenTurn : Int32) (v_changed : Int32) (v_readSide : Int32) (v_readRights : Int32) (v_readPassed : Int32) (v_readHalves : Int32) (v_readNumber : Int32) (a_board : Nat → Int32) (a_before : Nat → Int32) (a_typed : Nat → Int32) (a_written : Nat → Int32) (a_froms : Nat → Int32) (a_tos : Nat → Int32) (a_turns : Nat → Int32) (a_counts : Nat → Int32) (a_changedSquare : Nat → Int32) (a_changedMan : Nat → Int32) (a_readBoard : Nat → Int32) (p0 : Int32) (rv : Int32) (v_code' : Int32) (hm : m_X10_man v_code a_board p0 = some (rv, v_code')) : kDi l yX10_man wy_X10_man rm_X10_man D [(cI, .int)] rv (wM h0 q cI v_code v_side v_rights v_passed v_halves v_number v_top v_typedCount v_readAt v_place v_writtenCount v_chosenFrom v_chosenTo v_chosenTurn v_changed v_readSide v_readRights v_readPassed v_readHalves v_readNumber a_board a_before a_typed a_written a_froms a_tos a_turns a_counts a_changedSquare a_changedMan a_readBoard) (wM h0 q cI v_code' v_side v_rights v_passed v_halves v_number v_top v_typedCount v_readAt v_place v_writtenCount v_chosenFrom v_chosenTo v_chosenTurn v_changed v_readSide v_readRights v_readPassed v_readHalves v_readNumber a_board a_before a_typed a_written a_froms a_tos a_turns a_counts a_changedSquare a_changedMan a_readBoard) [.ref h0, .int p0] := by
  refine kDi.of cX10_man 2 (some .int) (by decide) rfl (Or.inl rfl) (Nat.le_of_ble_eq_true rfl) ?_
  intro p e s m below meth c A Q C hret
  have hin10 : ∀ w ∈ wsX100, w ∈ wy_X10_man := fun w h => List.mem_cons_of_mem _ (inG10 w h)
  have j36 : ∀ (v_code : Int32) (t0 : Int32), m_X10_man_b36  v_code a_board t0 = some (rv, v_code') → kv p l e rm_X10_man s m ([.ref h0, .int p0] : List Value).toArray below meth c D A 2 0 0 Q (wM h0 q cI v_code v_side v_rights v_passed v_halves v_number v_top v_typedCount v_readAt v_place v_writtenCount v_chosenFrom v_chosenTo v_chosenTurn v_changed v_readSide v_readRights v_readPassed v_readHalves v_readNumber a_board a_before a_typed a_written a_froms a_tos a_turns a_counts a_changedSquare a_changedMan a_readBoard) [] 36 [.int t0] := by
    intro v_code t0 h
    unfold m_X10_man_b36 at h
    cases h
    exact hret _ _ dX10_man_36 (fun q => by cases q)
  have j16 : ∀ (v_code : Int32) (x1 : Int32) (t1 : Int32), m_X10_man_b16  v_code a_board x1 t1 = some (rv, v_code') → kv p l e rm_X10_man s m ([.ref h0, .int p0] : List Value).toArray below meth c D A 2 0 0 Q (wM h0 q cI v_code v_side v_rights v_passed v_halves v_number v_top v_typedCount v_readAt v_place v_writtenCount v_chosenFrom v_chosenTo v_chosenTurn v_changed v_readSide v_readRights v_readPassed v_readHalves v_readNumber a_board a_before a_typed a_written a_froms a_tos a_turns a_counts a_changedSquare a_changedMan a_readBoard) [(0, .ref h0), (1, .int x1)] 16 [.int t1, .ref h0] := by
    intro v_code x1 t1 h
    unfold m_X10_man_b16 at h
    refine kv_put C (Cn := RX10) (T := TX10) (N := 31) (ty := .int) (ws1 := (wM h0 q cI t1 v_side v_rights v_passed v_halves v_number v_top v_typedCount v_readAt v_place v_writtenCount v_chosenFrom v_chosenTo v_chosenTurn v_changed v_readSide v_readRights v_readPassed v_readHalves v_readNumber a_board a_before a_typed a_written a_froms a_tos a_turns a_counts a_changedSquare a_changedMan a_readBoard)) 0 0 hin10 tyX10 tyX10_ok nmX10 rfl rfl (by decide) (C.ts _ (List.mem_cons_of_mem _ lf_RX10_66)) rfl rfl (by decide +kernel) rfl rfl (Nat.le_of_ble_eq_true rfl) rfl dX10_man_16 ?_
    refine kv_aload_n C 0 dX10_man_19 rfl rfl ?_
    refine kv_get C (Cn := RX10) (T := TX10) (N := 31) 0 0 hin10 rfl rfl (by decide) (C.ts _ (List.mem_cons_of_mem _ lf_RX10_66)) rfl rfl dX10_man_20 ?_
    refine kv_if_le C 30 dX10_man_23 (by decide) (fun c_1 => ?_) (fun c_1 => ?_)
    · have h := oi_t h c_1
      refine kv_aload_n C 0 dX10_man_30 rfl rfl ?_
      refine kv_get C (Cn := RX10) (T := TX10) (N := 31) 0 1 hin10 rfl rfl (by decide) (C.ts _ (List.mem_cons_of_mem _ lf_RX10_7)) rfl rfl dX10_man_31 ?_
      refine kv_iload_n C 1 dX10_man_34 rfl rfl ?_
      obtain ⟨g_2, h⟩ := oin_e h
      refine kv_iald C 1 0 rfl rfl g_2 dX10_man_35 ?_
      exact kv_lv [] (lv2 := []) rfl (j36 t1 (a_board x1.toNatClampNeg) h)
    · have h := oi_f h c_1
      refine kv_iconst C 0 dX10_man_26 (by decide) ?_
      refine kv_goto C 36 dX10_man_27 (by decide) ?_
      exact kv_lv [] (lv2 := []) rfl (j36 t1 0 h)
  have j11 : ∀ (v_code : Int32) (x1 : Int32), m_X10_man_b11  v_code a_board x1 = some (rv, v_code') → kv p l e rm_X10_man s m ([.ref h0, .int p0] : List Value).toArray below meth c D A 2 0 0 Q (wM h0 q cI v_code v_side v_rights v_passed v_halves v_number v_top v_typedCount v_readAt v_place v_writtenCount v_chosenFrom v_chosenTo v_chosenTurn v_changed v_readSide v_readRights v_readPassed v_readHalves v_readNumber a_board a_before a_typed a_written a_froms a_tos a_turns a_counts a_changedSquare a_changedMan a_readBoard) [(0, .ref h0), (1, .int x1)] 11 [.ref h0] := by
    intro v_code x1 h
    unfold m_X10_man_b11 at h
    refine kv_iconst C 1 dX10_man_11 (by decide) ?_
    refine kv_goto C 16 dX10_man_12 (by decide) ?_
    exact kv_lv [0, 1] (lv2 := [(0, .ref h0), (1, .int x1)]) rfl (j16 v_code x1 1 h)
  unfold m_X10_man at hm
  have h := hm
  refine kv_lv [0, 1] (lv2 := [(0, .ref h0), (1, .int p0)]) rfl ?_
  refine kv_aload_n C 0 dX10_man_0 rfl rfl ?_
  refine kv_iload_n C 1 dX10_man_1 rfl rfl ?_
  refine kv_if_lt C 11 dX10_man_2 (by decide) (fun c_3 => ?_) (fun c_3 => ?_)
  · have h := oi_t h c_3
    exact kv_lv [0, 1] (lv2 := [(0, .ref h0), (1, .int p0)]) rfl (j11 v_code p0 h)
  · have h := oi_f h c_3
    refine kv_iload_n C 1 dX10_man_5 rfl rfl ?_
    refine kv_bipush C 63 dX10_man_6 (by decide) ?_
    refine kv_icmp_le C 15 dX10_man_8 (by decide) (fun c_4 => ?_) (fun c_4 => ?_)
    · have h := oi_t h c_4
      refine kv_iconst C 0 dX10_man_15 (by decide) ?_
      exact kv_lv [0, 1] (lv2 := [(0, .ref h0), (1, .int p0)]) rfl (j16 v_code p0 0 h)
    · have h := oi_f h c_4
      exact kv_lv [0, 1] (lv2 := [(0, .ref h0), (1, .int p0)]) rfl (j11 v_code p0 h)
def m_X10_about_b105 (v_code : Int32) (v_side : Int32) (v_rights : Int32) (v_passed : Int32) (v_halves : Int32) (v_number : Int32) (a_board : Nat → Int32) (t0 : Int32) : Option (Int32 × Int32) := some (t0, v_code)
def m_X10_about_b15 (v_code : Int32) (v_side : Int32) (v_rights : Int32) (v_passed : Int32) (v_halves : Int32) (v_number : Int32) (a_board : Nat → Int32) (x1 : Int32) (t1 : Int32) : Option (Int32 × Int32) := if t1 ≤ 0 then if x1 = 0 then some (v_side, t1) else if x1 = 1 then some (v_rights, t1) else if x1 = 2 then some (v_passed, t1) else if x1 = 3 then some (v_halves, t1) else if x1 = 4 then some (v_number, t1) else ob (m_X10_inCheck a_board v_side) fun r_7 => if r_7 = 0 then m_X10_about_b105 t1 v_side v_rights v_passed v_halves v_number a_board 0 else m_X10_about_b105 t1 v_side v_rights v_passed v_halves v_number a_board 1 else some (0, t1)
def m_X10_about_b10 (v_code : Int32) (v_side : Int32) (v_rights : Int32) (v_passed : Int32) (v_halves : Int32) (v_number : Int32) (a_board : Nat → Int32) (x1 : Int32) : Option (Int32 × Int32) := m_X10_about_b15 v_code v_side v_rights v_passed v_halves v_number a_board x1 1
def m_X10_about (v_code : Int32) (v_side : Int32) (v_rights : Int32) (v_passed : Int32) (v_halves : Int32) (v_number : Int32) (a_board : Nat → Int32) (p0 : Int32) : Option (Int32 × Int32) := if p0 < 0 then m_X10_about_b10 v_code v_side v_rights v_passed v_halves v_number a_board p0 else if p0 ≤ 5 then m_X10_about_b15 v_code v_side v_rights v_passed v_halves v_number a_board p0 0 else m_X10_about_b10 v_code v_side v_rights v_passed v_halves v_number a_board p0
abbrev rm_X10_about : Room := { frames := 5, cells := 0, slots := 0, locals := 122 }
abbrev wy_X10_about : List Cond := .code yX10_about cX10_about 2 (some .int) :: gT
theorem cv_X10_about {R : Room} {s : State} {args : Array Value} {own : String} {index : Nat} {w0 : Cond} (hts : ∀ w ∈ w0 :: gT, w.before args s = true) (hl : Cond.methodLink own index yX10_about ∈ gT) (hR : 5 + 1 ≤ R.frames ∧ 8 + (2 + 11) + 122 ≤ R.locals) : CallW R s args own RX10 index yX10_about cX10_about 2 (some .int) wy_X10_about rm_X10_about 0 0 1 :=
  cwV 1 hts (gT_call w0 (pre := [.methodLink own index yX10_about, .instanceMethod yX10_about, .selects RX10 yX10_about yX10_about, .initialized RX10]) (gT_lc hl (gT_lc ly_yX10_about (gT_lc lx_yX10_about (gT_l1 li_RX10)))) lc_yX10_about) rfl rfl rfl (by decide +kernel) hR
set_option maxRecDepth 100000 in
set_option maxHeartbeats 4000000 in
theorem c_X10_about (l : Launch) (D : va_G) (h0 : Nat) (q : Nat → Nat) (cI : ClassId) (v_code : Int32) (v_side : Int32) (v_rights : Int32) (v_passed : Int32) (v_halves : Int32) (v_number : Int32) (v_top : Int32) (v_typedCount : Int32) (v_readAt : Int32) (v_place : Int32) (v_writtenCount : Int32) (v_chosenFrom : Int32) (v_chosenTo : Int32) (v_chosenTurn : Int32) (v_changed : Int32) (v_readSide : Int32) (v_readRights : Int32) (v_readPassed : Int32) (v_readHalves : Int32) (v_readNumber : Int32) (a_board : Nat → Int32) (a_before : Nat → Int32) (a_typed : Nat → Int32) (a_written : Nat → Int32) (a_froms : Nat → Int32) (a_tos : Nat → Int32) (a_turns : Nat → Int32) (a_counts : Nat → Int32) (a_changedSquare : Nat → Int32) (a_changedMan : Nat → Int32) (a_readBoard : Nat → Int32) (p0 : Int32) (rv : Int32) (v_code' : Int32) (hm : m_X10_about v_code v_side v_rights v_passed v_halves v_number a_board p0 = some (rv, v_code')) : kDi l yX10_about wy_X10_about rm_X10_about D [(cI, .int)] rv (wM h0 q cI v_code v_side v_rights v_passed v_halves v_number v_top v_typedCount v_readAt v_place v_writtenCount v_chosenFrom v_chosenTo v_chosenTurn v_changed v_readSide v_readRights v_readPassed v_readHalves v_readNumber a_board a_before a_typed a_written a_froms a_tos a_turns a_counts a_changedSquare a_changedMan a_readBoard) (wM h0 q cI v_code' v_side v_rights v_passed v_halves v_number v_top v_typedCount v_readAt v_place v_writtenCount v_chosenFrom v_chosenTo v_chosenTurn v_changed v_readSide v_readRights v_readPassed v_readHalves v_readNumber a_board a_before a_typed a_written a_froms a_tos a_turns a_counts a_changedSquare a_changedMan a_readBoard) [.ref h0, .int p0] := by
  refine kDi.of cX10_about 2 (some .int) (by decide) rfl (Or.inl rfl) (Nat.le_of_ble_eq_true rfl) ?_
  intro p e s m below meth c A Q C hret
  have hin10 : ∀ w ∈ wsX100, w ∈ wy_X10_about := fun w h => List.mem_cons_of_mem _ (inG10 w h)
  have j105 : ∀ (v_code : Int32) (t0 : Int32), m_X10_about_b105  v_code v_side v_rights v_passed v_halves v_number a_board t0 = some (rv, v_code') → kv p l e rm_X10_about s m ([.ref h0, .int p0] : List Value).toArray below meth c D A 2 0 0 Q (wM h0 q cI v_code v_side v_rights v_passed v_halves v_number v_top v_typedCount v_readAt v_place v_writtenCount v_chosenFrom v_chosenTo v_chosenTurn v_changed v_readSide v_readRights v_readPassed v_readHalves v_readNumber a_board a_before a_typed a_written a_froms a_tos a_turns a_counts a_changedSquare a_changedMan a_readBoard) [] 105 [.int t0] := by
    intro v_code t0 h
    unfold m_X10_about_b105 at h
    cases h
    exact hret _ _ dX10_about_105 (fun q => by cases q)
  have j15 : ∀ (v_code : Int32) (x1 : Int32) (t1 : Int32), m_X10_about_b15  v_code v_side v_rights v_passed v_halves v_number a_board x1 t1 = some (rv, v_code') → kv p l e rm_X10_about s m ([.ref h0, .int p0] : List Value).toArray below meth c D A 2 0 0 Q (wM h0 q cI v_code v_side v_rights v_passed v_halves v_number v_top v_typedCount v_readAt v_place v_writtenCount v_chosenFrom v_chosenTo v_chosenTurn v_changed v_readSide v_readRights v_readPassed v_readHalves v_readNumber a_board a_before a_typed a_written a_froms a_tos a_turns a_counts a_changedSquare a_changedMan a_readBoard) [(0, .ref h0), (1, .int x1)] 15 [.int t1, .ref h0] := by
    intro v_code x1 t1 h
    unfold m_X10_about_b15 at h
    refine kv_put C (Cn := RX10) (T := TX10) (N := 31) (ty := .int) (ws1 := (wM h0 q cI t1 v_side v_rights v_passed v_halves v_number v_top v_typedCount v_readAt v_place v_writtenCount v_chosenFrom v_chosenTo v_chosenTurn v_changed v_readSide v_readRights v_readPassed v_readHalves v_readNumber a_board a_before a_typed a_written a_froms a_tos a_turns a_counts a_changedSquare a_changedMan a_readBoard)) 0 0 hin10 tyX10 tyX10_ok nmX10 rfl rfl (by decide) (C.ts _ (List.mem_cons_of_mem _ lf_RX10_66)) rfl rfl (by decide +kernel) rfl rfl (Nat.le_of_ble_eq_true rfl) rfl dX10_about_15 ?_
    refine kv_aload_n C 0 dX10_about_18 rfl rfl ?_
    refine kv_get C (Cn := RX10) (T := TX10) (N := 31) 0 0 hin10 rfl rfl (by decide) (C.ts _ (List.mem_cons_of_mem _ lf_RX10_66)) rfl rfl dX10_about_19 ?_
    refine kv_if_le C 27 dX10_about_22 (by decide) (fun c_1 => ?_) (fun c_1 => ?_)
    · have h := oi_t h c_1
      refine kv_iload_n C 1 dX10_about_27 rfl rfl ?_
      by_cases c_2 : x1 = 0
      · have h := oi_t h c_2
        refine kv_tableIn C 0 64 dX10_about_28 c_2 (by decide) (by decide) rfl (by decide) ?_
        refine kv_aload_n C 0 dX10_about_64 rfl rfl ?_
        refine kv_get C (Cn := RX10) (T := TX10) (N := 31) 0 2 hin10 rfl rfl (by decide) (C.ts _ (List.mem_cons_of_mem _ lf_RX10_119)) rfl rfl dX10_about_65 ?_
        cases h
        exact hret _ _ dX10_about_68 (fun q => by cases q)
      have h := oi_f h c_2
      by_cases c_3 : x1 = 1
      · have h := oi_t h c_3
        refine kv_tableIn C 1 69 dX10_about_28 c_3 (by decide) (by decide) rfl (by decide) ?_
        refine kv_aload_n C 0 dX10_about_69 rfl rfl ?_
        refine kv_get C (Cn := RX10) (T := TX10) (N := 31) 0 3 hin10 rfl rfl (by decide) (C.ts _ (List.mem_cons_of_mem _ lf_RX10_60)) rfl rfl dX10_about_70 ?_
        cases h
        exact hret _ _ dX10_about_73 (fun q => by cases q)
      have h := oi_f h c_3
      by_cases c_4 : x1 = 2
      · have h := oi_t h c_4
        refine kv_tableIn C 2 74 dX10_about_28 c_4 (by decide) (by decide) rfl (by decide) ?_
        refine kv_aload_n C 0 dX10_about_74 rfl rfl ?_
        refine kv_get C (Cn := RX10) (T := TX10) (N := 31) 0 4 hin10 rfl rfl (by decide) (C.ts _ (List.mem_cons_of_mem _ lf_RX10_13)) rfl rfl dX10_about_75 ?_
        cases h
        exact hret _ _ dX10_about_78 (fun q => by cases q)
      have h := oi_f h c_4
      by_cases c_5 : x1 = 3
      · have h := oi_t h c_5
        refine kv_tableIn C 3 79 dX10_about_28 c_5 (by decide) (by decide) rfl (by decide) ?_
        refine kv_aload_n C 0 dX10_about_79 rfl rfl ?_
        refine kv_get C (Cn := RX10) (T := TX10) (N := 31) 0 5 hin10 rfl rfl (by decide) (C.ts _ (List.mem_cons_of_mem _ lf_RX10_122)) rfl rfl dX10_about_80 ?_
        cases h
        exact hret _ _ dX10_about_83 (fun q => by cases q)
      have h := oi_f h c_5
      by_cases c_6 : x1 = 4
      · have h := oi_t h c_6
        refine kv_tableIn C 4 84 dX10_about_28 c_6 (by decide) (by decide) rfl (by decide) ?_
        refine kv_aload_n C 0 dX10_about_84 rfl rfl ?_
        refine kv_get C (Cn := RX10) (T := TX10) (N := 31) 0 6 hin10 rfl rfl (by decide) (C.ts _ (List.mem_cons_of_mem _ lf_RX10_63)) rfl rfl dX10_about_85 ?_
        cases h
        exact hret _ _ dX10_about_88 (fun q => by cases q)
      have h := oi_f h c_6
      have qc_2 := kv_ne c_2
      have qc_3 := kv_ne c_3
      have qc_4 := kv_ne c_4
      have qc_5 := kv_ne c_5
      have qc_6 := kv_ne c_6
      refine kv_tableOut C 89 dX10_about_28 (by simp at qc_2 qc_3 qc_4 qc_5 qc_6; omega) (by decide) ?_
      refine kv_aload_n C 0 dX10_about_89 rfl rfl ?_
      refine kv_aload_n C 0 dX10_about_90 rfl rfl ?_
      refine kv_get C (Cn := RX10) (T := TX10) (N := 31) 0 2 hin10 rfl rfl (by decide) (C.ts _ (List.mem_cons_of_mem _ lf_RX10_119)) rfl rfl dX10_about_91 ?_
      obtain ⟨r_7, hm_8, h⟩ := ob_e h
      refine kv_callWi C [.int v_side] 0 (c_X10_inCheck l D h0 q cI t1 v_side v_rights v_passed v_halves v_number v_top v_typedCount v_readAt v_place v_writtenCount v_chosenFrom v_chosenTo v_chosenTurn v_changed v_readSide v_readRights v_readPassed v_readHalves v_readNumber a_board a_before a_typed a_written a_froms a_tos a_turns a_counts a_changedSquare a_changedMan a_readBoard v_side r_7 hm_8) (cv_X10_inCheck C.ts lm_RX10_109 ⟨Nat.le_of_ble_eq_true rfl, Nat.le_of_ble_eq_true rfl⟩) rfl rfl rfl rfl (Nat.le_of_ble_eq_true rfl) dX10_about_94 ⟨Nat.zero_le _, Nat.zero_le _⟩ ?_
      refine kv_if_eq C 104 dX10_about_97 (by decide) (fun c_9 => ?_) (fun c_9 => ?_)
      · have h := oi_t h c_9
        refine kv_iconst C 0 dX10_about_104 (by decide) ?_
        exact kv_lv [] (lv2 := []) rfl (j105 t1 0 h)
      · have h := oi_f h c_9
        refine kv_iconst C 1 dX10_about_100 (by decide) ?_
        refine kv_goto C 105 dX10_about_101 (by decide) ?_
        exact kv_lv [] (lv2 := []) rfl (j105 t1 1 h)
    · have h := oi_f h c_1
      refine kv_iconst C 0 dX10_about_25 (by decide) ?_
      cases h
      exact hret _ _ dX10_about_26 (fun q => by cases q)
  have j10 : ∀ (v_code : Int32) (x1 : Int32), m_X10_about_b10  v_code v_side v_rights v_passed v_halves v_number a_board x1 = some (rv, v_code') → kv p l e rm_X10_about s m ([.ref h0, .int p0] : List Value).toArray below meth c D A 2 0 0 Q (wM h0 q cI v_code v_side v_rights v_passed v_halves v_number v_top v_typedCount v_readAt v_place v_writtenCount v_chosenFrom v_chosenTo v_chosenTurn v_changed v_readSide v_readRights v_readPassed v_readHalves v_readNumber a_board a_before a_typed a_written a_froms a_tos a_turns a_counts a_changedSquare a_changedMan a_readBoard) [(0, .ref h0), (1, .int x1)] 10 [.ref h0] := by
    intro v_code x1 h
    unfold m_X10_about_b10 at h
    refine kv_iconst C 1 dX10_about_10 (by decide) ?_
    refine kv_goto C 15 dX10_about_11 (by decide) ?_
    exact kv_lv [0, 1] (lv2 := [(0, .ref h0), (1, .int x1)]) rfl (j15 v_code x1 1 h)
  unfold m_X10_about at hm
  have h := hm
  refine kv_lv [0, 1] (lv2 := [(0, .ref h0), (1, .int p0)]) rfl ?_
  refine kv_aload_n C 0 dX10_about_0 rfl rfl ?_
  refine kv_iload_n C 1 dX10_about_1 rfl rfl ?_
  refine kv_if_lt C 10 dX10_about_2 (by decide) (fun c_10 => ?_) (fun c_10 => ?_)
  · have h := oi_t h c_10
    exact kv_lv [0, 1] (lv2 := [(0, .ref h0), (1, .int p0)]) rfl (j10 v_code p0 h)
  · have h := oi_f h c_10
    refine kv_iload_n C 1 dX10_about_5 rfl rfl ?_
    refine kv_iconst C 5 dX10_about_6 (by decide) ?_
    refine kv_icmp_le C 14 dX10_about_7 (by decide) (fun c_11 => ?_) (fun c_11 => ?_)
    · have h := oi_t h c_11
      refine kv_iconst C 0 dX10_about_14 (by decide) ?_
      exact kv_lv [0, 1] (lv2 := [(0, .ref h0), (1, .int p0)]) rfl (j15 v_code p0 0 h)
    · have h := oi_f h c_11
      exact kv_lv [0, 1] (lv2 := [(0, .ref h0), (1, .int p0)]) rfl (j10 v_code p0 h)
def m_X10_attacked_b53 (v_code : Int32) (a_board : Nat → Int32) (t0 : Int32) : Option (Int32 × Int32) := obl (t0) (some (t0, v_code))
def m_X10_attacked_b52 (v_code : Int32) (a_board : Nat → Int32) : Option (Int32 × Int32) := m_X10_attacked_b53 v_code a_board 0
def m_X10_attacked_b29 (v_code : Int32) (a_board : Nat → Int32) (x1 : Int32) (x2 : Int32) (t1 : Int32) : Option (Int32 × Int32) := if t1 = 0 then ob (m_X10_isAttacked a_board x1 x2) fun r_3 => if r_3 = 0 then m_X10_attacked_b52 t1 a_board else m_X10_attacked_b53 t1 a_board 1 else m_X10_attacked_b52 t1 a_board
def m_X10_attacked_b24 (v_code : Int32) (a_board : Nat → Int32) (x1 : Int32) (x2 : Int32) : Option (Int32 × Int32) := m_X10_attacked_b29 v_code a_board x1 x2 2
def m_X10_attacked_b11 (v_code : Int32) (a_board : Nat → Int32) (x1 : Int32) (x2 : Int32) : Option (Int32 × Int32) := m_X10_attacked_b29 v_code a_board x1 x2 1
def m_X10_attacked (v_code : Int32) (a_board : Nat → Int32) (p0 : Int32) (p1 : Int32) : Option (Int32 × Int32) := if p0 < 0 then m_X10_attacked_b11 v_code a_board p0 p1 else if p0 ≤ 63 then if p1 < 0 then m_X10_attacked_b24 v_code a_board p0 p1 else if p1 ≤ 1 then m_X10_attacked_b29 v_code a_board p0 p1 0 else m_X10_attacked_b24 v_code a_board p0 p1 else m_X10_attacked_b11 v_code a_board p0 p1
abbrev rm_X10_attacked : Room := { frames := 4, cells := 0, slots := 0, locals := 99 }
abbrev wy_X10_attacked : List Cond := .code yX10_attacked cX10_attacked 3 (some .boolean) :: gT
theorem cv_X10_attacked {R : Room} {s : State} {args : Array Value} {own : String} {index : Nat} {w0 : Cond} (hts : ∀ w ∈ w0 :: gT, w.before args s = true) (hl : Cond.methodLink own index yX10_attacked ∈ gT) (hR : 4 + 1 ≤ R.frames ∧ 8 + (3 + 11) + 99 ≤ R.locals) : CallW R s args own RX10 index yX10_attacked cX10_attacked 3 (some .boolean) wy_X10_attacked rm_X10_attacked 0 0 2 :=
  cwV 2 hts (gT_call w0 (pre := [.methodLink own index yX10_attacked, .instanceMethod yX10_attacked, .selects RX10 yX10_attacked yX10_attacked, .initialized RX10]) (gT_lc hl (gT_lc ly_yX10_attacked (gT_lc lx_yX10_attacked (gT_l1 li_RX10)))) lc_yX10_attacked) rfl rfl rfl (by decide +kernel) hR
set_option maxRecDepth 100000 in
set_option maxHeartbeats 4000000 in
theorem c_X10_attacked (l : Launch) (D : va_G) (h0 : Nat) (q : Nat → Nat) (cI : ClassId) (v_code : Int32) (v_side : Int32) (v_rights : Int32) (v_passed : Int32) (v_halves : Int32) (v_number : Int32) (v_top : Int32) (v_typedCount : Int32) (v_readAt : Int32) (v_place : Int32) (v_writtenCount : Int32) (v_chosenFrom : Int32) (v_chosenTo : Int32) (v_chosenTurn : Int32) (v_changed : Int32) (v_readSide : Int32) (v_readRights : Int32) (v_readPassed : Int32) (v_readHalves : Int32) (v_readNumber : Int32) (a_board : Nat → Int32) (a_before : Nat → Int32) (a_typed : Nat → Int32) (a_written : Nat → Int32) (a_froms : Nat → Int32) (a_tos : Nat → Int32) (a_turns : Nat → Int32) (a_counts : Nat → Int32) (a_changedSquare : Nat → Int32) (a_changedMan : Nat → Int32) (a_readBoard : Nat → Int32) (p0 : Int32) (p1 : Int32) (rv : Int32) (v_code' : Int32) (hm : m_X10_attacked v_code a_board p0 p1 = some (rv, v_code')) : kDi l yX10_attacked wy_X10_attacked rm_X10_attacked D [(cI, .int)] rv (wM h0 q cI v_code v_side v_rights v_passed v_halves v_number v_top v_typedCount v_readAt v_place v_writtenCount v_chosenFrom v_chosenTo v_chosenTurn v_changed v_readSide v_readRights v_readPassed v_readHalves v_readNumber a_board a_before a_typed a_written a_froms a_tos a_turns a_counts a_changedSquare a_changedMan a_readBoard) (wM h0 q cI v_code' v_side v_rights v_passed v_halves v_number v_top v_typedCount v_readAt v_place v_writtenCount v_chosenFrom v_chosenTo v_chosenTurn v_changed v_readSide v_readRights v_readPassed v_readHalves v_readNumber a_board a_before a_typed a_written a_froms a_tos a_turns a_counts a_changedSquare a_changedMan a_readBoard) [.ref h0, .int p0, .int p1] := by
  refine kDi.of cX10_attacked 3 (some .boolean) (by decide) rfl (Or.inr rfl) (Nat.le_of_ble_eq_true rfl) ?_
  intro p e s m below meth c A Q C hret
  have hin10 : ∀ w ∈ wsX100, w ∈ wy_X10_attacked := fun w h => List.mem_cons_of_mem _ (inG10 w h)
  have j53 : ∀ (v_code : Int32) (t0 : Int32), m_X10_attacked_b53  v_code a_board t0 = some (rv, v_code') → kv p l e rm_X10_attacked s m ([.ref h0, .int p0, .int p1] : List Value).toArray below meth c D A 3 0 0 Q (wM h0 q cI v_code v_side v_rights v_passed v_halves v_number v_top v_typedCount v_readAt v_place v_writtenCount v_chosenFrom v_chosenTo v_chosenTurn v_changed v_readSide v_readRights v_readPassed v_readHalves v_readNumber a_board a_before a_typed a_written a_froms a_tos a_turns a_counts a_changedSquare a_changedMan a_readBoard) [] 53 [.int t0] := by
    intro v_code t0 h
    unfold m_X10_attacked_b53 at h
    obtain ⟨g_1, h⟩ := obl_e h
    cases h
    exact hret _ _ dX10_attacked_53 (fun _ => g_1)
  have j52 : ∀ (v_code : Int32), m_X10_attacked_b52  v_code a_board  = some (rv, v_code') → kv p l e rm_X10_attacked s m ([.ref h0, .int p0, .int p1] : List Value).toArray below meth c D A 3 0 0 Q (wM h0 q cI v_code v_side v_rights v_passed v_halves v_number v_top v_typedCount v_readAt v_place v_writtenCount v_chosenFrom v_chosenTo v_chosenTurn v_changed v_readSide v_readRights v_readPassed v_readHalves v_readNumber a_board a_before a_typed a_written a_froms a_tos a_turns a_counts a_changedSquare a_changedMan a_readBoard) [] 52 [] := by
    intro v_code h
    unfold m_X10_attacked_b52 at h
    refine kv_iconst C 0 dX10_attacked_52 (by decide) ?_
    exact kv_lv [] (lv2 := []) rfl (j53 v_code 0 h)
  have j29 : ∀ (v_code : Int32) (x1 : Int32) (x2 : Int32) (t1 : Int32), m_X10_attacked_b29  v_code a_board x1 x2 t1 = some (rv, v_code') → kv p l e rm_X10_attacked s m ([.ref h0, .int p0, .int p1] : List Value).toArray below meth c D A 3 0 0 Q (wM h0 q cI v_code v_side v_rights v_passed v_halves v_number v_top v_typedCount v_readAt v_place v_writtenCount v_chosenFrom v_chosenTo v_chosenTurn v_changed v_readSide v_readRights v_readPassed v_readHalves v_readNumber a_board a_before a_typed a_written a_froms a_tos a_turns a_counts a_changedSquare a_changedMan a_readBoard) [(0, .ref h0), (1, .int x1), (2, .int x2)] 29 [.int t1, .ref h0] := by
    intro v_code x1 x2 t1 h
    unfold m_X10_attacked_b29 at h
    refine kv_put C (Cn := RX10) (T := TX10) (N := 31) (ty := .int) (ws1 := (wM h0 q cI t1 v_side v_rights v_passed v_halves v_number v_top v_typedCount v_readAt v_place v_writtenCount v_chosenFrom v_chosenTo v_chosenTurn v_changed v_readSide v_readRights v_readPassed v_readHalves v_readNumber a_board a_before a_typed a_written a_froms a_tos a_turns a_counts a_changedSquare a_changedMan a_readBoard)) 0 0 hin10 tyX10 tyX10_ok nmX10 rfl rfl (by decide) (C.ts _ (List.mem_cons_of_mem _ lf_RX10_66)) rfl rfl (by decide +kernel) rfl rfl (Nat.le_of_ble_eq_true rfl) rfl dX10_attacked_29 ?_
    refine kv_aload_n C 0 dX10_attacked_32 rfl rfl ?_
    refine kv_get C (Cn := RX10) (T := TX10) (N := 31) 0 0 hin10 rfl rfl (by decide) (C.ts _ (List.mem_cons_of_mem _ lf_RX10_66)) rfl rfl dX10_attacked_33 ?_
    refine kv_if_ne C 52 dX10_attacked_36 (by decide) (fun c_2 => ?_) (fun c_2 => ?_)
    · have h := oi_f h c_2
      exact kv_lv [] (lv2 := []) rfl (j52 t1 h)
    · have h := oi_t h c_2
      refine kv_aload_n C 0 dX10_attacked_39 rfl rfl ?_
      refine kv_iload_n C 1 dX10_attacked_40 rfl rfl ?_
      refine kv_iload_n C 2 dX10_attacked_41 rfl rfl ?_
      obtain ⟨r_3, hm_4, h⟩ := ob_e h
      refine kv_callWi C [.int x1, .int x2] 0 (c_X10_isAttacked l D h0 q cI t1 v_side v_rights v_passed v_halves v_number v_top v_typedCount v_readAt v_place v_writtenCount v_chosenFrom v_chosenTo v_chosenTurn v_changed v_readSide v_readRights v_readPassed v_readHalves v_readNumber a_board a_before a_typed a_written a_froms a_tos a_turns a_counts a_changedSquare a_changedMan a_readBoard x1 x2 r_3 hm_4) (cv_X10_isAttacked C.ts lm_RX10_92 ⟨Nat.le_of_ble_eq_true rfl, Nat.le_of_ble_eq_true rfl⟩) rfl rfl rfl rfl (Nat.le_of_ble_eq_true rfl) dX10_attacked_42 ⟨Nat.zero_le _, Nat.zero_le _⟩ ?_
      refine kv_if_eq C 52 dX10_attacked_45 (by decide) (fun c_5 => ?_) (fun c_5 => ?_)
      · have h := oi_t h c_5
        exact kv_lv [] (lv2 := []) rfl (j52 t1 h)
      · have h := oi_f h c_5
        refine kv_iconst C 1 dX10_attacked_48 (by decide) ?_
        refine kv_goto C 53 dX10_attacked_49 (by decide) ?_
        exact kv_lv [] (lv2 := []) rfl (j53 t1 1 h)
  have j24 : ∀ (v_code : Int32) (x1 : Int32) (x2 : Int32), m_X10_attacked_b24  v_code a_board x1 x2 = some (rv, v_code') → kv p l e rm_X10_attacked s m ([.ref h0, .int p0, .int p1] : List Value).toArray below meth c D A 3 0 0 Q (wM h0 q cI v_code v_side v_rights v_passed v_halves v_number v_top v_typedCount v_readAt v_place v_writtenCount v_chosenFrom v_chosenTo v_chosenTurn v_changed v_readSide v_readRights v_readPassed v_readHalves v_readNumber a_board a_before a_typed a_written a_froms a_tos a_turns a_counts a_changedSquare a_changedMan a_readBoard) [(0, .ref h0), (1, .int x1), (2, .int x2)] 24 [.ref h0] := by
    intro v_code x1 x2 h
    unfold m_X10_attacked_b24 at h
    refine kv_iconst C 2 dX10_attacked_24 (by decide) ?_
    refine kv_goto C 29 dX10_attacked_25 (by decide) ?_
    exact kv_lv [0, 1, 2] (lv2 := [(0, .ref h0), (1, .int x1), (2, .int x2)]) rfl (j29 v_code x1 x2 2 h)
  have j11 : ∀ (v_code : Int32) (x1 : Int32) (x2 : Int32), m_X10_attacked_b11  v_code a_board x1 x2 = some (rv, v_code') → kv p l e rm_X10_attacked s m ([.ref h0, .int p0, .int p1] : List Value).toArray below meth c D A 3 0 0 Q (wM h0 q cI v_code v_side v_rights v_passed v_halves v_number v_top v_typedCount v_readAt v_place v_writtenCount v_chosenFrom v_chosenTo v_chosenTurn v_changed v_readSide v_readRights v_readPassed v_readHalves v_readNumber a_board a_before a_typed a_written a_froms a_tos a_turns a_counts a_changedSquare a_changedMan a_readBoard) [(0, .ref h0), (1, .int x1), (2, .int x2)] 11 [.ref h0] := by
    intro v_code x1 x2 h
    unfold m_X10_attacked_b11 at h
    refine kv_iconst C 1 dX10_attacked_11 (by decide) ?_
    refine kv_goto C 29 dX10_attacked_12 (by decide) ?_
    exact kv_lv [0, 1, 2] (lv2 := [(0, .ref h0), (1, .int x1), (2, .int x2)]) rfl (j29 v_code x1 x2 1 h)
  unfold m_X10_attacked at hm
  have h := hm
  refine kv_lv [0, 1, 2] (lv2 := [(0, .ref h0), (1, .int p0), (2, .int p1)]) rfl ?_
  refine kv_aload_n C 0 dX10_attacked_0 rfl rfl ?_
  refine kv_iload_n C 1 dX10_attacked_1 rfl rfl ?_
  refine kv_if_lt C 11 dX10_attacked_2 (by decide) (fun c_6 => ?_) (fun c_6 => ?_)
  · have h := oi_t h c_6
    exact kv_lv [0, 1, 2] (lv2 := [(0, .ref h0), (1, .int p0), (2, .int p1)]) rfl (j11 v_code p0 p1 h)
  · have h := oi_f h c_6
    refine kv_iload_n C 1 dX10_attacked_5 rfl rfl ?_
    refine kv_bipush C 63 dX10_attacked_6 (by decide) ?_
    refine kv_icmp_le C 15 dX10_attacked_8 (by decide) (fun c_7 => ?_) (fun c_7 => ?_)
    · have h := oi_t h c_7
      refine kv_iload_n C 2 dX10_attacked_15 rfl rfl ?_
      refine kv_if_lt C 24 dX10_attacked_16 (by decide) (fun c_8 => ?_) (fun c_8 => ?_)
      · have h := oi_t h c_8
        exact kv_lv [0, 1, 2] (lv2 := [(0, .ref h0), (1, .int p0), (2, .int p1)]) rfl (j24 v_code p0 p1 h)
      · have h := oi_f h c_8
        refine kv_iload_n C 2 dX10_attacked_19 rfl rfl ?_
        refine kv_iconst C 1 dX10_attacked_20 (by decide) ?_
        refine kv_icmp_le C 28 dX10_attacked_21 (by decide) (fun c_9 => ?_) (fun c_9 => ?_)
        · have h := oi_t h c_9
          refine kv_iconst C 0 dX10_attacked_28 (by decide) ?_
          exact kv_lv [0, 1, 2] (lv2 := [(0, .ref h0), (1, .int p0), (2, .int p1)]) rfl (j29 v_code p0 p1 0 h)
        · have h := oi_f h c_9
          exact kv_lv [0, 1, 2] (lv2 := [(0, .ref h0), (1, .int p0), (2, .int p1)]) rfl (j24 v_code p0 p1 h)
    · have h := oi_f h c_7
      exact kv_lv [0, 1, 2] (lv2 := [(0, .ref h0), (1, .int p0), (2, .int p1)]) rfl (j11 v_code p0 p1 h)
