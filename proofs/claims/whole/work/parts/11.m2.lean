/-! X10: X10_change, X10_moveMen, X10_undoMen, X10_isSafe, X10_push, X10_pop, X10_rightsAt, X10_isTakenAt, X10_make, X10_tell, X10_pawnGoes, X10_kingLeaps, X10_goes, X10_find -/
def m_X10_change (v_changed : Int32) (a_board : Nat → Int32) (a_changedSquare : Nat → Int32) (a_changedMan : Nat → Int32) (p0 : Int32) (p1 : Int32) : Option (Int32 × (Nat → Int32) × (Nat → Int32) × (Nat → Int32)) := oin (v_changed) 4 (ol (upd a_changedSquare (v_changed.toNatClampNeg) p0) fun a_changedSquare_2 => oin (p0) 64 (ol (a_board p0.toNatClampNeg) fun y_4 => oin (v_changed) 4 (ol (upd a_changedMan (v_changed.toNatClampNeg) y_4) fun a_changedMan_6 => ol (v_changed + 1) fun y_7 => oin (p0) 64 (ol (upd a_board (p0.toNatClampNeg) p1) fun a_board_9 => some (y_7, a_board_9, a_changedSquare_2, a_changedMan_6)))))
abbrev rm_X10_change : Room := { frames := 0, cells := 0, slots := 0, locals := 0 }
abbrev wy_X10_change : List Cond := .code yX10_change cX10_change 3 none :: gT
theorem cv_X10_change {R : Room} {s : State} {args : Array Value} {own : String} {index : Nat} {w0 : Cond} (hts : ∀ w ∈ w0 :: gT, w.before args s = true) (hl : Cond.methodLink own index yX10_change ∈ gT) (hR : 0 + 1 ≤ R.frames ∧ 8 + (3 + 11) + 0 ≤ R.locals) : CallW R s args own RX10 index yX10_change cX10_change 3 none wy_X10_change rm_X10_change 0 0 2 :=
  cwV 2 hts (gT_call w0 (pre := [.methodLink own index yX10_change, .instanceMethod yX10_change, .selects RX10 yX10_change yX10_change, .initialized RX10]) (gT_lc hl (gT_lc ly_yX10_change (gT_lc lx_yX10_change (gT_l1 li_RX10)))) lc_yX10_change) rfl rfl rfl (by decide +kernel) hR
set_option maxRecDepth 100000 in
set_option maxHeartbeats 4000000 in
theorem c_X10_change (l : Launch) (D : va_G) (h0 : Nat) (q : Nat → Nat) (cI : ClassId) (v_code : Int32) (v_side : Int32) (v_rights : Int32) (v_passed : Int32) (v_halves : Int32) (v_number : Int32) (v_top : Int32) (v_typedCount : Int32) (v_readAt : Int32) (v_place : Int32) (v_writtenCount : Int32) (v_chosenFrom : Int32) (v_chosenTo : Int32) (v_chosenTurn : Int32) (v_changed : Int32) (v_readSide : Int32) (v_readRights : Int32) (v_readPassed : Int32) (v_readHalves : Int32) (v_readNumber : Int32) (a_board : Nat → Int32) (a_before : Nat → Int32) (a_typed : Nat → Int32) (a_written : Nat → Int32) (a_froms : Nat → Int32) (a_tos : Nat → Int32) (a_turns : Nat → Int32) (a_counts : Nat → Int32) (a_changedSquare : Nat → Int32) (a_changedMan : Nat → Int32) (a_readBoard : Nat → Int32) (p0 : Int32) (p1 : Int32) (v_changed' : Int32) (a_board' : Nat → Int32) (a_changedSquare' : Nat → Int32) (a_changedMan' : Nat → Int32) (hm : m_X10_change v_changed a_board a_changedSquare a_changedMan p0 p1 = some (v_changed', a_board', a_changedSquare', a_changedMan')) : kDv l yX10_change wy_X10_change rm_X10_change D [(cI, .int)] (wM h0 q cI v_code v_side v_rights v_passed v_halves v_number v_top v_typedCount v_readAt v_place v_writtenCount v_chosenFrom v_chosenTo v_chosenTurn v_changed v_readSide v_readRights v_readPassed v_readHalves v_readNumber a_board a_before a_typed a_written a_froms a_tos a_turns a_counts a_changedSquare a_changedMan a_readBoard) (wM h0 q cI v_code v_side v_rights v_passed v_halves v_number v_top v_typedCount v_readAt v_place v_writtenCount v_chosenFrom v_chosenTo v_chosenTurn v_changed' v_readSide v_readRights v_readPassed v_readHalves v_readNumber a_board' a_before a_typed a_written a_froms a_tos a_turns a_counts a_changedSquare' a_changedMan' a_readBoard) [.ref h0, .int p0, .int p1] := by
  refine kDv.of cX10_change 3 none (by decide) rfl rfl (Nat.le_of_ble_eq_true rfl) ?_
  intro p e s m below meth c A Q C hret
  have hin10 : ∀ w ∈ wsX100, w ∈ wy_X10_change := fun w h => List.mem_cons_of_mem _ (inG10 w h)
  unfold m_X10_change at hm
  have h := hm
  refine kv_lv [0, 1, 2] (lv2 := [(0, .ref h0), (1, .int p0), (2, .int p1)]) rfl ?_
  refine kv_aload_n C 0 dX10_change_0 rfl rfl ?_
  refine kv_get C (Cn := RX10) (T := TX10) (N := 31) 0 22 hin10 rfl rfl (by decide) (C.ts _ (List.mem_cons_of_mem _ lf_RX10_51)) rfl rfl dX10_change_1 ?_
  refine kv_aload_n C 0 dX10_change_4 rfl rfl ?_
  refine kv_get C (Cn := RX10) (T := TX10) (N := 31) 0 24 hin10 rfl rfl (by decide) (C.ts _ (List.mem_cons_of_mem _ lf_RX10_95)) rfl rfl dX10_change_5 ?_
  refine kv_iload_n C 1 dX10_change_8 rfl rfl ?_
  obtain ⟨g_1, h⟩ := oin_e h
  obtain ⟨a_changedSquare_2, ea_changedSquare_2, h⟩ := ol_e h
  refine kv_iast2 C (ws1 := (wM h0 q cI v_code v_side v_rights v_passed v_halves v_number v_top v_typedCount v_readAt v_place v_writtenCount v_chosenFrom v_chosenTo v_chosenTurn v_changed v_readSide v_readRights v_readPassed v_readHalves v_readNumber a_board a_before a_typed a_written a_froms a_tos a_turns a_counts a_changedSquare_2 a_changedMan a_readBoard)) 9 0 rfl rfl g_1 ea_changedSquare_2 rfl dX10_change_9 ?_
  refine kv_aload_n C 0 dX10_change_10 rfl rfl ?_
  refine kv_get C (Cn := RX10) (T := TX10) (N := 31) 0 23 hin10 rfl rfl (by decide) (C.ts _ (List.mem_cons_of_mem _ lf_RX10_54)) rfl rfl dX10_change_11 ?_
  refine kv_aload_n C 0 dX10_change_14 rfl rfl ?_
  refine kv_get C (Cn := RX10) (T := TX10) (N := 31) 0 24 hin10 rfl rfl (by decide) (C.ts _ (List.mem_cons_of_mem _ lf_RX10_95)) rfl rfl dX10_change_15 ?_
  refine kv_aload_n C 0 dX10_change_18 rfl rfl ?_
  refine kv_get C (Cn := RX10) (T := TX10) (N := 31) 0 1 hin10 rfl rfl (by decide) (C.ts _ (List.mem_cons_of_mem _ lf_RX10_7)) rfl rfl dX10_change_19 ?_
  refine kv_iload_n C 1 dX10_change_22 rfl rfl ?_
  obtain ⟨g_3, h⟩ := oin_e h
  refine kv_iald C 1 0 rfl rfl g_3 dX10_change_23 ?_
  obtain ⟨y_4, ey_4, h⟩ := ol_e h
  refine kv_top ey_4 ?_
  obtain ⟨g_5, h⟩ := oin_e h
  obtain ⟨a_changedMan_6, ea_changedMan_6, h⟩ := ol_e h
  refine kv_iast2 C (ws1 := (wM h0 q cI v_code v_side v_rights v_passed v_halves v_number v_top v_typedCount v_readAt v_place v_writtenCount v_chosenFrom v_chosenTo v_chosenTurn v_changed v_readSide v_readRights v_readPassed v_readHalves v_readNumber a_board a_before a_typed a_written a_froms a_tos a_turns a_counts a_changedSquare_2 a_changedMan_6 a_readBoard)) 10 0 rfl rfl g_5 ea_changedMan_6 rfl dX10_change_24 ?_
  refine kv_aload_n C 0 dX10_change_25 rfl rfl ?_
  refine kv_dup C dX10_change_26 rfl ?_
  refine kv_get C (Cn := RX10) (T := TX10) (N := 31) 0 24 hin10 rfl rfl (by decide) (C.ts _ (List.mem_cons_of_mem _ lf_RX10_95)) rfl rfl dX10_change_27 ?_
  refine kv_iconst C 1 dX10_change_30 (by decide) ?_
  refine kv_iadd C dX10_change_31 ?_
  obtain ⟨y_7, ey_7, h⟩ := ol_e h
  refine kv_top ey_7 ?_
  refine kv_put C (Cn := RX10) (T := TX10) (N := 31) (ty := .int) (ws1 := (wM h0 q cI v_code v_side v_rights v_passed v_halves v_number v_top v_typedCount v_readAt v_place v_writtenCount v_chosenFrom v_chosenTo v_chosenTurn y_7 v_readSide v_readRights v_readPassed v_readHalves v_readNumber a_board a_before a_typed a_written a_froms a_tos a_turns a_counts a_changedSquare_2 a_changedMan_6 a_readBoard)) 0 24 hin10 tyX10 tyX10_ok nmX10 rfl rfl (by decide) (C.ts _ (List.mem_cons_of_mem _ lf_RX10_95)) rfl rfl (by decide +kernel) rfl rfl (Nat.le_of_ble_eq_true rfl) rfl dX10_change_32 ?_
  refine kv_aload_n C 0 dX10_change_35 rfl rfl ?_
  refine kv_get C (Cn := RX10) (T := TX10) (N := 31) 0 1 hin10 rfl rfl (by decide) (C.ts _ (List.mem_cons_of_mem _ lf_RX10_7)) rfl rfl dX10_change_36 ?_
  refine kv_iload_n C 1 dX10_change_39 rfl rfl ?_
  refine kv_iload_n C 2 dX10_change_40 rfl rfl ?_
  obtain ⟨g_8, h⟩ := oin_e h
  obtain ⟨a_board_9, ea_board_9, h⟩ := ol_e h
  refine kv_iast2 C (ws1 := (wM h0 q cI v_code v_side v_rights v_passed v_halves v_number v_top v_typedCount v_readAt v_place v_writtenCount v_chosenFrom v_chosenTo v_chosenTurn y_7 v_readSide v_readRights v_readPassed v_readHalves v_readNumber a_board_9 a_before a_typed a_written a_froms a_tos a_turns a_counts a_changedSquare_2 a_changedMan_6 a_readBoard)) 1 0 rfl rfl g_8 ea_board_9 rfl dX10_change_41 ?_
  cases h
  exact hret _ _ dX10_change_42
def m_X10_moveMen_b184 (v_changed : Int32) (a_board : Nat → Int32) (a_changedSquare : Nat → Int32) (a_changedMan : Nat → Int32) (x5 : Int32) (t1 : Int32) (t2 : Int32) : Option (Int32 × Int32 × (Nat → Int32) × (Nat → Int32) × (Nat → Int32)) := ob (m_X10_change v_changed a_board a_changedSquare a_changedMan t1 t2) fun (v_changed_1, a_board_2, a_changedSquare_3, a_changedMan_4) => some (x5, v_changed_1, a_board_2, a_changedSquare_3, a_changedMan_4)
def m_X10_moveMen_b156 (v_changed : Int32) (a_board : Nat → Int32) (a_changedSquare : Nat → Int32) (a_changedMan : Nat → Int32) (x1 : Int32) (x2 : Int32) (x3 : Int32) (x4 : Int32) (x5 : Int32) : Option (Int32 × Int32 × (Nat → Int32) × (Nat → Int32) × (Nat → Int32)) := ob (m_X10_change v_changed a_board a_changedSquare a_changedMan x1 0) fun (v_changed_7, a_board_8, a_changedSquare_9, a_changedMan_10) => if x3 = 0 then m_X10_moveMen_b184 v_changed_7 a_board_8 a_changedSquare_9 a_changedMan_10 x5 x2 x4 else if x4 ≤ 0 then m_X10_moveMen_b184 v_changed_7 a_board_8 a_changedSquare_9 a_changedMan_10 x5 x2 (-x3) else m_X10_moveMen_b184 v_changed_7 a_board_8 a_changedSquare_9 a_changedMan_10 x5 x2 x3
def m_X10_moveMen_b131 (v_changed : Int32) (a_board : Nat → Int32) (a_changedSquare : Nat → Int32) (a_changedMan : Nat → Int32) (x1 : Int32) (x2 : Int32) (x3 : Int32) (x4 : Int32) (x5 : Int32) (t0 : Int32) : Option (Int32 × Int32 × (Nat → Int32) × (Nat → Int32) × (Nat → Int32)) := oin (t0) 64 (ob (m_X10_change v_changed a_board a_changedSquare a_changedMan ((x1 + x2) / 2) (a_board t0.toNatClampNeg)) fun (v_changed_16, a_board_17, a_changedSquare_18, a_changedMan_19) => ob (m_X10_change v_changed_16 a_board_17 a_changedSquare_18 a_changedMan_19 t0 0) fun (v_changed_22, a_board_23, a_changedSquare_24, a_changedMan_25) => m_X10_moveMen_b156 v_changed_22 a_board_23 a_changedSquare_24 a_changedMan_25 x1 x2 x3 x4 x5)
def m_X10_moveMen_b91 (v_changed : Int32) (a_board : Nat → Int32) (a_changedSquare : Nat → Int32) (a_changedMan : Nat → Int32) (x1 : Int32) (x2 : Int32) (x3 : Int32) (x4 : Int32) (x5 : Int32) : Option (Int32 × Int32 × (Nat → Int32) × (Nat → Int32) × (Nat → Int32)) := ob (m_X10_kindOf x4) fun r_28 => if r_28 = 6 then ob (m_X10_columnOf x2) fun r_31 => ob (m_X10_columnOf x1) fun r_33 => ob (m_X10_size (r_31 - r_33)) fun r_35 => if r_35 = 2 then if x2 ≤ x1 then m_X10_moveMen_b131 v_changed a_board a_changedSquare a_changedMan x1 x2 x3 x4 x5 (x1 - 4) else m_X10_moveMen_b131 v_changed a_board a_changedSquare a_changedMan x1 x2 x3 x4 x5 (x1 + 3) else m_X10_moveMen_b156 v_changed a_board a_changedSquare a_changedMan x1 x2 x3 x4 x5 else m_X10_moveMen_b156 v_changed a_board a_changedSquare a_changedMan x1 x2 x3 x4 x5
def m_X10_moveMen_b69 (v_changed : Int32) (a_board : Nat → Int32) (a_changedSquare : Nat → Int32) (a_changedMan : Nat → Int32) (x1 : Int32) (x2 : Int32) (x3 : Int32) (x4 : Int32) (t0 : Int32) (t1 : Int32) : Option (Int32 × Int32 × (Nat → Int32) × (Nat → Int32) × (Nat → Int32)) := ob (m_X10_up t1) fun r_39 => ol (t0 - r_39) fun x7_41 => oin (x7_41) 64 (ol (a_board x7_41.toNatClampNeg) fun x5_43 => ob (m_X10_change v_changed a_board a_changedSquare a_changedMan x7_41 0) fun (v_changed_44, a_board_45, a_changedSquare_46, a_changedMan_47) => m_X10_moveMen_b91 v_changed_44 a_board_45 a_changedSquare_46 a_changedMan_47 x1 x2 x3 x4 x5_43)
def m_X10_moveMen_b37 (v_changed : Int32) (a_board : Nat → Int32) (a_changedSquare : Nat → Int32) (a_changedMan : Nat → Int32) (x1 : Int32) (x2 : Int32) (x3 : Int32) (x4 : Int32) (x5 : Int32) (t0 : Int32) : Option (Int32 × Int32 × (Nat → Int32) × (Nat → Int32) × (Nat → Int32)) := ob (m_X10_kindOf x4) fun r_50 => if r_50 = 1 then if t0 = 0 then m_X10_moveMen_b91 v_changed a_board a_changedSquare a_changedMan x1 x2 x3 x4 x5 else if x5 = 0 then if x4 ≤ 0 then m_X10_moveMen_b69 v_changed a_board a_changedSquare a_changedMan x1 x2 x3 x4 x2 1 else m_X10_moveMen_b69 v_changed a_board a_changedSquare a_changedMan x1 x2 x3 x4 x2 0 else m_X10_moveMen_b91 v_changed a_board a_changedSquare a_changedMan x1 x2 x3 x4 x5 else m_X10_moveMen_b91 v_changed a_board a_changedSquare a_changedMan x1 x2 x3 x4 x5
def m_X10_moveMen (v_changed : Int32) (a_board : Nat → Int32) (a_changedSquare : Nat → Int32) (a_changedMan : Nat → Int32) (p0 : Int32) (p1 : Int32) (p2 : Int32) : Option (Int32 × Int32 × (Nat → Int32) × (Nat → Int32) × (Nat → Int32)) := oin (p0) 64 (ol (a_board p0.toNatClampNeg) fun x4_57 => oin (p1) 64 (ol (a_board p1.toNatClampNeg) fun x5_59 => ob (m_X10_columnOf p0) fun r_60 => ob (m_X10_columnOf p1) fun r_62 => if r_60 = r_62 then m_X10_moveMen_b37 0 a_board a_changedSquare a_changedMan p0 p1 p2 x4_57 x5_59 0 else m_X10_moveMen_b37 0 a_board a_changedSquare a_changedMan p0 p1 p2 x4_57 x5_59 1))
abbrev rm_X10_moveMen : Room := { frames := 1, cells := 0, slots := 0, locals := 22 }
abbrev wy_X10_moveMen : List Cond := .code yX10_moveMen cX10_moveMen 8 (some .int) :: gT
theorem cv_X10_moveMen {R : Room} {s : State} {args : Array Value} {own : String} {index : Nat} {w0 : Cond} (hts : ∀ w ∈ w0 :: gT, w.before args s = true) (hl : Cond.methodLink own index yX10_moveMen ∈ gT) (hR : 1 + 1 ≤ R.frames ∧ 8 + (8 + 11) + 22 ≤ R.locals) : CallW R s args own RX10 index yX10_moveMen cX10_moveMen 8 (some .int) wy_X10_moveMen rm_X10_moveMen 0 0 3 :=
  cwV 3 hts (gT_call w0 (pre := [.methodLink own index yX10_moveMen, .instanceMethod yX10_moveMen, .selects RX10 yX10_moveMen yX10_moveMen, .initialized RX10]) (gT_lc hl (gT_lc ly_yX10_moveMen (gT_lc lx_yX10_moveMen (gT_l1 li_RX10)))) lc_yX10_moveMen) rfl rfl rfl (by decide +kernel) hR
set_option maxRecDepth 100000 in
set_option maxHeartbeats 4000000 in
theorem c_X10_moveMen (l : Launch) (D : va_G) (h0 : Nat) (q : Nat → Nat) (cI : ClassId) (v_code : Int32) (v_side : Int32) (v_rights : Int32) (v_passed : Int32) (v_halves : Int32) (v_number : Int32) (v_top : Int32) (v_typedCount : Int32) (v_readAt : Int32) (v_place : Int32) (v_writtenCount : Int32) (v_chosenFrom : Int32) (v_chosenTo : Int32) (v_chosenTurn : Int32) (v_changed : Int32) (v_readSide : Int32) (v_readRights : Int32) (v_readPassed : Int32) (v_readHalves : Int32) (v_readNumber : Int32) (a_board : Nat → Int32) (a_before : Nat → Int32) (a_typed : Nat → Int32) (a_written : Nat → Int32) (a_froms : Nat → Int32) (a_tos : Nat → Int32) (a_turns : Nat → Int32) (a_counts : Nat → Int32) (a_changedSquare : Nat → Int32) (a_changedMan : Nat → Int32) (a_readBoard : Nat → Int32) (p0 : Int32) (p1 : Int32) (p2 : Int32) (rv : Int32) (v_changed' : Int32) (a_board' : Nat → Int32) (a_changedSquare' : Nat → Int32) (a_changedMan' : Nat → Int32) (hm : m_X10_moveMen v_changed a_board a_changedSquare a_changedMan p0 p1 p2 = some (rv, v_changed', a_board', a_changedSquare', a_changedMan')) : kDi l yX10_moveMen wy_X10_moveMen rm_X10_moveMen D [(cI, .int)] rv (wM h0 q cI v_code v_side v_rights v_passed v_halves v_number v_top v_typedCount v_readAt v_place v_writtenCount v_chosenFrom v_chosenTo v_chosenTurn v_changed v_readSide v_readRights v_readPassed v_readHalves v_readNumber a_board a_before a_typed a_written a_froms a_tos a_turns a_counts a_changedSquare a_changedMan a_readBoard) (wM h0 q cI v_code v_side v_rights v_passed v_halves v_number v_top v_typedCount v_readAt v_place v_writtenCount v_chosenFrom v_chosenTo v_chosenTurn v_changed' v_readSide v_readRights v_readPassed v_readHalves v_readNumber a_board' a_before a_typed a_written a_froms a_tos a_turns a_counts a_changedSquare' a_changedMan' a_readBoard) [.ref h0, .int p0, .int p1, .int p2] := by
  refine kDi.of cX10_moveMen 8 (some .int) (by decide) rfl (Or.inl rfl) (Nat.le_of_ble_eq_true rfl) ?_
  intro p e s m below meth c A Q C hret
  have hin10 : ∀ w ∈ wsX100, w ∈ wy_X10_moveMen := fun w h => List.mem_cons_of_mem _ (inG10 w h)
  have j184 : ∀ (v_changed : Int32) (a_board : Nat → Int32) (a_changedSquare : Nat → Int32) (a_changedMan : Nat → Int32) (x5 : Int32) (t1 : Int32) (t2 : Int32), m_X10_moveMen_b184  v_changed a_board a_changedSquare a_changedMan x5 t1 t2 = some (rv, v_changed', a_board', a_changedSquare', a_changedMan') → kv p l e rm_X10_moveMen s m ([.ref h0, .int p0, .int p1, .int p2] : List Value).toArray below meth c D A 8 0 0 Q (wM h0 q cI v_code v_side v_rights v_passed v_halves v_number v_top v_typedCount v_readAt v_place v_writtenCount v_chosenFrom v_chosenTo v_chosenTurn v_changed v_readSide v_readRights v_readPassed v_readHalves v_readNumber a_board a_before a_typed a_written a_froms a_tos a_turns a_counts a_changedSquare a_changedMan a_readBoard) [(5, .int x5)] 184 [.int t2, .int t1, .ref h0] := by
    intro v_changed a_board a_changedSquare a_changedMan x5 t1 t2 h
    unfold m_X10_moveMen_b184 at h
    obtain ⟨⟨v_changed_1, a_board_2, a_changedSquare_3, a_changedMan_4⟩, hm_5, h⟩ := ob_e h
    replace h : _ = _ := h
    refine kv_callWv C [.int t1, .int t2] 0 (c_X10_change l D h0 q cI v_code v_side v_rights v_passed v_halves v_number v_top v_typedCount v_readAt v_place v_writtenCount v_chosenFrom v_chosenTo v_chosenTurn v_changed v_readSide v_readRights v_readPassed v_readHalves v_readNumber a_board a_before a_typed a_written a_froms a_tos a_turns a_counts a_changedSquare a_changedMan a_readBoard t1 t2 v_changed_1 a_board_2 a_changedSquare_3 a_changedMan_4 hm_5) (cv_X10_change C.ts lm_RX10_101 ⟨Nat.le_of_ble_eq_true rfl, Nat.le_of_ble_eq_true rfl⟩) rfl rfl rfl rfl (Nat.le_of_ble_eq_true rfl) dX10_moveMen_184 ⟨Nat.zero_le _, Nat.zero_le _⟩ ?_
    refine kv_iload C 0 dX10_moveMen_187 rfl ?_
    cases h
    exact hret _ _ dX10_moveMen_189 (fun q => by cases q)
  have j156 : ∀ (v_changed : Int32) (a_board : Nat → Int32) (a_changedSquare : Nat → Int32) (a_changedMan : Nat → Int32) (x1 : Int32) (x2 : Int32) (x3 : Int32) (x4 : Int32) (x5 : Int32), m_X10_moveMen_b156  v_changed a_board a_changedSquare a_changedMan x1 x2 x3 x4 x5 = some (rv, v_changed', a_board', a_changedSquare', a_changedMan') → kv p l e rm_X10_moveMen s m ([.ref h0, .int p0, .int p1, .int p2] : List Value).toArray below meth c D A 8 0 0 Q (wM h0 q cI v_code v_side v_rights v_passed v_halves v_number v_top v_typedCount v_readAt v_place v_writtenCount v_chosenFrom v_chosenTo v_chosenTurn v_changed v_readSide v_readRights v_readPassed v_readHalves v_readNumber a_board a_before a_typed a_written a_froms a_tos a_turns a_counts a_changedSquare a_changedMan a_readBoard) [(0, .ref h0), (1, .int x1), (2, .int x2), (3, .int x3), (4, .int x4), (5, .int x5)] 156 [] := by
    intro v_changed a_board a_changedSquare a_changedMan x1 x2 x3 x4 x5 h
    unfold m_X10_moveMen_b156 at h
    refine kv_aload_n C 0 dX10_moveMen_156 rfl rfl ?_
    refine kv_iload_n C 1 dX10_moveMen_157 rfl rfl ?_
    refine kv_iconst C 0 dX10_moveMen_158 (by decide) ?_
    obtain ⟨⟨v_changed_7, a_board_8, a_changedSquare_9, a_changedMan_10⟩, hm_11, h⟩ := ob_e h
    replace h : _ = _ := h
    refine kv_callWv C [.int x1, .int 0] 0 (c_X10_change l D h0 q cI v_code v_side v_rights v_passed v_halves v_number v_top v_typedCount v_readAt v_place v_writtenCount v_chosenFrom v_chosenTo v_chosenTurn v_changed v_readSide v_readRights v_readPassed v_readHalves v_readNumber a_board a_before a_typed a_written a_froms a_tos a_turns a_counts a_changedSquare a_changedMan a_readBoard x1 0 v_changed_7 a_board_8 a_changedSquare_9 a_changedMan_10 hm_11) (cv_X10_change C.ts lm_RX10_101 ⟨Nat.le_of_ble_eq_true rfl, Nat.le_of_ble_eq_true rfl⟩) rfl rfl rfl rfl (Nat.le_of_ble_eq_true rfl) dX10_moveMen_159 ⟨Nat.zero_le _, Nat.zero_le _⟩ ?_
    refine kv_aload_n C 0 dX10_moveMen_162 rfl rfl ?_
    refine kv_iload_n C 2 dX10_moveMen_163 rfl rfl ?_
    refine kv_iload_n C 3 dX10_moveMen_164 rfl rfl ?_
    refine kv_if_ne C 173 dX10_moveMen_165 (by decide) (fun c_13 => ?_) (fun c_13 => ?_)
    · have h := oi_f h c_13
      refine kv_iload C 4 dX10_moveMen_173 rfl ?_
      refine kv_if_le C 182 dX10_moveMen_175 (by decide) (fun c_14 => ?_) (fun c_14 => ?_)
      · have h := oi_t h c_14
        refine kv_iload_n C 3 dX10_moveMen_182 rfl rfl ?_
        refine kv_ineg C dX10_moveMen_183 ?_
        exact kv_lv [5] (lv2 := [(5, .int x5)]) rfl (j184 v_changed_7 a_board_8 a_changedSquare_9 a_changedMan_10 x5 x2 (-x3) h)
      · have h := oi_f h c_14
        refine kv_iload_n C 3 dX10_moveMen_178 rfl rfl ?_
        refine kv_goto C 184 dX10_moveMen_179 (by decide) ?_
        exact kv_lv [5] (lv2 := [(5, .int x5)]) rfl (j184 v_changed_7 a_board_8 a_changedSquare_9 a_changedMan_10 x5 x2 x3 h)
    · have h := oi_t h c_13
      refine kv_iload C 4 dX10_moveMen_168 rfl ?_
      refine kv_goto C 184 dX10_moveMen_170 (by decide) ?_
      exact kv_lv [5] (lv2 := [(5, .int x5)]) rfl (j184 v_changed_7 a_board_8 a_changedSquare_9 a_changedMan_10 x5 x2 x4 h)
  have j131 : ∀ (v_changed : Int32) (a_board : Nat → Int32) (a_changedSquare : Nat → Int32) (a_changedMan : Nat → Int32) (x1 : Int32) (x2 : Int32) (x3 : Int32) (x4 : Int32) (x5 : Int32) (t0 : Int32), m_X10_moveMen_b131  v_changed a_board a_changedSquare a_changedMan x1 x2 x3 x4 x5 t0 = some (rv, v_changed', a_board', a_changedSquare', a_changedMan') → kv p l e rm_X10_moveMen s m ([.ref h0, .int p0, .int p1, .int p2] : List Value).toArray below meth c D A 8 0 0 Q (wM h0 q cI v_code v_side v_rights v_passed v_halves v_number v_top v_typedCount v_readAt v_place v_writtenCount v_chosenFrom v_chosenTo v_chosenTurn v_changed v_readSide v_readRights v_readPassed v_readHalves v_readNumber a_board a_before a_typed a_written a_froms a_tos a_turns a_counts a_changedSquare a_changedMan a_readBoard) [(0, .ref h0), (1, .int x1), (2, .int x2), (3, .int x3), (4, .int x4), (5, .int x5)] 131 [.int t0] := by
    intro v_changed a_board a_changedSquare a_changedMan x1 x2 x3 x4 x5 t0 h
    unfold m_X10_moveMen_b131 at h
    refine kv_istore C (lv2 := [(0, .ref h0), (1, .int x1), (2, .int x2), (3, .int x3), (4, .int x4), (5, .int x5), (7, .int t0)]) [1, 2, 3, 4, 5, 6, 0] dX10_moveMen_131 (by decide) rfl rfl ?_
    refine kv_aload_n C 0 dX10_moveMen_133 rfl rfl ?_
    refine kv_iload_n C 1 dX10_moveMen_134 rfl rfl ?_
    refine kv_iload_n C 2 dX10_moveMen_135 rfl rfl ?_
    refine kv_iadd C dX10_moveMen_136 ?_
    refine kv_iconst C 2 dX10_moveMen_137 (by decide) ?_
    refine kv_idiv C dX10_moveMen_138 (by decide) ?_
    refine kv_aload_n C 0 dX10_moveMen_139 rfl rfl ?_
    refine kv_get C (Cn := RX10) (T := TX10) (N := 31) 0 1 hin10 rfl rfl (by decide) (C.ts _ (List.mem_cons_of_mem _ lf_RX10_7)) rfl rfl dX10_moveMen_140 ?_
    refine kv_iload C 6 dX10_moveMen_143 rfl ?_
    obtain ⟨g_15, h⟩ := oin_e h
    refine kv_iald C 1 0 rfl rfl g_15 dX10_moveMen_145 ?_
    obtain ⟨⟨v_changed_16, a_board_17, a_changedSquare_18, a_changedMan_19⟩, hm_20, h⟩ := ob_e h
    replace h : _ = _ := h
    refine kv_callWv C [.int ((x1 + x2) / 2), .int (a_board t0.toNatClampNeg)] 0 (c_X10_change l D h0 q cI v_code v_side v_rights v_passed v_halves v_number v_top v_typedCount v_readAt v_place v_writtenCount v_chosenFrom v_chosenTo v_chosenTurn v_changed v_readSide v_readRights v_readPassed v_readHalves v_readNumber a_board a_before a_typed a_written a_froms a_tos a_turns a_counts a_changedSquare a_changedMan a_readBoard ((x1 + x2) / 2) (a_board t0.toNatClampNeg) v_changed_16 a_board_17 a_changedSquare_18 a_changedMan_19 hm_20) (cv_X10_change C.ts lm_RX10_101 ⟨Nat.le_of_ble_eq_true rfl, Nat.le_of_ble_eq_true rfl⟩) rfl rfl rfl rfl (Nat.le_of_ble_eq_true rfl) dX10_moveMen_146 ⟨Nat.zero_le _, Nat.zero_le _⟩ ?_
    refine kv_aload_n C 0 dX10_moveMen_149 rfl rfl ?_
    refine kv_iload C 6 dX10_moveMen_150 rfl ?_
    refine kv_iconst C 0 dX10_moveMen_152 (by decide) ?_
    obtain ⟨⟨v_changed_22, a_board_23, a_changedSquare_24, a_changedMan_25⟩, hm_26, h⟩ := ob_e h
    replace h : _ = _ := h
    refine kv_callWv C [.int t0, .int 0] 0 (c_X10_change l D h0 q cI v_code v_side v_rights v_passed v_halves v_number v_top v_typedCount v_readAt v_place v_writtenCount v_chosenFrom v_chosenTo v_chosenTurn v_changed_16 v_readSide v_readRights v_readPassed v_readHalves v_readNumber a_board_17 a_before a_typed a_written a_froms a_tos a_turns a_counts a_changedSquare_18 a_changedMan_19 a_readBoard t0 0 v_changed_22 a_board_23 a_changedSquare_24 a_changedMan_25 hm_26) (cv_X10_change C.ts lm_RX10_101 ⟨Nat.le_of_ble_eq_true rfl, Nat.le_of_ble_eq_true rfl⟩) rfl rfl rfl rfl (Nat.le_of_ble_eq_true rfl) dX10_moveMen_153 ⟨Nat.zero_le _, Nat.zero_le _⟩ ?_
    exact kv_lv [0, 1, 2, 3, 4, 5] (lv2 := [(0, .ref h0), (1, .int x1), (2, .int x2), (3, .int x3), (4, .int x4), (5, .int x5)]) rfl (j156 v_changed_22 a_board_23 a_changedSquare_24 a_changedMan_25 x1 x2 x3 x4 x5 h)
  have j91 : ∀ (v_changed : Int32) (a_board : Nat → Int32) (a_changedSquare : Nat → Int32) (a_changedMan : Nat → Int32) (x1 : Int32) (x2 : Int32) (x3 : Int32) (x4 : Int32) (x5 : Int32), m_X10_moveMen_b91  v_changed a_board a_changedSquare a_changedMan x1 x2 x3 x4 x5 = some (rv, v_changed', a_board', a_changedSquare', a_changedMan') → kv p l e rm_X10_moveMen s m ([.ref h0, .int p0, .int p1, .int p2] : List Value).toArray below meth c D A 8 0 0 Q (wM h0 q cI v_code v_side v_rights v_passed v_halves v_number v_top v_typedCount v_readAt v_place v_writtenCount v_chosenFrom v_chosenTo v_chosenTurn v_changed v_readSide v_readRights v_readPassed v_readHalves v_readNumber a_board a_before a_typed a_written a_froms a_tos a_turns a_counts a_changedSquare a_changedMan a_readBoard) [(0, .ref h0), (1, .int x1), (2, .int x2), (3, .int x3), (4, .int x4), (5, .int x5)] 91 [] := by
    intro v_changed a_board a_changedSquare a_changedMan x1 x2 x3 x4 x5 h
    unfold m_X10_moveMen_b91 at h
    refine kv_iload C 4 dX10_moveMen_91 rfl ?_
    obtain ⟨r_28, hm_29, h⟩ := ob_e h
    refine kv_callS0i C [.int x4] (c_X10_kindOf l D x4 r_28 hm_29) (cs_X10_kindOf C.ts lm_RX10_79 ⟨Nat.le_of_ble_eq_true rfl, Nat.le_of_ble_eq_true rfl⟩) rfl rfl (Nat.le_of_ble_eq_true rfl) dX10_moveMen_93 ⟨Nat.zero_le _, Nat.zero_le _⟩ ?_
    refine kv_bipush C 6 dX10_moveMen_96 (by decide) ?_
    refine kv_icmp_ne C 156 dX10_moveMen_98 (by decide) (fun c_30 => ?_) (fun c_30 => ?_)
    · have h := oi_f h c_30
      exact kv_lv [0, 1, 2, 3, 4, 5] (lv2 := [(0, .ref h0), (1, .int x1), (2, .int x2), (3, .int x3), (4, .int x4), (5, .int x5)]) rfl (j156 v_changed a_board a_changedSquare a_changedMan x1 x2 x3 x4 x5 h)
    · have h := oi_t h c_30
      refine kv_iload_n C 2 dX10_moveMen_101 rfl rfl ?_
      obtain ⟨r_31, hm_32, h⟩ := ob_e h
      refine kv_callS0i C [.int x2] (c_X10_columnOf l D x2 r_31 hm_32) (cs_X10_columnOf C.ts lm_RX10_73 ⟨Nat.le_of_ble_eq_true rfl, Nat.le_of_ble_eq_true rfl⟩) rfl rfl (Nat.le_of_ble_eq_true rfl) dX10_moveMen_102 ⟨Nat.zero_le _, Nat.zero_le _⟩ ?_
      refine kv_iload_n C 1 dX10_moveMen_105 rfl rfl ?_
      obtain ⟨r_33, hm_34, h⟩ := ob_e h
      refine kv_callS0i C [.int x1] (c_X10_columnOf l D x1 r_33 hm_34) (cs_X10_columnOf C.ts lm_RX10_73 ⟨Nat.le_of_ble_eq_true rfl, Nat.le_of_ble_eq_true rfl⟩) rfl rfl (Nat.le_of_ble_eq_true rfl) dX10_moveMen_106 ⟨Nat.zero_le _, Nat.zero_le _⟩ ?_
      refine kv_isub C dX10_moveMen_109 ?_
      obtain ⟨r_35, hm_36, h⟩ := ob_e h
      refine kv_callS0i C [.int (r_31 - r_33)] (c_X10_size l D (r_31 - r_33) r_35 hm_36) (cs_X10_size C.ts lm_RX10_76 ⟨Nat.le_of_ble_eq_true rfl, Nat.le_of_ble_eq_true rfl⟩) rfl rfl (Nat.le_of_ble_eq_true rfl) dX10_moveMen_110 ⟨Nat.zero_le _, Nat.zero_le _⟩ ?_
      refine kv_iconst C 2 dX10_moveMen_113 (by decide) ?_
      refine kv_icmp_ne C 156 dX10_moveMen_114 (by decide) (fun c_37 => ?_) (fun c_37 => ?_)
      · have h := oi_f h c_37
        exact kv_lv [0, 1, 2, 3, 4, 5] (lv2 := [(0, .ref h0), (1, .int x1), (2, .int x2), (3, .int x3), (4, .int x4), (5, .int x5)]) rfl (j156 v_changed a_board a_changedSquare a_changedMan x1 x2 x3 x4 x5 h)
      · have h := oi_t h c_37
        refine kv_iload_n C 2 dX10_moveMen_117 rfl rfl ?_
        refine kv_iload_n C 1 dX10_moveMen_118 rfl rfl ?_
        refine kv_icmp_le C 128 dX10_moveMen_119 (by decide) (fun c_38 => ?_) (fun c_38 => ?_)
        · have h := oi_t h c_38
          refine kv_iload_n C 1 dX10_moveMen_128 rfl rfl ?_
          refine kv_iconst C 4 dX10_moveMen_129 (by decide) ?_
          refine kv_isub C dX10_moveMen_130 ?_
          exact kv_lv [0, 1, 2, 3, 4, 5] (lv2 := [(0, .ref h0), (1, .int x1), (2, .int x2), (3, .int x3), (4, .int x4), (5, .int x5)]) rfl (j131 v_changed a_board a_changedSquare a_changedMan x1 x2 x3 x4 x5 (x1 - 4) h)
        · have h := oi_f h c_38
          refine kv_iload_n C 1 dX10_moveMen_122 rfl rfl ?_
          refine kv_iconst C 3 dX10_moveMen_123 (by decide) ?_
          refine kv_iadd C dX10_moveMen_124 ?_
          refine kv_goto C 131 dX10_moveMen_125 (by decide) ?_
          exact kv_lv [0, 1, 2, 3, 4, 5] (lv2 := [(0, .ref h0), (1, .int x1), (2, .int x2), (3, .int x3), (4, .int x4), (5, .int x5)]) rfl (j131 v_changed a_board a_changedSquare a_changedMan x1 x2 x3 x4 x5 (x1 + 3) h)
  have j69 : ∀ (v_changed : Int32) (a_board : Nat → Int32) (a_changedSquare : Nat → Int32) (a_changedMan : Nat → Int32) (x1 : Int32) (x2 : Int32) (x3 : Int32) (x4 : Int32) (t0 : Int32) (t1 : Int32), m_X10_moveMen_b69  v_changed a_board a_changedSquare a_changedMan x1 x2 x3 x4 t0 t1 = some (rv, v_changed', a_board', a_changedSquare', a_changedMan') → kv p l e rm_X10_moveMen s m ([.ref h0, .int p0, .int p1, .int p2] : List Value).toArray below meth c D A 8 0 0 Q (wM h0 q cI v_code v_side v_rights v_passed v_halves v_number v_top v_typedCount v_readAt v_place v_writtenCount v_chosenFrom v_chosenTo v_chosenTurn v_changed v_readSide v_readRights v_readPassed v_readHalves v_readNumber a_board a_before a_typed a_written a_froms a_tos a_turns a_counts a_changedSquare a_changedMan a_readBoard) [(0, .ref h0), (1, .int x1), (2, .int x2), (3, .int x3), (4, .int x4)] 69 [.int t1, .int t0] := by
    intro v_changed a_board a_changedSquare a_changedMan x1 x2 x3 x4 t0 t1 h
    unfold m_X10_moveMen_b69 at h
    obtain ⟨r_39, hm_40, h⟩ := ob_e h
    refine kv_callS0i C [.int t1] (c_X10_up l D t1 r_39 hm_40) (cs_X10_up C.ts lm_RX10_98 ⟨Nat.le_of_ble_eq_true rfl, Nat.le_of_ble_eq_true rfl⟩) rfl rfl (Nat.le_of_ble_eq_true rfl) dX10_moveMen_69 ⟨Nat.zero_le _, Nat.zero_le _⟩ ?_
    refine kv_isub C dX10_moveMen_72 ?_
    obtain ⟨x7_41, ex7_41, h⟩ := ol_e h
    refine kv_top ex7_41 ?_
    refine kv_istore C (lv2 := [(0, .ref h0), (1, .int x1), (2, .int x2), (3, .int x3), (4, .int x4), (7, .int x7_41)]) [1, 2, 3, 4, 5, 0] dX10_moveMen_73 (by decide) rfl rfl ?_
    refine kv_aload_n C 0 dX10_moveMen_75 rfl rfl ?_
    refine kv_get C (Cn := RX10) (T := TX10) (N := 31) 0 1 hin10 rfl rfl (by decide) (C.ts _ (List.mem_cons_of_mem _ lf_RX10_7)) rfl rfl dX10_moveMen_76 ?_
    refine kv_iload C 5 dX10_moveMen_79 rfl ?_
    obtain ⟨g_42, h⟩ := oin_e h
    refine kv_iald C 1 0 rfl rfl g_42 dX10_moveMen_81 ?_
    obtain ⟨x5_43, ex5_43, h⟩ := ol_e h
    refine kv_top ex5_43 ?_
    refine kv_istore C (lv2 := [(0, .ref h0), (1, .int x1), (2, .int x2), (3, .int x3), (4, .int x4), (5, .int x5_43), (7, .int x7_41)]) [1, 2, 3, 4, 5, 0, 6] dX10_moveMen_82 (by decide) rfl rfl ?_
    refine kv_aload_n C 0 dX10_moveMen_84 rfl rfl ?_
    refine kv_iload C 6 dX10_moveMen_85 rfl ?_
    refine kv_iconst C 0 dX10_moveMen_87 (by decide) ?_
    obtain ⟨⟨v_changed_44, a_board_45, a_changedSquare_46, a_changedMan_47⟩, hm_48, h⟩ := ob_e h
    replace h : _ = _ := h
    refine kv_callWv C [.int x7_41, .int 0] 0 (c_X10_change l D h0 q cI v_code v_side v_rights v_passed v_halves v_number v_top v_typedCount v_readAt v_place v_writtenCount v_chosenFrom v_chosenTo v_chosenTurn v_changed v_readSide v_readRights v_readPassed v_readHalves v_readNumber a_board a_before a_typed a_written a_froms a_tos a_turns a_counts a_changedSquare a_changedMan a_readBoard x7_41 0 v_changed_44 a_board_45 a_changedSquare_46 a_changedMan_47 hm_48) (cv_X10_change C.ts lm_RX10_101 ⟨Nat.le_of_ble_eq_true rfl, Nat.le_of_ble_eq_true rfl⟩) rfl rfl rfl rfl (Nat.le_of_ble_eq_true rfl) dX10_moveMen_88 ⟨Nat.zero_le _, Nat.zero_le _⟩ ?_
    exact kv_lv [0, 1, 2, 3, 4, 5] (lv2 := [(0, .ref h0), (1, .int x1), (2, .int x2), (3, .int x3), (4, .int x4), (5, .int x5_43)]) rfl (j91 v_changed_44 a_board_45 a_changedSquare_46 a_changedMan_47 x1 x2 x3 x4 x5_43 h)
  have j37 : ∀ (v_changed : Int32) (a_board : Nat → Int32) (a_changedSquare : Nat → Int32) (a_changedMan : Nat → Int32) (x1 : Int32) (x2 : Int32) (x3 : Int32) (x4 : Int32) (x5 : Int32) (t0 : Int32), m_X10_moveMen_b37  v_changed a_board a_changedSquare a_changedMan x1 x2 x3 x4 x5 t0 = some (rv, v_changed', a_board', a_changedSquare', a_changedMan') → kv p l e rm_X10_moveMen s m ([.ref h0, .int p0, .int p1, .int p2] : List Value).toArray below meth c D A 8 0 0 Q (wM h0 q cI v_code v_side v_rights v_passed v_halves v_number v_top v_typedCount v_readAt v_place v_writtenCount v_chosenFrom v_chosenTo v_chosenTurn v_changed v_readSide v_readRights v_readPassed v_readHalves v_readNumber a_board a_before a_typed a_written a_froms a_tos a_turns a_counts a_changedSquare a_changedMan a_readBoard) [(0, .ref h0), (1, .int x1), (2, .int x2), (3, .int x3), (4, .int x4), (5, .int x5)] 37 [.int t0] := by
    intro v_changed a_board a_changedSquare a_changedMan x1 x2 x3 x4 x5 t0 h
    unfold m_X10_moveMen_b37 at h
    refine kv_istore C (lv2 := [(0, .ref h0), (1, .int x1), (2, .int x2), (3, .int x3), (4, .int x4), (5, .int x5), (6, .int t0)]) [1, 2, 3, 4, 5, 6, 0] dX10_moveMen_37 (by decide) rfl rfl ?_
    refine kv_iload C 4 dX10_moveMen_39 rfl ?_
    obtain ⟨r_50, hm_51, h⟩ := ob_e h
    refine kv_callS0i C [.int x4] (c_X10_kindOf l D x4 r_50 hm_51) (cs_X10_kindOf C.ts lm_RX10_79 ⟨Nat.le_of_ble_eq_true rfl, Nat.le_of_ble_eq_true rfl⟩) rfl rfl (Nat.le_of_ble_eq_true rfl) dX10_moveMen_41 ⟨Nat.zero_le _, Nat.zero_le _⟩ ?_
    refine kv_iconst C 1 dX10_moveMen_44 (by decide) ?_
    refine kv_icmp_ne C 91 dX10_moveMen_45 (by decide) (fun c_52 => ?_) (fun c_52 => ?_)
    · have h := oi_f h c_52
      exact kv_lv [0, 1, 2, 3, 4, 5] (lv2 := [(0, .ref h0), (1, .int x1), (2, .int x2), (3, .int x3), (4, .int x4), (5, .int x5)]) rfl (j91 v_changed a_board a_changedSquare a_changedMan x1 x2 x3 x4 x5 h)
    · have h := oi_t h c_52
      refine kv_iload C 6 dX10_moveMen_48 rfl ?_
      refine kv_if_eq C 91 dX10_moveMen_50 (by decide) (fun c_53 => ?_) (fun c_53 => ?_)
      · have h := oi_t h c_53
        exact kv_lv [0, 1, 2, 3, 4, 5] (lv2 := [(0, .ref h0), (1, .int x1), (2, .int x2), (3, .int x3), (4, .int x4), (5, .int x5)]) rfl (j91 v_changed a_board a_changedSquare a_changedMan x1 x2 x3 x4 x5 h)
      · have h := oi_f h c_53
        refine kv_iload C 5 dX10_moveMen_53 rfl ?_
        refine kv_if_ne C 91 dX10_moveMen_55 (by decide) (fun c_54 => ?_) (fun c_54 => ?_)
        · have h := oi_f h c_54
          exact kv_lv [0, 1, 2, 3, 4, 5] (lv2 := [(0, .ref h0), (1, .int x1), (2, .int x2), (3, .int x3), (4, .int x4), (5, .int x5)]) rfl (j91 v_changed a_board a_changedSquare a_changedMan x1 x2 x3 x4 x5 h)
        · have h := oi_t h c_54
          refine kv_iload_n C 2 dX10_moveMen_58 rfl rfl ?_
          refine kv_iload C 4 dX10_moveMen_59 rfl ?_
          refine kv_if_le C 68 dX10_moveMen_61 (by decide) (fun c_55 => ?_) (fun c_55 => ?_)
          · have h := oi_t h c_55
            refine kv_iconst C 1 dX10_moveMen_68 (by decide) ?_
            exact kv_lv [0, 1, 2, 3, 4] (lv2 := [(0, .ref h0), (1, .int x1), (2, .int x2), (3, .int x3), (4, .int x4)]) rfl (j69 v_changed a_board a_changedSquare a_changedMan x1 x2 x3 x4 x2 1 h)
          · have h := oi_f h c_55
            refine kv_iconst C 0 dX10_moveMen_64 (by decide) ?_
            refine kv_goto C 69 dX10_moveMen_65 (by decide) ?_
            exact kv_lv [0, 1, 2, 3, 4] (lv2 := [(0, .ref h0), (1, .int x1), (2, .int x2), (3, .int x3), (4, .int x4)]) rfl (j69 v_changed a_board a_changedSquare a_changedMan x1 x2 x3 x4 x2 0 h)
  unfold m_X10_moveMen at hm
  have h := hm
  refine kv_lv [0, 1, 2, 3] (lv2 := [(0, .ref h0), (1, .int p0), (2, .int p1), (3, .int p2)]) rfl ?_
  refine kv_aload_n C 0 dX10_moveMen_0 rfl rfl ?_
  refine kv_iconst C 0 dX10_moveMen_1 (by decide) ?_
  refine kv_put C (Cn := RX10) (T := TX10) (N := 31) (ty := .int) (ws1 := (wM h0 q cI v_code v_side v_rights v_passed v_halves v_number v_top v_typedCount v_readAt v_place v_writtenCount v_chosenFrom v_chosenTo v_chosenTurn 0 v_readSide v_readRights v_readPassed v_readHalves v_readNumber a_board a_before a_typed a_written a_froms a_tos a_turns a_counts a_changedSquare a_changedMan a_readBoard)) 0 24 hin10 tyX10 tyX10_ok nmX10 rfl rfl (by decide) (C.ts _ (List.mem_cons_of_mem _ lf_RX10_95)) rfl rfl (by decide +kernel) rfl rfl (Nat.le_of_ble_eq_true rfl) rfl dX10_moveMen_2 ?_
  refine kv_aload_n C 0 dX10_moveMen_5 rfl rfl ?_
  refine kv_get C (Cn := RX10) (T := TX10) (N := 31) 0 1 hin10 rfl rfl (by decide) (C.ts _ (List.mem_cons_of_mem _ lf_RX10_7)) rfl rfl dX10_moveMen_6 ?_
  refine kv_iload_n C 1 dX10_moveMen_9 rfl rfl ?_
  obtain ⟨g_56, h⟩ := oin_e h
  refine kv_iald C 1 0 rfl rfl g_56 dX10_moveMen_10 ?_
  obtain ⟨x4_57, ex4_57, h⟩ := ol_e h
  refine kv_top ex4_57 ?_
  refine kv_istore C (lv2 := [(0, .ref h0), (1, .int p0), (2, .int p1), (3, .int p2), (4, .int x4_57)]) [1, 2, 3, 4, 0] dX10_moveMen_11 (by decide) rfl rfl ?_
  refine kv_aload_n C 0 dX10_moveMen_13 rfl rfl ?_
  refine kv_get C (Cn := RX10) (T := TX10) (N := 31) 0 1 hin10 rfl rfl (by decide) (C.ts _ (List.mem_cons_of_mem _ lf_RX10_7)) rfl rfl dX10_moveMen_14 ?_
  refine kv_iload_n C 2 dX10_moveMen_17 rfl rfl ?_
  obtain ⟨g_58, h⟩ := oin_e h
  refine kv_iald C 1 0 rfl rfl g_58 dX10_moveMen_18 ?_
  obtain ⟨x5_59, ex5_59, h⟩ := ol_e h
  refine kv_top ex5_59 ?_
  refine kv_istore C (lv2 := [(0, .ref h0), (1, .int p0), (2, .int p1), (3, .int p2), (4, .int x4_57), (5, .int x5_59)]) [1, 2, 3, 4, 5, 0] dX10_moveMen_19 (by decide) rfl rfl ?_
  refine kv_iload_n C 1 dX10_moveMen_21 rfl rfl ?_
  obtain ⟨r_60, hm_61, h⟩ := ob_e h
  refine kv_callS0i C [.int p0] (c_X10_columnOf l D p0 r_60 hm_61) (cs_X10_columnOf C.ts lm_RX10_73 ⟨Nat.le_of_ble_eq_true rfl, Nat.le_of_ble_eq_true rfl⟩) rfl rfl (Nat.le_of_ble_eq_true rfl) dX10_moveMen_22 ⟨Nat.zero_le _, Nat.zero_le _⟩ ?_
  refine kv_iload_n C 2 dX10_moveMen_25 rfl rfl ?_
  obtain ⟨r_62, hm_63, h⟩ := ob_e h
  refine kv_callS0i C [.int p1] (c_X10_columnOf l D p1 r_62 hm_63) (cs_X10_columnOf C.ts lm_RX10_73 ⟨Nat.le_of_ble_eq_true rfl, Nat.le_of_ble_eq_true rfl⟩) rfl rfl (Nat.le_of_ble_eq_true rfl) dX10_moveMen_26 ⟨Nat.zero_le _, Nat.zero_le _⟩ ?_
  refine kv_icmp_eq C 36 dX10_moveMen_29 (by decide) (fun c_64 => ?_) (fun c_64 => ?_)
  · have h := oi_t h c_64
    refine kv_iconst C 0 dX10_moveMen_36 (by decide) ?_
    exact kv_lv [0, 1, 2, 3, 4, 5] (lv2 := [(0, .ref h0), (1, .int p0), (2, .int p1), (3, .int p2), (4, .int x4_57), (5, .int x5_59)]) rfl (j37 0 a_board a_changedSquare a_changedMan p0 p1 p2 x4_57 x5_59 0 h)
  · have h := oi_f h c_64
    refine kv_iconst C 1 dX10_moveMen_32 (by decide) ?_
    refine kv_goto C 37 dX10_moveMen_33 (by decide) ?_
    exact kv_lv [0, 1, 2, 3, 4, 5] (lv2 := [(0, .ref h0), (1, .int p0), (2, .int p1), (3, .int p2), (4, .int x4_57), (5, .int x5_59)]) rfl (j37 0 a_board a_changedSquare a_changedMan p0 p1 p2 x4_57 x5_59 1 h)
def m_X10_undoMen_b0 (k0 : Int32 → (Nat → Int32) → Option (Int32 × (Nat → Int32))) (v_changed : Int32) (a_board : Nat → Int32) (a_changedSquare : Nat → Int32) (a_changedMan : Nat → Int32) : Option (Int32 × (Nat → Int32)) := if v_changed ≤ 0 then some (v_changed, a_board) else ol (v_changed - 1) fun y_2 => oin (y_2) 4 (oin (y_2) 4 (ol (a_changedMan y_2.toNatClampNeg) fun y_5 => oin (a_changedSquare y_2.toNatClampNeg) 64 (ol (upd a_board ((a_changedSquare y_2.toNatClampNeg).toNatClampNeg) y_5) fun a_board_7 => k0 y_2 a_board_7)))
def m_X10_undoMen_l0 (a_changedSquare : Nat → Int32) (a_changedMan : Nat → Int32) (n : Nat) : Int32 → (Nat → Int32) → Option (Int32 × (Nat → Int32)) := fz (fun _ _ => none) (fun k0 v_changed a_board => m_X10_undoMen_b0 k0 v_changed a_board a_changedSquare a_changedMan ) n
def m_X10_undoMen (v_changed : Int32) (a_board : Nat → Int32) (a_changedSquare : Nat → Int32) (a_changedMan : Nat → Int32) : Option (Int32 × (Nat → Int32)) := m_X10_undoMen_l0 a_changedSquare a_changedMan kF v_changed a_board
abbrev rm_X10_undoMen : Room := { frames := 0, cells := 0, slots := 0, locals := 0 }
abbrev wy_X10_undoMen : List Cond := .code yX10_undoMen cX10_undoMen 1 none :: gT
theorem cv_X10_undoMen {R : Room} {s : State} {args : Array Value} {own : String} {index : Nat} {w0 : Cond} (hts : ∀ w ∈ w0 :: gT, w.before args s = true) (hl : Cond.methodLink own index yX10_undoMen ∈ gT) (hR : 0 + 1 ≤ R.frames ∧ 8 + (1 + 11) + 0 ≤ R.locals) : CallW R s args own RX10 index yX10_undoMen cX10_undoMen 1 none wy_X10_undoMen rm_X10_undoMen 0 0 0 :=
  cwV 0 hts (gT_call w0 (pre := [.methodLink own index yX10_undoMen, .instanceMethod yX10_undoMen, .selects RX10 yX10_undoMen yX10_undoMen, .initialized RX10]) (gT_lc hl (gT_lc ly_yX10_undoMen (gT_lc lx_yX10_undoMen (gT_l1 li_RX10)))) lc_yX10_undoMen) rfl rfl rfl (by decide +kernel) hR
set_option maxRecDepth 100000 in
set_option maxHeartbeats 4000000 in
theorem c_X10_undoMen (l : Launch) (D : va_G) (h0 : Nat) (q : Nat → Nat) (cI : ClassId) (v_code : Int32) (v_side : Int32) (v_rights : Int32) (v_passed : Int32) (v_halves : Int32) (v_number : Int32) (v_top : Int32) (v_typedCount : Int32) (v_readAt : Int32) (v_place : Int32) (v_writtenCount : Int32) (v_chosenFrom : Int32) (v_chosenTo : Int32) (v_chosenTurn : Int32) (v_changed : Int32) (v_readSide : Int32) (v_readRights : Int32) (v_readPassed : Int32) (v_readHalves : Int32) (v_readNumber : Int32) (a_board : Nat → Int32) (a_before : Nat → Int32) (a_typed : Nat → Int32) (a_written : Nat → Int32) (a_froms : Nat → Int32) (a_tos : Nat → Int32) (a_turns : Nat → Int32) (a_counts : Nat → Int32) (a_changedSquare : Nat → Int32) (a_changedMan : Nat → Int32) (a_readBoard : Nat → Int32) (v_changed' : Int32) (a_board' : Nat → Int32) (hm : m_X10_undoMen v_changed a_board a_changedSquare a_changedMan = some (v_changed', a_board')) : kDv l yX10_undoMen wy_X10_undoMen rm_X10_undoMen D [(cI, .int)] (wM h0 q cI v_code v_side v_rights v_passed v_halves v_number v_top v_typedCount v_readAt v_place v_writtenCount v_chosenFrom v_chosenTo v_chosenTurn v_changed v_readSide v_readRights v_readPassed v_readHalves v_readNumber a_board a_before a_typed a_written a_froms a_tos a_turns a_counts a_changedSquare a_changedMan a_readBoard) (wM h0 q cI v_code v_side v_rights v_passed v_halves v_number v_top v_typedCount v_readAt v_place v_writtenCount v_chosenFrom v_chosenTo v_chosenTurn v_changed' v_readSide v_readRights v_readPassed v_readHalves v_readNumber a_board' a_before a_typed a_written a_froms a_tos a_turns a_counts a_changedSquare a_changedMan a_readBoard) [.ref h0] := by
  refine kDv.of cX10_undoMen 1 none (by decide) rfl rfl (Nat.le_of_ble_eq_true rfl) ?_
  intro p e s m below meth c A Q C hret
  have hin10 : ∀ w ∈ wsX100, w ∈ wy_X10_undoMen := fun w h => List.mem_cons_of_mem _ (inG10 w h)
  have l0 : ∀ (n0 : Nat) (v_changed : Int32) (a_board : Nat → Int32), m_X10_undoMen_l0  a_changedSquare a_changedMan n0 v_changed a_board = some (v_changed', a_board') → kv p l e rm_X10_undoMen s m ([.ref h0] : List Value).toArray below meth c D A 1 0 0 Q (wM h0 q cI v_code v_side v_rights v_passed v_halves v_number v_top v_typedCount v_readAt v_place v_writtenCount v_chosenFrom v_chosenTo v_chosenTurn v_changed v_readSide v_readRights v_readPassed v_readHalves v_readNumber a_board a_before a_typed a_written a_froms a_tos a_turns a_counts a_changedSquare a_changedMan a_readBoard) [(0, .ref h0)] 0 [] := by
    intro n0
    induction n0 with
    | zero =>
      intro v_changed a_board h
      exact kv_no h
    | succ n0 ih0 =>
      intro v_changed a_board h
      replace h : m_X10_undoMen_b0  (m_X10_undoMen_l0  a_changedSquare a_changedMan n0) v_changed a_board a_changedSquare a_changedMan  = some (v_changed', a_board') := h
      unfold m_X10_undoMen_b0 at h
      refine kv_aload_n C 0 dX10_undoMen_0 rfl rfl ?_
      refine kv_get C (Cn := RX10) (T := TX10) (N := 31) 0 24 hin10 rfl rfl (by decide) (C.ts _ (List.mem_cons_of_mem _ lf_RX10_95)) rfl rfl dX10_undoMen_1 ?_
      refine kv_if_le C 43 dX10_undoMen_4 (by decide) (fun c_1 => ?_) (fun c_1 => ?_)
      · have h := oi_t h c_1
        cases h
        exact hret _ _ dX10_undoMen_43
      · have h := oi_f h c_1
        refine kv_aload_n C 0 dX10_undoMen_7 rfl rfl ?_
        refine kv_dup C dX10_undoMen_8 rfl ?_
        refine kv_get C (Cn := RX10) (T := TX10) (N := 31) 0 24 hin10 rfl rfl (by decide) (C.ts _ (List.mem_cons_of_mem _ lf_RX10_95)) rfl rfl dX10_undoMen_9 ?_
        refine kv_iconst C 1 dX10_undoMen_12 (by decide) ?_
        refine kv_isub C dX10_undoMen_13 ?_
        obtain ⟨y_2, ey_2, h⟩ := ol_e h
        refine kv_top ey_2 ?_
        refine kv_put C (Cn := RX10) (T := TX10) (N := 31) (ty := .int) (ws1 := (wM h0 q cI v_code v_side v_rights v_passed v_halves v_number v_top v_typedCount v_readAt v_place v_writtenCount v_chosenFrom v_chosenTo v_chosenTurn y_2 v_readSide v_readRights v_readPassed v_readHalves v_readNumber a_board a_before a_typed a_written a_froms a_tos a_turns a_counts a_changedSquare a_changedMan a_readBoard)) 0 24 hin10 tyX10 tyX10_ok nmX10 rfl rfl (by decide) (C.ts _ (List.mem_cons_of_mem _ lf_RX10_95)) rfl rfl (by decide +kernel) rfl rfl (Nat.le_of_ble_eq_true rfl) rfl dX10_undoMen_14 ?_
        refine kv_aload_n C 0 dX10_undoMen_17 rfl rfl ?_
        refine kv_get C (Cn := RX10) (T := TX10) (N := 31) 0 1 hin10 rfl rfl (by decide) (C.ts _ (List.mem_cons_of_mem _ lf_RX10_7)) rfl rfl dX10_undoMen_18 ?_
        refine kv_aload_n C 0 dX10_undoMen_21 rfl rfl ?_
        refine kv_get C (Cn := RX10) (T := TX10) (N := 31) 0 22 hin10 rfl rfl (by decide) (C.ts _ (List.mem_cons_of_mem _ lf_RX10_51)) rfl rfl dX10_undoMen_22 ?_
        refine kv_aload_n C 0 dX10_undoMen_25 rfl rfl ?_
        refine kv_get C (Cn := RX10) (T := TX10) (N := 31) 0 24 hin10 rfl rfl (by decide) (C.ts _ (List.mem_cons_of_mem _ lf_RX10_95)) rfl rfl dX10_undoMen_26 ?_
        obtain ⟨g_3, h⟩ := oin_e h
        refine kv_iald C 9 0 rfl rfl g_3 dX10_undoMen_29 ?_
        refine kv_aload_n C 0 dX10_undoMen_30 rfl rfl ?_
        refine kv_get C (Cn := RX10) (T := TX10) (N := 31) 0 23 hin10 rfl rfl (by decide) (C.ts _ (List.mem_cons_of_mem _ lf_RX10_54)) rfl rfl dX10_undoMen_31 ?_
        refine kv_aload_n C 0 dX10_undoMen_34 rfl rfl ?_
        refine kv_get C (Cn := RX10) (T := TX10) (N := 31) 0 24 hin10 rfl rfl (by decide) (C.ts _ (List.mem_cons_of_mem _ lf_RX10_95)) rfl rfl dX10_undoMen_35 ?_
        obtain ⟨g_4, h⟩ := oin_e h
        refine kv_iald C 10 0 rfl rfl g_4 dX10_undoMen_38 ?_
        obtain ⟨y_5, ey_5, h⟩ := ol_e h
        refine kv_top ey_5 ?_
        obtain ⟨g_6, h⟩ := oin_e h
        obtain ⟨a_board_7, ea_board_7, h⟩ := ol_e h
        refine kv_iast2 C (ws1 := (wM h0 q cI v_code v_side v_rights v_passed v_halves v_number v_top v_typedCount v_readAt v_place v_writtenCount v_chosenFrom v_chosenTo v_chosenTurn y_2 v_readSide v_readRights v_readPassed v_readHalves v_readNumber a_board_7 a_before a_typed a_written a_froms a_tos a_turns a_counts a_changedSquare a_changedMan a_readBoard)) 1 0 rfl rfl g_6 ea_board_7 rfl dX10_undoMen_39 ?_
        refine kv_goto C 0 dX10_undoMen_40 (by decide) ?_
        exact kv_lv [0] (lv2 := [(0, .ref h0)]) rfl (ih0 y_2 a_board_7 h)
  unfold m_X10_undoMen at hm
  have h := hm
  refine kv_lv [0] (lv2 := [(0, .ref h0)]) rfl ?_
  exact kv_lv [0] (lv2 := [(0, .ref h0)]) rfl (l0 kF v_changed a_board h)
def m_X10_isSafe_b39 (v_changed : Int32) (a_board : Nat → Int32) (a_changedSquare : Nat → Int32) (a_changedMan : Nat → Int32) (t0 : Int32) : Option (Int32 × Int32 × (Nat → Int32) × (Nat → Int32) × (Nat → Int32)) := ob (m_X10_undoMen v_changed a_board a_changedSquare a_changedMan ) fun (v_changed_1, a_board_2) => obl (t0) (some (t0, v_changed_1, a_board_2, a_changedSquare, a_changedMan))
def m_X10_isSafe_b14 (v_changed : Int32) (a_board : Nat → Int32) (a_changedSquare : Nat → Int32) (a_changedMan : Nat → Int32) (x1 : Int32) (x2 : Int32) (x3 : Int32) (t0 : Int32) : Option (Int32 × Int32 × (Nat → Int32) × (Nat → Int32) × (Nat → Int32)) := ob (m_X10_moveMen v_changed a_board a_changedSquare a_changedMan x1 x2 x3) fun (r_6, v_changed_7, a_board_8, a_changedSquare_9, a_changedMan_10) => ob (m_X10_inCheck a_board_8 t0) fun r_13 => if r_13 = 0 then m_X10_isSafe_b39 v_changed_7 a_board_8 a_changedSquare_9 a_changedMan_10 1 else m_X10_isSafe_b39 v_changed_7 a_board_8 a_changedSquare_9 a_changedMan_10 0
def m_X10_isSafe (v_changed : Int32) (a_board : Nat → Int32) (a_changedSquare : Nat → Int32) (a_changedMan : Nat → Int32) (p0 : Int32) (p1 : Int32) (p2 : Int32) : Option (Int32 × Int32 × (Nat → Int32) × (Nat → Int32) × (Nat → Int32)) := oin (p0) 64 (if (a_board p0.toNatClampNeg) ≤ 0 then m_X10_isSafe_b14 v_changed a_board a_changedSquare a_changedMan p0 p1 p2 1 else m_X10_isSafe_b14 v_changed a_board a_changedSquare a_changedMan p0 p1 p2 0)
abbrev rm_X10_isSafe : Room := { frames := 5, cells := 0, slots := 0, locals := 122 }
abbrev wy_X10_isSafe : List Cond := .code yX10_isSafe cX10_isSafe 7 (some .boolean) :: gT
theorem cv_X10_isSafe {R : Room} {s : State} {args : Array Value} {own : String} {index : Nat} {w0 : Cond} (hts : ∀ w ∈ w0 :: gT, w.before args s = true) (hl : Cond.methodLink own index yX10_isSafe ∈ gT) (hR : 5 + 1 ≤ R.frames ∧ 8 + (7 + 11) + 122 ≤ R.locals) : CallW R s args own RX10 index yX10_isSafe cX10_isSafe 7 (some .boolean) wy_X10_isSafe rm_X10_isSafe 0 0 3 :=
  cwV 3 hts (gT_call w0 (pre := [.methodLink own index yX10_isSafe, .instanceMethod yX10_isSafe, .selects RX10 yX10_isSafe yX10_isSafe, .initialized RX10]) (gT_lc hl (gT_lc ly_yX10_isSafe (gT_lc lx_yX10_isSafe (gT_l1 li_RX10)))) lc_yX10_isSafe) rfl rfl rfl (by decide +kernel) hR
set_option maxRecDepth 100000 in
set_option maxHeartbeats 4000000 in
theorem c_X10_isSafe (l : Launch) (D : va_G) (h0 : Nat) (q : Nat → Nat) (cI : ClassId) (v_code : Int32) (v_side : Int32) (v_rights : Int32) (v_passed : Int32) (v_halves : Int32) (v_number : Int32) (v_top : Int32) (v_typedCount : Int32) (v_readAt : Int32) (v_place : Int32) (v_writtenCount : Int32) (v_chosenFrom : Int32) (v_chosenTo : Int32) (v_chosenTurn : Int32) (v_changed : Int32) (v_readSide : Int32) (v_readRights : Int32) (v_readPassed : Int32) (v_readHalves : Int32) (v_readNumber : Int32) (a_board : Nat → Int32) (a_before : Nat → Int32) (a_typed : Nat → Int32) (a_written : Nat → Int32) (a_froms : Nat → Int32) (a_tos : Nat → Int32) (a_turns : Nat → Int32) (a_counts : Nat → Int32) (a_changedSquare : Nat → Int32) (a_changedMan : Nat → Int32) (a_readBoard : Nat → Int32) (p0 : Int32) (p1 : Int32) (p2 : Int32) (rv : Int32) (v_changed' : Int32) (a_board' : Nat → Int32) (a_changedSquare' : Nat → Int32) (a_changedMan' : Nat → Int32) (hm : m_X10_isSafe v_changed a_board a_changedSquare a_changedMan p0 p1 p2 = some (rv, v_changed', a_board', a_changedSquare', a_changedMan')) : kDi l yX10_isSafe wy_X10_isSafe rm_X10_isSafe D [(cI, .int)] rv (wM h0 q cI v_code v_side v_rights v_passed v_halves v_number v_top v_typedCount v_readAt v_place v_writtenCount v_chosenFrom v_chosenTo v_chosenTurn v_changed v_readSide v_readRights v_readPassed v_readHalves v_readNumber a_board a_before a_typed a_written a_froms a_tos a_turns a_counts a_changedSquare a_changedMan a_readBoard) (wM h0 q cI v_code v_side v_rights v_passed v_halves v_number v_top v_typedCount v_readAt v_place v_writtenCount v_chosenFrom v_chosenTo v_chosenTurn v_changed' v_readSide v_readRights v_readPassed v_readHalves v_readNumber a_board' a_before a_typed a_written a_froms a_tos a_turns a_counts a_changedSquare' a_changedMan' a_readBoard) [.ref h0, .int p0, .int p1, .int p2] := by
  refine kDi.of cX10_isSafe 7 (some .boolean) (by decide) rfl (Or.inr rfl) (Nat.le_of_ble_eq_true rfl) ?_
  intro p e s m below meth c A Q C hret
  have hin10 : ∀ w ∈ wsX100, w ∈ wy_X10_isSafe := fun w h => List.mem_cons_of_mem _ (inG10 w h)
  have j39 : ∀ (v_changed : Int32) (a_board : Nat → Int32) (a_changedSquare : Nat → Int32) (a_changedMan : Nat → Int32) (t0 : Int32), m_X10_isSafe_b39  v_changed a_board a_changedSquare a_changedMan t0 = some (rv, v_changed', a_board', a_changedSquare', a_changedMan') → kv p l e rm_X10_isSafe s m ([.ref h0, .int p0, .int p1, .int p2] : List Value).toArray below meth c D A 7 0 0 Q (wM h0 q cI v_code v_side v_rights v_passed v_halves v_number v_top v_typedCount v_readAt v_place v_writtenCount v_chosenFrom v_chosenTo v_chosenTurn v_changed v_readSide v_readRights v_readPassed v_readHalves v_readNumber a_board a_before a_typed a_written a_froms a_tos a_turns a_counts a_changedSquare a_changedMan a_readBoard) [(0, .ref h0)] 39 [.int t0] := by
    intro v_changed a_board a_changedSquare a_changedMan t0 h
    unfold m_X10_isSafe_b39 at h
    refine kv_istore C (lv2 := [(0, .ref h0), (6, .int t0)]) [1, 0] dX10_isSafe_39 (by decide) rfl rfl ?_
    refine kv_aload_n C 0 dX10_isSafe_41 rfl rfl ?_
    obtain ⟨⟨v_changed_1, a_board_2⟩, hm_3, h⟩ := ob_e h
    replace h : _ = _ := h
    refine kv_callWv C [] 0 (c_X10_undoMen l D h0 q cI v_code v_side v_rights v_passed v_halves v_number v_top v_typedCount v_readAt v_place v_writtenCount v_chosenFrom v_chosenTo v_chosenTurn v_changed v_readSide v_readRights v_readPassed v_readHalves v_readNumber a_board a_before a_typed a_written a_froms a_tos a_turns a_counts a_changedSquare a_changedMan a_readBoard  v_changed_1 a_board_2 hm_3) (cv_X10_undoMen C.ts lm_RX10_113 ⟨Nat.le_of_ble_eq_true rfl, Nat.le_of_ble_eq_true rfl⟩) rfl rfl rfl rfl (Nat.le_of_ble_eq_true rfl) dX10_isSafe_42 ⟨Nat.zero_le _, Nat.zero_le _⟩ ?_
    refine kv_iload C 1 dX10_isSafe_45 rfl ?_
    obtain ⟨g_5, h⟩ := obl_e h
    cases h
    exact hret _ _ dX10_isSafe_47 (fun _ => g_5)
  have j14 : ∀ (v_changed : Int32) (a_board : Nat → Int32) (a_changedSquare : Nat → Int32) (a_changedMan : Nat → Int32) (x1 : Int32) (x2 : Int32) (x3 : Int32) (t0 : Int32), m_X10_isSafe_b14  v_changed a_board a_changedSquare a_changedMan x1 x2 x3 t0 = some (rv, v_changed', a_board', a_changedSquare', a_changedMan') → kv p l e rm_X10_isSafe s m ([.ref h0, .int p0, .int p1, .int p2] : List Value).toArray below meth c D A 7 0 0 Q (wM h0 q cI v_code v_side v_rights v_passed v_halves v_number v_top v_typedCount v_readAt v_place v_writtenCount v_chosenFrom v_chosenTo v_chosenTurn v_changed v_readSide v_readRights v_readPassed v_readHalves v_readNumber a_board a_before a_typed a_written a_froms a_tos a_turns a_counts a_changedSquare a_changedMan a_readBoard) [(0, .ref h0), (1, .int x1), (2, .int x2), (3, .int x3)] 14 [.int t0] := by
    intro v_changed a_board a_changedSquare a_changedMan x1 x2 x3 t0 h
    unfold m_X10_isSafe_b14 at h
    refine kv_istore C (lv2 := [(0, .ref h0), (1, .int x1), (2, .int x2), (3, .int x3), (4, .int t0)]) [1, 2, 3, 4, 0] dX10_isSafe_14 (by decide) rfl rfl ?_
    refine kv_aload_n C 0 dX10_isSafe_16 rfl rfl ?_
    refine kv_iload_n C 1 dX10_isSafe_17 rfl rfl ?_
    refine kv_iload_n C 2 dX10_isSafe_18 rfl rfl ?_
    refine kv_iload_n C 3 dX10_isSafe_19 rfl rfl ?_
    obtain ⟨⟨r_6, v_changed_7, a_board_8, a_changedSquare_9, a_changedMan_10⟩, hm_11, h⟩ := ob_e h
    replace h : _ = _ := h
    refine kv_callWi C [.int x1, .int x2, .int x3] 0 (c_X10_moveMen l D h0 q cI v_code v_side v_rights v_passed v_halves v_number v_top v_typedCount v_readAt v_place v_writtenCount v_chosenFrom v_chosenTo v_chosenTurn v_changed v_readSide v_readRights v_readPassed v_readHalves v_readNumber a_board a_before a_typed a_written a_froms a_tos a_turns a_counts a_changedSquare a_changedMan a_readBoard x1 x2 x3 r_6 v_changed_7 a_board_8 a_changedSquare_9 a_changedMan_10 hm_11) (cv_X10_moveMen C.ts lm_RX10_105 ⟨Nat.le_of_ble_eq_true rfl, Nat.le_of_ble_eq_true rfl⟩) rfl rfl rfl rfl (Nat.le_of_ble_eq_true rfl) dX10_isSafe_20 ⟨Nat.zero_le _, Nat.zero_le _⟩ ?_
    refine kv_istore C (lv2 := [(0, .ref h0), (4, .int t0)]) [1, 5] dX10_isSafe_23 (by decide) rfl rfl ?_
    refine kv_aload_n C 0 dX10_isSafe_25 rfl rfl ?_
    refine kv_iload C 1 dX10_isSafe_26 rfl ?_
    obtain ⟨r_13, hm_14, h⟩ := ob_e h
    refine kv_callWi C [.int t0] 0 (c_X10_inCheck l D h0 q cI v_code v_side v_rights v_passed v_halves v_number v_top v_typedCount v_readAt v_place v_writtenCount v_chosenFrom v_chosenTo v_chosenTurn v_changed_7 v_readSide v_readRights v_readPassed v_readHalves v_readNumber a_board_8 a_before a_typed a_written a_froms a_tos a_turns a_counts a_changedSquare_9 a_changedMan_10 a_readBoard t0 r_13 hm_14) (cv_X10_inCheck C.ts lm_RX10_109 ⟨Nat.le_of_ble_eq_true rfl, Nat.le_of_ble_eq_true rfl⟩) rfl rfl rfl rfl (Nat.le_of_ble_eq_true rfl) dX10_isSafe_28 ⟨Nat.zero_le _, Nat.zero_le _⟩ ?_
    refine kv_if_ne C 38 dX10_isSafe_31 (by decide) (fun c_15 => ?_) (fun c_15 => ?_)
    · have h := oi_f h c_15
      refine kv_iconst C 0 dX10_isSafe_38 (by decide) ?_
      exact kv_lv [0] (lv2 := [(0, .ref h0)]) rfl (j39 v_changed_7 a_board_8 a_changedSquare_9 a_changedMan_10 0 h)
    · have h := oi_t h c_15
      refine kv_iconst C 1 dX10_isSafe_34 (by decide) ?_
      refine kv_goto C 39 dX10_isSafe_35 (by decide) ?_
      exact kv_lv [0] (lv2 := [(0, .ref h0)]) rfl (j39 v_changed_7 a_board_8 a_changedSquare_9 a_changedMan_10 1 h)
  unfold m_X10_isSafe at hm
  have h := hm
  refine kv_lv [0, 1, 2, 3] (lv2 := [(0, .ref h0), (1, .int p0), (2, .int p1), (3, .int p2)]) rfl ?_
  refine kv_aload_n C 0 dX10_isSafe_0 rfl rfl ?_
  refine kv_get C (Cn := RX10) (T := TX10) (N := 31) 0 1 hin10 rfl rfl (by decide) (C.ts _ (List.mem_cons_of_mem _ lf_RX10_7)) rfl rfl dX10_isSafe_1 ?_
  refine kv_iload_n C 1 dX10_isSafe_4 rfl rfl ?_
  obtain ⟨g_16, h⟩ := oin_e h
  refine kv_iald C 1 0 rfl rfl g_16 dX10_isSafe_5 ?_
  refine kv_if_le C 13 dX10_isSafe_6 (by decide) (fun c_17 => ?_) (fun c_17 => ?_)
  · have h := oi_t h c_17
    refine kv_iconst C 1 dX10_isSafe_13 (by decide) ?_
    exact kv_lv [0, 1, 2, 3] (lv2 := [(0, .ref h0), (1, .int p0), (2, .int p1), (3, .int p2)]) rfl (j14 v_changed a_board a_changedSquare a_changedMan p0 p1 p2 1 h)
  · have h := oi_f h c_17
    refine kv_iconst C 0 dX10_isSafe_9 (by decide) ?_
    refine kv_goto C 14 dX10_isSafe_10 (by decide) ?_
    exact kv_lv [0, 1, 2, 3] (lv2 := [(0, .ref h0), (1, .int p0), (2, .int p1), (3, .int p2)]) rfl (j14 v_changed a_board a_changedSquare a_changedMan p0 p1 p2 0 h)
def m_X10_push_b10 (k10 : Int32 → (Nat → Int32) → Int32 → Int32 → Option (Int32 × (Nat → Int32))) (v_side : Int32) (v_rights : Int32) (v_passed : Int32) (v_halves : Int32) (v_number : Int32) (v_top : Int32) (a_board : Nat → Int32) (a_before : Nat → Int32) (x1 : Int32) (x2 : Int32) : Option (Int32 × (Nat → Int32)) := if 64 ≤ x2 then oin (x1 + 64) 71070 (ol (upd a_before ((x1 + 64).toNatClampNeg) v_side) fun a_before_3 => oin (x1 + 65) 71070 (ol (upd a_before_3 ((x1 + 65).toNatClampNeg) v_rights) fun a_before_5 => oin (x1 + 66) 71070 (ol (upd a_before_5 ((x1 + 66).toNatClampNeg) v_passed) fun a_before_7 => oin (x1 + 67) 71070 (ol (upd a_before_7 ((x1 + 67).toNatClampNeg) v_halves) fun a_before_9 => oin (x1 + 68) 71070 (ol (upd a_before_9 ((x1 + 68).toNatClampNeg) v_number) fun a_before_11 => ol (v_top + 1) fun y_12 => some (y_12, a_before_11)))))) else oin (x2) 64 (ol (a_board x2.toNatClampNeg) fun y_14 => oin (x1 + x2) 71070 (ol (upd a_before ((x1 + x2).toNatClampNeg) y_14) fun a_before_16 => ol (x2 + 1) fun x2_17 => k10 v_top a_before_16 x1 x2_17))
def m_X10_push_l10 (v_side : Int32) (v_rights : Int32) (v_passed : Int32) (v_halves : Int32) (v_number : Int32) (a_board : Nat → Int32) (n : Nat) : Int32 → (Nat → Int32) → Int32 → Int32 → Option (Int32 × (Nat → Int32)) := fz (fun _ _ _ _ => none) (fun k10 v_top a_before x1 x2 => m_X10_push_b10 k10 v_side v_rights v_passed v_halves v_number v_top a_board a_before x1 x2) n
def m_X10_push (v_side : Int32) (v_rights : Int32) (v_passed : Int32) (v_halves : Int32) (v_number : Int32) (v_top : Int32) (a_board : Nat → Int32) (a_before : Nat → Int32) : Option (Int32 × (Nat → Int32)) := ol (69 * v_top) fun x1_18 => m_X10_push_l10 v_side v_rights v_passed v_halves v_number a_board kF v_top a_before x1_18 0
abbrev rm_X10_push : Room := { frames := 0, cells := 0, slots := 0, locals := 0 }
abbrev wy_X10_push : List Cond := .code yX10_push cX10_push 3 none :: gT
theorem cv_X10_push {R : Room} {s : State} {args : Array Value} {own : String} {index : Nat} {w0 : Cond} (hts : ∀ w ∈ w0 :: gT, w.before args s = true) (hl : Cond.methodLink own index yX10_push ∈ gT) (hR : 0 + 1 ≤ R.frames ∧ 8 + (3 + 11) + 0 ≤ R.locals) : CallW R s args own RX10 index yX10_push cX10_push 3 none wy_X10_push rm_X10_push 0 0 0 :=
  cwV 0 hts (gT_call w0 (pre := [.methodLink own index yX10_push, .instanceMethod yX10_push, .selects RX10 yX10_push yX10_push, .initialized RX10]) (gT_lc hl (gT_lc ly_yX10_push (gT_lc lx_yX10_push (gT_l1 li_RX10)))) lc_yX10_push) rfl rfl rfl (by decide +kernel) hR
set_option maxRecDepth 100000 in
set_option maxHeartbeats 4000000 in
theorem c_X10_push (l : Launch) (D : va_G) (h0 : Nat) (q : Nat → Nat) (cI : ClassId) (v_code : Int32) (v_side : Int32) (v_rights : Int32) (v_passed : Int32) (v_halves : Int32) (v_number : Int32) (v_top : Int32) (v_typedCount : Int32) (v_readAt : Int32) (v_place : Int32) (v_writtenCount : Int32) (v_chosenFrom : Int32) (v_chosenTo : Int32) (v_chosenTurn : Int32) (v_changed : Int32) (v_readSide : Int32) (v_readRights : Int32) (v_readPassed : Int32) (v_readHalves : Int32) (v_readNumber : Int32) (a_board : Nat → Int32) (a_before : Nat → Int32) (a_typed : Nat → Int32) (a_written : Nat → Int32) (a_froms : Nat → Int32) (a_tos : Nat → Int32) (a_turns : Nat → Int32) (a_counts : Nat → Int32) (a_changedSquare : Nat → Int32) (a_changedMan : Nat → Int32) (a_readBoard : Nat → Int32) (v_top' : Int32) (a_before' : Nat → Int32) (hm : m_X10_push v_side v_rights v_passed v_halves v_number v_top a_board a_before = some (v_top', a_before')) : kDv l yX10_push wy_X10_push rm_X10_push D [(cI, .int)] (wM h0 q cI v_code v_side v_rights v_passed v_halves v_number v_top v_typedCount v_readAt v_place v_writtenCount v_chosenFrom v_chosenTo v_chosenTurn v_changed v_readSide v_readRights v_readPassed v_readHalves v_readNumber a_board a_before a_typed a_written a_froms a_tos a_turns a_counts a_changedSquare a_changedMan a_readBoard) (wM h0 q cI v_code v_side v_rights v_passed v_halves v_number v_top' v_typedCount v_readAt v_place v_writtenCount v_chosenFrom v_chosenTo v_chosenTurn v_changed v_readSide v_readRights v_readPassed v_readHalves v_readNumber a_board a_before' a_typed a_written a_froms a_tos a_turns a_counts a_changedSquare a_changedMan a_readBoard) [.ref h0] := by
  refine kDv.of cX10_push 3 none (by decide) rfl rfl (Nat.le_of_ble_eq_true rfl) ?_
  intro p e s m below meth c A Q C hret
  have hin10 : ∀ w ∈ wsX100, w ∈ wy_X10_push := fun w h => List.mem_cons_of_mem _ (inG10 w h)
  have l10 : ∀ (n10 : Nat) (v_top : Int32) (a_before : Nat → Int32) (x1 : Int32) (x2 : Int32), m_X10_push_l10  v_side v_rights v_passed v_halves v_number a_board n10 v_top a_before x1 x2 = some (v_top', a_before') → kv p l e rm_X10_push s m ([.ref h0] : List Value).toArray below meth c D A 3 0 0 Q (wM h0 q cI v_code v_side v_rights v_passed v_halves v_number v_top v_typedCount v_readAt v_place v_writtenCount v_chosenFrom v_chosenTo v_chosenTurn v_changed v_readSide v_readRights v_readPassed v_readHalves v_readNumber a_board a_before a_typed a_written a_froms a_tos a_turns a_counts a_changedSquare a_changedMan a_readBoard) [(0, .ref h0), (1, .int x1), (2, .int x2)] 10 [] := by
    intro n10
    induction n10 with
    | zero =>
      intro v_top a_before x1 x2 h
      exact kv_no h
    | succ n10 ih10 =>
      intro v_top a_before x1 x2 h
      replace h : m_X10_push_b10  (m_X10_push_l10  v_side v_rights v_passed v_halves v_number a_board n10) v_side v_rights v_passed v_halves v_number v_top a_board a_before x1 x2 = some (v_top', a_before') := h
      unfold m_X10_push_b10 at h
      refine kv_iload_n C 2 dX10_push_10 rfl rfl ?_
      refine kv_bipush C 64 dX10_push_11 (by decide) ?_
      refine kv_icmp_ge C 36 dX10_push_13 (by decide) (fun c_1 => ?_) (fun c_1 => ?_)
      · have h := oi_t h c_1
        refine kv_aload_n C 0 dX10_push_36 rfl rfl ?_
        refine kv_get C (Cn := RX10) (T := TX10) (N := 31) 0 7 hin10 rfl rfl (by decide) (C.ts _ (List.mem_cons_of_mem _ lf_RX10_18)) rfl rfl dX10_push_37 ?_
        refine kv_iload_n C 1 dX10_push_40 rfl rfl ?_
        refine kv_bipush C 64 dX10_push_41 (by decide) ?_
        refine kv_iadd C dX10_push_43 ?_
        refine kv_aload_n C 0 dX10_push_44 rfl rfl ?_
        refine kv_get C (Cn := RX10) (T := TX10) (N := 31) 0 2 hin10 rfl rfl (by decide) (C.ts _ (List.mem_cons_of_mem _ lf_RX10_119)) rfl rfl dX10_push_45 ?_
        obtain ⟨g_2, h⟩ := oin_e h
        obtain ⟨a_before_3, ea_before_3, h⟩ := ol_e h
        refine kv_iast2 C (ws1 := (wM h0 q cI v_code v_side v_rights v_passed v_halves v_number v_top v_typedCount v_readAt v_place v_writtenCount v_chosenFrom v_chosenTo v_chosenTurn v_changed v_readSide v_readRights v_readPassed v_readHalves v_readNumber a_board a_before_3 a_typed a_written a_froms a_tos a_turns a_counts a_changedSquare a_changedMan a_readBoard)) 2 0 rfl rfl g_2 ea_before_3 rfl dX10_push_48 ?_
        refine kv_aload_n C 0 dX10_push_49 rfl rfl ?_
        refine kv_get C (Cn := RX10) (T := TX10) (N := 31) 0 7 hin10 rfl rfl (by decide) (C.ts _ (List.mem_cons_of_mem _ lf_RX10_18)) rfl rfl dX10_push_50 ?_
        refine kv_iload_n C 1 dX10_push_53 rfl rfl ?_
        refine kv_bipush C 65 dX10_push_54 (by decide) ?_
        refine kv_iadd C dX10_push_56 ?_
        refine kv_aload_n C 0 dX10_push_57 rfl rfl ?_
        refine kv_get C (Cn := RX10) (T := TX10) (N := 31) 0 3 hin10 rfl rfl (by decide) (C.ts _ (List.mem_cons_of_mem _ lf_RX10_60)) rfl rfl dX10_push_58 ?_
        obtain ⟨g_4, h⟩ := oin_e h
        obtain ⟨a_before_5, ea_before_5, h⟩ := ol_e h
        refine kv_iast2 C (ws1 := (wM h0 q cI v_code v_side v_rights v_passed v_halves v_number v_top v_typedCount v_readAt v_place v_writtenCount v_chosenFrom v_chosenTo v_chosenTurn v_changed v_readSide v_readRights v_readPassed v_readHalves v_readNumber a_board a_before_5 a_typed a_written a_froms a_tos a_turns a_counts a_changedSquare a_changedMan a_readBoard)) 2 0 rfl rfl g_4 ea_before_5 rfl dX10_push_61 ?_
        refine kv_aload_n C 0 dX10_push_62 rfl rfl ?_
        refine kv_get C (Cn := RX10) (T := TX10) (N := 31) 0 7 hin10 rfl rfl (by decide) (C.ts _ (List.mem_cons_of_mem _ lf_RX10_18)) rfl rfl dX10_push_63 ?_
        refine kv_iload_n C 1 dX10_push_66 rfl rfl ?_
        refine kv_bipush C 66 dX10_push_67 (by decide) ?_
        refine kv_iadd C dX10_push_69 ?_
        refine kv_aload_n C 0 dX10_push_70 rfl rfl ?_
        refine kv_get C (Cn := RX10) (T := TX10) (N := 31) 0 4 hin10 rfl rfl (by decide) (C.ts _ (List.mem_cons_of_mem _ lf_RX10_13)) rfl rfl dX10_push_71 ?_
        obtain ⟨g_6, h⟩ := oin_e h
        obtain ⟨a_before_7, ea_before_7, h⟩ := ol_e h
        refine kv_iast2 C (ws1 := (wM h0 q cI v_code v_side v_rights v_passed v_halves v_number v_top v_typedCount v_readAt v_place v_writtenCount v_chosenFrom v_chosenTo v_chosenTurn v_changed v_readSide v_readRights v_readPassed v_readHalves v_readNumber a_board a_before_7 a_typed a_written a_froms a_tos a_turns a_counts a_changedSquare a_changedMan a_readBoard)) 2 0 rfl rfl g_6 ea_before_7 rfl dX10_push_74 ?_
        refine kv_aload_n C 0 dX10_push_75 rfl rfl ?_
        refine kv_get C (Cn := RX10) (T := TX10) (N := 31) 0 7 hin10 rfl rfl (by decide) (C.ts _ (List.mem_cons_of_mem _ lf_RX10_18)) rfl rfl dX10_push_76 ?_
        refine kv_iload_n C 1 dX10_push_79 rfl rfl ?_
        refine kv_bipush C 67 dX10_push_80 (by decide) ?_
        refine kv_iadd C dX10_push_82 ?_
        refine kv_aload_n C 0 dX10_push_83 rfl rfl ?_
        refine kv_get C (Cn := RX10) (T := TX10) (N := 31) 0 5 hin10 rfl rfl (by decide) (C.ts _ (List.mem_cons_of_mem _ lf_RX10_122)) rfl rfl dX10_push_84 ?_
        obtain ⟨g_8, h⟩ := oin_e h
        obtain ⟨a_before_9, ea_before_9, h⟩ := ol_e h
        refine kv_iast2 C (ws1 := (wM h0 q cI v_code v_side v_rights v_passed v_halves v_number v_top v_typedCount v_readAt v_place v_writtenCount v_chosenFrom v_chosenTo v_chosenTurn v_changed v_readSide v_readRights v_readPassed v_readHalves v_readNumber a_board a_before_9 a_typed a_written a_froms a_tos a_turns a_counts a_changedSquare a_changedMan a_readBoard)) 2 0 rfl rfl g_8 ea_before_9 rfl dX10_push_87 ?_
        refine kv_aload_n C 0 dX10_push_88 rfl rfl ?_
        refine kv_get C (Cn := RX10) (T := TX10) (N := 31) 0 7 hin10 rfl rfl (by decide) (C.ts _ (List.mem_cons_of_mem _ lf_RX10_18)) rfl rfl dX10_push_89 ?_
        refine kv_iload_n C 1 dX10_push_92 rfl rfl ?_
        refine kv_bipush C 68 dX10_push_93 (by decide) ?_
        refine kv_iadd C dX10_push_95 ?_
        refine kv_aload_n C 0 dX10_push_96 rfl rfl ?_
        refine kv_get C (Cn := RX10) (T := TX10) (N := 31) 0 6 hin10 rfl rfl (by decide) (C.ts _ (List.mem_cons_of_mem _ lf_RX10_63)) rfl rfl dX10_push_97 ?_
        obtain ⟨g_10, h⟩ := oin_e h
        obtain ⟨a_before_11, ea_before_11, h⟩ := ol_e h
        refine kv_iast2 C (ws1 := (wM h0 q cI v_code v_side v_rights v_passed v_halves v_number v_top v_typedCount v_readAt v_place v_writtenCount v_chosenFrom v_chosenTo v_chosenTurn v_changed v_readSide v_readRights v_readPassed v_readHalves v_readNumber a_board a_before_11 a_typed a_written a_froms a_tos a_turns a_counts a_changedSquare a_changedMan a_readBoard)) 2 0 rfl rfl g_10 ea_before_11 rfl dX10_push_100 ?_
        refine kv_aload_n C 0 dX10_push_101 rfl rfl ?_
        refine kv_dup C dX10_push_102 rfl ?_
        refine kv_get C (Cn := RX10) (T := TX10) (N := 31) 0 8 hin10 rfl rfl (by decide) (C.ts _ (List.mem_cons_of_mem _ lf_RX10_116)) rfl rfl dX10_push_103 ?_
        refine kv_iconst C 1 dX10_push_106 (by decide) ?_
        refine kv_iadd C dX10_push_107 ?_
        obtain ⟨y_12, ey_12, h⟩ := ol_e h
        refine kv_top ey_12 ?_
        refine kv_put C (Cn := RX10) (T := TX10) (N := 31) (ty := .int) (ws1 := (wM h0 q cI v_code v_side v_rights v_passed v_halves v_number y_12 v_typedCount v_readAt v_place v_writtenCount v_chosenFrom v_chosenTo v_chosenTurn v_changed v_readSide v_readRights v_readPassed v_readHalves v_readNumber a_board a_before_11 a_typed a_written a_froms a_tos a_turns a_counts a_changedSquare a_changedMan a_readBoard)) 0 8 hin10 tyX10 tyX10_ok nmX10 rfl rfl (by decide) (C.ts _ (List.mem_cons_of_mem _ lf_RX10_116)) rfl rfl (by decide +kernel) rfl rfl (Nat.le_of_ble_eq_true rfl) rfl dX10_push_108 ?_
        cases h
        exact hret _ _ dX10_push_111
      · have h := oi_f h c_1
        refine kv_aload_n C 0 dX10_push_16 rfl rfl ?_
        refine kv_get C (Cn := RX10) (T := TX10) (N := 31) 0 7 hin10 rfl rfl (by decide) (C.ts _ (List.mem_cons_of_mem _ lf_RX10_18)) rfl rfl dX10_push_17 ?_
        refine kv_iload_n C 1 dX10_push_20 rfl rfl ?_
        refine kv_iload_n C 2 dX10_push_21 rfl rfl ?_
        refine kv_iadd C dX10_push_22 ?_
        refine kv_aload_n C 0 dX10_push_23 rfl rfl ?_
        refine kv_get C (Cn := RX10) (T := TX10) (N := 31) 0 1 hin10 rfl rfl (by decide) (C.ts _ (List.mem_cons_of_mem _ lf_RX10_7)) rfl rfl dX10_push_24 ?_
        refine kv_iload_n C 2 dX10_push_27 rfl rfl ?_
        obtain ⟨g_13, h⟩ := oin_e h
        refine kv_iald C 1 0 rfl rfl g_13 dX10_push_28 ?_
        obtain ⟨y_14, ey_14, h⟩ := ol_e h
        refine kv_top ey_14 ?_
        obtain ⟨g_15, h⟩ := oin_e h
        obtain ⟨a_before_16, ea_before_16, h⟩ := ol_e h
        refine kv_iast2 C (ws1 := (wM h0 q cI v_code v_side v_rights v_passed v_halves v_number v_top v_typedCount v_readAt v_place v_writtenCount v_chosenFrom v_chosenTo v_chosenTurn v_changed v_readSide v_readRights v_readPassed v_readHalves v_readNumber a_board a_before_16 a_typed a_written a_froms a_tos a_turns a_counts a_changedSquare a_changedMan a_readBoard)) 2 0 rfl rfl g_15 ea_before_16 rfl dX10_push_29 ?_
        obtain ⟨x2_17, ex2_17, h⟩ := ol_e h
        refine kv_iinc C (v := x2_17) (lv2 := [(0, .ref h0), (1, .int x1), (2, .int x2_17)]) 2 [1, 2, 0] dX10_push_30 rfl ex2_17.symm (by decide) rfl rfl ?_
        refine kv_goto C 10 dX10_push_33 (by decide) ?_
        exact kv_lv [0, 1, 2] (lv2 := [(0, .ref h0), (1, .int x1), (2, .int x2_17)]) rfl (ih10 v_top a_before_16 x1 x2_17 h)
  unfold m_X10_push at hm
  have h := hm
  refine kv_lv [0] (lv2 := [(0, .ref h0)]) rfl ?_
  refine kv_bipush C 69 dX10_push_0 (by decide) ?_
  refine kv_aload_n C 0 dX10_push_2 rfl rfl ?_
  refine kv_get C (Cn := RX10) (T := TX10) (N := 31) 0 8 hin10 rfl rfl (by decide) (C.ts _ (List.mem_cons_of_mem _ lf_RX10_116)) rfl rfl dX10_push_3 ?_
  refine kv_imul C dX10_push_6 ?_
  obtain ⟨x1_18, ex1_18, h⟩ := ol_e h
  refine kv_top ex1_18 ?_
  refine kv_istore_n C (lv2 := [(0, .ref h0), (1, .int x1_18)]) [1, 0] dX10_push_7 rfl (by decide) rfl rfl ?_
  refine kv_iconst C 0 dX10_push_8 (by decide) ?_
  refine kv_istore_n C (lv2 := [(0, .ref h0), (1, .int x1_18), (2, .int 0)]) [1, 2, 0] dX10_push_9 rfl (by decide) rfl rfl ?_
  exact kv_lv [0, 1, 2] (lv2 := [(0, .ref h0), (1, .int x1_18), (2, .int 0)]) rfl (l10 kF v_top a_before x1_18 0 h)
def m_X10_pop_b20 (k20 : Int32 → Int32 → Int32 → Int32 → Int32 → Int32 → (Nat → Int32) → Int32 → Int32 → Option (Int32 × Int32 × Int32 × Int32 × Int32 × Int32 × (Nat → Int32))) (v_side : Int32) (v_rights : Int32) (v_passed : Int32) (v_halves : Int32) (v_number : Int32) (v_top : Int32) (a_board : Nat → Int32) (a_before : Nat → Int32) (x1 : Int32) (x2 : Int32) : Option (Int32 × Int32 × Int32 × Int32 × Int32 × Int32 × (Nat → Int32)) := if 64 ≤ x2 then oin (x1 + 64) 71070 (ol (a_before (x1 + 64).toNatClampNeg) fun y_3 => oin (x1 + 65) 71070 (ol (a_before (x1 + 65).toNatClampNeg) fun y_5 => oin (x1 + 66) 71070 (ol (a_before (x1 + 66).toNatClampNeg) fun y_7 => oin (x1 + 67) 71070 (ol (a_before (x1 + 67).toNatClampNeg) fun y_9 => oin (x1 + 68) 71070 (ol (a_before (x1 + 68).toNatClampNeg) fun y_11 => some (y_3, y_5, y_7, y_9, y_11, v_top, a_board)))))) else oin (x1 + x2) 71070 (ol (a_before (x1 + x2).toNatClampNeg) fun y_13 => oin (x2) 64 (ol (upd a_board (x2.toNatClampNeg) y_13) fun a_board_15 => ol (x2 + 1) fun x2_16 => k20 v_side v_rights v_passed v_halves v_number v_top a_board_15 x1 x2_16))
def m_X10_pop_l20 (a_before : Nat → Int32) (n : Nat) : Int32 → Int32 → Int32 → Int32 → Int32 → Int32 → (Nat → Int32) → Int32 → Int32 → Option (Int32 × Int32 × Int32 × Int32 × Int32 × Int32 × (Nat → Int32)) := fz (fun _ _ _ _ _ _ _ _ _ => none) (fun k20 v_side v_rights v_passed v_halves v_number v_top a_board x1 x2 => m_X10_pop_b20 k20 v_side v_rights v_passed v_halves v_number v_top a_board a_before x1 x2) n
def m_X10_pop (v_side : Int32) (v_rights : Int32) (v_passed : Int32) (v_halves : Int32) (v_number : Int32) (v_top : Int32) (a_board : Nat → Int32) (a_before : Nat → Int32) : Option (Int32 × Int32 × Int32 × Int32 × Int32 × Int32 × (Nat → Int32)) := ol (v_top - 1) fun y_17 => ol (69 * y_17) fun x1_18 => m_X10_pop_l20 a_before kF v_side v_rights v_passed v_halves v_number y_17 a_board x1_18 0
abbrev rm_X10_pop : Room := { frames := 0, cells := 0, slots := 0, locals := 0 }
abbrev wy_X10_pop : List Cond := .code yX10_pop cX10_pop 3 none :: gT
theorem cv_X10_pop {R : Room} {s : State} {args : Array Value} {own : String} {index : Nat} {w0 : Cond} (hts : ∀ w ∈ w0 :: gT, w.before args s = true) (hl : Cond.methodLink own index yX10_pop ∈ gT) (hR : 0 + 1 ≤ R.frames ∧ 8 + (3 + 11) + 0 ≤ R.locals) : CallW R s args own RX10 index yX10_pop cX10_pop 3 none wy_X10_pop rm_X10_pop 0 0 0 :=
  cwV 0 hts (gT_call w0 (pre := [.methodLink own index yX10_pop, .instanceMethod yX10_pop, .selects RX10 yX10_pop yX10_pop, .initialized RX10]) (gT_lc hl (gT_lc ly_yX10_pop (gT_lc lx_yX10_pop (gT_l1 li_RX10)))) lc_yX10_pop) rfl rfl rfl (by decide +kernel) hR
set_option maxRecDepth 100000 in
set_option maxHeartbeats 4000000 in
theorem c_X10_pop (l : Launch) (D : va_G) (h0 : Nat) (q : Nat → Nat) (cI : ClassId) (v_code : Int32) (v_side : Int32) (v_rights : Int32) (v_passed : Int32) (v_halves : Int32) (v_number : Int32) (v_top : Int32) (v_typedCount : Int32) (v_readAt : Int32) (v_place : Int32) (v_writtenCount : Int32) (v_chosenFrom : Int32) (v_chosenTo : Int32) (v_chosenTurn : Int32) (v_changed : Int32) (v_readSide : Int32) (v_readRights : Int32) (v_readPassed : Int32) (v_readHalves : Int32) (v_readNumber : Int32) (a_board : Nat → Int32) (a_before : Nat → Int32) (a_typed : Nat → Int32) (a_written : Nat → Int32) (a_froms : Nat → Int32) (a_tos : Nat → Int32) (a_turns : Nat → Int32) (a_counts : Nat → Int32) (a_changedSquare : Nat → Int32) (a_changedMan : Nat → Int32) (a_readBoard : Nat → Int32) (v_side' : Int32) (v_rights' : Int32) (v_passed' : Int32) (v_halves' : Int32) (v_number' : Int32) (v_top' : Int32) (a_board' : Nat → Int32) (hm : m_X10_pop v_side v_rights v_passed v_halves v_number v_top a_board a_before = some (v_side', v_rights', v_passed', v_halves', v_number', v_top', a_board')) : kDv l yX10_pop wy_X10_pop rm_X10_pop D [(cI, .int)] (wM h0 q cI v_code v_side v_rights v_passed v_halves v_number v_top v_typedCount v_readAt v_place v_writtenCount v_chosenFrom v_chosenTo v_chosenTurn v_changed v_readSide v_readRights v_readPassed v_readHalves v_readNumber a_board a_before a_typed a_written a_froms a_tos a_turns a_counts a_changedSquare a_changedMan a_readBoard) (wM h0 q cI v_code v_side' v_rights' v_passed' v_halves' v_number' v_top' v_typedCount v_readAt v_place v_writtenCount v_chosenFrom v_chosenTo v_chosenTurn v_changed v_readSide v_readRights v_readPassed v_readHalves v_readNumber a_board' a_before a_typed a_written a_froms a_tos a_turns a_counts a_changedSquare a_changedMan a_readBoard) [.ref h0] := by
  refine kDv.of cX10_pop 3 none (by decide) rfl rfl (Nat.le_of_ble_eq_true rfl) ?_
  intro p e s m below meth c A Q C hret
  have hin10 : ∀ w ∈ wsX100, w ∈ wy_X10_pop := fun w h => List.mem_cons_of_mem _ (inG10 w h)
  have l20 : ∀ (n20 : Nat) (v_side : Int32) (v_rights : Int32) (v_passed : Int32) (v_halves : Int32) (v_number : Int32) (v_top : Int32) (a_board : Nat → Int32) (x1 : Int32) (x2 : Int32), m_X10_pop_l20  a_before n20 v_side v_rights v_passed v_halves v_number v_top a_board x1 x2 = some (v_side', v_rights', v_passed', v_halves', v_number', v_top', a_board') → kv p l e rm_X10_pop s m ([.ref h0] : List Value).toArray below meth c D A 3 0 0 Q (wM h0 q cI v_code v_side v_rights v_passed v_halves v_number v_top v_typedCount v_readAt v_place v_writtenCount v_chosenFrom v_chosenTo v_chosenTurn v_changed v_readSide v_readRights v_readPassed v_readHalves v_readNumber a_board a_before a_typed a_written a_froms a_tos a_turns a_counts a_changedSquare a_changedMan a_readBoard) [(0, .ref h0), (1, .int x1), (2, .int x2)] 20 [] := by
    intro n20
    induction n20 with
    | zero =>
      intro v_side v_rights v_passed v_halves v_number v_top a_board x1 x2 h
      exact kv_no h
    | succ n20 ih20 =>
      intro v_side v_rights v_passed v_halves v_number v_top a_board x1 x2 h
      replace h : m_X10_pop_b20  (m_X10_pop_l20  a_before n20) v_side v_rights v_passed v_halves v_number v_top a_board a_before x1 x2 = some (v_side', v_rights', v_passed', v_halves', v_number', v_top', a_board') := h
      unfold m_X10_pop_b20 at h
      refine kv_iload_n C 2 dX10_pop_20 rfl rfl ?_
      refine kv_bipush C 64 dX10_pop_21 (by decide) ?_
      refine kv_icmp_ge C 46 dX10_pop_23 (by decide) (fun c_1 => ?_) (fun c_1 => ?_)
      · have h := oi_t h c_1
        refine kv_aload_n C 0 dX10_pop_46 rfl rfl ?_
        refine kv_aload_n C 0 dX10_pop_47 rfl rfl ?_
        refine kv_get C (Cn := RX10) (T := TX10) (N := 31) 0 7 hin10 rfl rfl (by decide) (C.ts _ (List.mem_cons_of_mem _ lf_RX10_18)) rfl rfl dX10_pop_48 ?_
        refine kv_iload_n C 1 dX10_pop_51 rfl rfl ?_
        refine kv_bipush C 64 dX10_pop_52 (by decide) ?_
        refine kv_iadd C dX10_pop_54 ?_
        obtain ⟨g_2, h⟩ := oin_e h
        refine kv_iald C 2 0 rfl rfl g_2 dX10_pop_55 ?_
        obtain ⟨y_3, ey_3, h⟩ := ol_e h
        refine kv_top ey_3 ?_
        refine kv_put C (Cn := RX10) (T := TX10) (N := 31) (ty := .int) (ws1 := (wM h0 q cI v_code y_3 v_rights v_passed v_halves v_number v_top v_typedCount v_readAt v_place v_writtenCount v_chosenFrom v_chosenTo v_chosenTurn v_changed v_readSide v_readRights v_readPassed v_readHalves v_readNumber a_board a_before a_typed a_written a_froms a_tos a_turns a_counts a_changedSquare a_changedMan a_readBoard)) 0 2 hin10 tyX10 tyX10_ok nmX10 rfl rfl (by decide) (C.ts _ (List.mem_cons_of_mem _ lf_RX10_119)) rfl rfl (by decide +kernel) rfl rfl (Nat.le_of_ble_eq_true rfl) rfl dX10_pop_56 ?_
        refine kv_aload_n C 0 dX10_pop_59 rfl rfl ?_
        refine kv_aload_n C 0 dX10_pop_60 rfl rfl ?_
        refine kv_get C (Cn := RX10) (T := TX10) (N := 31) 0 7 hin10 rfl rfl (by decide) (C.ts _ (List.mem_cons_of_mem _ lf_RX10_18)) rfl rfl dX10_pop_61 ?_
        refine kv_iload_n C 1 dX10_pop_64 rfl rfl ?_
        refine kv_bipush C 65 dX10_pop_65 (by decide) ?_
        refine kv_iadd C dX10_pop_67 ?_
        obtain ⟨g_4, h⟩ := oin_e h
        refine kv_iald C 2 0 rfl rfl g_4 dX10_pop_68 ?_
        obtain ⟨y_5, ey_5, h⟩ := ol_e h
        refine kv_top ey_5 ?_
        refine kv_put C (Cn := RX10) (T := TX10) (N := 31) (ty := .int) (ws1 := (wM h0 q cI v_code y_3 y_5 v_passed v_halves v_number v_top v_typedCount v_readAt v_place v_writtenCount v_chosenFrom v_chosenTo v_chosenTurn v_changed v_readSide v_readRights v_readPassed v_readHalves v_readNumber a_board a_before a_typed a_written a_froms a_tos a_turns a_counts a_changedSquare a_changedMan a_readBoard)) 0 3 hin10 tyX10 tyX10_ok nmX10 rfl rfl (by decide) (C.ts _ (List.mem_cons_of_mem _ lf_RX10_60)) rfl rfl (by decide +kernel) rfl rfl (Nat.le_of_ble_eq_true rfl) rfl dX10_pop_69 ?_
        refine kv_aload_n C 0 dX10_pop_72 rfl rfl ?_
        refine kv_aload_n C 0 dX10_pop_73 rfl rfl ?_
        refine kv_get C (Cn := RX10) (T := TX10) (N := 31) 0 7 hin10 rfl rfl (by decide) (C.ts _ (List.mem_cons_of_mem _ lf_RX10_18)) rfl rfl dX10_pop_74 ?_
        refine kv_iload_n C 1 dX10_pop_77 rfl rfl ?_
        refine kv_bipush C 66 dX10_pop_78 (by decide) ?_
        refine kv_iadd C dX10_pop_80 ?_
        obtain ⟨g_6, h⟩ := oin_e h
        refine kv_iald C 2 0 rfl rfl g_6 dX10_pop_81 ?_
        obtain ⟨y_7, ey_7, h⟩ := ol_e h
        refine kv_top ey_7 ?_
        refine kv_put C (Cn := RX10) (T := TX10) (N := 31) (ty := .int) (ws1 := (wM h0 q cI v_code y_3 y_5 y_7 v_halves v_number v_top v_typedCount v_readAt v_place v_writtenCount v_chosenFrom v_chosenTo v_chosenTurn v_changed v_readSide v_readRights v_readPassed v_readHalves v_readNumber a_board a_before a_typed a_written a_froms a_tos a_turns a_counts a_changedSquare a_changedMan a_readBoard)) 0 4 hin10 tyX10 tyX10_ok nmX10 rfl rfl (by decide) (C.ts _ (List.mem_cons_of_mem _ lf_RX10_13)) rfl rfl (by decide +kernel) rfl rfl (Nat.le_of_ble_eq_true rfl) rfl dX10_pop_82 ?_
        refine kv_aload_n C 0 dX10_pop_85 rfl rfl ?_
        refine kv_aload_n C 0 dX10_pop_86 rfl rfl ?_
        refine kv_get C (Cn := RX10) (T := TX10) (N := 31) 0 7 hin10 rfl rfl (by decide) (C.ts _ (List.mem_cons_of_mem _ lf_RX10_18)) rfl rfl dX10_pop_87 ?_
        refine kv_iload_n C 1 dX10_pop_90 rfl rfl ?_
        refine kv_bipush C 67 dX10_pop_91 (by decide) ?_
        refine kv_iadd C dX10_pop_93 ?_
        obtain ⟨g_8, h⟩ := oin_e h
        refine kv_iald C 2 0 rfl rfl g_8 dX10_pop_94 ?_
        obtain ⟨y_9, ey_9, h⟩ := ol_e h
        refine kv_top ey_9 ?_
        refine kv_put C (Cn := RX10) (T := TX10) (N := 31) (ty := .int) (ws1 := (wM h0 q cI v_code y_3 y_5 y_7 y_9 v_number v_top v_typedCount v_readAt v_place v_writtenCount v_chosenFrom v_chosenTo v_chosenTurn v_changed v_readSide v_readRights v_readPassed v_readHalves v_readNumber a_board a_before a_typed a_written a_froms a_tos a_turns a_counts a_changedSquare a_changedMan a_readBoard)) 0 5 hin10 tyX10 tyX10_ok nmX10 rfl rfl (by decide) (C.ts _ (List.mem_cons_of_mem _ lf_RX10_122)) rfl rfl (by decide +kernel) rfl rfl (Nat.le_of_ble_eq_true rfl) rfl dX10_pop_95 ?_
        refine kv_aload_n C 0 dX10_pop_98 rfl rfl ?_
        refine kv_aload_n C 0 dX10_pop_99 rfl rfl ?_
        refine kv_get C (Cn := RX10) (T := TX10) (N := 31) 0 7 hin10 rfl rfl (by decide) (C.ts _ (List.mem_cons_of_mem _ lf_RX10_18)) rfl rfl dX10_pop_100 ?_
        refine kv_iload_n C 1 dX10_pop_103 rfl rfl ?_
        refine kv_bipush C 68 dX10_pop_104 (by decide) ?_
        refine kv_iadd C dX10_pop_106 ?_
        obtain ⟨g_10, h⟩ := oin_e h
        refine kv_iald C 2 0 rfl rfl g_10 dX10_pop_107 ?_
        obtain ⟨y_11, ey_11, h⟩ := ol_e h
        refine kv_top ey_11 ?_
        refine kv_put C (Cn := RX10) (T := TX10) (N := 31) (ty := .int) (ws1 := (wM h0 q cI v_code y_3 y_5 y_7 y_9 y_11 v_top v_typedCount v_readAt v_place v_writtenCount v_chosenFrom v_chosenTo v_chosenTurn v_changed v_readSide v_readRights v_readPassed v_readHalves v_readNumber a_board a_before a_typed a_written a_froms a_tos a_turns a_counts a_changedSquare a_changedMan a_readBoard)) 0 6 hin10 tyX10 tyX10_ok nmX10 rfl rfl (by decide) (C.ts _ (List.mem_cons_of_mem _ lf_RX10_63)) rfl rfl (by decide +kernel) rfl rfl (Nat.le_of_ble_eq_true rfl) rfl dX10_pop_108 ?_
        cases h
        exact hret _ _ dX10_pop_111
      · have h := oi_f h c_1
        refine kv_aload_n C 0 dX10_pop_26 rfl rfl ?_
        refine kv_get C (Cn := RX10) (T := TX10) (N := 31) 0 1 hin10 rfl rfl (by decide) (C.ts _ (List.mem_cons_of_mem _ lf_RX10_7)) rfl rfl dX10_pop_27 ?_
        refine kv_iload_n C 2 dX10_pop_30 rfl rfl ?_
        refine kv_aload_n C 0 dX10_pop_31 rfl rfl ?_
        refine kv_get C (Cn := RX10) (T := TX10) (N := 31) 0 7 hin10 rfl rfl (by decide) (C.ts _ (List.mem_cons_of_mem _ lf_RX10_18)) rfl rfl dX10_pop_32 ?_
        refine kv_iload_n C 1 dX10_pop_35 rfl rfl ?_
        refine kv_iload_n C 2 dX10_pop_36 rfl rfl ?_
        refine kv_iadd C dX10_pop_37 ?_
        obtain ⟨g_12, h⟩ := oin_e h
        refine kv_iald C 2 0 rfl rfl g_12 dX10_pop_38 ?_
        obtain ⟨y_13, ey_13, h⟩ := ol_e h
        refine kv_top ey_13 ?_
        obtain ⟨g_14, h⟩ := oin_e h
        obtain ⟨a_board_15, ea_board_15, h⟩ := ol_e h
        refine kv_iast2 C (ws1 := (wM h0 q cI v_code v_side v_rights v_passed v_halves v_number v_top v_typedCount v_readAt v_place v_writtenCount v_chosenFrom v_chosenTo v_chosenTurn v_changed v_readSide v_readRights v_readPassed v_readHalves v_readNumber a_board_15 a_before a_typed a_written a_froms a_tos a_turns a_counts a_changedSquare a_changedMan a_readBoard)) 1 0 rfl rfl g_14 ea_board_15 rfl dX10_pop_39 ?_
        obtain ⟨x2_16, ex2_16, h⟩ := ol_e h
        refine kv_iinc C (v := x2_16) (lv2 := [(0, .ref h0), (1, .int x1), (2, .int x2_16)]) 2 [1, 2, 0] dX10_pop_40 rfl ex2_16.symm (by decide) rfl rfl ?_
        refine kv_goto C 20 dX10_pop_43 (by decide) ?_
        exact kv_lv [0, 1, 2] (lv2 := [(0, .ref h0), (1, .int x1), (2, .int x2_16)]) rfl (ih20 v_side v_rights v_passed v_halves v_number v_top a_board_15 x1 x2_16 h)
  unfold m_X10_pop at hm
  have h := hm
  refine kv_lv [0] (lv2 := [(0, .ref h0)]) rfl ?_
  refine kv_aload_n C 0 dX10_pop_0 rfl rfl ?_
  refine kv_dup C dX10_pop_1 rfl ?_
  refine kv_get C (Cn := RX10) (T := TX10) (N := 31) 0 8 hin10 rfl rfl (by decide) (C.ts _ (List.mem_cons_of_mem _ lf_RX10_116)) rfl rfl dX10_pop_2 ?_
  refine kv_iconst C 1 dX10_pop_5 (by decide) ?_
  refine kv_isub C dX10_pop_6 ?_
  obtain ⟨y_17, ey_17, h⟩ := ol_e h
  refine kv_top ey_17 ?_
  refine kv_put C (Cn := RX10) (T := TX10) (N := 31) (ty := .int) (ws1 := (wM h0 q cI v_code v_side v_rights v_passed v_halves v_number y_17 v_typedCount v_readAt v_place v_writtenCount v_chosenFrom v_chosenTo v_chosenTurn v_changed v_readSide v_readRights v_readPassed v_readHalves v_readNumber a_board a_before a_typed a_written a_froms a_tos a_turns a_counts a_changedSquare a_changedMan a_readBoard)) 0 8 hin10 tyX10 tyX10_ok nmX10 rfl rfl (by decide) (C.ts _ (List.mem_cons_of_mem _ lf_RX10_116)) rfl rfl (by decide +kernel) rfl rfl (Nat.le_of_ble_eq_true rfl) rfl dX10_pop_7 ?_
  refine kv_bipush C 69 dX10_pop_10 (by decide) ?_
  refine kv_aload_n C 0 dX10_pop_12 rfl rfl ?_
  refine kv_get C (Cn := RX10) (T := TX10) (N := 31) 0 8 hin10 rfl rfl (by decide) (C.ts _ (List.mem_cons_of_mem _ lf_RX10_116)) rfl rfl dX10_pop_13 ?_
  refine kv_imul C dX10_pop_16 ?_
  obtain ⟨x1_18, ex1_18, h⟩ := ol_e h
  refine kv_top ex1_18 ?_
  refine kv_istore_n C (lv2 := [(0, .ref h0), (1, .int x1_18)]) [1, 0] dX10_pop_17 rfl (by decide) rfl rfl ?_
  refine kv_iconst C 0 dX10_pop_18 (by decide) ?_
  refine kv_istore_n C (lv2 := [(0, .ref h0), (1, .int x1_18), (2, .int 0)]) [1, 2, 0] dX10_pop_19 rfl (by decide) rfl rfl ?_
  exact kv_lv [0, 1, 2] (lv2 := [(0, .ref h0), (1, .int x1_18), (2, .int 0)]) rfl (l20 kF v_side v_rights v_passed v_halves v_number y_17 a_board x1_18 0 h)
def m_X10_rightsAt (p0 : Int32) : Option (Int32) := if p0 = 0 then some 2 else if p0 = 4 then some 3 else if p0 = 7 then some 1 else if p0 = 56 then some 8 else if p0 = 60 then some 12 else if p0 = 63 then some 4 else some 0
abbrev rm_X10_rightsAt : Room := { frames := 0, cells := 0, slots := 0, locals := 0 }
abbrev wy_X10_rightsAt : List Cond := .code yX10_rightsAt cX10_rightsAt 1 (some .int) :: gT
theorem cs_X10_rightsAt {R : Room} {s : State} {args : Array Value} {own : String} {index : Nat} {w0 : Cond} (hts : ∀ w ∈ w0 :: gT, w.before args s = true) (hl : Cond.methodLink own index yX10_rightsAt ∈ gT) (hR : 0 + 1 ≤ R.frames ∧ 8 + (1 + 11) + 0 ≤ R.locals) : CallB R s args own index yX10_rightsAt cX10_rightsAt 1 (some .int) wy_X10_rightsAt rm_X10_rightsAt 0 0 1 ∧ (Cond.static yX10_rightsAt).before args s = true :=
  va_cwS 1 hts (gT_call w0 (pre := [.methodLink own index yX10_rightsAt, .static yX10_rightsAt, .initialized yX10_rightsAt.cls]) (gT_lc hl (gT_lc ls_yX10_rightsAt (gT_l1 li_RX10))) lc_yX10_rightsAt) rfl rfl rfl (by decide +kernel) hR
set_option maxRecDepth 100000 in
set_option maxHeartbeats 4000000 in
theorem c_X10_rightsAt (l : Launch) (D : va_G) (p0 : Int32) (rv : Int32) (hm : m_X10_rightsAt p0 = some rv) : kDi l yX10_rightsAt wy_X10_rightsAt rm_X10_rightsAt D [] rv [] [] [.int p0] := by
  refine kDi.of cX10_rightsAt 1 (some .int) (by decide) rfl (Or.inl rfl) (Nat.le_of_ble_eq_true rfl) ?_
  intro p e s m below meth c A Q C hret
  unfold m_X10_rightsAt at hm
  have h := hm
  refine kv_lv [0] (lv2 := [(0, .int p0)]) rfl ?_
  refine kv_iload_n C 0 dX10_rightsAt_0 rfl rfl ?_
  by_cases c_1 : p0 = 0
  · have h := oi_t h c_1
    refine kv_lookupIn C 0 60 dX10_rightsAt_1 c_1 (by decide) rfl (by decide) ?_
    refine kv_iconst C 2 dX10_rightsAt_60 (by decide) ?_
    cases h
    exact hret _ _ dX10_rightsAt_61 (fun q => by cases q)
  have h := oi_f h c_1
  by_cases c_2 : p0 = 4
  · have h := oi_t h c_2
    refine kv_lookupIn C 4 62 dX10_rightsAt_1 c_2 (by decide) rfl (by decide) ?_
    refine kv_iconst C 3 dX10_rightsAt_62 (by decide) ?_
    cases h
    exact hret _ _ dX10_rightsAt_63 (fun q => by cases q)
  have h := oi_f h c_2
  by_cases c_3 : p0 = 7
  · have h := oi_t h c_3
    refine kv_lookupIn C 7 64 dX10_rightsAt_1 c_3 (by decide) rfl (by decide) ?_
    refine kv_iconst C 1 dX10_rightsAt_64 (by decide) ?_
    cases h
    exact hret _ _ dX10_rightsAt_65 (fun q => by cases q)
  have h := oi_f h c_3
  by_cases c_4 : p0 = 56
  · have h := oi_t h c_4
    refine kv_lookupIn C 56 66 dX10_rightsAt_1 c_4 (by decide) rfl (by decide) ?_
    refine kv_bipush C 8 dX10_rightsAt_66 (by decide) ?_
    cases h
    exact hret _ _ dX10_rightsAt_68 (fun q => by cases q)
  have h := oi_f h c_4
  by_cases c_5 : p0 = 60
  · have h := oi_t h c_5
    refine kv_lookupIn C 60 69 dX10_rightsAt_1 c_5 (by decide) rfl (by decide) ?_
    refine kv_bipush C 12 dX10_rightsAt_69 (by decide) ?_
    cases h
    exact hret _ _ dX10_rightsAt_71 (fun q => by cases q)
  have h := oi_f h c_5
  by_cases c_6 : p0 = 63
  · have h := oi_t h c_6
    refine kv_lookupIn C 63 72 dX10_rightsAt_1 c_6 (by decide) rfl (by decide) ?_
    refine kv_iconst C 4 dX10_rightsAt_72 (by decide) ?_
    cases h
    exact hret _ _ dX10_rightsAt_73 (fun q => by cases q)
  have h := oi_f h c_6
  have qc_1 := (kv_ne c_1).symm
  have qc_2 := (kv_ne c_2).symm
  have qc_3 := (kv_ne c_3).symm
  have qc_4 := (kv_ne c_4).symm
  have qc_5 := (kv_ne c_5).symm
  have qc_6 := (kv_ne c_6).symm
  refine kv_lookupOut C 74 dX10_rightsAt_1 (by decide) (by simp at qc_1 qc_2 qc_3 qc_4 qc_5 qc_6; simp [Op.lookupswitch.offset, qc_1, qc_2, qc_3, qc_4, qc_5, qc_6]) (by decide) ?_
  refine kv_iconst C 0 dX10_rightsAt_74 (by decide) ?_
  cases h
  exact hret _ _ dX10_rightsAt_75 (fun q => by cases q)
def m_X10_isTakenAt_b90 (k15 : Int32 → (Nat → Int32) → (Nat → Int32) → (Nat → Int32) → Int32 → Int32 → Int32 → Int32 → Option (Int32 × Int32 × (Nat → Int32) × (Nat → Int32) × (Nat → Int32))) (v_side : Int32) (v_changed : Int32) (a_board : Nat → Int32) (a_changedSquare : Nat → Int32) (a_changedMan : Nat → Int32) (x1 : Int32) (x3 : Int32) (x4 : Int32) (t0 : Int32) : Option (Int32 × Int32 × (Nat → Int32) × (Nat → Int32) × (Nat → Int32)) := ol (x4 + 2) fun x4_1 => k15 v_changed a_board a_changedSquare a_changedMan x1 t0 x3 x4_1
def m_X10_isTakenAt_b89 (k15 : Int32 → (Nat → Int32) → (Nat → Int32) → (Nat → Int32) → Int32 → Int32 → Int32 → Int32 → Option (Int32 × Int32 × (Nat → Int32) × (Nat → Int32) × (Nat → Int32))) (v_side : Int32) (v_changed : Int32) (a_board : Nat → Int32) (a_changedSquare : Nat → Int32) (a_changedMan : Nat → Int32) (x1 : Int32) (x3 : Int32) (x4 : Int32) : Option (Int32 × Int32 × (Nat → Int32) × (Nat → Int32) × (Nat → Int32)) := m_X10_isTakenAt_b90 k15 v_side v_changed a_board a_changedSquare a_changedMan x1 x3 x4 0
def m_X10_isTakenAt_b85 (k15 : Int32 → (Nat → Int32) → (Nat → Int32) → (Nat → Int32) → Int32 → Int32 → Int32 → Int32 → Option (Int32 × Int32 × (Nat → Int32) × (Nat → Int32) × (Nat → Int32))) (v_side : Int32) (v_changed : Int32) (a_board : Nat → Int32) (a_changedSquare : Nat → Int32) (a_changedMan : Nat → Int32) (x1 : Int32) (x3 : Int32) (x4 : Int32) : Option (Int32 × Int32 × (Nat → Int32) × (Nat → Int32) × (Nat → Int32)) := m_X10_isTakenAt_b90 k15 v_side v_changed a_board a_changedSquare a_changedMan x1 x3 x4 1
def m_X10_isTakenAt_b71 (k15 : Int32 → (Nat → Int32) → (Nat → Int32) → (Nat → Int32) → Int32 → Int32 → Int32 → Int32 → Option (Int32 × Int32 × (Nat → Int32) × (Nat → Int32) × (Nat → Int32))) (v_side : Int32) (v_changed : Int32) (a_board : Nat → Int32) (a_changedSquare : Nat → Int32) (a_changedMan : Nat → Int32) (x1 : Int32) (x3 : Int32) (x4 : Int32) (x6 : Int32) (t0 : Int32) (t1 : Int32) : Option (Int32 × Int32 × (Nat → Int32) × (Nat → Int32) × (Nat → Int32)) := if t0 = t1 then ob (m_X10_isSafe v_changed a_board a_changedSquare a_changedMan x6 x1 0) fun (r_3, v_changed_4, a_board_5, a_changedSquare_6, a_changedMan_7) => if r_3 = 0 then m_X10_isTakenAt_b89 k15 v_side v_changed_4 a_board_5 a_changedSquare_6 a_changedMan_7 x1 x3 x4 else m_X10_isTakenAt_b85 k15 v_side v_changed_4 a_board_5 a_changedSquare_6 a_changedMan_7 x1 x3 x4 else m_X10_isTakenAt_b89 k15 v_side v_changed a_board a_changedSquare a_changedMan x1 x3 x4
def m_X10_isTakenAt_b15 (k15 : Int32 → (Nat → Int32) → (Nat → Int32) → (Nat → Int32) → Int32 → Int32 → Int32 → Int32 → Option (Int32 × Int32 × (Nat → Int32) × (Nat → Int32) × (Nat → Int32))) (v_side : Int32) (v_changed : Int32) (a_board : Nat → Int32) (a_changedSquare : Nat → Int32) (a_changedMan : Nat → Int32) (x1 : Int32) (x2 : Int32) (x3 : Int32) (x4 : Int32) : Option (Int32 × Int32 × (Nat → Int32) × (Nat → Int32) × (Nat → Int32)) := if 2 ≤ x4 then obl (x2) (some (x2, v_changed, a_board, a_changedSquare, a_changedMan)) else ob (m_X10_columnOf x1) fun r_13 => ol (r_13 + x4) fun x5_15 => ol (x3 + x4) fun x6_16 => if x2 = 0 then if x5_15 < 0 then m_X10_isTakenAt_b89 k15 v_side v_changed a_board a_changedSquare a_changedMan x1 x3 x4 else if 8 ≤ x5_15 then m_X10_isTakenAt_b89 k15 v_side v_changed a_board a_changedSquare a_changedMan x1 x3 x4 else oin (x6_16) 64 (if v_side = 0 then m_X10_isTakenAt_b71 k15 v_side v_changed a_board a_changedSquare a_changedMan x1 x3 x4 x6_16 (a_board x6_16.toNatClampNeg) 1 else m_X10_isTakenAt_b71 k15 v_side v_changed a_board a_changedSquare a_changedMan x1 x3 x4 x6_16 (a_board x6_16.toNatClampNeg) (-1)) else m_X10_isTakenAt_b85 k15 v_side v_changed a_board a_changedSquare a_changedMan x1 x3 x4
def m_X10_isTakenAt_l15 (v_side : Int32) (n : Nat) : Int32 → (Nat → Int32) → (Nat → Int32) → (Nat → Int32) → Int32 → Int32 → Int32 → Int32 → Option (Int32 × Int32 × (Nat → Int32) × (Nat → Int32) × (Nat → Int32)) := fz (fun _ _ _ _ _ _ _ _ => none) (fun k15 v_changed a_board a_changedSquare a_changedMan x1 x2 x3 x4 => m_X10_isTakenAt_b15 k15 v_side v_changed a_board a_changedSquare a_changedMan x1 x2 x3 x4) n
def m_X10_isTakenAt (v_side : Int32) (v_changed : Int32) (a_board : Nat → Int32) (a_changedSquare : Nat → Int32) (a_changedMan : Nat → Int32) (p0 : Int32) : Option (Int32 × Int32 × (Nat → Int32) × (Nat → Int32) × (Nat → Int32)) := ob (m_X10_up v_side) fun r_22 => ol (p0 - r_22) fun x3_24 => m_X10_isTakenAt_l15 v_side kF v_changed a_board a_changedSquare a_changedMan p0 0 x3_24 (-1)
abbrev rm_X10_isTakenAt : Room := { frames := 6, cells := 0, slots := 0, locals := 148 }
abbrev wy_X10_isTakenAt : List Cond := .code yX10_isTakenAt cX10_isTakenAt 7 (some .boolean) :: gT
theorem cv_X10_isTakenAt {R : Room} {s : State} {args : Array Value} {own : String} {index : Nat} {w0 : Cond} (hts : ∀ w ∈ w0 :: gT, w.before args s = true) (hl : Cond.methodLink own index yX10_isTakenAt ∈ gT) (hR : 6 + 1 ≤ R.frames ∧ 8 + (7 + 11) + 148 ≤ R.locals) : CallW R s args own RX10 index yX10_isTakenAt cX10_isTakenAt 7 (some .boolean) wy_X10_isTakenAt rm_X10_isTakenAt 0 0 1 :=
  cwV 1 hts (gT_call w0 (pre := [.methodLink own index yX10_isTakenAt, .instanceMethod yX10_isTakenAt, .selects RX10 yX10_isTakenAt yX10_isTakenAt, .initialized RX10]) (gT_lc hl (gT_lc ly_yX10_isTakenAt (gT_lc lx_yX10_isTakenAt (gT_l1 li_RX10)))) lc_yX10_isTakenAt) rfl rfl rfl (by decide +kernel) hR
set_option maxRecDepth 100000 in
set_option maxHeartbeats 4000000 in
theorem c_X10_isTakenAt (l : Launch) (D : va_G) (h0 : Nat) (q : Nat → Nat) (cI : ClassId) (v_code : Int32) (v_side : Int32) (v_rights : Int32) (v_passed : Int32) (v_halves : Int32) (v_number : Int32) (v_top : Int32) (v_typedCount : Int32) (v_readAt : Int32) (v_place : Int32) (v_writtenCount : Int32) (v_chosenFrom : Int32) (v_chosenTo : Int32) (v_chosenTurn : Int32) (v_changed : Int32) (v_readSide : Int32) (v_readRights : Int32) (v_readPassed : Int32) (v_readHalves : Int32) (v_readNumber : Int32) (a_board : Nat → Int32) (a_before : Nat → Int32) (a_typed : Nat → Int32) (a_written : Nat → Int32) (a_froms : Nat → Int32) (a_tos : Nat → Int32) (a_turns : Nat → Int32) (a_counts : Nat → Int32) (a_changedSquare : Nat → Int32) (a_changedMan : Nat → Int32) (a_readBoard : Nat → Int32) (p0 : Int32) (rv : Int32) (v_changed' : Int32) (a_board' : Nat → Int32) (a_changedSquare' : Nat → Int32) (a_changedMan' : Nat → Int32) (hm : m_X10_isTakenAt v_side v_changed a_board a_changedSquare a_changedMan p0 = some (rv, v_changed', a_board', a_changedSquare', a_changedMan')) : kDi l yX10_isTakenAt wy_X10_isTakenAt rm_X10_isTakenAt D [(cI, .int)] rv (wM h0 q cI v_code v_side v_rights v_passed v_halves v_number v_top v_typedCount v_readAt v_place v_writtenCount v_chosenFrom v_chosenTo v_chosenTurn v_changed v_readSide v_readRights v_readPassed v_readHalves v_readNumber a_board a_before a_typed a_written a_froms a_tos a_turns a_counts a_changedSquare a_changedMan a_readBoard) (wM h0 q cI v_code v_side v_rights v_passed v_halves v_number v_top v_typedCount v_readAt v_place v_writtenCount v_chosenFrom v_chosenTo v_chosenTurn v_changed' v_readSide v_readRights v_readPassed v_readHalves v_readNumber a_board' a_before a_typed a_written a_froms a_tos a_turns a_counts a_changedSquare' a_changedMan' a_readBoard) [.ref h0, .int p0] := by
  refine kDi.of cX10_isTakenAt 7 (some .boolean) (by decide) rfl (Or.inr rfl) (Nat.le_of_ble_eq_true rfl) ?_
  intro p e s m below meth c A Q C hret
  have hin10 : ∀ w ∈ wsX100, w ∈ wy_X10_isTakenAt := fun w h => List.mem_cons_of_mem _ (inG10 w h)
  have l15 : ∀ (n15 : Nat) (v_changed : Int32) (a_board : Nat → Int32) (a_changedSquare : Nat → Int32) (a_changedMan : Nat → Int32) (x1 : Int32) (x2 : Int32) (x3 : Int32) (x4 : Int32), m_X10_isTakenAt_l15  v_side n15 v_changed a_board a_changedSquare a_changedMan x1 x2 x3 x4 = some (rv, v_changed', a_board', a_changedSquare', a_changedMan') → kv p l e rm_X10_isTakenAt s m ([.ref h0, .int p0] : List Value).toArray below meth c D A 7 0 0 Q (wM h0 q cI v_code v_side v_rights v_passed v_halves v_number v_top v_typedCount v_readAt v_place v_writtenCount v_chosenFrom v_chosenTo v_chosenTurn v_changed v_readSide v_readRights v_readPassed v_readHalves v_readNumber a_board a_before a_typed a_written a_froms a_tos a_turns a_counts a_changedSquare a_changedMan a_readBoard) [(0, .ref h0), (1, .int x1), (2, .int x2), (3, .int x3), (4, .int x4)] 15 [] := by
    intro n15
    induction n15 with
    | zero =>
      intro v_changed a_board a_changedSquare a_changedMan x1 x2 x3 x4 h
      exact kv_no h
    | succ n15 ih15 =>
      have j90 : ∀ (v_changed : Int32) (a_board : Nat → Int32) (a_changedSquare : Nat → Int32) (a_changedMan : Nat → Int32) (x1 : Int32) (x3 : Int32) (x4 : Int32) (t0 : Int32), m_X10_isTakenAt_b90 (m_X10_isTakenAt_l15  v_side n15) v_side v_changed a_board a_changedSquare a_changedMan x1 x3 x4 t0 = some (rv, v_changed', a_board', a_changedSquare', a_changedMan') → kv p l e rm_X10_isTakenAt s m ([.ref h0, .int p0] : List Value).toArray below meth c D A 7 0 0 Q (wM h0 q cI v_code v_side v_rights v_passed v_halves v_number v_top v_typedCount v_readAt v_place v_writtenCount v_chosenFrom v_chosenTo v_chosenTurn v_changed v_readSide v_readRights v_readPassed v_readHalves v_readNumber a_board a_before a_typed a_written a_froms a_tos a_turns a_counts a_changedSquare a_changedMan a_readBoard) [(0, .ref h0), (1, .int x1), (3, .int x3), (4, .int x4)] 90 [.int t0] := by
        intro v_changed a_board a_changedSquare a_changedMan x1 x3 x4 t0 h
        unfold m_X10_isTakenAt_b90 at h
        refine kv_istore_n C (lv2 := [(0, .ref h0), (1, .int x1), (2, .int t0), (3, .int x3), (4, .int x4)]) [1, 2, 0, 3, 4] dX10_isTakenAt_90 rfl (by decide) rfl rfl ?_
        obtain ⟨x4_1, ex4_1, h⟩ := ol_e h
        refine kv_iinc C (v := x4_1) (lv2 := [(0, .ref h0), (1, .int x1), (2, .int t0), (3, .int x3), (4, .int x4_1)]) 4 [1, 2, 3, 4, 0] dX10_isTakenAt_91 rfl ex4_1.symm (by decide) rfl rfl ?_
        refine kv_goto C 15 dX10_isTakenAt_94 (by decide) ?_
        exact kv_lv [0, 1, 2, 3, 4] (lv2 := [(0, .ref h0), (1, .int x1), (2, .int t0), (3, .int x3), (4, .int x4_1)]) rfl (ih15 v_changed a_board a_changedSquare a_changedMan x1 t0 x3 x4_1 h)
      have j89 : ∀ (v_changed : Int32) (a_board : Nat → Int32) (a_changedSquare : Nat → Int32) (a_changedMan : Nat → Int32) (x1 : Int32) (x3 : Int32) (x4 : Int32), m_X10_isTakenAt_b89 (m_X10_isTakenAt_l15  v_side n15) v_side v_changed a_board a_changedSquare a_changedMan x1 x3 x4 = some (rv, v_changed', a_board', a_changedSquare', a_changedMan') → kv p l e rm_X10_isTakenAt s m ([.ref h0, .int p0] : List Value).toArray below meth c D A 7 0 0 Q (wM h0 q cI v_code v_side v_rights v_passed v_halves v_number v_top v_typedCount v_readAt v_place v_writtenCount v_chosenFrom v_chosenTo v_chosenTurn v_changed v_readSide v_readRights v_readPassed v_readHalves v_readNumber a_board a_before a_typed a_written a_froms a_tos a_turns a_counts a_changedSquare a_changedMan a_readBoard) [(0, .ref h0), (1, .int x1), (3, .int x3), (4, .int x4)] 89 [] := by
        intro v_changed a_board a_changedSquare a_changedMan x1 x3 x4 h
        unfold m_X10_isTakenAt_b89 at h
        refine kv_iconst C 0 dX10_isTakenAt_89 (by decide) ?_
        exact kv_lv [0, 1, 2, 3] (lv2 := [(0, .ref h0), (1, .int x1), (3, .int x3), (4, .int x4)]) rfl (j90 v_changed a_board a_changedSquare a_changedMan x1 x3 x4 0 h)
      have j85 : ∀ (v_changed : Int32) (a_board : Nat → Int32) (a_changedSquare : Nat → Int32) (a_changedMan : Nat → Int32) (x1 : Int32) (x3 : Int32) (x4 : Int32), m_X10_isTakenAt_b85 (m_X10_isTakenAt_l15  v_side n15) v_side v_changed a_board a_changedSquare a_changedMan x1 x3 x4 = some (rv, v_changed', a_board', a_changedSquare', a_changedMan') → kv p l e rm_X10_isTakenAt s m ([.ref h0, .int p0] : List Value).toArray below meth c D A 7 0 0 Q (wM h0 q cI v_code v_side v_rights v_passed v_halves v_number v_top v_typedCount v_readAt v_place v_writtenCount v_chosenFrom v_chosenTo v_chosenTurn v_changed v_readSide v_readRights v_readPassed v_readHalves v_readNumber a_board a_before a_typed a_written a_froms a_tos a_turns a_counts a_changedSquare a_changedMan a_readBoard) [(0, .ref h0), (1, .int x1), (3, .int x3), (4, .int x4)] 85 [] := by
        intro v_changed a_board a_changedSquare a_changedMan x1 x3 x4 h
        unfold m_X10_isTakenAt_b85 at h
        refine kv_iconst C 1 dX10_isTakenAt_85 (by decide) ?_
        refine kv_goto C 90 dX10_isTakenAt_86 (by decide) ?_
        exact kv_lv [0, 1, 2, 3] (lv2 := [(0, .ref h0), (1, .int x1), (3, .int x3), (4, .int x4)]) rfl (j90 v_changed a_board a_changedSquare a_changedMan x1 x3 x4 1 h)
      have j71 : ∀ (v_changed : Int32) (a_board : Nat → Int32) (a_changedSquare : Nat → Int32) (a_changedMan : Nat → Int32) (x1 : Int32) (x3 : Int32) (x4 : Int32) (x6 : Int32) (t0 : Int32) (t1 : Int32), m_X10_isTakenAt_b71 (m_X10_isTakenAt_l15  v_side n15) v_side v_changed a_board a_changedSquare a_changedMan x1 x3 x4 x6 t0 t1 = some (rv, v_changed', a_board', a_changedSquare', a_changedMan') → kv p l e rm_X10_isTakenAt s m ([.ref h0, .int p0] : List Value).toArray below meth c D A 7 0 0 Q (wM h0 q cI v_code v_side v_rights v_passed v_halves v_number v_top v_typedCount v_readAt v_place v_writtenCount v_chosenFrom v_chosenTo v_chosenTurn v_changed v_readSide v_readRights v_readPassed v_readHalves v_readNumber a_board a_before a_typed a_written a_froms a_tos a_turns a_counts a_changedSquare a_changedMan a_readBoard) [(0, .ref h0), (1, .int x1), (3, .int x3), (4, .int x4), (6, .int x6)] 71 [.int t1, .int t0] := by
        intro v_changed a_board a_changedSquare a_changedMan x1 x3 x4 x6 t0 t1 h
        unfold m_X10_isTakenAt_b71 at h
        refine kv_icmp_ne C 89 dX10_isTakenAt_71 (by decide) (fun c_2 => ?_) (fun c_2 => ?_)
        · have h := oi_f h c_2
          exact kv_lv [0, 1, 2, 3] (lv2 := [(0, .ref h0), (1, .int x1), (3, .int x3), (4, .int x4)]) rfl (j89 v_changed a_board a_changedSquare a_changedMan x1 x3 x4 h)
        · have h := oi_t h c_2
          refine kv_aload_n C 0 dX10_isTakenAt_74 rfl rfl ?_
          refine kv_iload C 4 dX10_isTakenAt_75 rfl ?_
          refine kv_iload_n C 1 dX10_isTakenAt_77 rfl rfl ?_
          refine kv_iconst C 0 dX10_isTakenAt_78 (by decide) ?_
          obtain ⟨⟨r_3, v_changed_4, a_board_5, a_changedSquare_6, a_changedMan_7⟩, hm_8, h⟩ := ob_e h
          replace h : _ = _ := h
          refine kv_callWi C [.int x6, .int x1, .int 0] 0 (c_X10_isSafe l D h0 q cI v_code v_side v_rights v_passed v_halves v_number v_top v_typedCount v_readAt v_place v_writtenCount v_chosenFrom v_chosenTo v_chosenTurn v_changed v_readSide v_readRights v_readPassed v_readHalves v_readNumber a_board a_before a_typed a_written a_froms a_tos a_turns a_counts a_changedSquare a_changedMan a_readBoard x6 x1 0 r_3 v_changed_4 a_board_5 a_changedSquare_6 a_changedMan_7 hm_8) (cv_X10_isSafe C.ts lm_RX10_125 ⟨Nat.le_of_ble_eq_true rfl, Nat.le_of_ble_eq_true rfl⟩) rfl rfl rfl rfl (Nat.le_of_ble_eq_true rfl) dX10_isTakenAt_79 ⟨Nat.zero_le _, Nat.zero_le _⟩ ?_
          refine kv_if_eq C 89 dX10_isTakenAt_82 (by decide) (fun c_10 => ?_) (fun c_10 => ?_)
          · have h := oi_t h c_10
            exact kv_lv [0, 1, 2, 3] (lv2 := [(0, .ref h0), (1, .int x1), (3, .int x3), (4, .int x4)]) rfl (j89 v_changed_4 a_board_5 a_changedSquare_6 a_changedMan_7 x1 x3 x4 h)
          · have h := oi_f h c_10
            exact kv_lv [0, 1, 2, 3] (lv2 := [(0, .ref h0), (1, .int x1), (3, .int x3), (4, .int x4)]) rfl (j85 v_changed_4 a_board_5 a_changedSquare_6 a_changedMan_7 x1 x3 x4 h)
      intro v_changed a_board a_changedSquare a_changedMan x1 x2 x3 x4 h
      replace h : m_X10_isTakenAt_b15  (m_X10_isTakenAt_l15  v_side n15) v_side v_changed a_board a_changedSquare a_changedMan x1 x2 x3 x4 = some (rv, v_changed', a_board', a_changedSquare', a_changedMan') := h
      unfold m_X10_isTakenAt_b15 at h
      refine kv_iload C 4 dX10_isTakenAt_15 rfl ?_
      refine kv_iconst C 2 dX10_isTakenAt_17 (by decide) ?_
      refine kv_icmp_ge C 97 dX10_isTakenAt_18 (by decide) (fun c_11 => ?_) (fun c_11 => ?_)
      · have h := oi_t h c_11
        refine kv_iload_n C 2 dX10_isTakenAt_97 rfl rfl ?_
        obtain ⟨g_12, h⟩ := obl_e h
        cases h
        exact hret _ _ dX10_isTakenAt_98 (fun _ => g_12)
      · have h := oi_f h c_11
        refine kv_iload_n C 1 dX10_isTakenAt_21 rfl rfl ?_
        obtain ⟨r_13, hm_14, h⟩ := ob_e h
        refine kv_callS0i C [.int x1] (c_X10_columnOf l D x1 r_13 hm_14) (cs_X10_columnOf C.ts lm_RX10_73 ⟨Nat.le_of_ble_eq_true rfl, Nat.le_of_ble_eq_true rfl⟩) rfl rfl (Nat.le_of_ble_eq_true rfl) dX10_isTakenAt_22 ⟨Nat.zero_le _, Nat.zero_le _⟩ ?_
        refine kv_iload C 4 dX10_isTakenAt_25 rfl ?_
        refine kv_iadd C dX10_isTakenAt_27 ?_
        obtain ⟨x5_15, ex5_15, h⟩ := ol_e h
        refine kv_top ex5_15 ?_
        refine kv_istore C (lv2 := [(0, .ref h0), (1, .int x1), (2, .int x2), (3, .int x3), (4, .int x4), (5, .int x5_15)]) [1, 2, 3, 4, 5, 0] dX10_isTakenAt_28 (by decide) rfl rfl ?_
        refine kv_iload_n C 3 dX10_isTakenAt_30 rfl rfl ?_
        refine kv_iload C 4 dX10_isTakenAt_31 rfl ?_
        refine kv_iadd C dX10_isTakenAt_33 ?_
        obtain ⟨x6_16, ex6_16, h⟩ := ol_e h
        refine kv_top ex6_16 ?_
        refine kv_istore C (lv2 := [(0, .ref h0), (1, .int x1), (2, .int x2), (3, .int x3), (4, .int x4), (5, .int x5_15), (6, .int x6_16)]) [1, 2, 3, 4, 5, 6, 0] dX10_isTakenAt_34 (by decide) rfl rfl ?_
        refine kv_iload_n C 2 dX10_isTakenAt_36 rfl rfl ?_
        refine kv_if_ne C 85 dX10_isTakenAt_37 (by decide) (fun c_17 => ?_) (fun c_17 => ?_)
        · have h := oi_f h c_17
          exact kv_lv [0, 1, 3, 4] (lv2 := [(0, .ref h0), (1, .int x1), (3, .int x3), (4, .int x4)]) rfl (j85 v_changed a_board a_changedSquare a_changedMan x1 x3 x4 h)
        · have h := oi_t h c_17
          refine kv_iload C 5 dX10_isTakenAt_40 rfl ?_
          refine kv_if_lt C 89 dX10_isTakenAt_42 (by decide) (fun c_18 => ?_) (fun c_18 => ?_)
          · have h := oi_t h c_18
            exact kv_lv [0, 1, 3, 4] (lv2 := [(0, .ref h0), (1, .int x1), (3, .int x3), (4, .int x4)]) rfl (j89 v_changed a_board a_changedSquare a_changedMan x1 x3 x4 h)
          · have h := oi_f h c_18
            refine kv_iload C 5 dX10_isTakenAt_45 rfl ?_
            refine kv_bipush C 8 dX10_isTakenAt_47 (by decide) ?_
            refine kv_icmp_ge C 89 dX10_isTakenAt_49 (by decide) (fun c_19 => ?_) (fun c_19 => ?_)
            · have h := oi_t h c_19
              exact kv_lv [0, 1, 3, 4] (lv2 := [(0, .ref h0), (1, .int x1), (3, .int x3), (4, .int x4)]) rfl (j89 v_changed a_board a_changedSquare a_changedMan x1 x3 x4 h)
            · have h := oi_f h c_19
              refine kv_aload_n C 0 dX10_isTakenAt_52 rfl rfl ?_
              refine kv_get C (Cn := RX10) (T := TX10) (N := 31) 0 1 hin10 rfl rfl (by decide) (C.ts _ (List.mem_cons_of_mem _ lf_RX10_7)) rfl rfl dX10_isTakenAt_53 ?_
              refine kv_iload C 6 dX10_isTakenAt_56 rfl ?_
              obtain ⟨g_20, h⟩ := oin_e h
              refine kv_iald C 1 0 rfl rfl g_20 dX10_isTakenAt_58 ?_
              refine kv_aload_n C 0 dX10_isTakenAt_59 rfl rfl ?_
              refine kv_get C (Cn := RX10) (T := TX10) (N := 31) 0 2 hin10 rfl rfl (by decide) (C.ts _ (List.mem_cons_of_mem _ lf_RX10_119)) rfl rfl dX10_isTakenAt_60 ?_
              refine kv_if_ne C 70 dX10_isTakenAt_63 (by decide) (fun c_21 => ?_) (fun c_21 => ?_)
              · have h := oi_f h c_21
                refine kv_iconst C (-1) dX10_isTakenAt_70 (by decide) ?_
                exact kv_lv [0, 1, 3, 4, 6] (lv2 := [(0, .ref h0), (1, .int x1), (3, .int x3), (4, .int x4), (6, .int x6_16)]) rfl (j71 v_changed a_board a_changedSquare a_changedMan x1 x3 x4 x6_16 (a_board x6_16.toNatClampNeg) (-1) h)
              · have h := oi_t h c_21
                refine kv_iconst C 1 dX10_isTakenAt_66 (by decide) ?_
                refine kv_goto C 71 dX10_isTakenAt_67 (by decide) ?_
                exact kv_lv [0, 1, 3, 4, 6] (lv2 := [(0, .ref h0), (1, .int x1), (3, .int x3), (4, .int x4), (6, .int x6_16)]) rfl (j71 v_changed a_board a_changedSquare a_changedMan x1 x3 x4 x6_16 (a_board x6_16.toNatClampNeg) 1 h)
  unfold m_X10_isTakenAt at hm
  have h := hm
  refine kv_lv [0, 1] (lv2 := [(0, .ref h0), (1, .int p0)]) rfl ?_
  refine kv_iconst C 0 dX10_isTakenAt_0 (by decide) ?_
  refine kv_istore_n C (lv2 := [(0, .ref h0), (1, .int p0), (2, .int 0)]) [1, 2, 0] dX10_isTakenAt_1 rfl (by decide) rfl rfl ?_
  refine kv_iload_n C 1 dX10_isTakenAt_2 rfl rfl ?_
  refine kv_aload_n C 0 dX10_isTakenAt_3 rfl rfl ?_
  refine kv_get C (Cn := RX10) (T := TX10) (N := 31) 0 2 hin10 rfl rfl (by decide) (C.ts _ (List.mem_cons_of_mem _ lf_RX10_119)) rfl rfl dX10_isTakenAt_4 ?_
  obtain ⟨r_22, hm_23, h⟩ := ob_e h
  refine kv_callS0i C [.int v_side] (c_X10_up l D v_side r_22 hm_23) (cs_X10_up C.ts lm_RX10_98 ⟨Nat.le_of_ble_eq_true rfl, Nat.le_of_ble_eq_true rfl⟩) rfl rfl (Nat.le_of_ble_eq_true rfl) dX10_isTakenAt_7 ⟨Nat.zero_le _, Nat.zero_le _⟩ ?_
  refine kv_isub C dX10_isTakenAt_10 ?_
  obtain ⟨x3_24, ex3_24, h⟩ := ol_e h
  refine kv_top ex3_24 ?_
  refine kv_istore_n C (lv2 := [(0, .ref h0), (1, .int p0), (2, .int 0), (3, .int x3_24)]) [1, 2, 3, 0] dX10_isTakenAt_11 rfl (by decide) rfl rfl ?_
  refine kv_iconst C (-1) dX10_isTakenAt_12 (by decide) ?_
  refine kv_istore C (lv2 := [(0, .ref h0), (1, .int p0), (2, .int 0), (3, .int x3_24), (4, .int (-1))]) [1, 2, 3, 4, 0] dX10_isTakenAt_13 (by decide) rfl rfl ?_
  exact kv_lv [0, 1, 2, 3, 4] (lv2 := [(0, .ref h0), (1, .int p0), (2, .int 0), (3, .int x3_24), (4, .int (-1))]) rfl (l15 kF v_changed a_board a_changedSquare a_changedMan p0 0 x3_24 (-1) h)
def m_X10_make_b159 (v_side : Int32) (v_rights : Int32) (v_passed : Int32) (v_halves : Int32) (v_number : Int32) (v_top : Int32) (v_changed : Int32) (a_board : Nat → Int32) (a_before : Nat → Int32) (a_changedSquare : Nat → Int32) (a_changedMan : Nat → Int32) (x5 : Int32) : Option (Int32 × Int32 × Int32 × Int32 × Int32 × Int32 × Int32 × Int32 × (Nat → Int32) × (Nat → Int32) × (Nat → Int32) × (Nat → Int32)) := some (x5, v_side, v_rights, v_passed, v_halves, v_number, v_top, v_changed, a_board, a_before, a_changedSquare, a_changedMan)
def m_X10_make_b104 (v_side : Int32) (v_rights : Int32) (v_passed : Int32) (v_halves : Int32) (v_number : Int32) (v_top : Int32) (v_changed : Int32) (a_board : Nat → Int32) (a_before : Nat → Int32) (a_changedSquare : Nat → Int32) (a_changedMan : Nat → Int32) (x1 : Int32) (x2 : Int32) (x5 : Int32) (x6 : Int32) (t1 : Int32) : Option (Int32 × Int32 × Int32 × Int32 × Int32 × Int32 × Int32 × Int32 × (Nat → Int32) × (Nat → Int32) × (Nat → Int32) × (Nat → Int32)) := ol (1 - v_side) fun y_1 => if x6 = 0 then m_X10_make_b159 y_1 v_rights (-1) v_halves t1 v_top v_changed a_board a_before a_changedSquare a_changedMan x5 else ob (m_X10_size (x2 - x1)) fun r_3 => if r_3 = 16 then ob (m_X10_isTakenAt y_1 v_changed a_board a_changedSquare a_changedMan ((x1 + x2) / 2)) fun (r_6, v_changed_7, a_board_8, a_changedSquare_9, a_changedMan_10) => if r_6 = 0 then m_X10_make_b159 y_1 v_rights (-1) v_halves t1 v_top v_changed_7 a_board_8 a_before a_changedSquare_9 a_changedMan_10 x5 else ol ((x1 + x2) / 2) fun y_14 => m_X10_make_b159 y_1 v_rights y_14 v_halves t1 v_top v_changed_7 a_board_8 a_before a_changedSquare_9 a_changedMan_10 x5 else m_X10_make_b159 y_1 v_rights (-1) v_halves t1 v_top v_changed a_board a_before a_changedSquare a_changedMan x5
def m_X10_make_b58 (v_side : Int32) (v_rights : Int32) (v_passed : Int32) (v_halves : Int32) (v_number : Int32) (v_top : Int32) (v_changed : Int32) (a_board : Nat → Int32) (a_before : Nat → Int32) (a_changedSquare : Nat → Int32) (a_changedMan : Nat → Int32) (x1 : Int32) (x2 : Int32) (x5 : Int32) (x6 : Int32) (t1 : Int32) : Option (Int32 × Int32 × Int32 × Int32 × Int32 × Int32 × Int32 × Int32 × (Nat → Int32) × (Nat → Int32) × (Nat → Int32) × (Nat → Int32)) := ob (m_X10_rightsAt x1) fun r_15 => ob (m_X10_rightsAt x2) fun r_17 => ol ((v_rights &&& (r_15 ^^^ (-1))) &&& (r_17 ^^^ (-1))) fun y_19 => if v_side = 0 then m_X10_make_b104 v_side y_19 v_passed t1 v_number v_top v_changed a_board a_before a_changedSquare a_changedMan x1 x2 x5 x6 v_number else m_X10_make_b104 v_side y_19 v_passed t1 v_number v_top v_changed a_board a_before a_changedSquare a_changedMan x1 x2 x5 x6 (v_number + 1)
def m_X10_make_b48 (v_side : Int32) (v_rights : Int32) (v_passed : Int32) (v_halves : Int32) (v_number : Int32) (v_top : Int32) (v_changed : Int32) (a_board : Nat → Int32) (a_before : Nat → Int32) (a_changedSquare : Nat → Int32) (a_changedMan : Nat → Int32) (x1 : Int32) (x2 : Int32) (x5 : Int32) (x6 : Int32) : Option (Int32 × Int32 × Int32 × Int32 × Int32 × Int32 × Int32 × Int32 × (Nat → Int32) × (Nat → Int32) × (Nat → Int32) × (Nat → Int32)) := m_X10_make_b58 v_side v_rights v_passed v_halves v_number v_top v_changed a_board a_before a_changedSquare a_changedMan x1 x2 x5 x6 0
def m_X10_make_b35 (v_side : Int32) (v_rights : Int32) (v_passed : Int32) (v_halves : Int32) (v_number : Int32) (v_top : Int32) (v_changed : Int32) (a_board : Nat → Int32) (a_before : Nat → Int32) (a_changedSquare : Nat → Int32) (a_changedMan : Nat → Int32) (x1 : Int32) (x2 : Int32) (x5 : Int32) (t0 : Int32) : Option (Int32 × Int32 × Int32 × Int32 × Int32 × Int32 × Int32 × Int32 × (Nat → Int32) × (Nat → Int32) × (Nat → Int32) × (Nat → Int32)) := if t0 = 0 then if x5 = 0 then m_X10_make_b58 v_side v_rights v_passed v_halves v_number v_top v_changed a_board a_before a_changedSquare a_changedMan x1 x2 x5 t0 (v_halves + 1) else m_X10_make_b48 v_side v_rights v_passed v_halves v_number v_top v_changed a_board a_before a_changedSquare a_changedMan x1 x2 x5 t0 else m_X10_make_b48 v_side v_rights v_passed v_halves v_number v_top v_changed a_board a_before a_changedSquare a_changedMan x1 x2 x5 t0
def m_X10_make (v_side : Int32) (v_rights : Int32) (v_passed : Int32) (v_halves : Int32) (v_number : Int32) (v_top : Int32) (v_changed : Int32) (a_board : Nat → Int32) (a_before : Nat → Int32) (a_changedSquare : Nat → Int32) (a_changedMan : Nat → Int32) (p0 : Int32) (p1 : Int32) (p2 : Int32) : Option (Int32 × Int32 × Int32 × Int32 × Int32 × Int32 × Int32 × Int32 × (Nat → Int32) × (Nat → Int32) × (Nat → Int32) × (Nat → Int32)) := ob (m_X10_push v_side v_rights v_passed v_halves v_number v_top a_board a_before ) fun (v_top_23, a_before_24) => oin (p0) 64 (ol (a_board p0.toNatClampNeg) fun x4_28 => ob (m_X10_moveMen v_changed a_board a_changedSquare a_changedMan p0 p1 p2) fun (r_29, v_changed_30, a_board_31, a_changedSquare_32, a_changedMan_33) => ob (m_X10_kindOf x4_28) fun r_36 => if r_36 = 1 then m_X10_make_b35 v_side v_rights v_passed v_halves v_number v_top_23 v_changed_30 a_board_31 a_before_24 a_changedSquare_32 a_changedMan_33 p0 p1 r_29 1 else m_X10_make_b35 v_side v_rights v_passed v_halves v_number v_top_23 v_changed_30 a_board_31 a_before_24 a_changedSquare_32 a_changedMan_33 p0 p1 r_29 0)
abbrev rm_X10_make : Room := { frames := 7, cells := 0, slots := 0, locals := 174 }
abbrev wy_X10_make : List Cond := .code yX10_make cX10_make 7 (some .int) :: gT
theorem cv_X10_make {R : Room} {s : State} {args : Array Value} {own : String} {index : Nat} {w0 : Cond} (hts : ∀ w ∈ w0 :: gT, w.before args s = true) (hl : Cond.methodLink own index yX10_make ∈ gT) (hR : 7 + 1 ≤ R.frames ∧ 8 + (7 + 11) + 174 ≤ R.locals) : CallW R s args own RX10 index yX10_make cX10_make 7 (some .int) wy_X10_make rm_X10_make 0 0 3 :=
  cwV 3 hts (gT_call w0 (pre := [.methodLink own index yX10_make, .instanceMethod yX10_make, .selects RX10 yX10_make yX10_make, .initialized RX10]) (gT_lc hl (gT_lc ly_yX10_make (gT_lc lx_yX10_make (gT_l1 li_RX10)))) lc_yX10_make) rfl rfl rfl (by decide +kernel) hR
set_option maxRecDepth 100000 in
set_option maxHeartbeats 4000000 in
theorem c_X10_make (l : Launch) (D : va_G) (h0 : Nat) (q : Nat → Nat) (cI : ClassId) (v_code : Int32) (v_side : Int32) (v_rights : Int32) (v_passed : Int32) (v_halves : Int32) (v_number : Int32) (v_top : Int32) (v_typedCount : Int32) (v_readAt : Int32) (v_place : Int32) (v_writtenCount : Int32) (v_chosenFrom : Int32) (v_chosenTo : Int32) (v_chosenTurn : Int32) (v_changed : Int32) (v_readSide : Int32) (v_readRights : Int32) (v_readPassed : Int32) (v_readHalves : Int32) (v_readNumber : Int32) (a_board : Nat → Int32) (a_before : Nat → Int32) (a_typed : Nat → Int32) (a_written : Nat → Int32) (a_froms : Nat → Int32) (a_tos : Nat → Int32) (a_turns : Nat → Int32) (a_counts : Nat → Int32) (a_changedSquare : Nat → Int32) (a_changedMan : Nat → Int32) (a_readBoard : Nat → Int32) (p0 : Int32) (p1 : Int32) (p2 : Int32) (rv : Int32) (v_side' : Int32) (v_rights' : Int32) (v_passed' : Int32) (v_halves' : Int32) (v_number' : Int32) (v_top' : Int32) (v_changed' : Int32) (a_board' : Nat → Int32) (a_before' : Nat → Int32) (a_changedSquare' : Nat → Int32) (a_changedMan' : Nat → Int32) (hm : m_X10_make v_side v_rights v_passed v_halves v_number v_top v_changed a_board a_before a_changedSquare a_changedMan p0 p1 p2 = some (rv, v_side', v_rights', v_passed', v_halves', v_number', v_top', v_changed', a_board', a_before', a_changedSquare', a_changedMan')) : kDi l yX10_make wy_X10_make rm_X10_make D [(cI, .int)] rv (wM h0 q cI v_code v_side v_rights v_passed v_halves v_number v_top v_typedCount v_readAt v_place v_writtenCount v_chosenFrom v_chosenTo v_chosenTurn v_changed v_readSide v_readRights v_readPassed v_readHalves v_readNumber a_board a_before a_typed a_written a_froms a_tos a_turns a_counts a_changedSquare a_changedMan a_readBoard) (wM h0 q cI v_code v_side' v_rights' v_passed' v_halves' v_number' v_top' v_typedCount v_readAt v_place v_writtenCount v_chosenFrom v_chosenTo v_chosenTurn v_changed' v_readSide v_readRights v_readPassed v_readHalves v_readNumber a_board' a_before' a_typed a_written a_froms a_tos a_turns a_counts a_changedSquare' a_changedMan' a_readBoard) [.ref h0, .int p0, .int p1, .int p2] := by
  refine kDi.of cX10_make 7 (some .int) (by decide) rfl (Or.inl rfl) (Nat.le_of_ble_eq_true rfl) ?_
  intro p e s m below meth c A Q C hret
  have hin10 : ∀ w ∈ wsX100, w ∈ wy_X10_make := fun w h => List.mem_cons_of_mem _ (inG10 w h)
  have j159 : ∀ (v_side : Int32) (v_rights : Int32) (v_passed : Int32) (v_halves : Int32) (v_number : Int32) (v_top : Int32) (v_changed : Int32) (a_board : Nat → Int32) (a_before : Nat → Int32) (a_changedSquare : Nat → Int32) (a_changedMan : Nat → Int32) (x5 : Int32), m_X10_make_b159  v_side v_rights v_passed v_halves v_number v_top v_changed a_board a_before a_changedSquare a_changedMan x5 = some (rv, v_side', v_rights', v_passed', v_halves', v_number', v_top', v_changed', a_board', a_before', a_changedSquare', a_changedMan') → kv p l e rm_X10_make s m ([.ref h0, .int p0, .int p1, .int p2] : List Value).toArray below meth c D A 7 0 0 Q (wM h0 q cI v_code v_side v_rights v_passed v_halves v_number v_top v_typedCount v_readAt v_place v_writtenCount v_chosenFrom v_chosenTo v_chosenTurn v_changed v_readSide v_readRights v_readPassed v_readHalves v_readNumber a_board a_before a_typed a_written a_froms a_tos a_turns a_counts a_changedSquare a_changedMan a_readBoard) [(5, .int x5)] 159 [] := by
    intro v_side v_rights v_passed v_halves v_number v_top v_changed a_board a_before a_changedSquare a_changedMan x5 h
    unfold m_X10_make_b159 at h
    refine kv_iload C 0 dX10_make_159 rfl ?_
    cases h
    exact hret _ _ dX10_make_161 (fun q => by cases q)
  have j104 : ∀ (v_side : Int32) (v_rights : Int32) (v_passed : Int32) (v_halves : Int32) (v_number : Int32) (v_top : Int32) (v_changed : Int32) (a_board : Nat → Int32) (a_before : Nat → Int32) (a_changedSquare : Nat → Int32) (a_changedMan : Nat → Int32) (x1 : Int32) (x2 : Int32) (x5 : Int32) (x6 : Int32) (t1 : Int32), m_X10_make_b104  v_side v_rights v_passed v_halves v_number v_top v_changed a_board a_before a_changedSquare a_changedMan x1 x2 x5 x6 t1 = some (rv, v_side', v_rights', v_passed', v_halves', v_number', v_top', v_changed', a_board', a_before', a_changedSquare', a_changedMan') → kv p l e rm_X10_make s m ([.ref h0, .int p0, .int p1, .int p2] : List Value).toArray below meth c D A 7 0 0 Q (wM h0 q cI v_code v_side v_rights v_passed v_halves v_number v_top v_typedCount v_readAt v_place v_writtenCount v_chosenFrom v_chosenTo v_chosenTurn v_changed v_readSide v_readRights v_readPassed v_readHalves v_readNumber a_board a_before a_typed a_written a_froms a_tos a_turns a_counts a_changedSquare a_changedMan a_readBoard) [(0, .ref h0), (1, .int x1), (2, .int x2), (5, .int x5), (6, .int x6)] 104 [.int t1, .ref h0] := by
    intro v_side v_rights v_passed v_halves v_number v_top v_changed a_board a_before a_changedSquare a_changedMan x1 x2 x5 x6 t1 h
    unfold m_X10_make_b104 at h
    refine kv_put C (Cn := RX10) (T := TX10) (N := 31) (ty := .int) (ws1 := (wM h0 q cI v_code v_side v_rights v_passed v_halves t1 v_top v_typedCount v_readAt v_place v_writtenCount v_chosenFrom v_chosenTo v_chosenTurn v_changed v_readSide v_readRights v_readPassed v_readHalves v_readNumber a_board a_before a_typed a_written a_froms a_tos a_turns a_counts a_changedSquare a_changedMan a_readBoard)) 0 6 hin10 tyX10 tyX10_ok nmX10 rfl rfl (by decide) (C.ts _ (List.mem_cons_of_mem _ lf_RX10_63)) rfl rfl (by decide +kernel) rfl rfl (Nat.le_of_ble_eq_true rfl) rfl dX10_make_104 ?_
    refine kv_aload_n C 0 dX10_make_107 rfl rfl ?_
    refine kv_iconst C 1 dX10_make_108 (by decide) ?_
    refine kv_aload_n C 0 dX10_make_109 rfl rfl ?_
    refine kv_get C (Cn := RX10) (T := TX10) (N := 31) 0 2 hin10 rfl rfl (by decide) (C.ts _ (List.mem_cons_of_mem _ lf_RX10_119)) rfl rfl dX10_make_110 ?_
    refine kv_isub C dX10_make_113 ?_
    obtain ⟨y_1, ey_1, h⟩ := ol_e h
    refine kv_top ey_1 ?_
    refine kv_put C (Cn := RX10) (T := TX10) (N := 31) (ty := .int) (ws1 := (wM h0 q cI v_code y_1 v_rights v_passed v_halves t1 v_top v_typedCount v_readAt v_place v_writtenCount v_chosenFrom v_chosenTo v_chosenTurn v_changed v_readSide v_readRights v_readPassed v_readHalves v_readNumber a_board a_before a_typed a_written a_froms a_tos a_turns a_counts a_changedSquare a_changedMan a_readBoard)) 0 2 hin10 tyX10 tyX10_ok nmX10 rfl rfl (by decide) (C.ts _ (List.mem_cons_of_mem _ lf_RX10_119)) rfl rfl (by decide +kernel) rfl rfl (Nat.le_of_ble_eq_true rfl) rfl dX10_make_114 ?_
    refine kv_aload_n C 0 dX10_make_117 rfl rfl ?_
    refine kv_iconst C (-1) dX10_make_118 (by decide) ?_
    refine kv_put C (Cn := RX10) (T := TX10) (N := 31) (ty := .int) (ws1 := (wM h0 q cI v_code y_1 v_rights (-1) v_halves t1 v_top v_typedCount v_readAt v_place v_writtenCount v_chosenFrom v_chosenTo v_chosenTurn v_changed v_readSide v_readRights v_readPassed v_readHalves v_readNumber a_board a_before a_typed a_written a_froms a_tos a_turns a_counts a_changedSquare a_changedMan a_readBoard)) 0 4 hin10 tyX10 tyX10_ok nmX10 rfl rfl (by decide) (C.ts _ (List.mem_cons_of_mem _ lf_RX10_13)) rfl rfl (by decide +kernel) rfl rfl (Nat.le_of_ble_eq_true rfl) rfl dX10_make_119 ?_
    refine kv_iload C 4 dX10_make_122 rfl ?_
    refine kv_if_eq C 159 dX10_make_124 (by decide) (fun c_2 => ?_) (fun c_2 => ?_)
    · have h := oi_t h c_2
      exact kv_lv [3] (lv2 := [(5, .int x5)]) rfl (j159 y_1 v_rights (-1) v_halves t1 v_top v_changed a_board a_before a_changedSquare a_changedMan x5 h)
    · have h := oi_f h c_2
      refine kv_iload_n C 2 dX10_make_127 rfl rfl ?_
      refine kv_iload_n C 1 dX10_make_128 rfl rfl ?_
      refine kv_isub C dX10_make_129 ?_
      obtain ⟨r_3, hm_4, h⟩ := ob_e h
      refine kv_callS0i C [.int (x2 - x1)] (c_X10_size l D (x2 - x1) r_3 hm_4) (cs_X10_size C.ts lm_RX10_76 ⟨Nat.le_of_ble_eq_true rfl, Nat.le_of_ble_eq_true rfl⟩) rfl rfl (Nat.le_of_ble_eq_true rfl) dX10_make_130 ⟨Nat.zero_le _, Nat.zero_le _⟩ ?_
      refine kv_bipush C 16 dX10_make_133 (by decide) ?_
      refine kv_icmp_ne C 159 dX10_make_135 (by decide) (fun c_5 => ?_) (fun c_5 => ?_)
      · have h := oi_f h c_5
        exact kv_lv [3] (lv2 := [(5, .int x5)]) rfl (j159 y_1 v_rights (-1) v_halves t1 v_top v_changed a_board a_before a_changedSquare a_changedMan x5 h)
      · have h := oi_t h c_5
        refine kv_aload_n C 0 dX10_make_138 rfl rfl ?_
        refine kv_iload_n C 1 dX10_make_139 rfl rfl ?_
        refine kv_iload_n C 2 dX10_make_140 rfl rfl ?_
        refine kv_iadd C dX10_make_141 ?_
        refine kv_iconst C 2 dX10_make_142 (by decide) ?_
        refine kv_idiv C dX10_make_143 (by decide) ?_
        obtain ⟨⟨r_6, v_changed_7, a_board_8, a_changedSquare_9, a_changedMan_10⟩, hm_11, h⟩ := ob_e h
        replace h : _ = _ := h
        refine kv_callWi C [.int ((x1 + x2) / 2)] 0 (c_X10_isTakenAt l D h0 q cI v_code y_1 v_rights (-1) v_halves t1 v_top v_typedCount v_readAt v_place v_writtenCount v_chosenFrom v_chosenTo v_chosenTurn v_changed v_readSide v_readRights v_readPassed v_readHalves v_readNumber a_board a_before a_typed a_written a_froms a_tos a_turns a_counts a_changedSquare a_changedMan a_readBoard ((x1 + x2) / 2) r_6 v_changed_7 a_board_8 a_changedSquare_9 a_changedMan_10 hm_11) (cv_X10_isTakenAt C.ts lm_RX10_135 ⟨Nat.le_of_ble_eq_true rfl, Nat.le_of_ble_eq_true rfl⟩) rfl rfl rfl rfl (Nat.le_of_ble_eq_true rfl) dX10_make_144 ⟨Nat.zero_le _, Nat.zero_le _⟩ ?_
        refine kv_if_eq C 159 dX10_make_147 (by decide) (fun c_13 => ?_) (fun c_13 => ?_)
        · have h := oi_t h c_13
          exact kv_lv [3] (lv2 := [(5, .int x5)]) rfl (j159 y_1 v_rights (-1) v_halves t1 v_top v_changed_7 a_board_8 a_before a_changedSquare_9 a_changedMan_10 x5 h)
        · have h := oi_f h c_13
          refine kv_aload_n C 0 dX10_make_150 rfl rfl ?_
          refine kv_iload_n C 1 dX10_make_151 rfl rfl ?_
          refine kv_iload_n C 2 dX10_make_152 rfl rfl ?_
          refine kv_iadd C dX10_make_153 ?_
          refine kv_iconst C 2 dX10_make_154 (by decide) ?_
          refine kv_idiv C dX10_make_155 (by decide) ?_
          obtain ⟨y_14, ey_14, h⟩ := ol_e h
          refine kv_top ey_14 ?_
          refine kv_put C (Cn := RX10) (T := TX10) (N := 31) (ty := .int) (ws1 := (wM h0 q cI v_code y_1 v_rights y_14 v_halves t1 v_top v_typedCount v_readAt v_place v_writtenCount v_chosenFrom v_chosenTo v_chosenTurn v_changed_7 v_readSide v_readRights v_readPassed v_readHalves v_readNumber a_board_8 a_before a_typed a_written a_froms a_tos a_turns a_counts a_changedSquare_9 a_changedMan_10 a_readBoard)) 0 4 hin10 tyX10 tyX10_ok nmX10 rfl rfl (by decide) (C.ts _ (List.mem_cons_of_mem _ lf_RX10_13)) rfl rfl (by decide +kernel) rfl rfl (Nat.le_of_ble_eq_true rfl) rfl dX10_make_156 ?_
          exact kv_lv [3] (lv2 := [(5, .int x5)]) rfl (j159 y_1 v_rights y_14 v_halves t1 v_top v_changed_7 a_board_8 a_before a_changedSquare_9 a_changedMan_10 x5 h)
  have j58 : ∀ (v_side : Int32) (v_rights : Int32) (v_passed : Int32) (v_halves : Int32) (v_number : Int32) (v_top : Int32) (v_changed : Int32) (a_board : Nat → Int32) (a_before : Nat → Int32) (a_changedSquare : Nat → Int32) (a_changedMan : Nat → Int32) (x1 : Int32) (x2 : Int32) (x5 : Int32) (x6 : Int32) (t1 : Int32), m_X10_make_b58  v_side v_rights v_passed v_halves v_number v_top v_changed a_board a_before a_changedSquare a_changedMan x1 x2 x5 x6 t1 = some (rv, v_side', v_rights', v_passed', v_halves', v_number', v_top', v_changed', a_board', a_before', a_changedSquare', a_changedMan') → kv p l e rm_X10_make s m ([.ref h0, .int p0, .int p1, .int p2] : List Value).toArray below meth c D A 7 0 0 Q (wM h0 q cI v_code v_side v_rights v_passed v_halves v_number v_top v_typedCount v_readAt v_place v_writtenCount v_chosenFrom v_chosenTo v_chosenTurn v_changed v_readSide v_readRights v_readPassed v_readHalves v_readNumber a_board a_before a_typed a_written a_froms a_tos a_turns a_counts a_changedSquare a_changedMan a_readBoard) [(0, .ref h0), (1, .int x1), (2, .int x2), (5, .int x5), (6, .int x6)] 58 [.int t1, .ref h0] := by
    intro v_side v_rights v_passed v_halves v_number v_top v_changed a_board a_before a_changedSquare a_changedMan x1 x2 x5 x6 t1 h
    unfold m_X10_make_b58 at h
    refine kv_put C (Cn := RX10) (T := TX10) (N := 31) (ty := .int) (ws1 := (wM h0 q cI v_code v_side v_rights v_passed t1 v_number v_top v_typedCount v_readAt v_place v_writtenCount v_chosenFrom v_chosenTo v_chosenTurn v_changed v_readSide v_readRights v_readPassed v_readHalves v_readNumber a_board a_before a_typed a_written a_froms a_tos a_turns a_counts a_changedSquare a_changedMan a_readBoard)) 0 5 hin10 tyX10 tyX10_ok nmX10 rfl rfl (by decide) (C.ts _ (List.mem_cons_of_mem _ lf_RX10_122)) rfl rfl (by decide +kernel) rfl rfl (Nat.le_of_ble_eq_true rfl) rfl dX10_make_58 ?_
    refine kv_aload_n C 0 dX10_make_61 rfl rfl ?_
    refine kv_aload_n C 0 dX10_make_62 rfl rfl ?_
    refine kv_get C (Cn := RX10) (T := TX10) (N := 31) 0 3 hin10 rfl rfl (by decide) (C.ts _ (List.mem_cons_of_mem _ lf_RX10_60)) rfl rfl dX10_make_63 ?_
    refine kv_iload_n C 1 dX10_make_66 rfl rfl ?_
    obtain ⟨r_15, hm_16, h⟩ := ob_e h
    refine kv_callS0i C [.int x1] (c_X10_rightsAt l D x1 r_15 hm_16) (cs_X10_rightsAt C.ts lm_RX10_132 ⟨Nat.le_of_ble_eq_true rfl, Nat.le_of_ble_eq_true rfl⟩) rfl rfl (Nat.le_of_ble_eq_true rfl) dX10_make_67 ⟨Nat.zero_le _, Nat.zero_le _⟩ ?_
    refine kv_iconst C (-1) dX10_make_70 (by decide) ?_
    refine kv_ixor C dX10_make_71 ?_
    refine kv_iand C dX10_make_72 ?_
    refine kv_iload_n C 2 dX10_make_73 rfl rfl ?_
    obtain ⟨r_17, hm_18, h⟩ := ob_e h
    refine kv_callS0i C [.int x2] (c_X10_rightsAt l D x2 r_17 hm_18) (cs_X10_rightsAt C.ts lm_RX10_132 ⟨Nat.le_of_ble_eq_true rfl, Nat.le_of_ble_eq_true rfl⟩) rfl rfl (Nat.le_of_ble_eq_true rfl) dX10_make_74 ⟨Nat.zero_le _, Nat.zero_le _⟩ ?_
    refine kv_iconst C (-1) dX10_make_77 (by decide) ?_
    refine kv_ixor C dX10_make_78 ?_
    refine kv_iand C dX10_make_79 ?_
    obtain ⟨y_19, ey_19, h⟩ := ol_e h
    refine kv_top ey_19 ?_
    refine kv_put C (Cn := RX10) (T := TX10) (N := 31) (ty := .int) (ws1 := (wM h0 q cI v_code v_side y_19 v_passed t1 v_number v_top v_typedCount v_readAt v_place v_writtenCount v_chosenFrom v_chosenTo v_chosenTurn v_changed v_readSide v_readRights v_readPassed v_readHalves v_readNumber a_board a_before a_typed a_written a_froms a_tos a_turns a_counts a_changedSquare a_changedMan a_readBoard)) 0 3 hin10 tyX10 tyX10_ok nmX10 rfl rfl (by decide) (C.ts _ (List.mem_cons_of_mem _ lf_RX10_60)) rfl rfl (by decide +kernel) rfl rfl (Nat.le_of_ble_eq_true rfl) rfl dX10_make_80 ?_
    refine kv_aload_n C 0 dX10_make_83 rfl rfl ?_
    refine kv_aload_n C 0 dX10_make_84 rfl rfl ?_
    refine kv_get C (Cn := RX10) (T := TX10) (N := 31) 0 2 hin10 rfl rfl (by decide) (C.ts _ (List.mem_cons_of_mem _ lf_RX10_119)) rfl rfl dX10_make_85 ?_
    refine kv_if_ne C 98 dX10_make_88 (by decide) (fun c_20 => ?_) (fun c_20 => ?_)
    · have h := oi_f h c_20
      refine kv_aload_n C 0 dX10_make_98 rfl rfl ?_
      refine kv_get C (Cn := RX10) (T := TX10) (N := 31) 0 6 hin10 rfl rfl (by decide) (C.ts _ (List.mem_cons_of_mem _ lf_RX10_63)) rfl rfl dX10_make_99 ?_
      refine kv_iconst C 1 dX10_make_102 (by decide) ?_
      refine kv_iadd C dX10_make_103 ?_
      exact kv_lv [0, 1, 2, 3, 4] (lv2 := [(0, .ref h0), (1, .int x1), (2, .int x2), (5, .int x5), (6, .int x6)]) rfl (j104 v_side y_19 v_passed t1 v_number v_top v_changed a_board a_before a_changedSquare a_changedMan x1 x2 x5 x6 (v_number + 1) h)
    · have h := oi_t h c_20
      refine kv_aload_n C 0 dX10_make_91 rfl rfl ?_
      refine kv_get C (Cn := RX10) (T := TX10) (N := 31) 0 6 hin10 rfl rfl (by decide) (C.ts _ (List.mem_cons_of_mem _ lf_RX10_63)) rfl rfl dX10_make_92 ?_
      refine kv_goto C 104 dX10_make_95 (by decide) ?_
      exact kv_lv [0, 1, 2, 3, 4] (lv2 := [(0, .ref h0), (1, .int x1), (2, .int x2), (5, .int x5), (6, .int x6)]) rfl (j104 v_side y_19 v_passed t1 v_number v_top v_changed a_board a_before a_changedSquare a_changedMan x1 x2 x5 x6 v_number h)
  have j48 : ∀ (v_side : Int32) (v_rights : Int32) (v_passed : Int32) (v_halves : Int32) (v_number : Int32) (v_top : Int32) (v_changed : Int32) (a_board : Nat → Int32) (a_before : Nat → Int32) (a_changedSquare : Nat → Int32) (a_changedMan : Nat → Int32) (x1 : Int32) (x2 : Int32) (x5 : Int32) (x6 : Int32), m_X10_make_b48  v_side v_rights v_passed v_halves v_number v_top v_changed a_board a_before a_changedSquare a_changedMan x1 x2 x5 x6 = some (rv, v_side', v_rights', v_passed', v_halves', v_number', v_top', v_changed', a_board', a_before', a_changedSquare', a_changedMan') → kv p l e rm_X10_make s m ([.ref h0, .int p0, .int p1, .int p2] : List Value).toArray below meth c D A 7 0 0 Q (wM h0 q cI v_code v_side v_rights v_passed v_halves v_number v_top v_typedCount v_readAt v_place v_writtenCount v_chosenFrom v_chosenTo v_chosenTurn v_changed v_readSide v_readRights v_readPassed v_readHalves v_readNumber a_board a_before a_typed a_written a_froms a_tos a_turns a_counts a_changedSquare a_changedMan a_readBoard) [(0, .ref h0), (1, .int x1), (2, .int x2), (5, .int x5), (6, .int x6)] 48 [.ref h0] := by
    intro v_side v_rights v_passed v_halves v_number v_top v_changed a_board a_before a_changedSquare a_changedMan x1 x2 x5 x6 h
    unfold m_X10_make_b48 at h
    refine kv_iconst C 0 dX10_make_48 (by decide) ?_
    refine kv_goto C 58 dX10_make_49 (by decide) ?_
    exact kv_lv [0, 1, 2, 3, 4] (lv2 := [(0, .ref h0), (1, .int x1), (2, .int x2), (5, .int x5), (6, .int x6)]) rfl (j58 v_side v_rights v_passed v_halves v_number v_top v_changed a_board a_before a_changedSquare a_changedMan x1 x2 x5 x6 0 h)
  have j35 : ∀ (v_side : Int32) (v_rights : Int32) (v_passed : Int32) (v_halves : Int32) (v_number : Int32) (v_top : Int32) (v_changed : Int32) (a_board : Nat → Int32) (a_before : Nat → Int32) (a_changedSquare : Nat → Int32) (a_changedMan : Nat → Int32) (x1 : Int32) (x2 : Int32) (x5 : Int32) (t0 : Int32), m_X10_make_b35  v_side v_rights v_passed v_halves v_number v_top v_changed a_board a_before a_changedSquare a_changedMan x1 x2 x5 t0 = some (rv, v_side', v_rights', v_passed', v_halves', v_number', v_top', v_changed', a_board', a_before', a_changedSquare', a_changedMan') → kv p l e rm_X10_make s m ([.ref h0, .int p0, .int p1, .int p2] : List Value).toArray below meth c D A 7 0 0 Q (wM h0 q cI v_code v_side v_rights v_passed v_halves v_number v_top v_typedCount v_readAt v_place v_writtenCount v_chosenFrom v_chosenTo v_chosenTurn v_changed v_readSide v_readRights v_readPassed v_readHalves v_readNumber a_board a_before a_typed a_written a_froms a_tos a_turns a_counts a_changedSquare a_changedMan a_readBoard) [(0, .ref h0), (1, .int x1), (2, .int x2), (5, .int x5)] 35 [.int t0] := by
    intro v_side v_rights v_passed v_halves v_number v_top v_changed a_board a_before a_changedSquare a_changedMan x1 x2 x5 t0 h
    unfold m_X10_make_b35 at h
    refine kv_istore C (lv2 := [(0, .ref h0), (1, .int x1), (2, .int x2), (5, .int x5), (6, .int t0)]) [1, 2, 3, 4, 0] dX10_make_35 (by decide) rfl rfl ?_
    refine kv_aload_n C 0 dX10_make_37 rfl rfl ?_
    refine kv_iload C 4 dX10_make_38 rfl ?_
    refine kv_if_ne C 48 dX10_make_40 (by decide) (fun c_21 => ?_) (fun c_21 => ?_)
    · have h := oi_f h c_21
      exact kv_lv [0, 1, 2, 3, 4] (lv2 := [(0, .ref h0), (1, .int x1), (2, .int x2), (5, .int x5), (6, .int t0)]) rfl (j48 v_side v_rights v_passed v_halves v_number v_top v_changed a_board a_before a_changedSquare a_changedMan x1 x2 x5 t0 h)
    · have h := oi_t h c_21
      refine kv_iload C 3 dX10_make_43 rfl ?_
      refine kv_if_eq C 52 dX10_make_45 (by decide) (fun c_22 => ?_) (fun c_22 => ?_)
      · have h := oi_t h c_22
        refine kv_aload_n C 0 dX10_make_52 rfl rfl ?_
        refine kv_get C (Cn := RX10) (T := TX10) (N := 31) 0 5 hin10 rfl rfl (by decide) (C.ts _ (List.mem_cons_of_mem _ lf_RX10_122)) rfl rfl dX10_make_53 ?_
        refine kv_iconst C 1 dX10_make_56 (by decide) ?_
        refine kv_iadd C dX10_make_57 ?_
        exact kv_lv [0, 1, 2, 3, 4] (lv2 := [(0, .ref h0), (1, .int x1), (2, .int x2), (5, .int x5), (6, .int t0)]) rfl (j58 v_side v_rights v_passed v_halves v_number v_top v_changed a_board a_before a_changedSquare a_changedMan x1 x2 x5 t0 (v_halves + 1) h)
      · have h := oi_f h c_22
        exact kv_lv [0, 1, 2, 3, 4] (lv2 := [(0, .ref h0), (1, .int x1), (2, .int x2), (5, .int x5), (6, .int t0)]) rfl (j48 v_side v_rights v_passed v_halves v_number v_top v_changed a_board a_before a_changedSquare a_changedMan x1 x2 x5 t0 h)
  unfold m_X10_make at hm
  have h := hm
  refine kv_lv [0, 1, 2, 3] (lv2 := [(0, .ref h0), (1, .int p0), (2, .int p1), (3, .int p2)]) rfl ?_
  refine kv_aload_n C 0 dX10_make_0 rfl rfl ?_
  obtain ⟨⟨v_top_23, a_before_24⟩, hm_25, h⟩ := ob_e h
  replace h : _ = _ := h
  refine kv_callWv C [] 0 (c_X10_push l D h0 q cI v_code v_side v_rights v_passed v_halves v_number v_top v_typedCount v_readAt v_place v_writtenCount v_chosenFrom v_chosenTo v_chosenTurn v_changed v_readSide v_readRights v_readPassed v_readHalves v_readNumber a_board a_before a_typed a_written a_froms a_tos a_turns a_counts a_changedSquare a_changedMan a_readBoard  v_top_23 a_before_24 hm_25) (cv_X10_push C.ts lm_RX10_129 ⟨Nat.le_of_ble_eq_true rfl, Nat.le_of_ble_eq_true rfl⟩) rfl rfl rfl rfl (Nat.le_of_ble_eq_true rfl) dX10_make_1 ⟨Nat.zero_le _, Nat.zero_le _⟩ ?_
  refine kv_aload_n C 0 dX10_make_4 rfl rfl ?_
  refine kv_get C (Cn := RX10) (T := TX10) (N := 31) 0 1 hin10 rfl rfl (by decide) (C.ts _ (List.mem_cons_of_mem _ lf_RX10_7)) rfl rfl dX10_make_5 ?_
  refine kv_iload_n C 1 dX10_make_8 rfl rfl ?_
  obtain ⟨g_27, h⟩ := oin_e h
  refine kv_iald C 1 0 rfl rfl g_27 dX10_make_9 ?_
  obtain ⟨x4_28, ex4_28, h⟩ := ol_e h
  refine kv_top ex4_28 ?_
  refine kv_istore C (lv2 := [(0, .ref h0), (1, .int p0), (2, .int p1), (3, .int p2), (4, .int x4_28)]) [1, 2, 3, 4, 0] dX10_make_10 (by decide) rfl rfl ?_
  refine kv_aload_n C 0 dX10_make_12 rfl rfl ?_
  refine kv_iload_n C 1 dX10_make_13 rfl rfl ?_
  refine kv_iload_n C 2 dX10_make_14 rfl rfl ?_
  refine kv_iload_n C 3 dX10_make_15 rfl rfl ?_
  obtain ⟨⟨r_29, v_changed_30, a_board_31, a_changedSquare_32, a_changedMan_33⟩, hm_34, h⟩ := ob_e h
  replace h : _ = _ := h
  refine kv_callWi C [.int p0, .int p1, .int p2] 0 (c_X10_moveMen l D h0 q cI v_code v_side v_rights v_passed v_halves v_number v_top_23 v_typedCount v_readAt v_place v_writtenCount v_chosenFrom v_chosenTo v_chosenTurn v_changed v_readSide v_readRights v_readPassed v_readHalves v_readNumber a_board a_before_24 a_typed a_written a_froms a_tos a_turns a_counts a_changedSquare a_changedMan a_readBoard p0 p1 p2 r_29 v_changed_30 a_board_31 a_changedSquare_32 a_changedMan_33 hm_34) (cv_X10_moveMen C.ts lm_RX10_105 ⟨Nat.le_of_ble_eq_true rfl, Nat.le_of_ble_eq_true rfl⟩) rfl rfl rfl rfl (Nat.le_of_ble_eq_true rfl) dX10_make_16 ⟨Nat.zero_le _, Nat.zero_le _⟩ ?_
  refine kv_istore C (lv2 := [(0, .ref h0), (1, .int p0), (2, .int p1), (4, .int x4_28), (5, .int r_29)]) [1, 2, 3, 5, 0] dX10_make_19 (by decide) rfl rfl ?_
  refine kv_iload C 3 dX10_make_21 rfl ?_
  obtain ⟨r_36, hm_37, h⟩ := ob_e h
  refine kv_callS0i C [.int x4_28] (c_X10_kindOf l D x4_28 r_36 hm_37) (cs_X10_kindOf C.ts lm_RX10_79 ⟨Nat.le_of_ble_eq_true rfl, Nat.le_of_ble_eq_true rfl⟩) rfl rfl (Nat.le_of_ble_eq_true rfl) dX10_make_23 ⟨Nat.zero_le _, Nat.zero_le _⟩ ?_
  refine kv_iconst C 1 dX10_make_26 (by decide) ?_
  refine kv_icmp_ne C 34 dX10_make_27 (by decide) (fun c_38 => ?_) (fun c_38 => ?_)
  · have h := oi_f h c_38
    refine kv_iconst C 0 dX10_make_34 (by decide) ?_
    exact kv_lv [0, 1, 2, 4] (lv2 := [(0, .ref h0), (1, .int p0), (2, .int p1), (5, .int r_29)]) rfl (j35 v_side v_rights v_passed v_halves v_number v_top_23 v_changed_30 a_board_31 a_before_24 a_changedSquare_32 a_changedMan_33 p0 p1 r_29 0 h)
  · have h := oi_t h c_38
    refine kv_iconst C 1 dX10_make_30 (by decide) ?_
    refine kv_goto C 35 dX10_make_31 (by decide) ?_
    exact kv_lv [0, 1, 2, 4] (lv2 := [(0, .ref h0), (1, .int p0), (2, .int p1), (5, .int r_29)]) rfl (j35 v_side v_rights v_passed v_halves v_number v_top_23 v_changed_30 a_board_31 a_before_24 a_changedSquare_32 a_changedMan_33 p0 p1 r_29 1 h)
def m_X10_tell_b60 (v_changed : Int32) (a_board : Nat → Int32) (a_froms : Nat → Int32) (a_tos : Nat → Int32) (a_turns : Nat → Int32) (a_counts : Nat → Int32) (a_changedSquare : Nat → Int32) (a_changedMan : Nat → Int32) : Option (Int32 × (Nat → Int32) × (Nat → Int32) × (Nat → Int32) × (Nat → Int32) × (Nat → Int32) × (Nat → Int32) × (Nat → Int32)) := some (v_changed, a_board, a_froms, a_tos, a_turns, a_counts, a_changedSquare, a_changedMan)
def m_X10_tell (v_changed : Int32) (a_board : Nat → Int32) (a_froms : Nat → Int32) (a_tos : Nat → Int32) (a_turns : Nat → Int32) (a_counts : Nat → Int32) (a_changedSquare : Nat → Int32) (a_changedMan : Nat → Int32) (p0 : Int32) (p1 : Int32) (p2 : Int32) (p3 : Int32) : Option (Int32 × (Nat → Int32) × (Nat → Int32) × (Nat → Int32) × (Nat → Int32) × (Nat → Int32) × (Nat → Int32) × (Nat → Int32)) := ob (m_X10_isSafe v_changed a_board a_changedSquare a_changedMan p1 p2 p3) fun (r_1, v_changed_2, a_board_3, a_changedSquare_4, a_changedMan_5) => if r_1 = 0 then m_X10_tell_b60 v_changed_2 a_board_3 a_froms a_tos a_turns a_counts a_changedSquare_4 a_changedMan_5 else oin (p0) 5 (ol ((512 * p0) + (a_counts p0.toNatClampNeg)) fun x5_10 => oin (x5_10) 2560 (ol (upd a_froms (x5_10.toNatClampNeg) p1) fun a_froms_12 => oin (x5_10) 2560 (ol (upd a_tos (x5_10.toNatClampNeg) p2) fun a_tos_14 => oin (x5_10) 2560 (ol (upd a_turns (x5_10.toNatClampNeg) p3) fun a_turns_16 => oin (p0) 5 (ol ((a_counts p0.toNatClampNeg) + 1) fun y_18 => oin (p0) 5 (ol (upd a_counts (p0.toNatClampNeg) y_18) fun a_counts_20 => m_X10_tell_b60 v_changed_2 a_board_3 a_froms_12 a_tos_14 a_turns_16 a_counts_20 a_changedSquare_4 a_changedMan_5))))))
abbrev rm_X10_tell : Room := { frames := 6, cells := 0, slots := 0, locals := 148 }
abbrev wy_X10_tell : List Cond := .code yX10_tell cX10_tell 6 none :: gT
theorem cv_X10_tell {R : Room} {s : State} {args : Array Value} {own : String} {index : Nat} {w0 : Cond} (hts : ∀ w ∈ w0 :: gT, w.before args s = true) (hl : Cond.methodLink own index yX10_tell ∈ gT) (hR : 6 + 1 ≤ R.frames ∧ 8 + (6 + 11) + 148 ≤ R.locals) : CallW R s args own RX10 index yX10_tell cX10_tell 6 none wy_X10_tell rm_X10_tell 0 0 4 :=
  cwV 4 hts (gT_call w0 (pre := [.methodLink own index yX10_tell, .instanceMethod yX10_tell, .selects RX10 yX10_tell yX10_tell, .initialized RX10]) (gT_lc hl (gT_lc ly_yX10_tell (gT_lc lx_yX10_tell (gT_l1 li_RX10)))) lc_yX10_tell) rfl rfl rfl (by decide +kernel) hR
set_option maxRecDepth 100000 in
set_option maxHeartbeats 4000000 in
theorem c_X10_tell (l : Launch) (D : va_G) (h0 : Nat) (q : Nat → Nat) (cI : ClassId) (v_code : Int32) (v_side : Int32) (v_rights : Int32) (v_passed : Int32) (v_halves : Int32) (v_number : Int32) (v_top : Int32) (v_typedCount : Int32) (v_readAt : Int32) (v_place : Int32) (v_writtenCount : Int32) (v_chosenFrom : Int32) (v_chosenTo : Int32) (v_chosenTurn : Int32) (v_changed : Int32) (v_readSide : Int32) (v_readRights : Int32) (v_readPassed : Int32) (v_readHalves : Int32) (v_readNumber : Int32) (a_board : Nat → Int32) (a_before : Nat → Int32) (a_typed : Nat → Int32) (a_written : Nat → Int32) (a_froms : Nat → Int32) (a_tos : Nat → Int32) (a_turns : Nat → Int32) (a_counts : Nat → Int32) (a_changedSquare : Nat → Int32) (a_changedMan : Nat → Int32) (a_readBoard : Nat → Int32) (p0 : Int32) (p1 : Int32) (p2 : Int32) (p3 : Int32) (v_changed' : Int32) (a_board' : Nat → Int32) (a_froms' : Nat → Int32) (a_tos' : Nat → Int32) (a_turns' : Nat → Int32) (a_counts' : Nat → Int32) (a_changedSquare' : Nat → Int32) (a_changedMan' : Nat → Int32) (hm : m_X10_tell v_changed a_board a_froms a_tos a_turns a_counts a_changedSquare a_changedMan p0 p1 p2 p3 = some (v_changed', a_board', a_froms', a_tos', a_turns', a_counts', a_changedSquare', a_changedMan')) : kDv l yX10_tell wy_X10_tell rm_X10_tell D [(cI, .int)] (wM h0 q cI v_code v_side v_rights v_passed v_halves v_number v_top v_typedCount v_readAt v_place v_writtenCount v_chosenFrom v_chosenTo v_chosenTurn v_changed v_readSide v_readRights v_readPassed v_readHalves v_readNumber a_board a_before a_typed a_written a_froms a_tos a_turns a_counts a_changedSquare a_changedMan a_readBoard) (wM h0 q cI v_code v_side v_rights v_passed v_halves v_number v_top v_typedCount v_readAt v_place v_writtenCount v_chosenFrom v_chosenTo v_chosenTurn v_changed' v_readSide v_readRights v_readPassed v_readHalves v_readNumber a_board' a_before a_typed a_written a_froms' a_tos' a_turns' a_counts' a_changedSquare' a_changedMan' a_readBoard) [.ref h0, .int p0, .int p1, .int p2, .int p3] := by
  refine kDv.of cX10_tell 6 none (by decide) rfl rfl (Nat.le_of_ble_eq_true rfl) ?_
  intro p e s m below meth c A Q C hret
  have hin10 : ∀ w ∈ wsX100, w ∈ wy_X10_tell := fun w h => List.mem_cons_of_mem _ (inG10 w h)
  have j60 : ∀ (v_changed : Int32) (a_board : Nat → Int32) (a_froms : Nat → Int32) (a_tos : Nat → Int32) (a_turns : Nat → Int32) (a_counts : Nat → Int32) (a_changedSquare : Nat → Int32) (a_changedMan : Nat → Int32), m_X10_tell_b60  v_changed a_board a_froms a_tos a_turns a_counts a_changedSquare a_changedMan  = some (v_changed', a_board', a_froms', a_tos', a_turns', a_counts', a_changedSquare', a_changedMan') → kv p l e rm_X10_tell s m ([.ref h0, .int p0, .int p1, .int p2, .int p3] : List Value).toArray below meth c D A 6 0 0 Q (wM h0 q cI v_code v_side v_rights v_passed v_halves v_number v_top v_typedCount v_readAt v_place v_writtenCount v_chosenFrom v_chosenTo v_chosenTurn v_changed v_readSide v_readRights v_readPassed v_readHalves v_readNumber a_board a_before a_typed a_written a_froms a_tos a_turns a_counts a_changedSquare a_changedMan a_readBoard) [] 60 [] := by
    intro v_changed a_board a_froms a_tos a_turns a_counts a_changedSquare a_changedMan h
    unfold m_X10_tell_b60 at h
    cases h
    exact hret _ _ dX10_tell_60
  unfold m_X10_tell at hm
  have h := hm
  refine kv_lv [0, 1, 2, 3, 4] (lv2 := [(0, .ref h0), (1, .int p0), (2, .int p1), (3, .int p2), (4, .int p3)]) rfl ?_
  refine kv_aload_n C 0 dX10_tell_0 rfl rfl ?_
  refine kv_iload_n C 2 dX10_tell_1 rfl rfl ?_
  refine kv_iload_n C 3 dX10_tell_2 rfl rfl ?_
  refine kv_iload C 4 dX10_tell_3 rfl ?_
  obtain ⟨⟨r_1, v_changed_2, a_board_3, a_changedSquare_4, a_changedMan_5⟩, hm_6, h⟩ := ob_e h
  replace h : _ = _ := h
  refine kv_callWi C [.int p1, .int p2, .int p3] 0 (c_X10_isSafe l D h0 q cI v_code v_side v_rights v_passed v_halves v_number v_top v_typedCount v_readAt v_place v_writtenCount v_chosenFrom v_chosenTo v_chosenTurn v_changed v_readSide v_readRights v_readPassed v_readHalves v_readNumber a_board a_before a_typed a_written a_froms a_tos a_turns a_counts a_changedSquare a_changedMan a_readBoard p1 p2 p3 r_1 v_changed_2 a_board_3 a_changedSquare_4 a_changedMan_5 hm_6) (cv_X10_isSafe C.ts lm_RX10_125 ⟨Nat.le_of_ble_eq_true rfl, Nat.le_of_ble_eq_true rfl⟩) rfl rfl rfl rfl (Nat.le_of_ble_eq_true rfl) dX10_tell_5 ⟨Nat.zero_le _, Nat.zero_le _⟩ ?_
  refine kv_if_eq C 60 dX10_tell_8 (by decide) (fun c_8 => ?_) (fun c_8 => ?_)
  · have h := oi_t h c_8
    exact kv_lv [] (lv2 := []) rfl (j60 v_changed_2 a_board_3 a_froms a_tos a_turns a_counts a_changedSquare_4 a_changedMan_5 h)
  · have h := oi_f h c_8
    refine kv_sipush C 512 dX10_tell_11 (by decide) ?_
    refine kv_iload_n C 1 dX10_tell_14 rfl rfl ?_
    refine kv_imul C dX10_tell_15 ?_
    refine kv_aload_n C 0 dX10_tell_16 rfl rfl ?_
    refine kv_get C (Cn := RX10) (T := TX10) (N := 31) 0 18 hin10 rfl rfl (by decide) (C.ts _ (List.mem_cons_of_mem _ lf_RX10_39)) rfl rfl dX10_tell_17 ?_
    refine kv_iload_n C 1 dX10_tell_20 rfl rfl ?_
    obtain ⟨g_9, h⟩ := oin_e h
    refine kv_iald C 8 0 rfl rfl g_9 dX10_tell_21 ?_
    refine kv_iadd C dX10_tell_22 ?_
    obtain ⟨x5_10, ex5_10, h⟩ := ol_e h
    refine kv_top ex5_10 ?_
    refine kv_istore C (lv2 := [(0, .ref h0), (1, .int p0), (2, .int p1), (3, .int p2), (4, .int p3), (5, .int x5_10)]) [1, 2, 3, 4, 5, 0] dX10_tell_23 (by decide) rfl rfl ?_
    refine kv_aload_n C 0 dX10_tell_25 rfl rfl ?_
    refine kv_get C (Cn := RX10) (T := TX10) (N := 31) 0 15 hin10 rfl rfl (by decide) (C.ts _ (List.mem_cons_of_mem _ lf_RX10_30)) rfl rfl dX10_tell_26 ?_
    refine kv_iload C 5 dX10_tell_29 rfl ?_
    refine kv_iload_n C 2 dX10_tell_31 rfl rfl ?_
    obtain ⟨g_11, h⟩ := oin_e h
    obtain ⟨a_froms_12, ea_froms_12, h⟩ := ol_e h
    refine kv_iast2 C (ws1 := (wM h0 q cI v_code v_side v_rights v_passed v_halves v_number v_top v_typedCount v_readAt v_place v_writtenCount v_chosenFrom v_chosenTo v_chosenTurn v_changed_2 v_readSide v_readRights v_readPassed v_readHalves v_readNumber a_board_3 a_before a_typed a_written a_froms_12 a_tos a_turns a_counts a_changedSquare_4 a_changedMan_5 a_readBoard)) 5 0 rfl rfl g_11 ea_froms_12 rfl dX10_tell_32 ?_
    refine kv_aload_n C 0 dX10_tell_33 rfl rfl ?_
    refine kv_get C (Cn := RX10) (T := TX10) (N := 31) 0 16 hin10 rfl rfl (by decide) (C.ts _ (List.mem_cons_of_mem _ lf_RX10_33)) rfl rfl dX10_tell_34 ?_
    refine kv_iload C 5 dX10_tell_37 rfl ?_
    refine kv_iload_n C 3 dX10_tell_39 rfl rfl ?_
    obtain ⟨g_13, h⟩ := oin_e h
    obtain ⟨a_tos_14, ea_tos_14, h⟩ := ol_e h
    refine kv_iast2 C (ws1 := (wM h0 q cI v_code v_side v_rights v_passed v_halves v_number v_top v_typedCount v_readAt v_place v_writtenCount v_chosenFrom v_chosenTo v_chosenTurn v_changed_2 v_readSide v_readRights v_readPassed v_readHalves v_readNumber a_board_3 a_before a_typed a_written a_froms_12 a_tos_14 a_turns a_counts a_changedSquare_4 a_changedMan_5 a_readBoard)) 6 0 rfl rfl g_13 ea_tos_14 rfl dX10_tell_40 ?_
    refine kv_aload_n C 0 dX10_tell_41 rfl rfl ?_
    refine kv_get C (Cn := RX10) (T := TX10) (N := 31) 0 17 hin10 rfl rfl (by decide) (C.ts _ (List.mem_cons_of_mem _ lf_RX10_36)) rfl rfl dX10_tell_42 ?_
    refine kv_iload C 5 dX10_tell_45 rfl ?_
    refine kv_iload C 4 dX10_tell_47 rfl ?_
    obtain ⟨g_15, h⟩ := oin_e h
    obtain ⟨a_turns_16, ea_turns_16, h⟩ := ol_e h
    refine kv_iast2 C (ws1 := (wM h0 q cI v_code v_side v_rights v_passed v_halves v_number v_top v_typedCount v_readAt v_place v_writtenCount v_chosenFrom v_chosenTo v_chosenTurn v_changed_2 v_readSide v_readRights v_readPassed v_readHalves v_readNumber a_board_3 a_before a_typed a_written a_froms_12 a_tos_14 a_turns_16 a_counts a_changedSquare_4 a_changedMan_5 a_readBoard)) 7 0 rfl rfl g_15 ea_turns_16 rfl dX10_tell_49 ?_
    refine kv_aload_n C 0 dX10_tell_50 rfl rfl ?_
    refine kv_get C (Cn := RX10) (T := TX10) (N := 31) 0 18 hin10 rfl rfl (by decide) (C.ts _ (List.mem_cons_of_mem _ lf_RX10_39)) rfl rfl dX10_tell_51 ?_
    refine kv_iload_n C 1 dX10_tell_54 rfl rfl ?_
    refine kv_dup2_11 C dX10_tell_55 rfl rfl ?_
    obtain ⟨g_17, h⟩ := oin_e h
    refine kv_iald C 8 0 rfl rfl g_17 dX10_tell_56 ?_
    refine kv_iconst C 1 dX10_tell_57 (by decide) ?_
    refine kv_iadd C dX10_tell_58 ?_
    obtain ⟨y_18, ey_18, h⟩ := ol_e h
    refine kv_top ey_18 ?_
    obtain ⟨g_19, h⟩ := oin_e h
    obtain ⟨a_counts_20, ea_counts_20, h⟩ := ol_e h
    refine kv_iast2 C (ws1 := (wM h0 q cI v_code v_side v_rights v_passed v_halves v_number v_top v_typedCount v_readAt v_place v_writtenCount v_chosenFrom v_chosenTo v_chosenTurn v_changed_2 v_readSide v_readRights v_readPassed v_readHalves v_readNumber a_board_3 a_before a_typed a_written a_froms_12 a_tos_14 a_turns_16 a_counts_20 a_changedSquare_4 a_changedMan_5 a_readBoard)) 8 0 rfl rfl g_19 ea_counts_20 rfl dX10_tell_59 ?_
    exact kv_lv [] (lv2 := []) rfl (j60 v_changed_2 a_board_3 a_froms_12 a_tos_14 a_turns_16 a_counts_20 a_changedSquare_4 a_changedMan_5 h)
def m_X10_pawnGoes_b136 (v_side : Int32) (v_passed : Int32) (a_board : Nat → Int32) (t0 : Int32) : Option (Int32) := obl (t0) (some t0)
def m_X10_pawnGoes_b135 (v_side : Int32) (v_passed : Int32) (a_board : Nat → Int32) : Option (Int32) := m_X10_pawnGoes_b136 v_side v_passed a_board 0
def m_X10_pawnGoes_b131 (v_side : Int32) (v_passed : Int32) (a_board : Nat → Int32) : Option (Int32) := m_X10_pawnGoes_b136 v_side v_passed a_board 1
def m_X10_pawnGoes_b105 (v_side : Int32) (v_passed : Int32) (a_board : Nat → Int32) (x1 : Int32) (x2 : Int32) : Option (Int32) := ob (m_X10_reaches a_board x1 x2) fun r_2 => if r_2 = 0 then m_X10_pawnGoes_b135 v_side v_passed a_board else oin (x2) 64 (if (a_board x2.toNatClampNeg) = 0 then if x2 = v_passed then m_X10_pawnGoes_b131 v_side v_passed a_board else m_X10_pawnGoes_b135 v_side v_passed a_board else m_X10_pawnGoes_b131 v_side v_passed a_board)
def m_X10_pawnGoes_b104 (v_side : Int32) (v_passed : Int32) (a_board : Nat → Int32) (t0 : Int32) : Option (Int32) := obl (t0) (some t0)
def m_X10_pawnGoes_b103 (v_side : Int32) (v_passed : Int32) (a_board : Nat → Int32) : Option (Int32) := m_X10_pawnGoes_b104 v_side v_passed a_board 0
def m_X10_pawnGoes_b60 (v_side : Int32) (v_passed : Int32) (a_board : Nat → Int32) (x1 : Int32) (x2 : Int32) (x3 : Int32) (x4 : Int32) : Option (Int32) := if x4 = 0 then m_X10_pawnGoes_b105 v_side v_passed a_board x1 x2 else if x3 = 2 then ob (m_X10_rankOf x1 v_side) fun r_11 => if r_11 = 1 then ob (m_X10_up v_side) fun r_14 => oin (x1 + r_14) 64 (if (a_board (x1 + r_14).toNatClampNeg) = 0 then m_X10_pawnGoes_b104 v_side v_passed a_board 1 else m_X10_pawnGoes_b103 v_side v_passed a_board) else m_X10_pawnGoes_b103 v_side v_passed a_board else m_X10_pawnGoes_b105 v_side v_passed a_board x1 x2
def m_X10_pawnGoes_b46 (v_side : Int32) (v_passed : Int32) (a_board : Nat → Int32) (x1 : Int32) (x2 : Int32) (x3 : Int32) (t0 : Int32) : Option (Int32) := if t0 = 0 then m_X10_pawnGoes_b60 v_side v_passed a_board x1 x2 x3 t0 else if x3 = 1 then obl (1) (some 1) else m_X10_pawnGoes_b60 v_side v_passed a_board x1 x2 x3 t0
def m_X10_pawnGoes_b45 (v_side : Int32) (v_passed : Int32) (a_board : Nat → Int32) (x1 : Int32) (x2 : Int32) (x3 : Int32) : Option (Int32) := m_X10_pawnGoes_b46 v_side v_passed a_board x1 x2 x3 0
def m_X10_pawnGoes (v_side : Int32) (v_passed : Int32) (a_board : Nat → Int32) (p0 : Int32) (p1 : Int32) : Option (Int32) := ob (m_X10_up v_side) fun r_21 => odz (r_21) (ol ((p1 - p0) / r_21) fun x3_24 => ob (m_X10_columnOf p0) fun r_25 => ob (m_X10_columnOf p1) fun r_27 => if r_25 = r_27 then ol (p1 - p0) fun y_30 => if (y_30 - y_30 / 8 * 8) = 0 then oin (p1) 64 (if (a_board p1.toNatClampNeg) = 0 then m_X10_pawnGoes_b46 v_side v_passed a_board p0 p1 x3_24 1 else m_X10_pawnGoes_b45 v_side v_passed a_board p0 p1 x3_24) else m_X10_pawnGoes_b45 v_side v_passed a_board p0 p1 x3_24 else m_X10_pawnGoes_b45 v_side v_passed a_board p0 p1 x3_24)
abbrev rm_X10_pawnGoes : Room := { frames := 3, cells := 0, slots := 0, locals := 75 }
abbrev wy_X10_pawnGoes : List Cond := .code yX10_pawnGoes cX10_pawnGoes 5 (some .boolean) :: gT
theorem cv_X10_pawnGoes {R : Room} {s : State} {args : Array Value} {own : String} {index : Nat} {w0 : Cond} (hts : ∀ w ∈ w0 :: gT, w.before args s = true) (hl : Cond.methodLink own index yX10_pawnGoes ∈ gT) (hR : 3 + 1 ≤ R.frames ∧ 8 + (5 + 11) + 75 ≤ R.locals) : CallW R s args own RX10 index yX10_pawnGoes cX10_pawnGoes 5 (some .boolean) wy_X10_pawnGoes rm_X10_pawnGoes 0 0 2 :=
  cwV 2 hts (gT_call w0 (pre := [.methodLink own index yX10_pawnGoes, .instanceMethod yX10_pawnGoes, .selects RX10 yX10_pawnGoes yX10_pawnGoes, .initialized RX10]) (gT_lc hl (gT_lc ly_yX10_pawnGoes (gT_lc lx_yX10_pawnGoes (gT_l1 li_RX10)))) lc_yX10_pawnGoes) rfl rfl rfl (by decide +kernel) hR
set_option maxRecDepth 100000 in
set_option maxHeartbeats 4000000 in
theorem c_X10_pawnGoes (l : Launch) (D : va_G) (h0 : Nat) (q : Nat → Nat) (cI : ClassId) (v_code : Int32) (v_side : Int32) (v_rights : Int32) (v_passed : Int32) (v_halves : Int32) (v_number : Int32) (v_top : Int32) (v_typedCount : Int32) (v_readAt : Int32) (v_place : Int32) (v_writtenCount : Int32) (v_chosenFrom : Int32) (v_chosenTo : Int32) (v_chosenTurn : Int32) (v_changed : Int32) (v_readSide : Int32) (v_readRights : Int32) (v_readPassed : Int32) (v_readHalves : Int32) (v_readNumber : Int32) (a_board : Nat → Int32) (a_before : Nat → Int32) (a_typed : Nat → Int32) (a_written : Nat → Int32) (a_froms : Nat → Int32) (a_tos : Nat → Int32) (a_turns : Nat → Int32) (a_counts : Nat → Int32) (a_changedSquare : Nat → Int32) (a_changedMan : Nat → Int32) (a_readBoard : Nat → Int32) (p0 : Int32) (p1 : Int32) (rv : Int32) (hm : m_X10_pawnGoes v_side v_passed a_board p0 p1 = some rv) : kDi l yX10_pawnGoes wy_X10_pawnGoes rm_X10_pawnGoes D [(cI, .int)] rv (wM h0 q cI v_code v_side v_rights v_passed v_halves v_number v_top v_typedCount v_readAt v_place v_writtenCount v_chosenFrom v_chosenTo v_chosenTurn v_changed v_readSide v_readRights v_readPassed v_readHalves v_readNumber a_board a_before a_typed a_written a_froms a_tos a_turns a_counts a_changedSquare a_changedMan a_readBoard) (wM h0 q cI v_code v_side v_rights v_passed v_halves v_number v_top v_typedCount v_readAt v_place v_writtenCount v_chosenFrom v_chosenTo v_chosenTurn v_changed v_readSide v_readRights v_readPassed v_readHalves v_readNumber a_board a_before a_typed a_written a_froms a_tos a_turns a_counts a_changedSquare a_changedMan a_readBoard) [.ref h0, .int p0, .int p1] := by
  refine kDi.of cX10_pawnGoes 5 (some .boolean) (by decide) rfl (Or.inr rfl) (Nat.le_of_ble_eq_true rfl) ?_
  intro p e s m below meth c A Q C hret
  have hin10 : ∀ w ∈ wsX100, w ∈ wy_X10_pawnGoes := fun w h => List.mem_cons_of_mem _ (inG10 w h)
  have j136 : ∀ (t0 : Int32), m_X10_pawnGoes_b136  v_side v_passed a_board t0 = some rv → kv p l e rm_X10_pawnGoes s m ([.ref h0, .int p0, .int p1] : List Value).toArray below meth c D A 5 0 0 Q (wM h0 q cI v_code v_side v_rights v_passed v_halves v_number v_top v_typedCount v_readAt v_place v_writtenCount v_chosenFrom v_chosenTo v_chosenTurn v_changed v_readSide v_readRights v_readPassed v_readHalves v_readNumber a_board a_before a_typed a_written a_froms a_tos a_turns a_counts a_changedSquare a_changedMan a_readBoard) [] 136 [.int t0] := by
    intro t0 h
    unfold m_X10_pawnGoes_b136 at h
    obtain ⟨g_1, h⟩ := obl_e h
    cases h
    exact hret _ _ dX10_pawnGoes_136 (fun _ => g_1)
  have j135 : m_X10_pawnGoes_b135  v_side v_passed a_board  = some rv → kv p l e rm_X10_pawnGoes s m ([.ref h0, .int p0, .int p1] : List Value).toArray below meth c D A 5 0 0 Q (wM h0 q cI v_code v_side v_rights v_passed v_halves v_number v_top v_typedCount v_readAt v_place v_writtenCount v_chosenFrom v_chosenTo v_chosenTurn v_changed v_readSide v_readRights v_readPassed v_readHalves v_readNumber a_board a_before a_typed a_written a_froms a_tos a_turns a_counts a_changedSquare a_changedMan a_readBoard) [] 135 [] := by
    intro  h
    unfold m_X10_pawnGoes_b135 at h
    refine kv_iconst C 0 dX10_pawnGoes_135 (by decide) ?_
    exact kv_lv [] (lv2 := []) rfl (j136 0 h)
  have j131 : m_X10_pawnGoes_b131  v_side v_passed a_board  = some rv → kv p l e rm_X10_pawnGoes s m ([.ref h0, .int p0, .int p1] : List Value).toArray below meth c D A 5 0 0 Q (wM h0 q cI v_code v_side v_rights v_passed v_halves v_number v_top v_typedCount v_readAt v_place v_writtenCount v_chosenFrom v_chosenTo v_chosenTurn v_changed v_readSide v_readRights v_readPassed v_readHalves v_readNumber a_board a_before a_typed a_written a_froms a_tos a_turns a_counts a_changedSquare a_changedMan a_readBoard) [] 131 [] := by
    intro  h
    unfold m_X10_pawnGoes_b131 at h
    refine kv_iconst C 1 dX10_pawnGoes_131 (by decide) ?_
    refine kv_goto C 136 dX10_pawnGoes_132 (by decide) ?_
    exact kv_lv [] (lv2 := []) rfl (j136 1 h)
  have j105 : ∀ (x1 : Int32) (x2 : Int32), m_X10_pawnGoes_b105  v_side v_passed a_board x1 x2 = some rv → kv p l e rm_X10_pawnGoes s m ([.ref h0, .int p0, .int p1] : List Value).toArray below meth c D A 5 0 0 Q (wM h0 q cI v_code v_side v_rights v_passed v_halves v_number v_top v_typedCount v_readAt v_place v_writtenCount v_chosenFrom v_chosenTo v_chosenTurn v_changed v_readSide v_readRights v_readPassed v_readHalves v_readNumber a_board a_before a_typed a_written a_froms a_tos a_turns a_counts a_changedSquare a_changedMan a_readBoard) [(0, .ref h0), (1, .int x1), (2, .int x2)] 105 [] := by
    intro x1 x2 h
    unfold m_X10_pawnGoes_b105 at h
    refine kv_aload_n C 0 dX10_pawnGoes_105 rfl rfl ?_
    refine kv_iload_n C 1 dX10_pawnGoes_106 rfl rfl ?_
    refine kv_iload_n C 2 dX10_pawnGoes_107 rfl rfl ?_
    obtain ⟨r_2, hm_3, h⟩ := ob_e h
    refine kv_callWi C [.int x1, .int x2] 0 (c_X10_reaches l D h0 q cI v_code v_side v_rights v_passed v_halves v_number v_top v_typedCount v_readAt v_place v_writtenCount v_chosenFrom v_chosenTo v_chosenTurn v_changed v_readSide v_readRights v_readPassed v_readHalves v_readNumber a_board a_before a_typed a_written a_froms a_tos a_turns a_counts a_changedSquare a_changedMan a_readBoard x1 x2 r_2 hm_3) (cv_X10_reaches C.ts lm_RX10_89 ⟨Nat.le_of_ble_eq_true rfl, Nat.le_of_ble_eq_true rfl⟩) rfl rfl rfl rfl (Nat.le_of_ble_eq_true rfl) dX10_pawnGoes_108 ⟨Nat.zero_le _, Nat.zero_le _⟩ ?_
    refine kv_if_eq C 135 dX10_pawnGoes_111 (by decide) (fun c_4 => ?_) (fun c_4 => ?_)
    · have h := oi_t h c_4
      exact kv_lv [] (lv2 := []) rfl (j135  h)
    · have h := oi_f h c_4
      refine kv_aload_n C 0 dX10_pawnGoes_114 rfl rfl ?_
      refine kv_get C (Cn := RX10) (T := TX10) (N := 31) 0 1 hin10 rfl rfl (by decide) (C.ts _ (List.mem_cons_of_mem _ lf_RX10_7)) rfl rfl dX10_pawnGoes_115 ?_
      refine kv_iload_n C 2 dX10_pawnGoes_118 rfl rfl ?_
      obtain ⟨g_5, h⟩ := oin_e h
      refine kv_iald C 1 0 rfl rfl g_5 dX10_pawnGoes_119 ?_
      refine kv_if_ne C 131 dX10_pawnGoes_120 (by decide) (fun c_6 => ?_) (fun c_6 => ?_)
      · have h := oi_f h c_6
        exact kv_lv [] (lv2 := []) rfl (j131  h)
      · have h := oi_t h c_6
        refine kv_iload_n C 2 dX10_pawnGoes_123 rfl rfl ?_
        refine kv_aload_n C 0 dX10_pawnGoes_124 rfl rfl ?_
        refine kv_get C (Cn := RX10) (T := TX10) (N := 31) 0 4 hin10 rfl rfl (by decide) (C.ts _ (List.mem_cons_of_mem _ lf_RX10_13)) rfl rfl dX10_pawnGoes_125 ?_
        refine kv_icmp_ne C 135 dX10_pawnGoes_128 (by decide) (fun c_7 => ?_) (fun c_7 => ?_)
        · have h := oi_f h c_7
          exact kv_lv [] (lv2 := []) rfl (j135  h)
        · have h := oi_t h c_7
          exact kv_lv [] (lv2 := []) rfl (j131  h)
  have j104 : ∀ (t0 : Int32), m_X10_pawnGoes_b104  v_side v_passed a_board t0 = some rv → kv p l e rm_X10_pawnGoes s m ([.ref h0, .int p0, .int p1] : List Value).toArray below meth c D A 5 0 0 Q (wM h0 q cI v_code v_side v_rights v_passed v_halves v_number v_top v_typedCount v_readAt v_place v_writtenCount v_chosenFrom v_chosenTo v_chosenTurn v_changed v_readSide v_readRights v_readPassed v_readHalves v_readNumber a_board a_before a_typed a_written a_froms a_tos a_turns a_counts a_changedSquare a_changedMan a_readBoard) [] 104 [.int t0] := by
    intro t0 h
    unfold m_X10_pawnGoes_b104 at h
    obtain ⟨g_8, h⟩ := obl_e h
    cases h
    exact hret _ _ dX10_pawnGoes_104 (fun _ => g_8)
  have j103 : m_X10_pawnGoes_b103  v_side v_passed a_board  = some rv → kv p l e rm_X10_pawnGoes s m ([.ref h0, .int p0, .int p1] : List Value).toArray below meth c D A 5 0 0 Q (wM h0 q cI v_code v_side v_rights v_passed v_halves v_number v_top v_typedCount v_readAt v_place v_writtenCount v_chosenFrom v_chosenTo v_chosenTurn v_changed v_readSide v_readRights v_readPassed v_readHalves v_readNumber a_board a_before a_typed a_written a_froms a_tos a_turns a_counts a_changedSquare a_changedMan a_readBoard) [] 103 [] := by
    intro  h
    unfold m_X10_pawnGoes_b103 at h
    refine kv_iconst C 0 dX10_pawnGoes_103 (by decide) ?_
    exact kv_lv [] (lv2 := []) rfl (j104 0 h)
  have j60 : ∀ (x1 : Int32) (x2 : Int32) (x3 : Int32) (x4 : Int32), m_X10_pawnGoes_b60  v_side v_passed a_board x1 x2 x3 x4 = some rv → kv p l e rm_X10_pawnGoes s m ([.ref h0, .int p0, .int p1] : List Value).toArray below meth c D A 5 0 0 Q (wM h0 q cI v_code v_side v_rights v_passed v_halves v_number v_top v_typedCount v_readAt v_place v_writtenCount v_chosenFrom v_chosenTo v_chosenTurn v_changed v_readSide v_readRights v_readPassed v_readHalves v_readNumber a_board a_before a_typed a_written a_froms a_tos a_turns a_counts a_changedSquare a_changedMan a_readBoard) [(0, .ref h0), (1, .int x1), (2, .int x2), (3, .int x3), (4, .int x4)] 60 [] := by
    intro x1 x2 x3 x4 h
    unfold m_X10_pawnGoes_b60 at h
    refine kv_iload C 4 dX10_pawnGoes_60 rfl ?_
    refine kv_if_eq C 105 dX10_pawnGoes_62 (by decide) (fun c_9 => ?_) (fun c_9 => ?_)
    · have h := oi_t h c_9
      exact kv_lv [0, 1, 2] (lv2 := [(0, .ref h0), (1, .int x1), (2, .int x2)]) rfl (j105 x1 x2 h)
    · have h := oi_f h c_9
      refine kv_iload_n C 3 dX10_pawnGoes_65 rfl rfl ?_
      refine kv_iconst C 2 dX10_pawnGoes_66 (by decide) ?_
      refine kv_icmp_ne C 105 dX10_pawnGoes_67 (by decide) (fun c_10 => ?_) (fun c_10 => ?_)
      · have h := oi_f h c_10
        exact kv_lv [0, 1, 2] (lv2 := [(0, .ref h0), (1, .int x1), (2, .int x2)]) rfl (j105 x1 x2 h)
      · have h := oi_t h c_10
        refine kv_iload_n C 1 dX10_pawnGoes_70 rfl rfl ?_
        refine kv_aload_n C 0 dX10_pawnGoes_71 rfl rfl ?_
        refine kv_get C (Cn := RX10) (T := TX10) (N := 31) 0 2 hin10 rfl rfl (by decide) (C.ts _ (List.mem_cons_of_mem _ lf_RX10_119)) rfl rfl dX10_pawnGoes_72 ?_
        obtain ⟨r_11, hm_12, h⟩ := ob_e h
        refine kv_callS0i C [.int x1, .int v_side] (c_X10_rankOf l D x1 v_side r_11 hm_12) (cs_X10_rankOf C.ts lm_RX10_138 ⟨Nat.le_of_ble_eq_true rfl, Nat.le_of_ble_eq_true rfl⟩) rfl rfl (Nat.le_of_ble_eq_true rfl) dX10_pawnGoes_75 ⟨Nat.zero_le _, Nat.zero_le _⟩ ?_
        refine kv_iconst C 1 dX10_pawnGoes_78 (by decide) ?_
        refine kv_icmp_ne C 103 dX10_pawnGoes_79 (by decide) (fun c_13 => ?_) (fun c_13 => ?_)
        · have h := oi_f h c_13
          exact kv_lv [] (lv2 := []) rfl (j103  h)
        · have h := oi_t h c_13
          refine kv_aload_n C 0 dX10_pawnGoes_82 rfl rfl ?_
          refine kv_get C (Cn := RX10) (T := TX10) (N := 31) 0 1 hin10 rfl rfl (by decide) (C.ts _ (List.mem_cons_of_mem _ lf_RX10_7)) rfl rfl dX10_pawnGoes_83 ?_
          refine kv_iload_n C 1 dX10_pawnGoes_86 rfl rfl ?_
          refine kv_aload_n C 0 dX10_pawnGoes_87 rfl rfl ?_
          refine kv_get C (Cn := RX10) (T := TX10) (N := 31) 0 2 hin10 rfl rfl (by decide) (C.ts _ (List.mem_cons_of_mem _ lf_RX10_119)) rfl rfl dX10_pawnGoes_88 ?_
          obtain ⟨r_14, hm_15, h⟩ := ob_e h
          refine kv_callS0i C [.int v_side] (c_X10_up l D v_side r_14 hm_15) (cs_X10_up C.ts lm_RX10_98 ⟨Nat.le_of_ble_eq_true rfl, Nat.le_of_ble_eq_true rfl⟩) rfl rfl (Nat.le_of_ble_eq_true rfl) dX10_pawnGoes_91 ⟨Nat.zero_le _, Nat.zero_le _⟩ ?_
          refine kv_iadd C dX10_pawnGoes_94 ?_
          obtain ⟨g_16, h⟩ := oin_e h
          refine kv_iald C 1 0 rfl rfl g_16 dX10_pawnGoes_95 ?_
          refine kv_if_ne C 103 dX10_pawnGoes_96 (by decide) (fun c_17 => ?_) (fun c_17 => ?_)
          · have h := oi_f h c_17
            exact kv_lv [] (lv2 := []) rfl (j103  h)
          · have h := oi_t h c_17
            refine kv_iconst C 1 dX10_pawnGoes_99 (by decide) ?_
            refine kv_goto C 104 dX10_pawnGoes_100 (by decide) ?_
            exact kv_lv [] (lv2 := []) rfl (j104 1 h)
  have j46 : ∀ (x1 : Int32) (x2 : Int32) (x3 : Int32) (t0 : Int32), m_X10_pawnGoes_b46  v_side v_passed a_board x1 x2 x3 t0 = some rv → kv p l e rm_X10_pawnGoes s m ([.ref h0, .int p0, .int p1] : List Value).toArray below meth c D A 5 0 0 Q (wM h0 q cI v_code v_side v_rights v_passed v_halves v_number v_top v_typedCount v_readAt v_place v_writtenCount v_chosenFrom v_chosenTo v_chosenTurn v_changed v_readSide v_readRights v_readPassed v_readHalves v_readNumber a_board a_before a_typed a_written a_froms a_tos a_turns a_counts a_changedSquare a_changedMan a_readBoard) [(0, .ref h0), (1, .int x1), (2, .int x2), (3, .int x3)] 46 [.int t0] := by
    intro x1 x2 x3 t0 h
    unfold m_X10_pawnGoes_b46 at h
    refine kv_istore C (lv2 := [(0, .ref h0), (1, .int x1), (2, .int x2), (3, .int x3), (4, .int t0)]) [1, 2, 3, 4, 0] dX10_pawnGoes_46 (by decide) rfl rfl ?_
    refine kv_iload C 4 dX10_pawnGoes_48 rfl ?_
    refine kv_if_eq C 60 dX10_pawnGoes_50 (by decide) (fun c_18 => ?_) (fun c_18 => ?_)
    · have h := oi_t h c_18
      exact kv_lv [0, 1, 2, 3, 4] (lv2 := [(0, .ref h0), (1, .int x1), (2, .int x2), (3, .int x3), (4, .int t0)]) rfl (j60 x1 x2 x3 t0 h)
    · have h := oi_f h c_18
      refine kv_iload_n C 3 dX10_pawnGoes_53 rfl rfl ?_
      refine kv_iconst C 1 dX10_pawnGoes_54 (by decide) ?_
      refine kv_icmp_ne C 60 dX10_pawnGoes_55 (by decide) (fun c_19 => ?_) (fun c_19 => ?_)
      · have h := oi_f h c_19
        exact kv_lv [0, 1, 2, 3, 4] (lv2 := [(0, .ref h0), (1, .int x1), (2, .int x2), (3, .int x3), (4, .int t0)]) rfl (j60 x1 x2 x3 t0 h)
      · have h := oi_t h c_19
        refine kv_iconst C 1 dX10_pawnGoes_58 (by decide) ?_
        obtain ⟨g_20, h⟩ := obl_e h
        cases h
        exact hret _ _ dX10_pawnGoes_59 (fun _ => g_20)
  have j45 : ∀ (x1 : Int32) (x2 : Int32) (x3 : Int32), m_X10_pawnGoes_b45  v_side v_passed a_board x1 x2 x3 = some rv → kv p l e rm_X10_pawnGoes s m ([.ref h0, .int p0, .int p1] : List Value).toArray below meth c D A 5 0 0 Q (wM h0 q cI v_code v_side v_rights v_passed v_halves v_number v_top v_typedCount v_readAt v_place v_writtenCount v_chosenFrom v_chosenTo v_chosenTurn v_changed v_readSide v_readRights v_readPassed v_readHalves v_readNumber a_board a_before a_typed a_written a_froms a_tos a_turns a_counts a_changedSquare a_changedMan a_readBoard) [(0, .ref h0), (1, .int x1), (2, .int x2), (3, .int x3)] 45 [] := by
    intro x1 x2 x3 h
    unfold m_X10_pawnGoes_b45 at h
    refine kv_iconst C 0 dX10_pawnGoes_45 (by decide) ?_
    exact kv_lv [0, 1, 2, 3] (lv2 := [(0, .ref h0), (1, .int x1), (2, .int x2), (3, .int x3)]) rfl (j46 x1 x2 x3 0 h)
  unfold m_X10_pawnGoes at hm
  have h := hm
  refine kv_lv [0, 1, 2] (lv2 := [(0, .ref h0), (1, .int p0), (2, .int p1)]) rfl ?_
  refine kv_iload_n C 2 dX10_pawnGoes_0 rfl rfl ?_
  refine kv_iload_n C 1 dX10_pawnGoes_1 rfl rfl ?_
  refine kv_isub C dX10_pawnGoes_2 ?_
  refine kv_aload_n C 0 dX10_pawnGoes_3 rfl rfl ?_
  refine kv_get C (Cn := RX10) (T := TX10) (N := 31) 0 2 hin10 rfl rfl (by decide) (C.ts _ (List.mem_cons_of_mem _ lf_RX10_119)) rfl rfl dX10_pawnGoes_4 ?_
  obtain ⟨r_21, hm_22, h⟩ := ob_e h
  refine kv_callS0i C [.int v_side] (c_X10_up l D v_side r_21 hm_22) (cs_X10_up C.ts lm_RX10_98 ⟨Nat.le_of_ble_eq_true rfl, Nat.le_of_ble_eq_true rfl⟩) rfl rfl (Nat.le_of_ble_eq_true rfl) dX10_pawnGoes_7 ⟨Nat.zero_le _, Nat.zero_le _⟩ ?_
  obtain ⟨g_23, h⟩ := odz_e h
  refine kv_idiv C dX10_pawnGoes_10 g_23 ?_
  obtain ⟨x3_24, ex3_24, h⟩ := ol_e h
  refine kv_top ex3_24 ?_
  refine kv_istore_n C (lv2 := [(0, .ref h0), (1, .int p0), (2, .int p1), (3, .int x3_24)]) [1, 2, 3, 0] dX10_pawnGoes_11 rfl (by decide) rfl rfl ?_
  refine kv_iload_n C 1 dX10_pawnGoes_12 rfl rfl ?_
  obtain ⟨r_25, hm_26, h⟩ := ob_e h
  refine kv_callS0i C [.int p0] (c_X10_columnOf l D p0 r_25 hm_26) (cs_X10_columnOf C.ts lm_RX10_73 ⟨Nat.le_of_ble_eq_true rfl, Nat.le_of_ble_eq_true rfl⟩) rfl rfl (Nat.le_of_ble_eq_true rfl) dX10_pawnGoes_13 ⟨Nat.zero_le _, Nat.zero_le _⟩ ?_
  refine kv_iload_n C 2 dX10_pawnGoes_16 rfl rfl ?_
  obtain ⟨r_27, hm_28, h⟩ := ob_e h
  refine kv_callS0i C [.int p1] (c_X10_columnOf l D p1 r_27 hm_28) (cs_X10_columnOf C.ts lm_RX10_73 ⟨Nat.le_of_ble_eq_true rfl, Nat.le_of_ble_eq_true rfl⟩) rfl rfl (Nat.le_of_ble_eq_true rfl) dX10_pawnGoes_17 ⟨Nat.zero_le _, Nat.zero_le _⟩ ?_
  refine kv_icmp_ne C 45 dX10_pawnGoes_20 (by decide) (fun c_29 => ?_) (fun c_29 => ?_)
  · have h := oi_f h c_29
    exact kv_lv [0, 1, 2, 3] (lv2 := [(0, .ref h0), (1, .int p0), (2, .int p1), (3, .int x3_24)]) rfl (j45 p0 p1 x3_24 h)
  · have h := oi_t h c_29
    refine kv_iload_n C 2 dX10_pawnGoes_23 rfl rfl ?_
    refine kv_iload_n C 1 dX10_pawnGoes_24 rfl rfl ?_
    refine kv_isub C dX10_pawnGoes_25 ?_
    refine kv_bipush C 8 dX10_pawnGoes_26 (by decide) ?_
    obtain ⟨y_30, ey_30, h⟩ := ol_e h
    refine kv_top2 ey_30 ?_
    refine kv_irem C dX10_pawnGoes_28 (by decide) ?_
    refine kv_if_ne C 45 dX10_pawnGoes_29 (by decide) (fun c_31 => ?_) (fun c_31 => ?_)
    · have h := oi_f h c_31
      exact kv_lv [0, 1, 2, 3] (lv2 := [(0, .ref h0), (1, .int p0), (2, .int p1), (3, .int x3_24)]) rfl (j45 p0 p1 x3_24 h)
    · have h := oi_t h c_31
      refine kv_aload_n C 0 dX10_pawnGoes_32 rfl rfl ?_
      refine kv_get C (Cn := RX10) (T := TX10) (N := 31) 0 1 hin10 rfl rfl (by decide) (C.ts _ (List.mem_cons_of_mem _ lf_RX10_7)) rfl rfl dX10_pawnGoes_33 ?_
      refine kv_iload_n C 2 dX10_pawnGoes_36 rfl rfl ?_
      obtain ⟨g_32, h⟩ := oin_e h
      refine kv_iald C 1 0 rfl rfl g_32 dX10_pawnGoes_37 ?_
      refine kv_if_ne C 45 dX10_pawnGoes_38 (by decide) (fun c_33 => ?_) (fun c_33 => ?_)
      · have h := oi_f h c_33
        exact kv_lv [0, 1, 2, 3] (lv2 := [(0, .ref h0), (1, .int p0), (2, .int p1), (3, .int x3_24)]) rfl (j45 p0 p1 x3_24 h)
      · have h := oi_t h c_33
        refine kv_iconst C 1 dX10_pawnGoes_41 (by decide) ?_
        refine kv_goto C 46 dX10_pawnGoes_42 (by decide) ?_
        exact kv_lv [0, 1, 2, 3] (lv2 := [(0, .ref h0), (1, .int p0), (2, .int p1), (3, .int x3_24)]) rfl (j46 p0 p1 x3_24 1 h)
def m_X10_kingLeaps_b144 (v_side : Int32) (v_rights : Int32) (a_board : Nat → Int32) (t0 : Int32) : Option (Int32) := obl (t0) (some t0)
def m_X10_kingLeaps_b143 (v_side : Int32) (v_rights : Int32) (a_board : Nat → Int32) : Option (Int32) := m_X10_kingLeaps_b144 v_side v_rights a_board 0
def m_X10_kingLeaps_b81 (v_side : Int32) (v_rights : Int32) (a_board : Nat → Int32) (x1 : Int32) (x2 : Int32) (t0 : Int32) : Option (Int32) := ob (m_X10_isOpen a_board x1 t0) fun r_2 => if r_2 = 0 then m_X10_kingLeaps_b143 v_side v_rights a_board else ob (m_X10_isAttacked a_board x1 (1 - v_side)) fun r_5 => if r_5 = 0 then ob (m_X10_isAttacked a_board ((x1 + x2) / 2) (1 - v_side)) fun r_8 => if r_8 = 0 then ob (m_X10_isAttacked a_board x2 (1 - v_side)) fun r_11 => if r_11 = 0 then m_X10_kingLeaps_b144 v_side v_rights a_board 1 else m_X10_kingLeaps_b143 v_side v_rights a_board else m_X10_kingLeaps_b143 v_side v_rights a_board else m_X10_kingLeaps_b143 v_side v_rights a_board
def m_X10_kingLeaps_b66 (v_side : Int32) (v_rights : Int32) (a_board : Nat → Int32) : Option (Int32) := obl (0) (some 0)
def m_X10_kingLeaps_b32 (v_side : Int32) (v_rights : Int32) (a_board : Nat → Int32) (x1 : Int32) (x2 : Int32) (x3 : Int32) (t0 : Int32) (t1 : Int32) : Option (Int32) := ol (t0 * t1) fun x4_15 => ob (m_X10_rowOf x1) fun r_16 => ob (m_X10_rowOf x2) fun r_18 => if r_16 = r_18 then ob (m_X10_size (x2 - x1)) fun r_21 => if r_21 = 2 then if (v_rights &&& x4_15) = 0 then m_X10_kingLeaps_b66 v_side v_rights a_board else if x3 = 0 then m_X10_kingLeaps_b81 v_side v_rights a_board x1 x2 (x1 - 4) else m_X10_kingLeaps_b81 v_side v_rights a_board x1 x2 (x1 + 3) else m_X10_kingLeaps_b66 v_side v_rights a_board else m_X10_kingLeaps_b66 v_side v_rights a_board
def m_X10_kingLeaps_b23 (v_side : Int32) (v_rights : Int32) (a_board : Nat → Int32) (x1 : Int32) (x2 : Int32) (x3 : Int32) (t0 : Int32) : Option (Int32) := if x3 = 0 then m_X10_kingLeaps_b32 v_side v_rights a_board x1 x2 x3 t0 2 else m_X10_kingLeaps_b32 v_side v_rights a_board x1 x2 x3 t0 1
def m_X10_kingLeaps_b10 (v_side : Int32) (v_rights : Int32) (a_board : Nat → Int32) (x1 : Int32) (x2 : Int32) (t0 : Int32) : Option (Int32) := if v_side = 0 then m_X10_kingLeaps_b23 v_side v_rights a_board x1 x2 t0 1 else m_X10_kingLeaps_b23 v_side v_rights a_board x1 x2 t0 4
def m_X10_kingLeaps (v_side : Int32) (v_rights : Int32) (a_board : Nat → Int32) (p0 : Int32) (p1 : Int32) : Option (Int32) := if p1 ≤ p0 then m_X10_kingLeaps_b10 v_side v_rights a_board p0 p1 0 else m_X10_kingLeaps_b10 v_side v_rights a_board p0 p1 1
abbrev rm_X10_kingLeaps : Room := { frames := 4, cells := 0, slots := 0, locals := 99 }
abbrev wy_X10_kingLeaps : List Cond := .code yX10_kingLeaps cX10_kingLeaps 6 (some .boolean) :: gT
theorem cv_X10_kingLeaps {R : Room} {s : State} {args : Array Value} {own : String} {index : Nat} {w0 : Cond} (hts : ∀ w ∈ w0 :: gT, w.before args s = true) (hl : Cond.methodLink own index yX10_kingLeaps ∈ gT) (hR : 4 + 1 ≤ R.frames ∧ 8 + (6 + 11) + 99 ≤ R.locals) : CallW R s args own RX10 index yX10_kingLeaps cX10_kingLeaps 6 (some .boolean) wy_X10_kingLeaps rm_X10_kingLeaps 0 0 2 :=
  cwV 2 hts (gT_call w0 (pre := [.methodLink own index yX10_kingLeaps, .instanceMethod yX10_kingLeaps, .selects RX10 yX10_kingLeaps yX10_kingLeaps, .initialized RX10]) (gT_lc hl (gT_lc ly_yX10_kingLeaps (gT_lc lx_yX10_kingLeaps (gT_l1 li_RX10)))) lc_yX10_kingLeaps) rfl rfl rfl (by decide +kernel) hR
set_option maxRecDepth 100000 in
set_option maxHeartbeats 4000000 in
theorem c_X10_kingLeaps (l : Launch) (D : va_G) (h0 : Nat) (q : Nat → Nat) (cI : ClassId) (v_code : Int32) (v_side : Int32) (v_rights : Int32) (v_passed : Int32) (v_halves : Int32) (v_number : Int32) (v_top : Int32) (v_typedCount : Int32) (v_readAt : Int32) (v_place : Int32) (v_writtenCount : Int32) (v_chosenFrom : Int32) (v_chosenTo : Int32) (v_chosenTurn : Int32) (v_changed : Int32) (v_readSide : Int32) (v_readRights : Int32) (v_readPassed : Int32) (v_readHalves : Int32) (v_readNumber : Int32) (a_board : Nat → Int32) (a_before : Nat → Int32) (a_typed : Nat → Int32) (a_written : Nat → Int32) (a_froms : Nat → Int32) (a_tos : Nat → Int32) (a_turns : Nat → Int32) (a_counts : Nat → Int32) (a_changedSquare : Nat → Int32) (a_changedMan : Nat → Int32) (a_readBoard : Nat → Int32) (p0 : Int32) (p1 : Int32) (rv : Int32) (hm : m_X10_kingLeaps v_side v_rights a_board p0 p1 = some rv) : kDi l yX10_kingLeaps wy_X10_kingLeaps rm_X10_kingLeaps D [(cI, .int)] rv (wM h0 q cI v_code v_side v_rights v_passed v_halves v_number v_top v_typedCount v_readAt v_place v_writtenCount v_chosenFrom v_chosenTo v_chosenTurn v_changed v_readSide v_readRights v_readPassed v_readHalves v_readNumber a_board a_before a_typed a_written a_froms a_tos a_turns a_counts a_changedSquare a_changedMan a_readBoard) (wM h0 q cI v_code v_side v_rights v_passed v_halves v_number v_top v_typedCount v_readAt v_place v_writtenCount v_chosenFrom v_chosenTo v_chosenTurn v_changed v_readSide v_readRights v_readPassed v_readHalves v_readNumber a_board a_before a_typed a_written a_froms a_tos a_turns a_counts a_changedSquare a_changedMan a_readBoard) [.ref h0, .int p0, .int p1] := by
  refine kDi.of cX10_kingLeaps 6 (some .boolean) (by decide) rfl (Or.inr rfl) (Nat.le_of_ble_eq_true rfl) ?_
  intro p e s m below meth c A Q C hret
  have hin10 : ∀ w ∈ wsX100, w ∈ wy_X10_kingLeaps := fun w h => List.mem_cons_of_mem _ (inG10 w h)
  have j144 : ∀ (t0 : Int32), m_X10_kingLeaps_b144  v_side v_rights a_board t0 = some rv → kv p l e rm_X10_kingLeaps s m ([.ref h0, .int p0, .int p1] : List Value).toArray below meth c D A 6 0 0 Q (wM h0 q cI v_code v_side v_rights v_passed v_halves v_number v_top v_typedCount v_readAt v_place v_writtenCount v_chosenFrom v_chosenTo v_chosenTurn v_changed v_readSide v_readRights v_readPassed v_readHalves v_readNumber a_board a_before a_typed a_written a_froms a_tos a_turns a_counts a_changedSquare a_changedMan a_readBoard) [] 144 [.int t0] := by
    intro t0 h
    unfold m_X10_kingLeaps_b144 at h
    obtain ⟨g_1, h⟩ := obl_e h
    cases h
    exact hret _ _ dX10_kingLeaps_144 (fun _ => g_1)
  have j143 : m_X10_kingLeaps_b143  v_side v_rights a_board  = some rv → kv p l e rm_X10_kingLeaps s m ([.ref h0, .int p0, .int p1] : List Value).toArray below meth c D A 6 0 0 Q (wM h0 q cI v_code v_side v_rights v_passed v_halves v_number v_top v_typedCount v_readAt v_place v_writtenCount v_chosenFrom v_chosenTo v_chosenTurn v_changed v_readSide v_readRights v_readPassed v_readHalves v_readNumber a_board a_before a_typed a_written a_froms a_tos a_turns a_counts a_changedSquare a_changedMan a_readBoard) [] 143 [] := by
    intro  h
    unfold m_X10_kingLeaps_b143 at h
    refine kv_iconst C 0 dX10_kingLeaps_143 (by decide) ?_
    exact kv_lv [] (lv2 := []) rfl (j144 0 h)
  have j81 : ∀ (x1 : Int32) (x2 : Int32) (t0 : Int32), m_X10_kingLeaps_b81  v_side v_rights a_board x1 x2 t0 = some rv → kv p l e rm_X10_kingLeaps s m ([.ref h0, .int p0, .int p1] : List Value).toArray below meth c D A 6 0 0 Q (wM h0 q cI v_code v_side v_rights v_passed v_halves v_number v_top v_typedCount v_readAt v_place v_writtenCount v_chosenFrom v_chosenTo v_chosenTurn v_changed v_readSide v_readRights v_readPassed v_readHalves v_readNumber a_board a_before a_typed a_written a_froms a_tos a_turns a_counts a_changedSquare a_changedMan a_readBoard) [(0, .ref h0), (1, .int x1), (2, .int x2)] 81 [.int t0] := by
    intro x1 x2 t0 h
    unfold m_X10_kingLeaps_b81 at h
    refine kv_istore C (lv2 := [(0, .ref h0), (1, .int x1), (2, .int x2), (5, .int t0)]) [1, 2, 3, 0] dX10_kingLeaps_81 (by decide) rfl rfl ?_
    refine kv_aload_n C 0 dX10_kingLeaps_83 rfl rfl ?_
    refine kv_iload_n C 1 dX10_kingLeaps_84 rfl rfl ?_
    refine kv_iload C 3 dX10_kingLeaps_85 rfl ?_
    obtain ⟨r_2, hm_3, h⟩ := ob_e h
    refine kv_callWi C [.int x1, .int t0] 0 (c_X10_isOpen l D h0 q cI v_code v_side v_rights v_passed v_halves v_number v_top v_typedCount v_readAt v_place v_writtenCount v_chosenFrom v_chosenTo v_chosenTurn v_changed v_readSide v_readRights v_readPassed v_readHalves v_readNumber a_board a_before a_typed a_written a_froms a_tos a_turns a_counts a_changedSquare a_changedMan a_readBoard x1 t0 r_2 hm_3) (cv_X10_isOpen C.ts lm_RX10_82 ⟨Nat.le_of_ble_eq_true rfl, Nat.le_of_ble_eq_true rfl⟩) rfl rfl rfl rfl (Nat.le_of_ble_eq_true rfl) dX10_kingLeaps_87 ⟨Nat.zero_le _, Nat.zero_le _⟩ ?_
    refine kv_if_eq C 143 dX10_kingLeaps_90 (by decide) (fun c_4 => ?_) (fun c_4 => ?_)
    · have h := oi_t h c_4
      exact kv_lv [] (lv2 := []) rfl (j143  h)
    · have h := oi_f h c_4
      refine kv_aload_n C 0 dX10_kingLeaps_93 rfl rfl ?_
      refine kv_iload_n C 1 dX10_kingLeaps_94 rfl rfl ?_
      refine kv_iconst C 1 dX10_kingLeaps_95 (by decide) ?_
      refine kv_aload_n C 0 dX10_kingLeaps_96 rfl rfl ?_
      refine kv_get C (Cn := RX10) (T := TX10) (N := 31) 0 2 hin10 rfl rfl (by decide) (C.ts _ (List.mem_cons_of_mem _ lf_RX10_119)) rfl rfl dX10_kingLeaps_97 ?_
      refine kv_isub C dX10_kingLeaps_100 ?_
      obtain ⟨r_5, hm_6, h⟩ := ob_e h
      refine kv_callWi C [.int x1, .int (1 - v_side)] 0 (c_X10_isAttacked l D h0 q cI v_code v_side v_rights v_passed v_halves v_number v_top v_typedCount v_readAt v_place v_writtenCount v_chosenFrom v_chosenTo v_chosenTurn v_changed v_readSide v_readRights v_readPassed v_readHalves v_readNumber a_board a_before a_typed a_written a_froms a_tos a_turns a_counts a_changedSquare a_changedMan a_readBoard x1 (1 - v_side) r_5 hm_6) (cv_X10_isAttacked C.ts lm_RX10_92 ⟨Nat.le_of_ble_eq_true rfl, Nat.le_of_ble_eq_true rfl⟩) rfl rfl rfl rfl (Nat.le_of_ble_eq_true rfl) dX10_kingLeaps_101 ⟨Nat.zero_le _, Nat.zero_le _⟩ ?_
      refine kv_if_ne C 143 dX10_kingLeaps_104 (by decide) (fun c_7 => ?_) (fun c_7 => ?_)
      · have h := oi_f h c_7
        exact kv_lv [] (lv2 := []) rfl (j143  h)
      · have h := oi_t h c_7
        refine kv_aload_n C 0 dX10_kingLeaps_107 rfl rfl ?_
        refine kv_iload_n C 1 dX10_kingLeaps_108 rfl rfl ?_
        refine kv_iload_n C 2 dX10_kingLeaps_109 rfl rfl ?_
        refine kv_iadd C dX10_kingLeaps_110 ?_
        refine kv_iconst C 2 dX10_kingLeaps_111 (by decide) ?_
        refine kv_idiv C dX10_kingLeaps_112 (by decide) ?_
        refine kv_iconst C 1 dX10_kingLeaps_113 (by decide) ?_
        refine kv_aload_n C 0 dX10_kingLeaps_114 rfl rfl ?_
        refine kv_get C (Cn := RX10) (T := TX10) (N := 31) 0 2 hin10 rfl rfl (by decide) (C.ts _ (List.mem_cons_of_mem _ lf_RX10_119)) rfl rfl dX10_kingLeaps_115 ?_
        refine kv_isub C dX10_kingLeaps_118 ?_
        obtain ⟨r_8, hm_9, h⟩ := ob_e h
        refine kv_callWi C [.int ((x1 + x2) / 2), .int (1 - v_side)] 0 (c_X10_isAttacked l D h0 q cI v_code v_side v_rights v_passed v_halves v_number v_top v_typedCount v_readAt v_place v_writtenCount v_chosenFrom v_chosenTo v_chosenTurn v_changed v_readSide v_readRights v_readPassed v_readHalves v_readNumber a_board a_before a_typed a_written a_froms a_tos a_turns a_counts a_changedSquare a_changedMan a_readBoard ((x1 + x2) / 2) (1 - v_side) r_8 hm_9) (cv_X10_isAttacked C.ts lm_RX10_92 ⟨Nat.le_of_ble_eq_true rfl, Nat.le_of_ble_eq_true rfl⟩) rfl rfl rfl rfl (Nat.le_of_ble_eq_true rfl) dX10_kingLeaps_119 ⟨Nat.zero_le _, Nat.zero_le _⟩ ?_
        refine kv_if_ne C 143 dX10_kingLeaps_122 (by decide) (fun c_10 => ?_) (fun c_10 => ?_)
        · have h := oi_f h c_10
          exact kv_lv [] (lv2 := []) rfl (j143  h)
        · have h := oi_t h c_10
          refine kv_aload_n C 0 dX10_kingLeaps_125 rfl rfl ?_
          refine kv_iload_n C 2 dX10_kingLeaps_126 rfl rfl ?_
          refine kv_iconst C 1 dX10_kingLeaps_127 (by decide) ?_
          refine kv_aload_n C 0 dX10_kingLeaps_128 rfl rfl ?_
          refine kv_get C (Cn := RX10) (T := TX10) (N := 31) 0 2 hin10 rfl rfl (by decide) (C.ts _ (List.mem_cons_of_mem _ lf_RX10_119)) rfl rfl dX10_kingLeaps_129 ?_
          refine kv_isub C dX10_kingLeaps_132 ?_
          obtain ⟨r_11, hm_12, h⟩ := ob_e h
          refine kv_callWi C [.int x2, .int (1 - v_side)] 0 (c_X10_isAttacked l D h0 q cI v_code v_side v_rights v_passed v_halves v_number v_top v_typedCount v_readAt v_place v_writtenCount v_chosenFrom v_chosenTo v_chosenTurn v_changed v_readSide v_readRights v_readPassed v_readHalves v_readNumber a_board a_before a_typed a_written a_froms a_tos a_turns a_counts a_changedSquare a_changedMan a_readBoard x2 (1 - v_side) r_11 hm_12) (cv_X10_isAttacked C.ts lm_RX10_92 ⟨Nat.le_of_ble_eq_true rfl, Nat.le_of_ble_eq_true rfl⟩) rfl rfl rfl rfl (Nat.le_of_ble_eq_true rfl) dX10_kingLeaps_133 ⟨Nat.zero_le _, Nat.zero_le _⟩ ?_
          refine kv_if_ne C 143 dX10_kingLeaps_136 (by decide) (fun c_13 => ?_) (fun c_13 => ?_)
          · have h := oi_f h c_13
            exact kv_lv [] (lv2 := []) rfl (j143  h)
          · have h := oi_t h c_13
            refine kv_iconst C 1 dX10_kingLeaps_139 (by decide) ?_
            refine kv_goto C 144 dX10_kingLeaps_140 (by decide) ?_
            exact kv_lv [] (lv2 := []) rfl (j144 1 h)
  have j66 : m_X10_kingLeaps_b66  v_side v_rights a_board  = some rv → kv p l e rm_X10_kingLeaps s m ([.ref h0, .int p0, .int p1] : List Value).toArray below meth c D A 6 0 0 Q (wM h0 q cI v_code v_side v_rights v_passed v_halves v_number v_top v_typedCount v_readAt v_place v_writtenCount v_chosenFrom v_chosenTo v_chosenTurn v_changed v_readSide v_readRights v_readPassed v_readHalves v_readNumber a_board a_before a_typed a_written a_froms a_tos a_turns a_counts a_changedSquare a_changedMan a_readBoard) [] 66 [] := by
    intro  h
    unfold m_X10_kingLeaps_b66 at h
    refine kv_iconst C 0 dX10_kingLeaps_66 (by decide) ?_
    obtain ⟨g_14, h⟩ := obl_e h
    cases h
    exact hret _ _ dX10_kingLeaps_67 (fun _ => g_14)
  have j32 : ∀ (x1 : Int32) (x2 : Int32) (x3 : Int32) (t0 : Int32) (t1 : Int32), m_X10_kingLeaps_b32  v_side v_rights a_board x1 x2 x3 t0 t1 = some rv → kv p l e rm_X10_kingLeaps s m ([.ref h0, .int p0, .int p1] : List Value).toArray below meth c D A 6 0 0 Q (wM h0 q cI v_code v_side v_rights v_passed v_halves v_number v_top v_typedCount v_readAt v_place v_writtenCount v_chosenFrom v_chosenTo v_chosenTurn v_changed v_readSide v_readRights v_readPassed v_readHalves v_readNumber a_board a_before a_typed a_written a_froms a_tos a_turns a_counts a_changedSquare a_changedMan a_readBoard) [(0, .ref h0), (1, .int x1), (2, .int x2), (3, .int x3)] 32 [.int t1, .int t0] := by
    intro x1 x2 x3 t0 t1 h
    unfold m_X10_kingLeaps_b32 at h
    refine kv_imul C dX10_kingLeaps_32 ?_
    obtain ⟨x4_15, ex4_15, h⟩ := ol_e h
    refine kv_top ex4_15 ?_
    refine kv_istore C (lv2 := [(0, .ref h0), (1, .int x1), (2, .int x2), (3, .int x3), (4, .int x4_15)]) [1, 2, 3, 4, 0] dX10_kingLeaps_33 (by decide) rfl rfl ?_
    refine kv_iload_n C 1 dX10_kingLeaps_35 rfl rfl ?_
    obtain ⟨r_16, hm_17, h⟩ := ob_e h
    refine kv_callS0i C [.int x1] (c_X10_rowOf l D x1 r_16 hm_17) (cs_X10_rowOf C.ts lm_RX10_69 ⟨Nat.le_of_ble_eq_true rfl, Nat.le_of_ble_eq_true rfl⟩) rfl rfl (Nat.le_of_ble_eq_true rfl) dX10_kingLeaps_36 ⟨Nat.zero_le _, Nat.zero_le _⟩ ?_
    refine kv_iload_n C 2 dX10_kingLeaps_39 rfl rfl ?_
    obtain ⟨r_18, hm_19, h⟩ := ob_e h
    refine kv_callS0i C [.int x2] (c_X10_rowOf l D x2 r_18 hm_19) (cs_X10_rowOf C.ts lm_RX10_69 ⟨Nat.le_of_ble_eq_true rfl, Nat.le_of_ble_eq_true rfl⟩) rfl rfl (Nat.le_of_ble_eq_true rfl) dX10_kingLeaps_40 ⟨Nat.zero_le _, Nat.zero_le _⟩ ?_
    refine kv_icmp_ne C 66 dX10_kingLeaps_43 (by decide) (fun c_20 => ?_) (fun c_20 => ?_)
    · have h := oi_f h c_20
      exact kv_lv [] (lv2 := []) rfl (j66  h)
    · have h := oi_t h c_20
      refine kv_iload_n C 2 dX10_kingLeaps_46 rfl rfl ?_
      refine kv_iload_n C 1 dX10_kingLeaps_47 rfl rfl ?_
      refine kv_isub C dX10_kingLeaps_48 ?_
      obtain ⟨r_21, hm_22, h⟩ := ob_e h
      refine kv_callS0i C [.int (x2 - x1)] (c_X10_size l D (x2 - x1) r_21 hm_22) (cs_X10_size C.ts lm_RX10_76 ⟨Nat.le_of_ble_eq_true rfl, Nat.le_of_ble_eq_true rfl⟩) rfl rfl (Nat.le_of_ble_eq_true rfl) dX10_kingLeaps_49 ⟨Nat.zero_le _, Nat.zero_le _⟩ ?_
      refine kv_iconst C 2 dX10_kingLeaps_52 (by decide) ?_
      refine kv_icmp_ne C 66 dX10_kingLeaps_53 (by decide) (fun c_23 => ?_) (fun c_23 => ?_)
      · have h := oi_f h c_23
        exact kv_lv [] (lv2 := []) rfl (j66  h)
      · have h := oi_t h c_23
        refine kv_aload_n C 0 dX10_kingLeaps_56 rfl rfl ?_
        refine kv_get C (Cn := RX10) (T := TX10) (N := 31) 0 3 hin10 rfl rfl (by decide) (C.ts _ (List.mem_cons_of_mem _ lf_RX10_60)) rfl rfl dX10_kingLeaps_57 ?_
        refine kv_iload C 4 dX10_kingLeaps_60 rfl ?_
        refine kv_iand C dX10_kingLeaps_62 ?_
        refine kv_if_ne C 68 dX10_kingLeaps_63 (by decide) (fun c_24 => ?_) (fun c_24 => ?_)
        · have h := oi_f h c_24
          refine kv_iload_n C 3 dX10_kingLeaps_68 rfl rfl ?_
          refine kv_if_eq C 78 dX10_kingLeaps_69 (by decide) (fun c_25 => ?_) (fun c_25 => ?_)
          · have h := oi_t h c_25
            refine kv_iload_n C 1 dX10_kingLeaps_78 rfl rfl ?_
            refine kv_iconst C 4 dX10_kingLeaps_79 (by decide) ?_
            refine kv_isub C dX10_kingLeaps_80 ?_
            exact kv_lv [0, 1, 2] (lv2 := [(0, .ref h0), (1, .int x1), (2, .int x2)]) rfl (j81 x1 x2 (x1 - 4) h)
          · have h := oi_f h c_25
            refine kv_iload_n C 1 dX10_kingLeaps_72 rfl rfl ?_
            refine kv_iconst C 3 dX10_kingLeaps_73 (by decide) ?_
            refine kv_iadd C dX10_kingLeaps_74 ?_
            refine kv_goto C 81 dX10_kingLeaps_75 (by decide) ?_
            exact kv_lv [0, 1, 2] (lv2 := [(0, .ref h0), (1, .int x1), (2, .int x2)]) rfl (j81 x1 x2 (x1 + 3) h)
        · have h := oi_t h c_24
          exact kv_lv [] (lv2 := []) rfl (j66  h)
  have j23 : ∀ (x1 : Int32) (x2 : Int32) (x3 : Int32) (t0 : Int32), m_X10_kingLeaps_b23  v_side v_rights a_board x1 x2 x3 t0 = some rv → kv p l e rm_X10_kingLeaps s m ([.ref h0, .int p0, .int p1] : List Value).toArray below meth c D A 6 0 0 Q (wM h0 q cI v_code v_side v_rights v_passed v_halves v_number v_top v_typedCount v_readAt v_place v_writtenCount v_chosenFrom v_chosenTo v_chosenTurn v_changed v_readSide v_readRights v_readPassed v_readHalves v_readNumber a_board a_before a_typed a_written a_froms a_tos a_turns a_counts a_changedSquare a_changedMan a_readBoard) [(0, .ref h0), (1, .int x1), (2, .int x2), (3, .int x3)] 23 [.int t0] := by
    intro x1 x2 x3 t0 h
    unfold m_X10_kingLeaps_b23 at h
    refine kv_iload_n C 3 dX10_kingLeaps_23 rfl rfl ?_
    refine kv_if_eq C 31 dX10_kingLeaps_24 (by decide) (fun c_26 => ?_) (fun c_26 => ?_)
    · have h := oi_t h c_26
      refine kv_iconst C 2 dX10_kingLeaps_31 (by decide) ?_
      exact kv_lv [0, 1, 2, 3] (lv2 := [(0, .ref h0), (1, .int x1), (2, .int x2), (3, .int x3)]) rfl (j32 x1 x2 x3 t0 2 h)
    · have h := oi_f h c_26
      refine kv_iconst C 1 dX10_kingLeaps_27 (by decide) ?_
      refine kv_goto C 32 dX10_kingLeaps_28 (by decide) ?_
      exact kv_lv [0, 1, 2, 3] (lv2 := [(0, .ref h0), (1, .int x1), (2, .int x2), (3, .int x3)]) rfl (j32 x1 x2 x3 t0 1 h)
  have j10 : ∀ (x1 : Int32) (x2 : Int32) (t0 : Int32), m_X10_kingLeaps_b10  v_side v_rights a_board x1 x2 t0 = some rv → kv p l e rm_X10_kingLeaps s m ([.ref h0, .int p0, .int p1] : List Value).toArray below meth c D A 6 0 0 Q (wM h0 q cI v_code v_side v_rights v_passed v_halves v_number v_top v_typedCount v_readAt v_place v_writtenCount v_chosenFrom v_chosenTo v_chosenTurn v_changed v_readSide v_readRights v_readPassed v_readHalves v_readNumber a_board a_before a_typed a_written a_froms a_tos a_turns a_counts a_changedSquare a_changedMan a_readBoard) [(0, .ref h0), (1, .int x1), (2, .int x2)] 10 [.int t0] := by
    intro x1 x2 t0 h
    unfold m_X10_kingLeaps_b10 at h
    refine kv_istore_n C (lv2 := [(0, .ref h0), (1, .int x1), (2, .int x2), (3, .int t0)]) [1, 2, 3, 0] dX10_kingLeaps_10 rfl (by decide) rfl rfl ?_
    refine kv_aload_n C 0 dX10_kingLeaps_11 rfl rfl ?_
    refine kv_get C (Cn := RX10) (T := TX10) (N := 31) 0 2 hin10 rfl rfl (by decide) (C.ts _ (List.mem_cons_of_mem _ lf_RX10_119)) rfl rfl dX10_kingLeaps_12 ?_
    refine kv_if_ne C 22 dX10_kingLeaps_15 (by decide) (fun c_27 => ?_) (fun c_27 => ?_)
    · have h := oi_f h c_27
      refine kv_iconst C 4 dX10_kingLeaps_22 (by decide) ?_
      exact kv_lv [0, 1, 2, 3] (lv2 := [(0, .ref h0), (1, .int x1), (2, .int x2), (3, .int t0)]) rfl (j23 x1 x2 t0 4 h)
    · have h := oi_t h c_27
      refine kv_iconst C 1 dX10_kingLeaps_18 (by decide) ?_
      refine kv_goto C 23 dX10_kingLeaps_19 (by decide) ?_
      exact kv_lv [0, 1, 2, 3] (lv2 := [(0, .ref h0), (1, .int x1), (2, .int x2), (3, .int t0)]) rfl (j23 x1 x2 t0 1 h)
  unfold m_X10_kingLeaps at hm
  have h := hm
  refine kv_lv [0, 1, 2] (lv2 := [(0, .ref h0), (1, .int p0), (2, .int p1)]) rfl ?_
  refine kv_iload_n C 2 dX10_kingLeaps_0 rfl rfl ?_
  refine kv_iload_n C 1 dX10_kingLeaps_1 rfl rfl ?_
  refine kv_icmp_le C 9 dX10_kingLeaps_2 (by decide) (fun c_28 => ?_) (fun c_28 => ?_)
  · have h := oi_t h c_28
    refine kv_iconst C 0 dX10_kingLeaps_9 (by decide) ?_
    exact kv_lv [0, 1, 2] (lv2 := [(0, .ref h0), (1, .int p0), (2, .int p1)]) rfl (j10 p0 p1 0 h)
  · have h := oi_f h c_28
    refine kv_iconst C 1 dX10_kingLeaps_5 (by decide) ?_
    refine kv_goto C 10 dX10_kingLeaps_6 (by decide) ?_
    exact kv_lv [0, 1, 2] (lv2 := [(0, .ref h0), (1, .int p0), (2, .int p1)]) rfl (j10 p0 p1 1 h)
def m_X10_goes_b82 (v_side : Int32) (v_rights : Int32) (v_passed : Int32) (a_board : Nat → Int32) (t0 : Int32) : Option (Int32) := obl (t0) (some t0)
def m_X10_goes_b77 (v_side : Int32) (v_rights : Int32) (v_passed : Int32) (a_board : Nat → Int32) : Option (Int32) := m_X10_goes_b82 v_side v_rights v_passed a_board 1
def m_X10_goes (v_side : Int32) (v_rights : Int32) (v_passed : Int32) (a_board : Nat → Int32) (p0 : Int32) (p1 : Int32) : Option (Int32) := oin (p1) 64 (ob (m_X10_isSide (a_board p1.toNatClampNeg) v_side) fun r_3 => if r_3 = 0 then oin (p0) 64 (ob (m_X10_kindOf (a_board p0.toNatClampNeg)) fun r_7 => if r_7 = 1 then ob (m_X10_pawnGoes v_side v_passed a_board p0 p1) fun r_10 => obl (r_10) (some r_10) else if r_7 = 6 then ob (m_X10_reaches a_board p0 p1) fun r_14 => if r_14 = 0 then ob (m_X10_kingLeaps v_side v_rights a_board p0 p1) fun r_17 => if r_17 = 0 then m_X10_goes_b82 v_side v_rights v_passed a_board 0 else m_X10_goes_b77 v_side v_rights v_passed a_board else m_X10_goes_b77 v_side v_rights v_passed a_board else ob (m_X10_reaches a_board p0 p1) fun r_20 => obl (r_20) (some r_20)) else obl (0) (some 0))
abbrev rm_X10_goes : Room := { frames := 5, cells := 0, slots := 0, locals := 124 }
abbrev wy_X10_goes : List Cond := .code yX10_goes cX10_goes 3 (some .boolean) :: gT
theorem cv_X10_goes {R : Room} {s : State} {args : Array Value} {own : String} {index : Nat} {w0 : Cond} (hts : ∀ w ∈ w0 :: gT, w.before args s = true) (hl : Cond.methodLink own index yX10_goes ∈ gT) (hR : 5 + 1 ≤ R.frames ∧ 8 + (3 + 11) + 124 ≤ R.locals) : CallW R s args own RX10 index yX10_goes cX10_goes 3 (some .boolean) wy_X10_goes rm_X10_goes 0 0 2 :=
  cwV 2 hts (gT_call w0 (pre := [.methodLink own index yX10_goes, .instanceMethod yX10_goes, .selects RX10 yX10_goes yX10_goes, .initialized RX10]) (gT_lc hl (gT_lc ly_yX10_goes (gT_lc lx_yX10_goes (gT_l1 li_RX10)))) lc_yX10_goes) rfl rfl rfl (by decide +kernel) hR
set_option maxRecDepth 100000 in
set_option maxHeartbeats 4000000 in
theorem c_X10_goes (l : Launch) (D : va_G) (h0 : Nat) (q : Nat → Nat) (cI : ClassId) (v_code : Int32) (v_side : Int32) (v_rights : Int32) (v_passed : Int32) (v_halves : Int32) (v_number : Int32) (v_top : Int32) (v_typedCount : Int32) (v_readAt : Int32) (v_place : Int32) (v_writtenCount : Int32) (v_chosenFrom : Int32) (v_chosenTo : Int32) (v_chosenTurn : Int32) (v_changed : Int32) (v_readSide : Int32) (v_readRights : Int32) (v_readPassed : Int32) (v_readHalves : Int32) (v_readNumber : Int32) (a_board : Nat → Int32) (a_before : Nat → Int32) (a_typed : Nat → Int32) (a_written : Nat → Int32) (a_froms : Nat → Int32) (a_tos : Nat → Int32) (a_turns : Nat → Int32) (a_counts : Nat → Int32) (a_changedSquare : Nat → Int32) (a_changedMan : Nat → Int32) (a_readBoard : Nat → Int32) (p0 : Int32) (p1 : Int32) (rv : Int32) (hm : m_X10_goes v_side v_rights v_passed a_board p0 p1 = some rv) : kDi l yX10_goes wy_X10_goes rm_X10_goes D [(cI, .int)] rv (wM h0 q cI v_code v_side v_rights v_passed v_halves v_number v_top v_typedCount v_readAt v_place v_writtenCount v_chosenFrom v_chosenTo v_chosenTurn v_changed v_readSide v_readRights v_readPassed v_readHalves v_readNumber a_board a_before a_typed a_written a_froms a_tos a_turns a_counts a_changedSquare a_changedMan a_readBoard) (wM h0 q cI v_code v_side v_rights v_passed v_halves v_number v_top v_typedCount v_readAt v_place v_writtenCount v_chosenFrom v_chosenTo v_chosenTurn v_changed v_readSide v_readRights v_readPassed v_readHalves v_readNumber a_board a_before a_typed a_written a_froms a_tos a_turns a_counts a_changedSquare a_changedMan a_readBoard) [.ref h0, .int p0, .int p1] := by
  refine kDi.of cX10_goes 3 (some .boolean) (by decide) rfl (Or.inr rfl) (Nat.le_of_ble_eq_true rfl) ?_
  intro p e s m below meth c A Q C hret
  have hin10 : ∀ w ∈ wsX100, w ∈ wy_X10_goes := fun w h => List.mem_cons_of_mem _ (inG10 w h)
  have j82 : ∀ (t0 : Int32), m_X10_goes_b82  v_side v_rights v_passed a_board t0 = some rv → kv p l e rm_X10_goes s m ([.ref h0, .int p0, .int p1] : List Value).toArray below meth c D A 3 0 0 Q (wM h0 q cI v_code v_side v_rights v_passed v_halves v_number v_top v_typedCount v_readAt v_place v_writtenCount v_chosenFrom v_chosenTo v_chosenTurn v_changed v_readSide v_readRights v_readPassed v_readHalves v_readNumber a_board a_before a_typed a_written a_froms a_tos a_turns a_counts a_changedSquare a_changedMan a_readBoard) [] 82 [.int t0] := by
    intro t0 h
    unfold m_X10_goes_b82 at h
    obtain ⟨g_1, h⟩ := obl_e h
    cases h
    exact hret _ _ dX10_goes_82 (fun _ => g_1)
  have j77 : m_X10_goes_b77  v_side v_rights v_passed a_board  = some rv → kv p l e rm_X10_goes s m ([.ref h0, .int p0, .int p1] : List Value).toArray below meth c D A 3 0 0 Q (wM h0 q cI v_code v_side v_rights v_passed v_halves v_number v_top v_typedCount v_readAt v_place v_writtenCount v_chosenFrom v_chosenTo v_chosenTurn v_changed v_readSide v_readRights v_readPassed v_readHalves v_readNumber a_board a_before a_typed a_written a_froms a_tos a_turns a_counts a_changedSquare a_changedMan a_readBoard) [] 77 [] := by
    intro  h
    unfold m_X10_goes_b77 at h
    refine kv_iconst C 1 dX10_goes_77 (by decide) ?_
    refine kv_goto C 82 dX10_goes_78 (by decide) ?_
    exact kv_lv [] (lv2 := []) rfl (j82 1 h)
  unfold m_X10_goes at hm
  have h := hm
  refine kv_lv [0, 1, 2] (lv2 := [(0, .ref h0), (1, .int p0), (2, .int p1)]) rfl ?_
  refine kv_aload_n C 0 dX10_goes_0 rfl rfl ?_
  refine kv_get C (Cn := RX10) (T := TX10) (N := 31) 0 1 hin10 rfl rfl (by decide) (C.ts _ (List.mem_cons_of_mem _ lf_RX10_7)) rfl rfl dX10_goes_1 ?_
  refine kv_iload_n C 2 dX10_goes_4 rfl rfl ?_
  obtain ⟨g_2, h⟩ := oin_e h
  refine kv_iald C 1 0 rfl rfl g_2 dX10_goes_5 ?_
  refine kv_aload_n C 0 dX10_goes_6 rfl rfl ?_
  refine kv_get C (Cn := RX10) (T := TX10) (N := 31) 0 2 hin10 rfl rfl (by decide) (C.ts _ (List.mem_cons_of_mem _ lf_RX10_119)) rfl rfl dX10_goes_7 ?_
  obtain ⟨r_3, hm_4, h⟩ := ob_e h
  refine kv_callS0i C [.int (a_board p1.toNatClampNeg), .int v_side] (c_X10_isSide l D (a_board p1.toNatClampNeg) v_side r_3 hm_4) (cs_X10_isSide C.ts lm_RX10_86 ⟨Nat.le_of_ble_eq_true rfl, Nat.le_of_ble_eq_true rfl⟩) rfl rfl (Nat.le_of_ble_eq_true rfl) dX10_goes_10 ⟨Nat.zero_le _, Nat.zero_le _⟩ ?_
  refine kv_if_eq C 18 dX10_goes_13 (by decide) (fun c_5 => ?_) (fun c_5 => ?_)
  · have h := oi_t h c_5
    refine kv_aload_n C 0 dX10_goes_18 rfl rfl ?_
    refine kv_get C (Cn := RX10) (T := TX10) (N := 31) 0 1 hin10 rfl rfl (by decide) (C.ts _ (List.mem_cons_of_mem _ lf_RX10_7)) rfl rfl dX10_goes_19 ?_
    refine kv_iload_n C 1 dX10_goes_22 rfl rfl ?_
    obtain ⟨g_6, h⟩ := oin_e h
    refine kv_iald C 1 0 rfl rfl g_6 dX10_goes_23 ?_
    obtain ⟨r_7, hm_8, h⟩ := ob_e h
    refine kv_callS0i C [.int (a_board p0.toNatClampNeg)] (c_X10_kindOf l D (a_board p0.toNatClampNeg) r_7 hm_8) (cs_X10_kindOf C.ts lm_RX10_79 ⟨Nat.le_of_ble_eq_true rfl, Nat.le_of_ble_eq_true rfl⟩) rfl rfl (Nat.le_of_ble_eq_true rfl) dX10_goes_24 ⟨Nat.zero_le _, Nat.zero_le _⟩ ?_
    by_cases c_9 : r_7 = 1
    · have h := oi_t h c_9
      refine kv_lookupIn C 1 52 dX10_goes_27 c_9 (by decide) rfl (by decide) ?_
      refine kv_aload_n C 0 dX10_goes_52 rfl rfl ?_
      refine kv_iload_n C 1 dX10_goes_53 rfl rfl ?_
      refine kv_iload_n C 2 dX10_goes_54 rfl rfl ?_
      obtain ⟨r_10, hm_11, h⟩ := ob_e h
      refine kv_callWi C [.int p0, .int p1] 0 (c_X10_pawnGoes l D h0 q cI v_code v_side v_rights v_passed v_halves v_number v_top v_typedCount v_readAt v_place v_writtenCount v_chosenFrom v_chosenTo v_chosenTurn v_changed v_readSide v_readRights v_readPassed v_readHalves v_readNumber a_board a_before a_typed a_written a_froms a_tos a_turns a_counts a_changedSquare a_changedMan a_readBoard p0 p1 r_10 hm_11) (cv_X10_pawnGoes C.ts lm_RX10_142 ⟨Nat.le_of_ble_eq_true rfl, Nat.le_of_ble_eq_true rfl⟩) rfl rfl rfl rfl (Nat.le_of_ble_eq_true rfl) dX10_goes_55 ⟨Nat.zero_le _, Nat.zero_le _⟩ ?_
      obtain ⟨g_12, h⟩ := obl_e h
      cases h
      exact hret _ _ dX10_goes_58 (fun _ => g_12)
    have h := oi_f h c_9
    by_cases c_13 : r_7 = 6
    · have h := oi_t h c_13
      refine kv_lookupIn C 6 59 dX10_goes_27 c_13 (by decide) rfl (by decide) ?_
      refine kv_aload_n C 0 dX10_goes_59 rfl rfl ?_
      refine kv_iload_n C 1 dX10_goes_60 rfl rfl ?_
      refine kv_iload_n C 2 dX10_goes_61 rfl rfl ?_
      obtain ⟨r_14, hm_15, h⟩ := ob_e h
      refine kv_callWi C [.int p0, .int p1] 0 (c_X10_reaches l D h0 q cI v_code v_side v_rights v_passed v_halves v_number v_top v_typedCount v_readAt v_place v_writtenCount v_chosenFrom v_chosenTo v_chosenTurn v_changed v_readSide v_readRights v_readPassed v_readHalves v_readNumber a_board a_before a_typed a_written a_froms a_tos a_turns a_counts a_changedSquare a_changedMan a_readBoard p0 p1 r_14 hm_15) (cv_X10_reaches C.ts lm_RX10_89 ⟨Nat.le_of_ble_eq_true rfl, Nat.le_of_ble_eq_true rfl⟩) rfl rfl rfl rfl (Nat.le_of_ble_eq_true rfl) dX10_goes_62 ⟨Nat.zero_le _, Nat.zero_le _⟩ ?_
      refine kv_if_ne C 77 dX10_goes_65 (by decide) (fun c_16 => ?_) (fun c_16 => ?_)
      · have h := oi_f h c_16
        exact kv_lv [] (lv2 := []) rfl (j77  h)
      · have h := oi_t h c_16
        refine kv_aload_n C 0 dX10_goes_68 rfl rfl ?_
        refine kv_iload_n C 1 dX10_goes_69 rfl rfl ?_
        refine kv_iload_n C 2 dX10_goes_70 rfl rfl ?_
        obtain ⟨r_17, hm_18, h⟩ := ob_e h
        refine kv_callWi C [.int p0, .int p1] 0 (c_X10_kingLeaps l D h0 q cI v_code v_side v_rights v_passed v_halves v_number v_top v_typedCount v_readAt v_place v_writtenCount v_chosenFrom v_chosenTo v_chosenTurn v_changed v_readSide v_readRights v_readPassed v_readHalves v_readNumber a_board a_before a_typed a_written a_froms a_tos a_turns a_counts a_changedSquare a_changedMan a_readBoard p0 p1 r_17 hm_18) (cv_X10_kingLeaps C.ts lm_RX10_145 ⟨Nat.le_of_ble_eq_true rfl, Nat.le_of_ble_eq_true rfl⟩) rfl rfl rfl rfl (Nat.le_of_ble_eq_true rfl) dX10_goes_71 ⟨Nat.zero_le _, Nat.zero_le _⟩ ?_
        refine kv_if_eq C 81 dX10_goes_74 (by decide) (fun c_19 => ?_) (fun c_19 => ?_)
        · have h := oi_t h c_19
          refine kv_iconst C 0 dX10_goes_81 (by decide) ?_
          exact kv_lv [] (lv2 := []) rfl (j82 0 h)
        · have h := oi_f h c_19
          exact kv_lv [] (lv2 := []) rfl (j77  h)
    have h := oi_f h c_13
    have qc_9 := (kv_ne c_9).symm
    have qc_13 := (kv_ne c_13).symm
    refine kv_lookupOut C 83 dX10_goes_27 (by decide) (by simp at qc_9 qc_13; simp [Op.lookupswitch.offset, qc_9, qc_13]) (by decide) ?_
    refine kv_aload_n C 0 dX10_goes_83 rfl rfl ?_
    refine kv_iload_n C 1 dX10_goes_84 rfl rfl ?_
    refine kv_iload_n C 2 dX10_goes_85 rfl rfl ?_
    obtain ⟨r_20, hm_21, h⟩ := ob_e h
    refine kv_callWi C [.int p0, .int p1] 0 (c_X10_reaches l D h0 q cI v_code v_side v_rights v_passed v_halves v_number v_top v_typedCount v_readAt v_place v_writtenCount v_chosenFrom v_chosenTo v_chosenTurn v_changed v_readSide v_readRights v_readPassed v_readHalves v_readNumber a_board a_before a_typed a_written a_froms a_tos a_turns a_counts a_changedSquare a_changedMan a_readBoard p0 p1 r_20 hm_21) (cv_X10_reaches C.ts lm_RX10_89 ⟨Nat.le_of_ble_eq_true rfl, Nat.le_of_ble_eq_true rfl⟩) rfl rfl rfl rfl (Nat.le_of_ble_eq_true rfl) dX10_goes_86 ⟨Nat.zero_le _, Nat.zero_le _⟩ ?_
    obtain ⟨g_22, h⟩ := obl_e h
    cases h
    exact hret _ _ dX10_goes_89 (fun _ => g_22)
  · have h := oi_f h c_5
    refine kv_iconst C 0 dX10_goes_16 (by decide) ?_
    obtain ⟨g_23, h⟩ := obl_e h
    cases h
    exact hret _ _ dX10_goes_17 (fun _ => g_23)
def m_X10_find_b129 (k9 : Int32 → (Nat → Int32) → (Nat → Int32) → (Nat → Int32) → (Nat → Int32) → (Nat → Int32) → (Nat → Int32) → (Nat → Int32) → Int32 → Int32 → Option (Int32 × (Nat → Int32) × (Nat → Int32) × (Nat → Int32) × (Nat → Int32) × (Nat → Int32) × (Nat → Int32) × (Nat → Int32))) (v_side : Int32) (v_rights : Int32) (v_passed : Int32) (v_changed : Int32) (a_board : Nat → Int32) (a_froms : Nat → Int32) (a_tos : Nat → Int32) (a_turns : Nat → Int32) (a_counts : Nat → Int32) (a_changedSquare : Nat → Int32) (a_changedMan : Nat → Int32) (x1 : Int32) (x2 : Int32) : Option (Int32 × (Nat → Int32) × (Nat → Int32) × (Nat → Int32) × (Nat → Int32) × (Nat → Int32) × (Nat → Int32) × (Nat → Int32)) := ol (x2 + 1) fun x2_1 => k9 v_changed a_board a_froms a_tos a_turns a_counts a_changedSquare a_changedMan x1 x2_1
def m_X10_find_b123 (k9 : Int32 → (Nat → Int32) → (Nat → Int32) → (Nat → Int32) → (Nat → Int32) → (Nat → Int32) → (Nat → Int32) → (Nat → Int32) → Int32 → Int32 → Option (Int32 × (Nat → Int32) × (Nat → Int32) × (Nat → Int32) × (Nat → Int32) × (Nat → Int32) × (Nat → Int32) × (Nat → Int32))) (k17 : Int32 → (Nat → Int32) → (Nat → Int32) → (Nat → Int32) → (Nat → Int32) → (Nat → Int32) → (Nat → Int32) → (Nat → Int32) → Int32 → Int32 → Int32 → Option (Int32 × (Nat → Int32) × (Nat → Int32) × (Nat → Int32) × (Nat → Int32) × (Nat → Int32) × (Nat → Int32) × (Nat → Int32))) (v_side : Int32) (v_rights : Int32) (v_passed : Int32) (v_changed : Int32) (a_board : Nat → Int32) (a_froms : Nat → Int32) (a_tos : Nat → Int32) (a_turns : Nat → Int32) (a_counts : Nat → Int32) (a_changedSquare : Nat → Int32) (a_changedMan : Nat → Int32) (x1 : Int32) (x2 : Int32) (x3 : Int32) : Option (Int32 × (Nat → Int32) × (Nat → Int32) × (Nat → Int32) × (Nat → Int32) × (Nat → Int32) × (Nat → Int32) × (Nat → Int32)) := ol (x3 + 1) fun x3_2 => k17 v_changed a_board a_froms a_tos a_turns a_counts a_changedSquare a_changedMan x1 x2 x3_2
def m_X10_find_b105 (k9 : Int32 → (Nat → Int32) → (Nat → Int32) → (Nat → Int32) → (Nat → Int32) → (Nat → Int32) → (Nat → Int32) → (Nat → Int32) → Int32 → Int32 → Option (Int32 × (Nat → Int32) × (Nat → Int32) × (Nat → Int32) × (Nat → Int32) × (Nat → Int32) × (Nat → Int32) × (Nat → Int32))) (k17 : Int32 → (Nat → Int32) → (Nat → Int32) → (Nat → Int32) → (Nat → Int32) → (Nat → Int32) → (Nat → Int32) → (Nat → Int32) → Int32 → Int32 → Int32 → Option (Int32 × (Nat → Int32) × (Nat → Int32) × (Nat → Int32) × (Nat → Int32) × (Nat → Int32) × (Nat → Int32) × (Nat → Int32))) (k93 : Int32 → (Nat → Int32) → (Nat → Int32) → (Nat → Int32) → (Nat → Int32) → (Nat → Int32) → (Nat → Int32) → (Nat → Int32) → Int32 → Int32 → Int32 → Int32 → Int32 → Option (Int32 × (Nat → Int32) × (Nat → Int32) × (Nat → Int32) × (Nat → Int32) × (Nat → Int32) × (Nat → Int32) × (Nat → Int32))) (v_side : Int32) (v_rights : Int32) (v_passed : Int32) (v_changed : Int32) (a_board : Nat → Int32) (a_froms : Nat → Int32) (a_tos : Nat → Int32) (a_turns : Nat → Int32) (a_counts : Nat → Int32) (a_changedSquare : Nat → Int32) (a_changedMan : Nat → Int32) (x1 : Int32) (x2 : Int32) (x3 : Int32) (x4 : Int32) (x5 : Int32) (t0 : Int32) (t1 : Int32) : Option (Int32 × (Nat → Int32) × (Nat → Int32) × (Nat → Int32) × (Nat → Int32) × (Nat → Int32) × (Nat → Int32) × (Nat → Int32)) := if t1 < t0 then m_X10_find_b123 k9 k17 v_side v_rights v_passed v_changed a_board a_froms a_tos a_turns a_counts a_changedSquare a_changedMan x1 x2 x3 else ob (m_X10_tell v_changed a_board a_froms a_tos a_turns a_counts a_changedSquare a_changedMan x1 x2 x3 x5) fun (v_changed_4, a_board_5, a_froms_6, a_tos_7, a_turns_8, a_counts_9, a_changedSquare_10, a_changedMan_11) => ol (x5 + 1) fun x5_14 => k93 v_changed_4 a_board_5 a_froms_6 a_tos_7 a_turns_8 a_counts_9 a_changedSquare_10 a_changedMan_11 x1 x2 x3 x4 x5_14
def m_X10_find_b93 (k9 : Int32 → (Nat → Int32) → (Nat → Int32) → (Nat → Int32) → (Nat → Int32) → (Nat → Int32) → (Nat → Int32) → (Nat → Int32) → Int32 → Int32 → Option (Int32 × (Nat → Int32) × (Nat → Int32) × (Nat → Int32) × (Nat → Int32) × (Nat → Int32) × (Nat → Int32) × (Nat → Int32))) (k17 : Int32 → (Nat → Int32) → (Nat → Int32) → (Nat → Int32) → (Nat → Int32) → (Nat → Int32) → (Nat → Int32) → (Nat → Int32) → Int32 → Int32 → Int32 → Option (Int32 × (Nat → Int32) × (Nat → Int32) × (Nat → Int32) × (Nat → Int32) × (Nat → Int32) × (Nat → Int32) × (Nat → Int32))) (k93 : Int32 → (Nat → Int32) → (Nat → Int32) → (Nat → Int32) → (Nat → Int32) → (Nat → Int32) → (Nat → Int32) → (Nat → Int32) → Int32 → Int32 → Int32 → Int32 → Int32 → Option (Int32 × (Nat → Int32) × (Nat → Int32) × (Nat → Int32) × (Nat → Int32) × (Nat → Int32) × (Nat → Int32) × (Nat → Int32))) (v_side : Int32) (v_rights : Int32) (v_passed : Int32) (v_changed : Int32) (a_board : Nat → Int32) (a_froms : Nat → Int32) (a_tos : Nat → Int32) (a_turns : Nat → Int32) (a_counts : Nat → Int32) (a_changedSquare : Nat → Int32) (a_changedMan : Nat → Int32) (x1 : Int32) (x2 : Int32) (x3 : Int32) (x4 : Int32) (x5 : Int32) : Option (Int32 × (Nat → Int32) × (Nat → Int32) × (Nat → Int32) × (Nat → Int32) × (Nat → Int32) × (Nat → Int32) × (Nat → Int32)) := if x4 = 0 then m_X10_find_b105 k9 k17 k93 v_side v_rights v_passed v_changed a_board a_froms a_tos a_turns a_counts a_changedSquare a_changedMan x1 x2 x3 x4 x5 x5 0 else m_X10_find_b105 k9 k17 k93 v_side v_rights v_passed v_changed a_board a_froms a_tos a_turns a_counts a_changedSquare a_changedMan x1 x2 x3 x4 x5 x5 5
def m_X10_find_l93 (k9 : Int32 → (Nat → Int32) → (Nat → Int32) → (Nat → Int32) → (Nat → Int32) → (Nat → Int32) → (Nat → Int32) → (Nat → Int32) → Int32 → Int32 → Option (Int32 × (Nat → Int32) × (Nat → Int32) × (Nat → Int32) × (Nat → Int32) × (Nat → Int32) × (Nat → Int32) × (Nat → Int32))) (k17 : Int32 → (Nat → Int32) → (Nat → Int32) → (Nat → Int32) → (Nat → Int32) → (Nat → Int32) → (Nat → Int32) → (Nat → Int32) → Int32 → Int32 → Int32 → Option (Int32 × (Nat → Int32) × (Nat → Int32) × (Nat → Int32) × (Nat → Int32) × (Nat → Int32) × (Nat → Int32) × (Nat → Int32))) (v_side : Int32) (v_rights : Int32) (v_passed : Int32) (n : Nat) : Int32 → (Nat → Int32) → (Nat → Int32) → (Nat → Int32) → (Nat → Int32) → (Nat → Int32) → (Nat → Int32) → (Nat → Int32) → Int32 → Int32 → Int32 → Int32 → Int32 → Option (Int32 × (Nat → Int32) × (Nat → Int32) × (Nat → Int32) × (Nat → Int32) × (Nat → Int32) × (Nat → Int32) × (Nat → Int32)) := fz (fun _ _ _ _ _ _ _ _ _ _ _ _ _ => none) (fun k93 v_changed a_board a_froms a_tos a_turns a_counts a_changedSquare a_changedMan x1 x2 x3 x4 x5 => m_X10_find_b93 k9 k17 k93 v_side v_rights v_passed v_changed a_board a_froms a_tos a_turns a_counts a_changedSquare a_changedMan x1 x2 x3 x4 x5) n
def m_X10_find_b91 (k9 : Int32 → (Nat → Int32) → (Nat → Int32) → (Nat → Int32) → (Nat → Int32) → (Nat → Int32) → (Nat → Int32) → (Nat → Int32) → Int32 → Int32 → Option (Int32 × (Nat → Int32) × (Nat → Int32) × (Nat → Int32) × (Nat → Int32) × (Nat → Int32) × (Nat → Int32) × (Nat → Int32))) (k17 : Int32 → (Nat → Int32) → (Nat → Int32) → (Nat → Int32) → (Nat → Int32) → (Nat → Int32) → (Nat → Int32) → (Nat → Int32) → Int32 → Int32 → Int32 → Option (Int32 × (Nat → Int32) × (Nat → Int32) × (Nat → Int32) × (Nat → Int32) × (Nat → Int32) × (Nat → Int32) × (Nat → Int32))) (v_side : Int32) (v_rights : Int32) (v_passed : Int32) (v_changed : Int32) (a_board : Nat → Int32) (a_froms : Nat → Int32) (a_tos : Nat → Int32) (a_turns : Nat → Int32) (a_counts : Nat → Int32) (a_changedSquare : Nat → Int32) (a_changedMan : Nat → Int32) (x1 : Int32) (x2 : Int32) (x3 : Int32) (x4 : Int32) (t0 : Int32) : Option (Int32 × (Nat → Int32) × (Nat → Int32) × (Nat → Int32) × (Nat → Int32) × (Nat → Int32) × (Nat → Int32) × (Nat → Int32)) := m_X10_find_l93 k9 k17 v_side v_rights v_passed kF v_changed a_board a_froms a_tos a_turns a_counts a_changedSquare a_changedMan x1 x2 x3 x4 t0
def m_X10_find_b79 (k9 : Int32 → (Nat → Int32) → (Nat → Int32) → (Nat → Int32) → (Nat → Int32) → (Nat → Int32) → (Nat → Int32) → (Nat → Int32) → Int32 → Int32 → Option (Int32 × (Nat → Int32) × (Nat → Int32) × (Nat → Int32) × (Nat → Int32) × (Nat → Int32) × (Nat → Int32) × (Nat → Int32))) (k17 : Int32 → (Nat → Int32) → (Nat → Int32) → (Nat → Int32) → (Nat → Int32) → (Nat → Int32) → (Nat → Int32) → (Nat → Int32) → Int32 → Int32 → Int32 → Option (Int32 × (Nat → Int32) × (Nat → Int32) × (Nat → Int32) × (Nat → Int32) × (Nat → Int32) × (Nat → Int32) × (Nat → Int32))) (v_side : Int32) (v_rights : Int32) (v_passed : Int32) (v_changed : Int32) (a_board : Nat → Int32) (a_froms : Nat → Int32) (a_tos : Nat → Int32) (a_turns : Nat → Int32) (a_counts : Nat → Int32) (a_changedSquare : Nat → Int32) (a_changedMan : Nat → Int32) (x1 : Int32) (x2 : Int32) (x3 : Int32) (t0 : Int32) : Option (Int32 × (Nat → Int32) × (Nat → Int32) × (Nat → Int32) × (Nat → Int32) × (Nat → Int32) × (Nat → Int32) × (Nat → Int32)) := if t0 = 0 then m_X10_find_b91 k9 k17 v_side v_rights v_passed v_changed a_board a_froms a_tos a_turns a_counts a_changedSquare a_changedMan x1 x2 x3 t0 0 else m_X10_find_b91 k9 k17 v_side v_rights v_passed v_changed a_board a_froms a_tos a_turns a_counts a_changedSquare a_changedMan x1 x2 x3 t0 2
def m_X10_find_b78 (k9 : Int32 → (Nat → Int32) → (Nat → Int32) → (Nat → Int32) → (Nat → Int32) → (Nat → Int32) → (Nat → Int32) → (Nat → Int32) → Int32 → Int32 → Option (Int32 × (Nat → Int32) × (Nat → Int32) × (Nat → Int32) × (Nat → Int32) × (Nat → Int32) × (Nat → Int32) × (Nat → Int32))) (k17 : Int32 → (Nat → Int32) → (Nat → Int32) → (Nat → Int32) → (Nat → Int32) → (Nat → Int32) → (Nat → Int32) → (Nat → Int32) → Int32 → Int32 → Int32 → Option (Int32 × (Nat → Int32) × (Nat → Int32) × (Nat → Int32) × (Nat → Int32) × (Nat → Int32) × (Nat → Int32) × (Nat → Int32))) (v_side : Int32) (v_rights : Int32) (v_passed : Int32) (v_changed : Int32) (a_board : Nat → Int32) (a_froms : Nat → Int32) (a_tos : Nat → Int32) (a_turns : Nat → Int32) (a_counts : Nat → Int32) (a_changedSquare : Nat → Int32) (a_changedMan : Nat → Int32) (x1 : Int32) (x2 : Int32) (x3 : Int32) : Option (Int32 × (Nat → Int32) × (Nat → Int32) × (Nat → Int32) × (Nat → Int32) × (Nat → Int32) × (Nat → Int32) × (Nat → Int32)) := m_X10_find_b79 k9 k17 v_side v_rights v_passed v_changed a_board a_froms a_tos a_turns a_counts a_changedSquare a_changedMan x1 x2 x3 0
def m_X10_find_b17 (k9 : Int32 → (Nat → Int32) → (Nat → Int32) → (Nat → Int32) → (Nat → Int32) → (Nat → Int32) → (Nat → Int32) → (Nat → Int32) → Int32 → Int32 → Option (Int32 × (Nat → Int32) × (Nat → Int32) × (Nat → Int32) × (Nat → Int32) × (Nat → Int32) × (Nat → Int32) × (Nat → Int32))) (k17 : Int32 → (Nat → Int32) → (Nat → Int32) → (Nat → Int32) → (Nat → Int32) → (Nat → Int32) → (Nat → Int32) → (Nat → Int32) → Int32 → Int32 → Int32 → Option (Int32 × (Nat → Int32) × (Nat → Int32) × (Nat → Int32) × (Nat → Int32) × (Nat → Int32) × (Nat → Int32) × (Nat → Int32))) (v_side : Int32) (v_rights : Int32) (v_passed : Int32) (v_changed : Int32) (a_board : Nat → Int32) (a_froms : Nat → Int32) (a_tos : Nat → Int32) (a_turns : Nat → Int32) (a_counts : Nat → Int32) (a_changedSquare : Nat → Int32) (a_changedMan : Nat → Int32) (x1 : Int32) (x2 : Int32) (x3 : Int32) : Option (Int32 × (Nat → Int32) × (Nat → Int32) × (Nat → Int32) × (Nat → Int32) × (Nat → Int32) × (Nat → Int32) × (Nat → Int32)) := if 64 ≤ x3 then m_X10_find_b129 k9 v_side v_rights v_passed v_changed a_board a_froms a_tos a_turns a_counts a_changedSquare a_changedMan x1 x2 else oin (x2) 64 (ob (m_X10_isSide (a_board x2.toNatClampNeg) v_side) fun r_19 => if r_19 = 0 then m_X10_find_b129 k9 v_side v_rights v_passed v_changed a_board a_froms a_tos a_turns a_counts a_changedSquare a_changedMan x1 x2 else ob (m_X10_goes v_side v_rights v_passed a_board x2 x3) fun r_22 => if r_22 = 0 then m_X10_find_b123 k9 k17 v_side v_rights v_passed v_changed a_board a_froms a_tos a_turns a_counts a_changedSquare a_changedMan x1 x2 x3 else oin (x2) 64 (ob (m_X10_kindOf (a_board x2.toNatClampNeg)) fun r_26 => if r_26 = 1 then ob (m_X10_rankOf x3 v_side) fun r_29 => if r_29 = 7 then m_X10_find_b79 k9 k17 v_side v_rights v_passed v_changed a_board a_froms a_tos a_turns a_counts a_changedSquare a_changedMan x1 x2 x3 1 else m_X10_find_b78 k9 k17 v_side v_rights v_passed v_changed a_board a_froms a_tos a_turns a_counts a_changedSquare a_changedMan x1 x2 x3 else m_X10_find_b78 k9 k17 v_side v_rights v_passed v_changed a_board a_froms a_tos a_turns a_counts a_changedSquare a_changedMan x1 x2 x3))
def m_X10_find_l17 (k9 : Int32 → (Nat → Int32) → (Nat → Int32) → (Nat → Int32) → (Nat → Int32) → (Nat → Int32) → (Nat → Int32) → (Nat → Int32) → Int32 → Int32 → Option (Int32 × (Nat → Int32) × (Nat → Int32) × (Nat → Int32) × (Nat → Int32) × (Nat → Int32) × (Nat → Int32) × (Nat → Int32))) (v_side : Int32) (v_rights : Int32) (v_passed : Int32) (n : Nat) : Int32 → (Nat → Int32) → (Nat → Int32) → (Nat → Int32) → (Nat → Int32) → (Nat → Int32) → (Nat → Int32) → (Nat → Int32) → Int32 → Int32 → Int32 → Option (Int32 × (Nat → Int32) × (Nat → Int32) × (Nat → Int32) × (Nat → Int32) × (Nat → Int32) × (Nat → Int32) × (Nat → Int32)) := fz (fun _ _ _ _ _ _ _ _ _ _ _ => none) (fun k17 v_changed a_board a_froms a_tos a_turns a_counts a_changedSquare a_changedMan x1 x2 x3 => m_X10_find_b17 k9 k17 v_side v_rights v_passed v_changed a_board a_froms a_tos a_turns a_counts a_changedSquare a_changedMan x1 x2 x3) n
def m_X10_find_b9 (k9 : Int32 → (Nat → Int32) → (Nat → Int32) → (Nat → Int32) → (Nat → Int32) → (Nat → Int32) → (Nat → Int32) → (Nat → Int32) → Int32 → Int32 → Option (Int32 × (Nat → Int32) × (Nat → Int32) × (Nat → Int32) × (Nat → Int32) × (Nat → Int32) × (Nat → Int32) × (Nat → Int32))) (v_side : Int32) (v_rights : Int32) (v_passed : Int32) (v_changed : Int32) (a_board : Nat → Int32) (a_froms : Nat → Int32) (a_tos : Nat → Int32) (a_turns : Nat → Int32) (a_counts : Nat → Int32) (a_changedSquare : Nat → Int32) (a_changedMan : Nat → Int32) (x1 : Int32) (x2 : Int32) : Option (Int32 × (Nat → Int32) × (Nat → Int32) × (Nat → Int32) × (Nat → Int32) × (Nat → Int32) × (Nat → Int32) × (Nat → Int32)) := if 64 ≤ x2 then some (v_changed, a_board, a_froms, a_tos, a_turns, a_counts, a_changedSquare, a_changedMan) else m_X10_find_l17 k9 v_side v_rights v_passed kF v_changed a_board a_froms a_tos a_turns a_counts a_changedSquare a_changedMan x1 x2 0
def m_X10_find_l9 (v_side : Int32) (v_rights : Int32) (v_passed : Int32) (n : Nat) : Int32 → (Nat → Int32) → (Nat → Int32) → (Nat → Int32) → (Nat → Int32) → (Nat → Int32) → (Nat → Int32) → (Nat → Int32) → Int32 → Int32 → Option (Int32 × (Nat → Int32) × (Nat → Int32) × (Nat → Int32) × (Nat → Int32) × (Nat → Int32) × (Nat → Int32) × (Nat → Int32)) := fz (fun _ _ _ _ _ _ _ _ _ _ => none) (fun k9 v_changed a_board a_froms a_tos a_turns a_counts a_changedSquare a_changedMan x1 x2 => m_X10_find_b9 k9 v_side v_rights v_passed v_changed a_board a_froms a_tos a_turns a_counts a_changedSquare a_changedMan x1 x2) n
def m_X10_find (v_side : Int32) (v_rights : Int32) (v_passed : Int32) (v_changed : Int32) (a_board : Nat → Int32) (a_froms : Nat → Int32) (a_tos : Nat → Int32) (a_turns : Nat → Int32) (a_counts : Nat → Int32) (a_changedSquare : Nat → Int32) (a_changedMan : Nat → Int32) (p0 : Int32) : Option (Int32 × (Nat → Int32) × (Nat → Int32) × (Nat → Int32) × (Nat → Int32) × (Nat → Int32) × (Nat → Int32) × (Nat → Int32)) := oin (p0) 5 (ol (upd a_counts (p0.toNatClampNeg) 0) fun a_counts_34 => m_X10_find_l9 v_side v_rights v_passed kF v_changed a_board a_froms a_tos a_turns a_counts_34 a_changedSquare a_changedMan p0 0)
abbrev rm_X10_find : Room := { frames := 7, cells := 0, slots := 0, locals := 173 }
abbrev wy_X10_find : List Cond := .code yX10_find cX10_find 6 none :: gT
theorem cv_X10_find {R : Room} {s : State} {args : Array Value} {own : String} {index : Nat} {w0 : Cond} (hts : ∀ w ∈ w0 :: gT, w.before args s = true) (hl : Cond.methodLink own index yX10_find ∈ gT) (hR : 7 + 1 ≤ R.frames ∧ 8 + (6 + 11) + 173 ≤ R.locals) : CallW R s args own RX10 index yX10_find cX10_find 6 none wy_X10_find rm_X10_find 0 0 1 :=
  cwV 1 hts (gT_call w0 (pre := [.methodLink own index yX10_find, .instanceMethod yX10_find, .selects RX10 yX10_find yX10_find, .initialized RX10]) (gT_lc hl (gT_lc ly_yX10_find (gT_lc lx_yX10_find (gT_l1 li_RX10)))) lc_yX10_find) rfl rfl rfl (by decide +kernel) hR
set_option maxRecDepth 100000 in
set_option maxHeartbeats 4000000 in
theorem c_X10_find (l : Launch) (D : va_G) (h0 : Nat) (q : Nat → Nat) (cI : ClassId) (v_code : Int32) (v_side : Int32) (v_rights : Int32) (v_passed : Int32) (v_halves : Int32) (v_number : Int32) (v_top : Int32) (v_typedCount : Int32) (v_readAt : Int32) (v_place : Int32) (v_writtenCount : Int32) (v_chosenFrom : Int32) (v_chosenTo : Int32) (v_chosenTurn : Int32) (v_changed : Int32) (v_readSide : Int32) (v_readRights : Int32) (v_readPassed : Int32) (v_readHalves : Int32) (v_readNumber : Int32) (a_board : Nat → Int32) (a_before : Nat → Int32) (a_typed : Nat → Int32) (a_written : Nat → Int32) (a_froms : Nat → Int32) (a_tos : Nat → Int32) (a_turns : Nat → Int32) (a_counts : Nat → Int32) (a_changedSquare : Nat → Int32) (a_changedMan : Nat → Int32) (a_readBoard : Nat → Int32) (p0 : Int32) (v_changed' : Int32) (a_board' : Nat → Int32) (a_froms' : Nat → Int32) (a_tos' : Nat → Int32) (a_turns' : Nat → Int32) (a_counts' : Nat → Int32) (a_changedSquare' : Nat → Int32) (a_changedMan' : Nat → Int32) (hm : m_X10_find v_side v_rights v_passed v_changed a_board a_froms a_tos a_turns a_counts a_changedSquare a_changedMan p0 = some (v_changed', a_board', a_froms', a_tos', a_turns', a_counts', a_changedSquare', a_changedMan')) : kDv l yX10_find wy_X10_find rm_X10_find D [(cI, .int)] (wM h0 q cI v_code v_side v_rights v_passed v_halves v_number v_top v_typedCount v_readAt v_place v_writtenCount v_chosenFrom v_chosenTo v_chosenTurn v_changed v_readSide v_readRights v_readPassed v_readHalves v_readNumber a_board a_before a_typed a_written a_froms a_tos a_turns a_counts a_changedSquare a_changedMan a_readBoard) (wM h0 q cI v_code v_side v_rights v_passed v_halves v_number v_top v_typedCount v_readAt v_place v_writtenCount v_chosenFrom v_chosenTo v_chosenTurn v_changed' v_readSide v_readRights v_readPassed v_readHalves v_readNumber a_board' a_before a_typed a_written a_froms' a_tos' a_turns' a_counts' a_changedSquare' a_changedMan' a_readBoard) [.ref h0, .int p0] := by
  refine kDv.of cX10_find 6 none (by decide) rfl rfl (Nat.le_of_ble_eq_true rfl) ?_
  intro p e s m below meth c A Q C hret
  have hin10 : ∀ w ∈ wsX100, w ∈ wy_X10_find := fun w h => List.mem_cons_of_mem _ (inG10 w h)
  have l9 : ∀ (n9 : Nat) (v_changed : Int32) (a_board : Nat → Int32) (a_froms : Nat → Int32) (a_tos : Nat → Int32) (a_turns : Nat → Int32) (a_counts : Nat → Int32) (a_changedSquare : Nat → Int32) (a_changedMan : Nat → Int32) (x1 : Int32) (x2 : Int32), m_X10_find_l9  v_side v_rights v_passed n9 v_changed a_board a_froms a_tos a_turns a_counts a_changedSquare a_changedMan x1 x2 = some (v_changed', a_board', a_froms', a_tos', a_turns', a_counts', a_changedSquare', a_changedMan') → kv p l e rm_X10_find s m ([.ref h0, .int p0] : List Value).toArray below meth c D A 6 0 0 Q (wM h0 q cI v_code v_side v_rights v_passed v_halves v_number v_top v_typedCount v_readAt v_place v_writtenCount v_chosenFrom v_chosenTo v_chosenTurn v_changed v_readSide v_readRights v_readPassed v_readHalves v_readNumber a_board a_before a_typed a_written a_froms a_tos a_turns a_counts a_changedSquare a_changedMan a_readBoard) [(0, .ref h0), (1, .int x1), (2, .int x2)] 9 [] := by
    intro n9
    induction n9 with
    | zero =>
      intro v_changed a_board a_froms a_tos a_turns a_counts a_changedSquare a_changedMan x1 x2 h
      exact kv_no h
    | succ n9 ih9 =>
      have j129 : ∀ (v_changed : Int32) (a_board : Nat → Int32) (a_froms : Nat → Int32) (a_tos : Nat → Int32) (a_turns : Nat → Int32) (a_counts : Nat → Int32) (a_changedSquare : Nat → Int32) (a_changedMan : Nat → Int32) (x1 : Int32) (x2 : Int32), m_X10_find_b129 (m_X10_find_l9  v_side v_rights v_passed n9) v_side v_rights v_passed v_changed a_board a_froms a_tos a_turns a_counts a_changedSquare a_changedMan x1 x2 = some (v_changed', a_board', a_froms', a_tos', a_turns', a_counts', a_changedSquare', a_changedMan') → kv p l e rm_X10_find s m ([.ref h0, .int p0] : List Value).toArray below meth c D A 6 0 0 Q (wM h0 q cI v_code v_side v_rights v_passed v_halves v_number v_top v_typedCount v_readAt v_place v_writtenCount v_chosenFrom v_chosenTo v_chosenTurn v_changed v_readSide v_readRights v_readPassed v_readHalves v_readNumber a_board a_before a_typed a_written a_froms a_tos a_turns a_counts a_changedSquare a_changedMan a_readBoard) [(0, .ref h0), (1, .int x1), (2, .int x2)] 129 [] := by
        intro v_changed a_board a_froms a_tos a_turns a_counts a_changedSquare a_changedMan x1 x2 h
        unfold m_X10_find_b129 at h
        obtain ⟨x2_1, ex2_1, h⟩ := ol_e h
        refine kv_iinc C (v := x2_1) (lv2 := [(0, .ref h0), (1, .int x1), (2, .int x2_1)]) 2 [1, 2, 0] dX10_find_129 rfl ex2_1.symm (by decide) rfl rfl ?_
        refine kv_goto C 9 dX10_find_132 (by decide) ?_
        exact kv_lv [0, 1, 2] (lv2 := [(0, .ref h0), (1, .int x1), (2, .int x2_1)]) rfl (ih9 v_changed a_board a_froms a_tos a_turns a_counts a_changedSquare a_changedMan x1 x2_1 h)
      have l17 : ∀ (n17 : Nat) (v_changed : Int32) (a_board : Nat → Int32) (a_froms : Nat → Int32) (a_tos : Nat → Int32) (a_turns : Nat → Int32) (a_counts : Nat → Int32) (a_changedSquare : Nat → Int32) (a_changedMan : Nat → Int32) (x1 : Int32) (x2 : Int32) (x3 : Int32), m_X10_find_l17 (m_X10_find_l9  v_side v_rights v_passed n9) v_side v_rights v_passed n17 v_changed a_board a_froms a_tos a_turns a_counts a_changedSquare a_changedMan x1 x2 x3 = some (v_changed', a_board', a_froms', a_tos', a_turns', a_counts', a_changedSquare', a_changedMan') → kv p l e rm_X10_find s m ([.ref h0, .int p0] : List Value).toArray below meth c D A 6 0 0 Q (wM h0 q cI v_code v_side v_rights v_passed v_halves v_number v_top v_typedCount v_readAt v_place v_writtenCount v_chosenFrom v_chosenTo v_chosenTurn v_changed v_readSide v_readRights v_readPassed v_readHalves v_readNumber a_board a_before a_typed a_written a_froms a_tos a_turns a_counts a_changedSquare a_changedMan a_readBoard) [(0, .ref h0), (1, .int x1), (2, .int x2), (3, .int x3)] 17 [] := by
        intro n17
        induction n17 with
        | zero =>
          intro v_changed a_board a_froms a_tos a_turns a_counts a_changedSquare a_changedMan x1 x2 x3 h
          exact kv_no h
        | succ n17 ih17 =>
          have j123 : ∀ (v_changed : Int32) (a_board : Nat → Int32) (a_froms : Nat → Int32) (a_tos : Nat → Int32) (a_turns : Nat → Int32) (a_counts : Nat → Int32) (a_changedSquare : Nat → Int32) (a_changedMan : Nat → Int32) (x1 : Int32) (x2 : Int32) (x3 : Int32), m_X10_find_b123 (m_X10_find_l9  v_side v_rights v_passed n9) (m_X10_find_l17 (m_X10_find_l9  v_side v_rights v_passed n9) v_side v_rights v_passed n17) v_side v_rights v_passed v_changed a_board a_froms a_tos a_turns a_counts a_changedSquare a_changedMan x1 x2 x3 = some (v_changed', a_board', a_froms', a_tos', a_turns', a_counts', a_changedSquare', a_changedMan') → kv p l e rm_X10_find s m ([.ref h0, .int p0] : List Value).toArray below meth c D A 6 0 0 Q (wM h0 q cI v_code v_side v_rights v_passed v_halves v_number v_top v_typedCount v_readAt v_place v_writtenCount v_chosenFrom v_chosenTo v_chosenTurn v_changed v_readSide v_readRights v_readPassed v_readHalves v_readNumber a_board a_before a_typed a_written a_froms a_tos a_turns a_counts a_changedSquare a_changedMan a_readBoard) [(0, .ref h0), (1, .int x1), (2, .int x2), (3, .int x3)] 123 [] := by
            intro v_changed a_board a_froms a_tos a_turns a_counts a_changedSquare a_changedMan x1 x2 x3 h
            unfold m_X10_find_b123 at h
            obtain ⟨x3_2, ex3_2, h⟩ := ol_e h
            refine kv_iinc C (v := x3_2) (lv2 := [(0, .ref h0), (1, .int x1), (2, .int x2), (3, .int x3_2)]) 3 [1, 2, 3, 0] dX10_find_123 rfl ex3_2.symm (by decide) rfl rfl ?_
            refine kv_goto C 17 dX10_find_126 (by decide) ?_
            exact kv_lv [0, 1, 2, 3] (lv2 := [(0, .ref h0), (1, .int x1), (2, .int x2), (3, .int x3_2)]) rfl (ih17 v_changed a_board a_froms a_tos a_turns a_counts a_changedSquare a_changedMan x1 x2 x3_2 h)
          have l93 : ∀ (n93 : Nat) (v_changed : Int32) (a_board : Nat → Int32) (a_froms : Nat → Int32) (a_tos : Nat → Int32) (a_turns : Nat → Int32) (a_counts : Nat → Int32) (a_changedSquare : Nat → Int32) (a_changedMan : Nat → Int32) (x1 : Int32) (x2 : Int32) (x3 : Int32) (x4 : Int32) (x5 : Int32), m_X10_find_l93 (m_X10_find_l9  v_side v_rights v_passed n9) (m_X10_find_l17 (m_X10_find_l9  v_side v_rights v_passed n9) v_side v_rights v_passed n17) v_side v_rights v_passed n93 v_changed a_board a_froms a_tos a_turns a_counts a_changedSquare a_changedMan x1 x2 x3 x4 x5 = some (v_changed', a_board', a_froms', a_tos', a_turns', a_counts', a_changedSquare', a_changedMan') → kv p l e rm_X10_find s m ([.ref h0, .int p0] : List Value).toArray below meth c D A 6 0 0 Q (wM h0 q cI v_code v_side v_rights v_passed v_halves v_number v_top v_typedCount v_readAt v_place v_writtenCount v_chosenFrom v_chosenTo v_chosenTurn v_changed v_readSide v_readRights v_readPassed v_readHalves v_readNumber a_board a_before a_typed a_written a_froms a_tos a_turns a_counts a_changedSquare a_changedMan a_readBoard) [(0, .ref h0), (1, .int x1), (2, .int x2), (3, .int x3), (4, .int x4), (5, .int x5)] 93 [] := by
            intro n93
            induction n93 with
            | zero =>
              intro v_changed a_board a_froms a_tos a_turns a_counts a_changedSquare a_changedMan x1 x2 x3 x4 x5 h
              exact kv_no h
            | succ n93 ih93 =>
              have j105 : ∀ (v_changed : Int32) (a_board : Nat → Int32) (a_froms : Nat → Int32) (a_tos : Nat → Int32) (a_turns : Nat → Int32) (a_counts : Nat → Int32) (a_changedSquare : Nat → Int32) (a_changedMan : Nat → Int32) (x1 : Int32) (x2 : Int32) (x3 : Int32) (x4 : Int32) (x5 : Int32) (t0 : Int32) (t1 : Int32), m_X10_find_b105 (m_X10_find_l9  v_side v_rights v_passed n9) (m_X10_find_l17 (m_X10_find_l9  v_side v_rights v_passed n9) v_side v_rights v_passed n17) (m_X10_find_l93 (m_X10_find_l9  v_side v_rights v_passed n9) (m_X10_find_l17 (m_X10_find_l9  v_side v_rights v_passed n9) v_side v_rights v_passed n17) v_side v_rights v_passed n93) v_side v_rights v_passed v_changed a_board a_froms a_tos a_turns a_counts a_changedSquare a_changedMan x1 x2 x3 x4 x5 t0 t1 = some (v_changed', a_board', a_froms', a_tos', a_turns', a_counts', a_changedSquare', a_changedMan') → kv p l e rm_X10_find s m ([.ref h0, .int p0] : List Value).toArray below meth c D A 6 0 0 Q (wM h0 q cI v_code v_side v_rights v_passed v_halves v_number v_top v_typedCount v_readAt v_place v_writtenCount v_chosenFrom v_chosenTo v_chosenTurn v_changed v_readSide v_readRights v_readPassed v_readHalves v_readNumber a_board a_before a_typed a_written a_froms a_tos a_turns a_counts a_changedSquare a_changedMan a_readBoard) [(0, .ref h0), (1, .int x1), (2, .int x2), (3, .int x3), (4, .int x4), (5, .int x5)] 105 [.int t1, .int t0] := by
                intro v_changed a_board a_froms a_tos a_turns a_counts a_changedSquare a_changedMan x1 x2 x3 x4 x5 t0 t1 h
                unfold m_X10_find_b105 at h
                refine kv_icmp_gt C 123 dX10_find_105 (by decide) (fun c_3 => ?_) (fun c_3 => ?_)
                · have h := oi_t h c_3
                  exact kv_lv [0, 1, 2, 3] (lv2 := [(0, .ref h0), (1, .int x1), (2, .int x2), (3, .int x3)]) rfl (j123 v_changed a_board a_froms a_tos a_turns a_counts a_changedSquare a_changedMan x1 x2 x3 h)
                · have h := oi_f h c_3
                  refine kv_aload_n C 0 dX10_find_108 rfl rfl ?_
                  refine kv_iload_n C 1 dX10_find_109 rfl rfl ?_
                  refine kv_iload_n C 2 dX10_find_110 rfl rfl ?_
                  refine kv_iload_n C 3 dX10_find_111 rfl rfl ?_
                  refine kv_iload C 5 dX10_find_112 rfl ?_
                  obtain ⟨⟨v_changed_4, a_board_5, a_froms_6, a_tos_7, a_turns_8, a_counts_9, a_changedSquare_10, a_changedMan_11⟩, hm_12, h⟩ := ob_e h
                  replace h : _ = _ := h
                  refine kv_callWv C [.int x1, .int x2, .int x3, .int x5] 0 (c_X10_tell l D h0 q cI v_code v_side v_rights v_passed v_halves v_number v_top v_typedCount v_readAt v_place v_writtenCount v_chosenFrom v_chosenTo v_chosenTurn v_changed v_readSide v_readRights v_readPassed v_readHalves v_readNumber a_board a_before a_typed a_written a_froms a_tos a_turns a_counts a_changedSquare a_changedMan a_readBoard x1 x2 x3 x5 v_changed_4 a_board_5 a_froms_6 a_tos_7 a_turns_8 a_counts_9 a_changedSquare_10 a_changedMan_11 hm_12) (cv_X10_tell C.ts lm_RX10_151 ⟨Nat.le_of_ble_eq_true rfl, Nat.le_of_ble_eq_true rfl⟩) rfl rfl rfl rfl (Nat.le_of_ble_eq_true rfl) dX10_find_114 ⟨Nat.zero_le _, Nat.zero_le _⟩ ?_
                  obtain ⟨x5_14, ex5_14, h⟩ := ol_e h
                  refine kv_iinc C (v := x5_14) (lv2 := [(0, .ref h0), (1, .int x1), (2, .int x2), (3, .int x3), (4, .int x4), (5, .int x5_14)]) 5 [1, 2, 3, 4, 5, 0] dX10_find_117 rfl ex5_14.symm (by decide) rfl rfl ?_
                  refine kv_goto C 93 dX10_find_120 (by decide) ?_
                  exact kv_lv [0, 1, 2, 3, 4, 5] (lv2 := [(0, .ref h0), (1, .int x1), (2, .int x2), (3, .int x3), (4, .int x4), (5, .int x5_14)]) rfl (ih93 v_changed_4 a_board_5 a_froms_6 a_tos_7 a_turns_8 a_counts_9 a_changedSquare_10 a_changedMan_11 x1 x2 x3 x4 x5_14 h)
              intro v_changed a_board a_froms a_tos a_turns a_counts a_changedSquare a_changedMan x1 x2 x3 x4 x5 h
              replace h : m_X10_find_b93 (m_X10_find_l9  v_side v_rights v_passed n9) (m_X10_find_l17 (m_X10_find_l9  v_side v_rights v_passed n9) v_side v_rights v_passed n17) (m_X10_find_l93 (m_X10_find_l9  v_side v_rights v_passed n9) (m_X10_find_l17 (m_X10_find_l9  v_side v_rights v_passed n9) v_side v_rights v_passed n17) v_side v_rights v_passed n93) v_side v_rights v_passed v_changed a_board a_froms a_tos a_turns a_counts a_changedSquare a_changedMan x1 x2 x3 x4 x5 = some (v_changed', a_board', a_froms', a_tos', a_turns', a_counts', a_changedSquare', a_changedMan') := h
              unfold m_X10_find_b93 at h
              refine kv_iload C 5 dX10_find_93 rfl ?_
              refine kv_iload C 4 dX10_find_95 rfl ?_
              refine kv_if_eq C 104 dX10_find_97 (by decide) (fun c_15 => ?_) (fun c_15 => ?_)
              · have h := oi_t h c_15
                refine kv_iconst C 0 dX10_find_104 (by decide) ?_
                exact kv_lv [0, 1, 2, 3, 4, 5] (lv2 := [(0, .ref h0), (1, .int x1), (2, .int x2), (3, .int x3), (4, .int x4), (5, .int x5)]) rfl (j105 v_changed a_board a_froms a_tos a_turns a_counts a_changedSquare a_changedMan x1 x2 x3 x4 x5 x5 0 h)
              · have h := oi_f h c_15
                refine kv_iconst C 5 dX10_find_100 (by decide) ?_
                refine kv_goto C 105 dX10_find_101 (by decide) ?_
                exact kv_lv [0, 1, 2, 3, 4, 5] (lv2 := [(0, .ref h0), (1, .int x1), (2, .int x2), (3, .int x3), (4, .int x4), (5, .int x5)]) rfl (j105 v_changed a_board a_froms a_tos a_turns a_counts a_changedSquare a_changedMan x1 x2 x3 x4 x5 x5 5 h)
          have j91 : ∀ (v_changed : Int32) (a_board : Nat → Int32) (a_froms : Nat → Int32) (a_tos : Nat → Int32) (a_turns : Nat → Int32) (a_counts : Nat → Int32) (a_changedSquare : Nat → Int32) (a_changedMan : Nat → Int32) (x1 : Int32) (x2 : Int32) (x3 : Int32) (x4 : Int32) (t0 : Int32), m_X10_find_b91 (m_X10_find_l9  v_side v_rights v_passed n9) (m_X10_find_l17 (m_X10_find_l9  v_side v_rights v_passed n9) v_side v_rights v_passed n17) v_side v_rights v_passed v_changed a_board a_froms a_tos a_turns a_counts a_changedSquare a_changedMan x1 x2 x3 x4 t0 = some (v_changed', a_board', a_froms', a_tos', a_turns', a_counts', a_changedSquare', a_changedMan') → kv p l e rm_X10_find s m ([.ref h0, .int p0] : List Value).toArray below meth c D A 6 0 0 Q (wM h0 q cI v_code v_side v_rights v_passed v_halves v_number v_top v_typedCount v_readAt v_place v_writtenCount v_chosenFrom v_chosenTo v_chosenTurn v_changed v_readSide v_readRights v_readPassed v_readHalves v_readNumber a_board a_before a_typed a_written a_froms a_tos a_turns a_counts a_changedSquare a_changedMan a_readBoard) [(0, .ref h0), (1, .int x1), (2, .int x2), (3, .int x3), (4, .int x4)] 91 [.int t0] := by
            intro v_changed a_board a_froms a_tos a_turns a_counts a_changedSquare a_changedMan x1 x2 x3 x4 t0 h
            unfold m_X10_find_b91 at h
            refine kv_istore C (lv2 := [(0, .ref h0), (1, .int x1), (2, .int x2), (3, .int x3), (4, .int x4), (5, .int t0)]) [1, 2, 3, 4, 5, 0] dX10_find_91 (by decide) rfl rfl ?_
            exact kv_lv [0, 1, 2, 3, 4, 5] (lv2 := [(0, .ref h0), (1, .int x1), (2, .int x2), (3, .int x3), (4, .int x4), (5, .int t0)]) rfl (l93 kF v_changed a_board a_froms a_tos a_turns a_counts a_changedSquare a_changedMan x1 x2 x3 x4 t0 h)
          have j79 : ∀ (v_changed : Int32) (a_board : Nat → Int32) (a_froms : Nat → Int32) (a_tos : Nat → Int32) (a_turns : Nat → Int32) (a_counts : Nat → Int32) (a_changedSquare : Nat → Int32) (a_changedMan : Nat → Int32) (x1 : Int32) (x2 : Int32) (x3 : Int32) (t0 : Int32), m_X10_find_b79 (m_X10_find_l9  v_side v_rights v_passed n9) (m_X10_find_l17 (m_X10_find_l9  v_side v_rights v_passed n9) v_side v_rights v_passed n17) v_side v_rights v_passed v_changed a_board a_froms a_tos a_turns a_counts a_changedSquare a_changedMan x1 x2 x3 t0 = some (v_changed', a_board', a_froms', a_tos', a_turns', a_counts', a_changedSquare', a_changedMan') → kv p l e rm_X10_find s m ([.ref h0, .int p0] : List Value).toArray below meth c D A 6 0 0 Q (wM h0 q cI v_code v_side v_rights v_passed v_halves v_number v_top v_typedCount v_readAt v_place v_writtenCount v_chosenFrom v_chosenTo v_chosenTurn v_changed v_readSide v_readRights v_readPassed v_readHalves v_readNumber a_board a_before a_typed a_written a_froms a_tos a_turns a_counts a_changedSquare a_changedMan a_readBoard) [(0, .ref h0), (1, .int x1), (2, .int x2), (3, .int x3)] 79 [.int t0] := by
            intro v_changed a_board a_froms a_tos a_turns a_counts a_changedSquare a_changedMan x1 x2 x3 t0 h
            unfold m_X10_find_b79 at h
            refine kv_istore C (lv2 := [(0, .ref h0), (1, .int x1), (2, .int x2), (3, .int x3), (4, .int t0)]) [1, 2, 3, 4, 0] dX10_find_79 (by decide) rfl rfl ?_
            refine kv_iload C 4 dX10_find_81 rfl ?_
            refine kv_if_eq C 90 dX10_find_83 (by decide) (fun c_16 => ?_) (fun c_16 => ?_)
            · have h := oi_t h c_16
              refine kv_iconst C 0 dX10_find_90 (by decide) ?_
              exact kv_lv [0, 1, 2, 3, 4] (lv2 := [(0, .ref h0), (1, .int x1), (2, .int x2), (3, .int x3), (4, .int t0)]) rfl (j91 v_changed a_board a_froms a_tos a_turns a_counts a_changedSquare a_changedMan x1 x2 x3 t0 0 h)
            · have h := oi_f h c_16
              refine kv_iconst C 2 dX10_find_86 (by decide) ?_
              refine kv_goto C 91 dX10_find_87 (by decide) ?_
              exact kv_lv [0, 1, 2, 3, 4] (lv2 := [(0, .ref h0), (1, .int x1), (2, .int x2), (3, .int x3), (4, .int t0)]) rfl (j91 v_changed a_board a_froms a_tos a_turns a_counts a_changedSquare a_changedMan x1 x2 x3 t0 2 h)
          have j78 : ∀ (v_changed : Int32) (a_board : Nat → Int32) (a_froms : Nat → Int32) (a_tos : Nat → Int32) (a_turns : Nat → Int32) (a_counts : Nat → Int32) (a_changedSquare : Nat → Int32) (a_changedMan : Nat → Int32) (x1 : Int32) (x2 : Int32) (x3 : Int32), m_X10_find_b78 (m_X10_find_l9  v_side v_rights v_passed n9) (m_X10_find_l17 (m_X10_find_l9  v_side v_rights v_passed n9) v_side v_rights v_passed n17) v_side v_rights v_passed v_changed a_board a_froms a_tos a_turns a_counts a_changedSquare a_changedMan x1 x2 x3 = some (v_changed', a_board', a_froms', a_tos', a_turns', a_counts', a_changedSquare', a_changedMan') → kv p l e rm_X10_find s m ([.ref h0, .int p0] : List Value).toArray below meth c D A 6 0 0 Q (wM h0 q cI v_code v_side v_rights v_passed v_halves v_number v_top v_typedCount v_readAt v_place v_writtenCount v_chosenFrom v_chosenTo v_chosenTurn v_changed v_readSide v_readRights v_readPassed v_readHalves v_readNumber a_board a_before a_typed a_written a_froms a_tos a_turns a_counts a_changedSquare a_changedMan a_readBoard) [(0, .ref h0), (1, .int x1), (2, .int x2), (3, .int x3)] 78 [] := by
            intro v_changed a_board a_froms a_tos a_turns a_counts a_changedSquare a_changedMan x1 x2 x3 h
            unfold m_X10_find_b78 at h
            refine kv_iconst C 0 dX10_find_78 (by decide) ?_
            exact kv_lv [0, 1, 2, 3] (lv2 := [(0, .ref h0), (1, .int x1), (2, .int x2), (3, .int x3)]) rfl (j79 v_changed a_board a_froms a_tos a_turns a_counts a_changedSquare a_changedMan x1 x2 x3 0 h)
          intro v_changed a_board a_froms a_tos a_turns a_counts a_changedSquare a_changedMan x1 x2 x3 h
          replace h : m_X10_find_b17 (m_X10_find_l9  v_side v_rights v_passed n9) (m_X10_find_l17 (m_X10_find_l9  v_side v_rights v_passed n9) v_side v_rights v_passed n17) v_side v_rights v_passed v_changed a_board a_froms a_tos a_turns a_counts a_changedSquare a_changedMan x1 x2 x3 = some (v_changed', a_board', a_froms', a_tos', a_turns', a_counts', a_changedSquare', a_changedMan') := h
          unfold m_X10_find_b17 at h
          refine kv_iload_n C 3 dX10_find_17 rfl rfl ?_
          refine kv_bipush C 64 dX10_find_18 (by decide) ?_
          refine kv_icmp_ge C 129 dX10_find_20 (by decide) (fun c_17 => ?_) (fun c_17 => ?_)
          · have h := oi_t h c_17
            exact kv_lv [0, 1, 2] (lv2 := [(0, .ref h0), (1, .int x1), (2, .int x2)]) rfl (j129 v_changed a_board a_froms a_tos a_turns a_counts a_changedSquare a_changedMan x1 x2 h)
          · have h := oi_f h c_17
            refine kv_aload_n C 0 dX10_find_23 rfl rfl ?_
            refine kv_get C (Cn := RX10) (T := TX10) (N := 31) 0 1 hin10 rfl rfl (by decide) (C.ts _ (List.mem_cons_of_mem _ lf_RX10_7)) rfl rfl dX10_find_24 ?_
            refine kv_iload_n C 2 dX10_find_27 rfl rfl ?_
            obtain ⟨g_18, h⟩ := oin_e h
            refine kv_iald C 1 0 rfl rfl g_18 dX10_find_28 ?_
            refine kv_aload_n C 0 dX10_find_29 rfl rfl ?_
            refine kv_get C (Cn := RX10) (T := TX10) (N := 31) 0 2 hin10 rfl rfl (by decide) (C.ts _ (List.mem_cons_of_mem _ lf_RX10_119)) rfl rfl dX10_find_30 ?_
            obtain ⟨r_19, hm_20, h⟩ := ob_e h
            refine kv_callS0i C [.int (a_board x2.toNatClampNeg), .int v_side] (c_X10_isSide l D (a_board x2.toNatClampNeg) v_side r_19 hm_20) (cs_X10_isSide C.ts lm_RX10_86 ⟨Nat.le_of_ble_eq_true rfl, Nat.le_of_ble_eq_true rfl⟩) rfl rfl (Nat.le_of_ble_eq_true rfl) dX10_find_33 ⟨Nat.zero_le _, Nat.zero_le _⟩ ?_
            refine kv_if_eq C 129 dX10_find_36 (by decide) (fun c_21 => ?_) (fun c_21 => ?_)
            · have h := oi_t h c_21
              exact kv_lv [0, 1, 2] (lv2 := [(0, .ref h0), (1, .int x1), (2, .int x2)]) rfl (j129 v_changed a_board a_froms a_tos a_turns a_counts a_changedSquare a_changedMan x1 x2 h)
            · have h := oi_f h c_21
              refine kv_aload_n C 0 dX10_find_39 rfl rfl ?_
              refine kv_iload_n C 2 dX10_find_40 rfl rfl ?_
              refine kv_iload_n C 3 dX10_find_41 rfl rfl ?_
              obtain ⟨r_22, hm_23, h⟩ := ob_e h
              refine kv_callWi C [.int x2, .int x3] 0 (c_X10_goes l D h0 q cI v_code v_side v_rights v_passed v_halves v_number v_top v_typedCount v_readAt v_place v_writtenCount v_chosenFrom v_chosenTo v_chosenTurn v_changed v_readSide v_readRights v_readPassed v_readHalves v_readNumber a_board a_before a_typed a_written a_froms a_tos a_turns a_counts a_changedSquare a_changedMan a_readBoard x2 x3 r_22 hm_23) (cv_X10_goes C.ts lm_RX10_148 ⟨Nat.le_of_ble_eq_true rfl, Nat.le_of_ble_eq_true rfl⟩) rfl rfl rfl rfl (Nat.le_of_ble_eq_true rfl) dX10_find_42 ⟨Nat.zero_le _, Nat.zero_le _⟩ ?_
              refine kv_if_eq C 123 dX10_find_45 (by decide) (fun c_24 => ?_) (fun c_24 => ?_)
              · have h := oi_t h c_24
                exact kv_lv [0, 1, 2, 3] (lv2 := [(0, .ref h0), (1, .int x1), (2, .int x2), (3, .int x3)]) rfl (j123 v_changed a_board a_froms a_tos a_turns a_counts a_changedSquare a_changedMan x1 x2 x3 h)
              · have h := oi_f h c_24
                refine kv_aload_n C 0 dX10_find_48 rfl rfl ?_
                refine kv_get C (Cn := RX10) (T := TX10) (N := 31) 0 1 hin10 rfl rfl (by decide) (C.ts _ (List.mem_cons_of_mem _ lf_RX10_7)) rfl rfl dX10_find_49 ?_
                refine kv_iload_n C 2 dX10_find_52 rfl rfl ?_
                obtain ⟨g_25, h⟩ := oin_e h
                refine kv_iald C 1 0 rfl rfl g_25 dX10_find_53 ?_
                obtain ⟨r_26, hm_27, h⟩ := ob_e h
                refine kv_callS0i C [.int (a_board x2.toNatClampNeg)] (c_X10_kindOf l D (a_board x2.toNatClampNeg) r_26 hm_27) (cs_X10_kindOf C.ts lm_RX10_79 ⟨Nat.le_of_ble_eq_true rfl, Nat.le_of_ble_eq_true rfl⟩) rfl rfl (Nat.le_of_ble_eq_true rfl) dX10_find_54 ⟨Nat.zero_le _, Nat.zero_le _⟩ ?_
                refine kv_iconst C 1 dX10_find_57 (by decide) ?_
                refine kv_icmp_ne C 78 dX10_find_58 (by decide) (fun c_28 => ?_) (fun c_28 => ?_)
                · have h := oi_f h c_28
                  exact kv_lv [0, 1, 2, 3] (lv2 := [(0, .ref h0), (1, .int x1), (2, .int x2), (3, .int x3)]) rfl (j78 v_changed a_board a_froms a_tos a_turns a_counts a_changedSquare a_changedMan x1 x2 x3 h)
                · have h := oi_t h c_28
                  refine kv_iload_n C 3 dX10_find_61 rfl rfl ?_
                  refine kv_aload_n C 0 dX10_find_62 rfl rfl ?_
                  refine kv_get C (Cn := RX10) (T := TX10) (N := 31) 0 2 hin10 rfl rfl (by decide) (C.ts _ (List.mem_cons_of_mem _ lf_RX10_119)) rfl rfl dX10_find_63 ?_
                  obtain ⟨r_29, hm_30, h⟩ := ob_e h
                  refine kv_callS0i C [.int x3, .int v_side] (c_X10_rankOf l D x3 v_side r_29 hm_30) (cs_X10_rankOf C.ts lm_RX10_138 ⟨Nat.le_of_ble_eq_true rfl, Nat.le_of_ble_eq_true rfl⟩) rfl rfl (Nat.le_of_ble_eq_true rfl) dX10_find_66 ⟨Nat.zero_le _, Nat.zero_le _⟩ ?_
                  refine kv_bipush C 7 dX10_find_69 (by decide) ?_
                  refine kv_icmp_ne C 78 dX10_find_71 (by decide) (fun c_31 => ?_) (fun c_31 => ?_)
                  · have h := oi_f h c_31
                    exact kv_lv [0, 1, 2, 3] (lv2 := [(0, .ref h0), (1, .int x1), (2, .int x2), (3, .int x3)]) rfl (j78 v_changed a_board a_froms a_tos a_turns a_counts a_changedSquare a_changedMan x1 x2 x3 h)
                  · have h := oi_t h c_31
                    refine kv_iconst C 1 dX10_find_74 (by decide) ?_
                    refine kv_goto C 79 dX10_find_75 (by decide) ?_
                    exact kv_lv [0, 1, 2, 3] (lv2 := [(0, .ref h0), (1, .int x1), (2, .int x2), (3, .int x3)]) rfl (j79 v_changed a_board a_froms a_tos a_turns a_counts a_changedSquare a_changedMan x1 x2 x3 1 h)
      intro v_changed a_board a_froms a_tos a_turns a_counts a_changedSquare a_changedMan x1 x2 h
      replace h : m_X10_find_b9  (m_X10_find_l9  v_side v_rights v_passed n9) v_side v_rights v_passed v_changed a_board a_froms a_tos a_turns a_counts a_changedSquare a_changedMan x1 x2 = some (v_changed', a_board', a_froms', a_tos', a_turns', a_counts', a_changedSquare', a_changedMan') := h
      unfold m_X10_find_b9 at h
      refine kv_iload_n C 2 dX10_find_9 rfl rfl ?_
      refine kv_bipush C 64 dX10_find_10 (by decide) ?_
      refine kv_icmp_ge C 135 dX10_find_12 (by decide) (fun c_32 => ?_) (fun c_32 => ?_)
      · have h := oi_t h c_32
        cases h
        exact hret _ _ dX10_find_135
      · have h := oi_f h c_32
        refine kv_iconst C 0 dX10_find_15 (by decide) ?_
        refine kv_istore_n C (lv2 := [(0, .ref h0), (1, .int x1), (2, .int x2), (3, .int 0)]) [1, 2, 3, 0] dX10_find_16 rfl (by decide) rfl rfl ?_
        exact kv_lv [0, 1, 2, 3] (lv2 := [(0, .ref h0), (1, .int x1), (2, .int x2), (3, .int 0)]) rfl (l17 kF v_changed a_board a_froms a_tos a_turns a_counts a_changedSquare a_changedMan x1 x2 0 h)
  unfold m_X10_find at hm
  have h := hm
  refine kv_lv [0, 1] (lv2 := [(0, .ref h0), (1, .int p0)]) rfl ?_
  refine kv_aload_n C 0 dX10_find_0 rfl rfl ?_
  refine kv_get C (Cn := RX10) (T := TX10) (N := 31) 0 18 hin10 rfl rfl (by decide) (C.ts _ (List.mem_cons_of_mem _ lf_RX10_39)) rfl rfl dX10_find_1 ?_
  refine kv_iload_n C 1 dX10_find_4 rfl rfl ?_
  refine kv_iconst C 0 dX10_find_5 (by decide) ?_
  obtain ⟨g_33, h⟩ := oin_e h
  obtain ⟨a_counts_34, ea_counts_34, h⟩ := ol_e h
  refine kv_iast2 C (ws1 := (wM h0 q cI v_code v_side v_rights v_passed v_halves v_number v_top v_typedCount v_readAt v_place v_writtenCount v_chosenFrom v_chosenTo v_chosenTurn v_changed v_readSide v_readRights v_readPassed v_readHalves v_readNumber a_board a_before a_typed a_written a_froms a_tos a_turns a_counts_34 a_changedSquare a_changedMan a_readBoard)) 8 0 rfl rfl g_33 ea_counts_34 rfl dX10_find_6 ?_
  refine kv_iconst C 0 dX10_find_7 (by decide) ?_
  refine kv_istore_n C (lv2 := [(0, .ref h0), (1, .int p0), (2, .int 0)]) [1, 2, 0] dX10_find_8 rfl (by decide) rfl rfl ?_
  exact kv_lv [0, 1, 2] (lv2 := [(0, .ref h0), (1, .int p0), (2, .int 0)]) rfl (l9 kF v_changed a_board a_froms a_tos a_turns a_counts_34 a_changedSquare a_changedMan p0 0 h)
