/-! X10: X10_men, X10_isEdgePawn, X10_areRights, X10_isPassed, X10_faultNow, X10_takeRead, X10_read, X10_place, X10_put, X10_putNumber, X10_letterOf, X10_putRow, X10_write, X10_written -/
def m_X10_men_b52 (k5 : Int32 → Int32 → Int32 → Int32 → Option (Int32)) (a_board : Nat → Int32) (x1 : Int32) (x2 : Int32) (x4 : Int32) (t0 : Int32) : Option (Int32) := ol (x4 + 1) fun x4_1 => k5 x1 x2 t0 x4_1
def m_X10_men_b51 (k5 : Int32 → Int32 → Int32 → Int32 → Option (Int32)) (a_board : Nat → Int32) (x1 : Int32) (x2 : Int32) (x3 : Int32) (x4 : Int32) : Option (Int32) := m_X10_men_b52 k5 a_board x1 x2 x4 x3
def m_X10_men_b45 (k5 : Int32 → Int32 → Int32 → Int32 → Option (Int32)) (a_board : Nat → Int32) (x1 : Int32) (x2 : Int32) (x3 : Int32) (x4 : Int32) : Option (Int32) := m_X10_men_b52 k5 a_board x1 x2 x4 (x3 + 1)
def m_X10_men_b5 (k5 : Int32 → Int32 → Int32 → Int32 → Option (Int32)) (a_board : Nat → Int32) (x1 : Int32) (x2 : Int32) (x3 : Int32) (x4 : Int32) : Option (Int32) := if 64 ≤ x4 then some x3 else oin (x4) 64 (ob (m_X10_isSide (a_board x4.toNatClampNeg) x1) fun r_4 => if r_4 = 0 then m_X10_men_b51 k5 a_board x1 x2 x3 x4 else if x2 = 0 then m_X10_men_b45 k5 a_board x1 x2 x3 x4 else oin (x4) 64 (ob (m_X10_kindOf (a_board x4.toNatClampNeg)) fun r_9 => if r_9 = 6 then m_X10_men_b45 k5 a_board x1 x2 x3 x4 else m_X10_men_b51 k5 a_board x1 x2 x3 x4))
def m_X10_men_l5 (a_board : Nat → Int32) (n : Nat) : Int32 → Int32 → Int32 → Int32 → Option (Int32) := fz (fun _ _ _ _ => none) (fun k5 x1 x2 x3 x4 => m_X10_men_b5 k5 a_board x1 x2 x3 x4) n
def m_X10_men (a_board : Nat → Int32) (p0 : Int32) (p1 : Int32) : Option (Int32) := m_X10_men_l5 a_board kF p0 p1 0 0
abbrev rm_X10_men : Room := { frames := 1, cells := 0, slots := 0, locals := 21 }
abbrev wy_X10_men : List Cond := .code yX10_men cX10_men 5 (some .int) :: gT
theorem cv_X10_men {R : Room} {s : State} {args : Array Value} {own : String} {index : Nat} {w0 : Cond} (hts : ∀ w ∈ w0 :: gT, w.before args s = true) (hl : Cond.methodLink own index yX10_men ∈ gT) (hR : 1 + 1 ≤ R.frames ∧ 8 + (5 + 11) + 21 ≤ R.locals) : CallW R s args own RX10 index yX10_men cX10_men 5 (some .int) wy_X10_men rm_X10_men 0 0 2 :=
  cwV 2 hts (gT_call w0 (pre := [.methodLink own index yX10_men, .instanceMethod yX10_men, .selects RX10 yX10_men yX10_men, .initialized RX10]) (gT_lc hl (gT_lc ly_yX10_men (gT_lc lx_yX10_men (gT_l1 li_RX10)))) lc_yX10_men) rfl rfl rfl (by decide +kernel) hR
set_option maxRecDepth 100000 in
set_option maxHeartbeats 4000000 in
theorem c_X10_men (l : Launch) (D : va_G) (h0 : Nat) (q : Nat → Nat) (cI : ClassId) (v_code : Int32) (v_side : Int32) (v_rights : Int32) (v_passed : Int32) (v_halves : Int32) (v_number : Int32) (v_top : Int32) (v_typedCount : Int32) (v_readAt : Int32) (v_place : Int32) (v_writtenCount : Int32) (v_chosenFrom : Int32) (v_chosenTo : Int32) (v_chosenTurn : Int32) (v_changed : Int32) (v_readSide : Int32) (v_readRights : Int32) (v_readPassed : Int32) (v_readHalves : Int32) (v_readNumber : Int32) (a_board : Nat → Int32) (a_before : Nat → Int32) (a_typed : Nat → Int32) (a_written : Nat → Int32) (a_froms : Nat → Int32) (a_tos : Nat → Int32) (a_turns : Nat → Int32) (a_counts : Nat → Int32) (a_changedSquare : Nat → Int32) (a_changedMan : Nat → Int32) (a_readBoard : Nat → Int32) (p0 : Int32) (p1 : Int32) (rv : Int32) (hm : m_X10_men a_board p0 p1 = some rv) : kDi l yX10_men wy_X10_men rm_X10_men D [(cI, .int)] rv (wM h0 q cI v_code v_side v_rights v_passed v_halves v_number v_top v_typedCount v_readAt v_place v_writtenCount v_chosenFrom v_chosenTo v_chosenTurn v_changed v_readSide v_readRights v_readPassed v_readHalves v_readNumber a_board a_before a_typed a_written a_froms a_tos a_turns a_counts a_changedSquare a_changedMan a_readBoard) (wM h0 q cI v_code v_side v_rights v_passed v_halves v_number v_top v_typedCount v_readAt v_place v_writtenCount v_chosenFrom v_chosenTo v_chosenTurn v_changed v_readSide v_readRights v_readPassed v_readHalves v_readNumber a_board a_before a_typed a_written a_froms a_tos a_turns a_counts a_changedSquare a_changedMan a_readBoard) [.ref h0, .int p0, .int p1] := by
  refine kDi.of cX10_men 5 (some .int) (by decide) rfl (Or.inl rfl) (Nat.le_of_ble_eq_true rfl) ?_
  intro p e s m below meth c A Q C hret
  have hin10 : ∀ w ∈ wsX100, w ∈ wy_X10_men := fun w h => List.mem_cons_of_mem _ (inG10 w h)
  have l5 : ∀ (n5 : Nat) (x1 : Int32) (x2 : Int32) (x3 : Int32) (x4 : Int32), m_X10_men_l5  a_board n5 x1 x2 x3 x4 = some rv → kv p l e rm_X10_men s m ([.ref h0, .int p0, .int p1] : List Value).toArray below meth c D A 5 0 0 Q (wM h0 q cI v_code v_side v_rights v_passed v_halves v_number v_top v_typedCount v_readAt v_place v_writtenCount v_chosenFrom v_chosenTo v_chosenTurn v_changed v_readSide v_readRights v_readPassed v_readHalves v_readNumber a_board a_before a_typed a_written a_froms a_tos a_turns a_counts a_changedSquare a_changedMan a_readBoard) [(0, .ref h0), (1, .int x1), (2, .int x2), (3, .int x3), (4, .int x4)] 5 [] := by
    intro n5
    induction n5 with
    | zero =>
      intro x1 x2 x3 x4 h
      exact kv_no h
    | succ n5 ih5 =>
      have j52 : ∀ (x1 : Int32) (x2 : Int32) (x4 : Int32) (t0 : Int32), m_X10_men_b52 (m_X10_men_l5  a_board n5) a_board x1 x2 x4 t0 = some rv → kv p l e rm_X10_men s m ([.ref h0, .int p0, .int p1] : List Value).toArray below meth c D A 5 0 0 Q (wM h0 q cI v_code v_side v_rights v_passed v_halves v_number v_top v_typedCount v_readAt v_place v_writtenCount v_chosenFrom v_chosenTo v_chosenTurn v_changed v_readSide v_readRights v_readPassed v_readHalves v_readNumber a_board a_before a_typed a_written a_froms a_tos a_turns a_counts a_changedSquare a_changedMan a_readBoard) [(0, .ref h0), (1, .int x1), (2, .int x2), (4, .int x4)] 52 [.int t0] := by
        intro x1 x2 x4 t0 h
        unfold m_X10_men_b52 at h
        refine kv_istore_n C (lv2 := [(0, .ref h0), (1, .int x1), (2, .int x2), (3, .int t0), (4, .int x4)]) [1, 2, 3, 0, 4] dX10_men_52 rfl (by decide) rfl rfl ?_
        obtain ⟨x4_1, ex4_1, h⟩ := ol_e h
        refine kv_iinc C (v := x4_1) (lv2 := [(0, .ref h0), (1, .int x1), (2, .int x2), (3, .int t0), (4, .int x4_1)]) 4 [1, 2, 3, 4, 0] dX10_men_53 rfl ex4_1.symm (by decide) rfl rfl ?_
        refine kv_goto C 5 dX10_men_56 (by decide) ?_
        exact kv_lv [0, 1, 2, 3, 4] (lv2 := [(0, .ref h0), (1, .int x1), (2, .int x2), (3, .int t0), (4, .int x4_1)]) rfl (ih5 x1 x2 t0 x4_1 h)
      have j51 : ∀ (x1 : Int32) (x2 : Int32) (x3 : Int32) (x4 : Int32), m_X10_men_b51 (m_X10_men_l5  a_board n5) a_board x1 x2 x3 x4 = some rv → kv p l e rm_X10_men s m ([.ref h0, .int p0, .int p1] : List Value).toArray below meth c D A 5 0 0 Q (wM h0 q cI v_code v_side v_rights v_passed v_halves v_number v_top v_typedCount v_readAt v_place v_writtenCount v_chosenFrom v_chosenTo v_chosenTurn v_changed v_readSide v_readRights v_readPassed v_readHalves v_readNumber a_board a_before a_typed a_written a_froms a_tos a_turns a_counts a_changedSquare a_changedMan a_readBoard) [(0, .ref h0), (1, .int x1), (2, .int x2), (3, .int x3), (4, .int x4)] 51 [] := by
        intro x1 x2 x3 x4 h
        unfold m_X10_men_b51 at h
        refine kv_iload_n C 3 dX10_men_51 rfl rfl ?_
        exact kv_lv [0, 1, 2, 4] (lv2 := [(0, .ref h0), (1, .int x1), (2, .int x2), (4, .int x4)]) rfl (j52 x1 x2 x4 x3 h)
      have j45 : ∀ (x1 : Int32) (x2 : Int32) (x3 : Int32) (x4 : Int32), m_X10_men_b45 (m_X10_men_l5  a_board n5) a_board x1 x2 x3 x4 = some rv → kv p l e rm_X10_men s m ([.ref h0, .int p0, .int p1] : List Value).toArray below meth c D A 5 0 0 Q (wM h0 q cI v_code v_side v_rights v_passed v_halves v_number v_top v_typedCount v_readAt v_place v_writtenCount v_chosenFrom v_chosenTo v_chosenTurn v_changed v_readSide v_readRights v_readPassed v_readHalves v_readNumber a_board a_before a_typed a_written a_froms a_tos a_turns a_counts a_changedSquare a_changedMan a_readBoard) [(0, .ref h0), (1, .int x1), (2, .int x2), (3, .int x3), (4, .int x4)] 45 [] := by
        intro x1 x2 x3 x4 h
        unfold m_X10_men_b45 at h
        refine kv_iload_n C 3 dX10_men_45 rfl rfl ?_
        refine kv_iconst C 1 dX10_men_46 (by decide) ?_
        refine kv_iadd C dX10_men_47 ?_
        refine kv_goto C 52 dX10_men_48 (by decide) ?_
        exact kv_lv [0, 1, 2, 4] (lv2 := [(0, .ref h0), (1, .int x1), (2, .int x2), (4, .int x4)]) rfl (j52 x1 x2 x4 (x3 + 1) h)
      intro x1 x2 x3 x4 h
      replace h : m_X10_men_b5  (m_X10_men_l5  a_board n5) a_board x1 x2 x3 x4 = some rv := h
      unfold m_X10_men_b5 at h
      refine kv_iload C 4 dX10_men_5 rfl ?_
      refine kv_bipush C 64 dX10_men_7 (by decide) ?_
      refine kv_icmp_ge C 59 dX10_men_9 (by decide) (fun c_2 => ?_) (fun c_2 => ?_)
      · have h := oi_t h c_2
        refine kv_iload_n C 3 dX10_men_59 rfl rfl ?_
        cases h
        exact hret _ _ dX10_men_60 (fun q => by cases q)
      · have h := oi_f h c_2
        refine kv_aload_n C 0 dX10_men_12 rfl rfl ?_
        refine kv_get C (Cn := RX10) (T := TX10) (N := 31) 0 1 hin10 rfl rfl (by decide) (C.ts _ (List.mem_cons_of_mem _ lf_RX10_7)) rfl rfl dX10_men_13 ?_
        refine kv_iload C 4 dX10_men_16 rfl ?_
        obtain ⟨g_3, h⟩ := oin_e h
        refine kv_iald C 1 0 rfl rfl g_3 dX10_men_18 ?_
        refine kv_iload_n C 1 dX10_men_19 rfl rfl ?_
        obtain ⟨r_4, hm_5, h⟩ := ob_e h
        refine kv_callS0i C [.int (a_board x4.toNatClampNeg), .int x1] (c_X10_isSide l D (a_board x4.toNatClampNeg) x1 r_4 hm_5) (cs_X10_isSide C.ts lm_RX10_86 ⟨Nat.le_of_ble_eq_true rfl, Nat.le_of_ble_eq_true rfl⟩) rfl rfl (Nat.le_of_ble_eq_true rfl) dX10_men_20 ⟨Nat.zero_le _, Nat.zero_le _⟩ ?_
        refine kv_if_eq C 51 dX10_men_23 (by decide) (fun c_6 => ?_) (fun c_6 => ?_)
        · have h := oi_t h c_6
          exact kv_lv [0, 1, 2, 3, 4] (lv2 := [(0, .ref h0), (1, .int x1), (2, .int x2), (3, .int x3), (4, .int x4)]) rfl (j51 x1 x2 x3 x4 h)
        · have h := oi_f h c_6
          refine kv_iload_n C 2 dX10_men_26 rfl rfl ?_
          refine kv_if_eq C 45 dX10_men_27 (by decide) (fun c_7 => ?_) (fun c_7 => ?_)
          · have h := oi_t h c_7
            exact kv_lv [0, 1, 2, 3, 4] (lv2 := [(0, .ref h0), (1, .int x1), (2, .int x2), (3, .int x3), (4, .int x4)]) rfl (j45 x1 x2 x3 x4 h)
          · have h := oi_f h c_7
            refine kv_aload_n C 0 dX10_men_30 rfl rfl ?_
            refine kv_get C (Cn := RX10) (T := TX10) (N := 31) 0 1 hin10 rfl rfl (by decide) (C.ts _ (List.mem_cons_of_mem _ lf_RX10_7)) rfl rfl dX10_men_31 ?_
            refine kv_iload C 4 dX10_men_34 rfl ?_
            obtain ⟨g_8, h⟩ := oin_e h
            refine kv_iald C 1 0 rfl rfl g_8 dX10_men_36 ?_
            obtain ⟨r_9, hm_10, h⟩ := ob_e h
            refine kv_callS0i C [.int (a_board x4.toNatClampNeg)] (c_X10_kindOf l D (a_board x4.toNatClampNeg) r_9 hm_10) (cs_X10_kindOf C.ts lm_RX10_79 ⟨Nat.le_of_ble_eq_true rfl, Nat.le_of_ble_eq_true rfl⟩) rfl rfl (Nat.le_of_ble_eq_true rfl) dX10_men_37 ⟨Nat.zero_le _, Nat.zero_le _⟩ ?_
            refine kv_bipush C 6 dX10_men_40 (by decide) ?_
            refine kv_icmp_ne C 51 dX10_men_42 (by decide) (fun c_11 => ?_) (fun c_11 => ?_)
            · have h := oi_f h c_11
              exact kv_lv [0, 1, 2, 3, 4] (lv2 := [(0, .ref h0), (1, .int x1), (2, .int x2), (3, .int x3), (4, .int x4)]) rfl (j51 x1 x2 x3 x4 h)
            · have h := oi_t h c_11
              exact kv_lv [0, 1, 2, 3, 4] (lv2 := [(0, .ref h0), (1, .int x1), (2, .int x2), (3, .int x3), (4, .int x4)]) rfl (j45 x1 x2 x3 x4 h)
  unfold m_X10_men at hm
  have h := hm
  refine kv_lv [0, 1, 2] (lv2 := [(0, .ref h0), (1, .int p0), (2, .int p1)]) rfl ?_
  refine kv_iconst C 0 dX10_men_0 (by decide) ?_
  refine kv_istore_n C (lv2 := [(0, .ref h0), (1, .int p0), (2, .int p1), (3, .int 0)]) [1, 2, 3, 0] dX10_men_1 rfl (by decide) rfl rfl ?_
  refine kv_iconst C 0 dX10_men_2 (by decide) ?_
  refine kv_istore C (lv2 := [(0, .ref h0), (1, .int p0), (2, .int p1), (3, .int 0), (4, .int 0)]) [1, 2, 3, 4, 0] dX10_men_3 (by decide) rfl rfl ?_
  exact kv_lv [0, 1, 2, 3, 4] (lv2 := [(0, .ref h0), (1, .int p0), (2, .int p1), (3, .int 0), (4, .int 0)]) rfl (l5 kF p0 p1 0 0 h)
def m_X10_isEdgePawn_b44 (k4 : Int32 → Int32 → Option (Int32)) (a_board : Nat → Int32) (x2 : Int32) (t0 : Int32) : Option (Int32) := ol (x2 + 1) fun x2_1 => k4 t0 x2_1
def m_X10_isEdgePawn_b43 (k4 : Int32 → Int32 → Option (Int32)) (a_board : Nat → Int32) (x2 : Int32) : Option (Int32) := m_X10_isEdgePawn_b44 k4 a_board x2 0
def m_X10_isEdgePawn_b39 (k4 : Int32 → Int32 → Option (Int32)) (a_board : Nat → Int32) (x2 : Int32) : Option (Int32) := m_X10_isEdgePawn_b44 k4 a_board x2 1
def m_X10_isEdgePawn_b4 (k4 : Int32 → Int32 → Option (Int32)) (a_board : Nat → Int32) (x1 : Int32) (x2 : Int32) : Option (Int32) := if 64 ≤ x2 then obl (x1) (some x1) else if x1 = 0 then oin (x2) 64 (ob (m_X10_kindOf (a_board x2.toNatClampNeg)) fun r_6 => if r_6 = 1 then if x2 < 8 then m_X10_isEdgePawn_b39 k4 a_board x2 else if x2 ≤ 55 then m_X10_isEdgePawn_b43 k4 a_board x2 else m_X10_isEdgePawn_b39 k4 a_board x2 else m_X10_isEdgePawn_b43 k4 a_board x2) else m_X10_isEdgePawn_b39 k4 a_board x2
def m_X10_isEdgePawn_l4 (a_board : Nat → Int32) (n : Nat) : Int32 → Int32 → Option (Int32) := fz (fun _ _ => none) (fun k4 x1 x2 => m_X10_isEdgePawn_b4 k4 a_board x1 x2) n
def m_X10_isEdgePawn (a_board : Nat → Int32) : Option (Int32) := m_X10_isEdgePawn_l4 a_board kF 0 0
abbrev rm_X10_isEdgePawn : Room := { frames := 1, cells := 0, slots := 0, locals := 20 }
abbrev wy_X10_isEdgePawn : List Cond := .code yX10_isEdgePawn cX10_isEdgePawn 3 (some .boolean) :: gT
theorem cv_X10_isEdgePawn {R : Room} {s : State} {args : Array Value} {own : String} {index : Nat} {w0 : Cond} (hts : ∀ w ∈ w0 :: gT, w.before args s = true) (hl : Cond.methodLink own index yX10_isEdgePawn ∈ gT) (hR : 1 + 1 ≤ R.frames ∧ 8 + (3 + 11) + 20 ≤ R.locals) : CallW R s args own RX10 index yX10_isEdgePawn cX10_isEdgePawn 3 (some .boolean) wy_X10_isEdgePawn rm_X10_isEdgePawn 0 0 0 :=
  cwV 0 hts (gT_call w0 (pre := [.methodLink own index yX10_isEdgePawn, .instanceMethod yX10_isEdgePawn, .selects RX10 yX10_isEdgePawn yX10_isEdgePawn, .initialized RX10]) (gT_lc hl (gT_lc ly_yX10_isEdgePawn (gT_lc lx_yX10_isEdgePawn (gT_l1 li_RX10)))) lc_yX10_isEdgePawn) rfl rfl rfl (by decide +kernel) hR
set_option maxRecDepth 100000 in
set_option maxHeartbeats 4000000 in
theorem c_X10_isEdgePawn (l : Launch) (D : va_G) (h0 : Nat) (q : Nat → Nat) (cI : ClassId) (v_code : Int32) (v_side : Int32) (v_rights : Int32) (v_passed : Int32) (v_halves : Int32) (v_number : Int32) (v_top : Int32) (v_typedCount : Int32) (v_readAt : Int32) (v_place : Int32) (v_writtenCount : Int32) (v_chosenFrom : Int32) (v_chosenTo : Int32) (v_chosenTurn : Int32) (v_changed : Int32) (v_readSide : Int32) (v_readRights : Int32) (v_readPassed : Int32) (v_readHalves : Int32) (v_readNumber : Int32) (a_board : Nat → Int32) (a_before : Nat → Int32) (a_typed : Nat → Int32) (a_written : Nat → Int32) (a_froms : Nat → Int32) (a_tos : Nat → Int32) (a_turns : Nat → Int32) (a_counts : Nat → Int32) (a_changedSquare : Nat → Int32) (a_changedMan : Nat → Int32) (a_readBoard : Nat → Int32) (rv : Int32) (hm : m_X10_isEdgePawn a_board = some rv) : kDi l yX10_isEdgePawn wy_X10_isEdgePawn rm_X10_isEdgePawn D [(cI, .int)] rv (wM h0 q cI v_code v_side v_rights v_passed v_halves v_number v_top v_typedCount v_readAt v_place v_writtenCount v_chosenFrom v_chosenTo v_chosenTurn v_changed v_readSide v_readRights v_readPassed v_readHalves v_readNumber a_board a_before a_typed a_written a_froms a_tos a_turns a_counts a_changedSquare a_changedMan a_readBoard) (wM h0 q cI v_code v_side v_rights v_passed v_halves v_number v_top v_typedCount v_readAt v_place v_writtenCount v_chosenFrom v_chosenTo v_chosenTurn v_changed v_readSide v_readRights v_readPassed v_readHalves v_readNumber a_board a_before a_typed a_written a_froms a_tos a_turns a_counts a_changedSquare a_changedMan a_readBoard) [.ref h0] := by
  refine kDi.of cX10_isEdgePawn 3 (some .boolean) (by decide) rfl (Or.inr rfl) (Nat.le_of_ble_eq_true rfl) ?_
  intro p e s m below meth c A Q C hret
  have hin10 : ∀ w ∈ wsX100, w ∈ wy_X10_isEdgePawn := fun w h => List.mem_cons_of_mem _ (inG10 w h)
  have l4 : ∀ (n4 : Nat) (x1 : Int32) (x2 : Int32), m_X10_isEdgePawn_l4  a_board n4 x1 x2 = some rv → kv p l e rm_X10_isEdgePawn s m ([.ref h0] : List Value).toArray below meth c D A 3 0 0 Q (wM h0 q cI v_code v_side v_rights v_passed v_halves v_number v_top v_typedCount v_readAt v_place v_writtenCount v_chosenFrom v_chosenTo v_chosenTurn v_changed v_readSide v_readRights v_readPassed v_readHalves v_readNumber a_board a_before a_typed a_written a_froms a_tos a_turns a_counts a_changedSquare a_changedMan a_readBoard) [(0, .ref h0), (1, .int x1), (2, .int x2)] 4 [] := by
    intro n4
    induction n4 with
    | zero =>
      intro x1 x2 h
      exact kv_no h
    | succ n4 ih4 =>
      have j44 : ∀ (x2 : Int32) (t0 : Int32), m_X10_isEdgePawn_b44 (m_X10_isEdgePawn_l4  a_board n4) a_board x2 t0 = some rv → kv p l e rm_X10_isEdgePawn s m ([.ref h0] : List Value).toArray below meth c D A 3 0 0 Q (wM h0 q cI v_code v_side v_rights v_passed v_halves v_number v_top v_typedCount v_readAt v_place v_writtenCount v_chosenFrom v_chosenTo v_chosenTurn v_changed v_readSide v_readRights v_readPassed v_readHalves v_readNumber a_board a_before a_typed a_written a_froms a_tos a_turns a_counts a_changedSquare a_changedMan a_readBoard) [(0, .ref h0), (2, .int x2)] 44 [.int t0] := by
        intro x2 t0 h
        unfold m_X10_isEdgePawn_b44 at h
        refine kv_istore_n C (lv2 := [(0, .ref h0), (1, .int t0), (2, .int x2)]) [1, 0, 2] dX10_isEdgePawn_44 rfl (by decide) rfl rfl ?_
        obtain ⟨x2_1, ex2_1, h⟩ := ol_e h
        refine kv_iinc C (v := x2_1) (lv2 := [(0, .ref h0), (1, .int t0), (2, .int x2_1)]) 2 [1, 2, 0] dX10_isEdgePawn_45 rfl ex2_1.symm (by decide) rfl rfl ?_
        refine kv_goto C 4 dX10_isEdgePawn_48 (by decide) ?_
        exact kv_lv [0, 1, 2] (lv2 := [(0, .ref h0), (1, .int t0), (2, .int x2_1)]) rfl (ih4 t0 x2_1 h)
      have j43 : ∀ (x2 : Int32), m_X10_isEdgePawn_b43 (m_X10_isEdgePawn_l4  a_board n4) a_board x2 = some rv → kv p l e rm_X10_isEdgePawn s m ([.ref h0] : List Value).toArray below meth c D A 3 0 0 Q (wM h0 q cI v_code v_side v_rights v_passed v_halves v_number v_top v_typedCount v_readAt v_place v_writtenCount v_chosenFrom v_chosenTo v_chosenTurn v_changed v_readSide v_readRights v_readPassed v_readHalves v_readNumber a_board a_before a_typed a_written a_froms a_tos a_turns a_counts a_changedSquare a_changedMan a_readBoard) [(0, .ref h0), (2, .int x2)] 43 [] := by
        intro x2 h
        unfold m_X10_isEdgePawn_b43 at h
        refine kv_iconst C 0 dX10_isEdgePawn_43 (by decide) ?_
        exact kv_lv [0, 1] (lv2 := [(0, .ref h0), (2, .int x2)]) rfl (j44 x2 0 h)
      have j39 : ∀ (x2 : Int32), m_X10_isEdgePawn_b39 (m_X10_isEdgePawn_l4  a_board n4) a_board x2 = some rv → kv p l e rm_X10_isEdgePawn s m ([.ref h0] : List Value).toArray below meth c D A 3 0 0 Q (wM h0 q cI v_code v_side v_rights v_passed v_halves v_number v_top v_typedCount v_readAt v_place v_writtenCount v_chosenFrom v_chosenTo v_chosenTurn v_changed v_readSide v_readRights v_readPassed v_readHalves v_readNumber a_board a_before a_typed a_written a_froms a_tos a_turns a_counts a_changedSquare a_changedMan a_readBoard) [(0, .ref h0), (2, .int x2)] 39 [] := by
        intro x2 h
        unfold m_X10_isEdgePawn_b39 at h
        refine kv_iconst C 1 dX10_isEdgePawn_39 (by decide) ?_
        refine kv_goto C 44 dX10_isEdgePawn_40 (by decide) ?_
        exact kv_lv [0, 1] (lv2 := [(0, .ref h0), (2, .int x2)]) rfl (j44 x2 1 h)
      intro x1 x2 h
      replace h : m_X10_isEdgePawn_b4  (m_X10_isEdgePawn_l4  a_board n4) a_board x1 x2 = some rv := h
      unfold m_X10_isEdgePawn_b4 at h
      refine kv_iload_n C 2 dX10_isEdgePawn_4 rfl rfl ?_
      refine kv_bipush C 64 dX10_isEdgePawn_5 (by decide) ?_
      refine kv_icmp_ge C 51 dX10_isEdgePawn_7 (by decide) (fun c_2 => ?_) (fun c_2 => ?_)
      · have h := oi_t h c_2
        refine kv_iload_n C 1 dX10_isEdgePawn_51 rfl rfl ?_
        obtain ⟨g_3, h⟩ := obl_e h
        cases h
        exact hret _ _ dX10_isEdgePawn_52 (fun _ => g_3)
      · have h := oi_f h c_2
        refine kv_iload_n C 1 dX10_isEdgePawn_10 rfl rfl ?_
        refine kv_if_ne C 39 dX10_isEdgePawn_11 (by decide) (fun c_4 => ?_) (fun c_4 => ?_)
        · have h := oi_f h c_4
          exact kv_lv [0, 2] (lv2 := [(0, .ref h0), (2, .int x2)]) rfl (j39 x2 h)
        · have h := oi_t h c_4
          refine kv_aload_n C 0 dX10_isEdgePawn_14 rfl rfl ?_
          refine kv_get C (Cn := RX10) (T := TX10) (N := 31) 0 1 hin10 rfl rfl (by decide) (C.ts _ (List.mem_cons_of_mem _ lf_RX10_7)) rfl rfl dX10_isEdgePawn_15 ?_
          refine kv_iload_n C 2 dX10_isEdgePawn_18 rfl rfl ?_
          obtain ⟨g_5, h⟩ := oin_e h
          refine kv_iald C 1 0 rfl rfl g_5 dX10_isEdgePawn_19 ?_
          obtain ⟨r_6, hm_7, h⟩ := ob_e h
          refine kv_callS0i C [.int (a_board x2.toNatClampNeg)] (c_X10_kindOf l D (a_board x2.toNatClampNeg) r_6 hm_7) (cs_X10_kindOf C.ts lm_RX10_79 ⟨Nat.le_of_ble_eq_true rfl, Nat.le_of_ble_eq_true rfl⟩) rfl rfl (Nat.le_of_ble_eq_true rfl) dX10_isEdgePawn_20 ⟨Nat.zero_le _, Nat.zero_le _⟩ ?_
          refine kv_iconst C 1 dX10_isEdgePawn_23 (by decide) ?_
          refine kv_icmp_ne C 43 dX10_isEdgePawn_24 (by decide) (fun c_8 => ?_) (fun c_8 => ?_)
          · have h := oi_f h c_8
            exact kv_lv [0, 2] (lv2 := [(0, .ref h0), (2, .int x2)]) rfl (j43 x2 h)
          · have h := oi_t h c_8
            refine kv_iload_n C 2 dX10_isEdgePawn_27 rfl rfl ?_
            refine kv_bipush C 8 dX10_isEdgePawn_28 (by decide) ?_
            refine kv_icmp_lt C 39 dX10_isEdgePawn_30 (by decide) (fun c_9 => ?_) (fun c_9 => ?_)
            · have h := oi_t h c_9
              exact kv_lv [0, 2] (lv2 := [(0, .ref h0), (2, .int x2)]) rfl (j39 x2 h)
            · have h := oi_f h c_9
              refine kv_iload_n C 2 dX10_isEdgePawn_33 rfl rfl ?_
              refine kv_bipush C 55 dX10_isEdgePawn_34 (by decide) ?_
              refine kv_icmp_le C 43 dX10_isEdgePawn_36 (by decide) (fun c_10 => ?_) (fun c_10 => ?_)
              · have h := oi_t h c_10
                exact kv_lv [0, 2] (lv2 := [(0, .ref h0), (2, .int x2)]) rfl (j43 x2 h)
              · have h := oi_f h c_10
                exact kv_lv [0, 2] (lv2 := [(0, .ref h0), (2, .int x2)]) rfl (j39 x2 h)
  unfold m_X10_isEdgePawn at hm
  have h := hm
  refine kv_lv [0] (lv2 := [(0, .ref h0)]) rfl ?_
  refine kv_iconst C 0 dX10_isEdgePawn_0 (by decide) ?_
  refine kv_istore_n C (lv2 := [(0, .ref h0), (1, .int 0)]) [1, 0] dX10_isEdgePawn_1 rfl (by decide) rfl rfl ?_
  refine kv_iconst C 0 dX10_isEdgePawn_2 (by decide) ?_
  refine kv_istore_n C (lv2 := [(0, .ref h0), (1, .int 0), (2, .int 0)]) [1, 2, 0] dX10_isEdgePawn_3 rfl (by decide) rfl rfl ?_
  exact kv_lv [0, 1, 2] (lv2 := [(0, .ref h0), (1, .int 0), (2, .int 0)]) rfl (l4 kF 0 0 h)
def m_X10_areRights_b107 (k4 : Int32 → Int32 → Option (Int32)) (v_rights : Int32) (a_board : Nat → Int32) (x2 : Int32) (t0 : Int32) : Option (Int32) := ol (x2 + 1) fun x2_1 => k4 t0 x2_1
def m_X10_areRights_b106 (k4 : Int32 → Int32 → Option (Int32)) (v_rights : Int32) (a_board : Nat → Int32) (x2 : Int32) : Option (Int32) := m_X10_areRights_b107 k4 v_rights a_board x2 0
def m_X10_areRights_b102 (k4 : Int32 → Int32 → Option (Int32)) (v_rights : Int32) (a_board : Nat → Int32) (x2 : Int32) : Option (Int32) := m_X10_areRights_b107 k4 v_rights a_board x2 1
def m_X10_areRights_b80 (k4 : Int32 → Int32 → Option (Int32)) (v_rights : Int32) (a_board : Nat → Int32) (x1 : Int32) (x2 : Int32) (t0 : Int32) : Option (Int32) := if x1 = 0 then m_X10_areRights_b106 k4 v_rights a_board x2 else if ((v_rights >>> (x2 &&& 31)) &&& 1) = 0 then m_X10_areRights_b102 k4 v_rights a_board x2 else if t0 = 0 then m_X10_areRights_b106 k4 v_rights a_board x2 else m_X10_areRights_b102 k4 v_rights a_board x2
def m_X10_areRights_b79 (k4 : Int32 → Int32 → Option (Int32)) (v_rights : Int32) (a_board : Nat → Int32) (x1 : Int32) (x2 : Int32) : Option (Int32) := m_X10_areRights_b80 k4 v_rights a_board x1 x2 0
def m_X10_areRights_b67 (k4 : Int32 → Int32 → Option (Int32)) (v_rights : Int32) (a_board : Nat → Int32) (x1 : Int32) (x2 : Int32) (x3 : Int32) (t1 : Int32) (t2 : Int32) : Option (Int32) := oin (t1 + t2) 64 (if (a_board (t1 + t2).toNatClampNeg) = (x3 * 4) then m_X10_areRights_b80 k4 v_rights a_board x1 x2 1 else m_X10_areRights_b79 k4 v_rights a_board x1 x2)
def m_X10_areRights_b31 (k4 : Int32 → Int32 → Option (Int32)) (v_rights : Int32) (a_board : Nat → Int32) (x1 : Int32) (x2 : Int32) (x3 : Int32) (t0 : Int32) : Option (Int32) := oin (t0 + 4) 64 (if (a_board (t0 + 4).toNatClampNeg) = (x3 * 6) then if (x2 - x2 / 2 * 2) = 0 then m_X10_areRights_b67 k4 v_rights a_board x1 x2 x3 t0 7 else m_X10_areRights_b67 k4 v_rights a_board x1 x2 x3 t0 0 else m_X10_areRights_b79 k4 v_rights a_board x1 x2)
def m_X10_areRights_b19 (k4 : Int32 → Int32 → Option (Int32)) (v_rights : Int32) (a_board : Nat → Int32) (x1 : Int32) (x2 : Int32) (t0 : Int32) : Option (Int32) := if 2 ≤ x2 then m_X10_areRights_b31 k4 v_rights a_board x1 x2 t0 56 else m_X10_areRights_b31 k4 v_rights a_board x1 x2 t0 0
def m_X10_areRights_b4 (k4 : Int32 → Int32 → Option (Int32)) (v_rights : Int32) (a_board : Nat → Int32) (x1 : Int32) (x2 : Int32) : Option (Int32) := if 4 ≤ x2 then obl (x1) (some x1) else if 2 ≤ x2 then m_X10_areRights_b19 k4 v_rights a_board x1 x2 (-1) else m_X10_areRights_b19 k4 v_rights a_board x1 x2 1
def m_X10_areRights_l4 (v_rights : Int32) (a_board : Nat → Int32) (n : Nat) : Int32 → Int32 → Option (Int32) := fz (fun _ _ => none) (fun k4 x1 x2 => m_X10_areRights_b4 k4 v_rights a_board x1 x2) n
def m_X10_areRights (v_rights : Int32) (a_board : Nat → Int32) : Option (Int32) := m_X10_areRights_l4 v_rights a_board kF 1 0
abbrev rm_X10_areRights : Room := { frames := 0, cells := 0, slots := 0, locals := 0 }
abbrev wy_X10_areRights : List Cond := .code yX10_areRights cX10_areRights 6 (some .boolean) :: gT
theorem cv_X10_areRights {R : Room} {s : State} {args : Array Value} {own : String} {index : Nat} {w0 : Cond} (hts : ∀ w ∈ w0 :: gT, w.before args s = true) (hl : Cond.methodLink own index yX10_areRights ∈ gT) (hR : 0 + 1 ≤ R.frames ∧ 8 + (6 + 11) + 0 ≤ R.locals) : CallW R s args own RX10 index yX10_areRights cX10_areRights 6 (some .boolean) wy_X10_areRights rm_X10_areRights 0 0 0 :=
  cwV 0 hts (gT_call w0 (pre := [.methodLink own index yX10_areRights, .instanceMethod yX10_areRights, .selects RX10 yX10_areRights yX10_areRights, .initialized RX10]) (gT_lc hl (gT_lc ly_yX10_areRights (gT_lc lx_yX10_areRights (gT_l1 li_RX10)))) lc_yX10_areRights) rfl rfl rfl (by decide +kernel) hR
set_option maxRecDepth 100000 in
set_option maxHeartbeats 4000000 in
theorem c_X10_areRights (l : Launch) (D : va_G) (h0 : Nat) (q : Nat → Nat) (cI : ClassId) (v_code : Int32) (v_side : Int32) (v_rights : Int32) (v_passed : Int32) (v_halves : Int32) (v_number : Int32) (v_top : Int32) (v_typedCount : Int32) (v_readAt : Int32) (v_place : Int32) (v_writtenCount : Int32) (v_chosenFrom : Int32) (v_chosenTo : Int32) (v_chosenTurn : Int32) (v_changed : Int32) (v_readSide : Int32) (v_readRights : Int32) (v_readPassed : Int32) (v_readHalves : Int32) (v_readNumber : Int32) (a_board : Nat → Int32) (a_before : Nat → Int32) (a_typed : Nat → Int32) (a_written : Nat → Int32) (a_froms : Nat → Int32) (a_tos : Nat → Int32) (a_turns : Nat → Int32) (a_counts : Nat → Int32) (a_changedSquare : Nat → Int32) (a_changedMan : Nat → Int32) (a_readBoard : Nat → Int32) (rv : Int32) (hm : m_X10_areRights v_rights a_board = some rv) : kDi l yX10_areRights wy_X10_areRights rm_X10_areRights D [(cI, .int)] rv (wM h0 q cI v_code v_side v_rights v_passed v_halves v_number v_top v_typedCount v_readAt v_place v_writtenCount v_chosenFrom v_chosenTo v_chosenTurn v_changed v_readSide v_readRights v_readPassed v_readHalves v_readNumber a_board a_before a_typed a_written a_froms a_tos a_turns a_counts a_changedSquare a_changedMan a_readBoard) (wM h0 q cI v_code v_side v_rights v_passed v_halves v_number v_top v_typedCount v_readAt v_place v_writtenCount v_chosenFrom v_chosenTo v_chosenTurn v_changed v_readSide v_readRights v_readPassed v_readHalves v_readNumber a_board a_before a_typed a_written a_froms a_tos a_turns a_counts a_changedSquare a_changedMan a_readBoard) [.ref h0] := by
  refine kDi.of cX10_areRights 6 (some .boolean) (by decide) rfl (Or.inr rfl) (Nat.le_of_ble_eq_true rfl) ?_
  intro p e s m below meth c A Q C hret
  have hin10 : ∀ w ∈ wsX100, w ∈ wy_X10_areRights := fun w h => List.mem_cons_of_mem _ (inG10 w h)
  have l4 : ∀ (n4 : Nat) (x1 : Int32) (x2 : Int32), m_X10_areRights_l4  v_rights a_board n4 x1 x2 = some rv → kv p l e rm_X10_areRights s m ([.ref h0] : List Value).toArray below meth c D A 6 0 0 Q (wM h0 q cI v_code v_side v_rights v_passed v_halves v_number v_top v_typedCount v_readAt v_place v_writtenCount v_chosenFrom v_chosenTo v_chosenTurn v_changed v_readSide v_readRights v_readPassed v_readHalves v_readNumber a_board a_before a_typed a_written a_froms a_tos a_turns a_counts a_changedSquare a_changedMan a_readBoard) [(0, .ref h0), (1, .int x1), (2, .int x2)] 4 [] := by
    intro n4
    induction n4 with
    | zero =>
      intro x1 x2 h
      exact kv_no h
    | succ n4 ih4 =>
      have j107 : ∀ (x2 : Int32) (t0 : Int32), m_X10_areRights_b107 (m_X10_areRights_l4  v_rights a_board n4) v_rights a_board x2 t0 = some rv → kv p l e rm_X10_areRights s m ([.ref h0] : List Value).toArray below meth c D A 6 0 0 Q (wM h0 q cI v_code v_side v_rights v_passed v_halves v_number v_top v_typedCount v_readAt v_place v_writtenCount v_chosenFrom v_chosenTo v_chosenTurn v_changed v_readSide v_readRights v_readPassed v_readHalves v_readNumber a_board a_before a_typed a_written a_froms a_tos a_turns a_counts a_changedSquare a_changedMan a_readBoard) [(0, .ref h0), (2, .int x2)] 107 [.int t0] := by
        intro x2 t0 h
        unfold m_X10_areRights_b107 at h
        refine kv_istore_n C (lv2 := [(0, .ref h0), (1, .int t0), (2, .int x2)]) [1, 0, 2] dX10_areRights_107 rfl (by decide) rfl rfl ?_
        obtain ⟨x2_1, ex2_1, h⟩ := ol_e h
        refine kv_iinc C (v := x2_1) (lv2 := [(0, .ref h0), (1, .int t0), (2, .int x2_1)]) 2 [1, 2, 0] dX10_areRights_108 rfl ex2_1.symm (by decide) rfl rfl ?_
        refine kv_goto C 4 dX10_areRights_111 (by decide) ?_
        exact kv_lv [0, 1, 2] (lv2 := [(0, .ref h0), (1, .int t0), (2, .int x2_1)]) rfl (ih4 t0 x2_1 h)
      have j106 : ∀ (x2 : Int32), m_X10_areRights_b106 (m_X10_areRights_l4  v_rights a_board n4) v_rights a_board x2 = some rv → kv p l e rm_X10_areRights s m ([.ref h0] : List Value).toArray below meth c D A 6 0 0 Q (wM h0 q cI v_code v_side v_rights v_passed v_halves v_number v_top v_typedCount v_readAt v_place v_writtenCount v_chosenFrom v_chosenTo v_chosenTurn v_changed v_readSide v_readRights v_readPassed v_readHalves v_readNumber a_board a_before a_typed a_written a_froms a_tos a_turns a_counts a_changedSquare a_changedMan a_readBoard) [(0, .ref h0), (2, .int x2)] 106 [] := by
        intro x2 h
        unfold m_X10_areRights_b106 at h
        refine kv_iconst C 0 dX10_areRights_106 (by decide) ?_
        exact kv_lv [0, 1] (lv2 := [(0, .ref h0), (2, .int x2)]) rfl (j107 x2 0 h)
      have j102 : ∀ (x2 : Int32), m_X10_areRights_b102 (m_X10_areRights_l4  v_rights a_board n4) v_rights a_board x2 = some rv → kv p l e rm_X10_areRights s m ([.ref h0] : List Value).toArray below meth c D A 6 0 0 Q (wM h0 q cI v_code v_side v_rights v_passed v_halves v_number v_top v_typedCount v_readAt v_place v_writtenCount v_chosenFrom v_chosenTo v_chosenTurn v_changed v_readSide v_readRights v_readPassed v_readHalves v_readNumber a_board a_before a_typed a_written a_froms a_tos a_turns a_counts a_changedSquare a_changedMan a_readBoard) [(0, .ref h0), (2, .int x2)] 102 [] := by
        intro x2 h
        unfold m_X10_areRights_b102 at h
        refine kv_iconst C 1 dX10_areRights_102 (by decide) ?_
        refine kv_goto C 107 dX10_areRights_103 (by decide) ?_
        exact kv_lv [0, 1] (lv2 := [(0, .ref h0), (2, .int x2)]) rfl (j107 x2 1 h)
      have j80 : ∀ (x1 : Int32) (x2 : Int32) (t0 : Int32), m_X10_areRights_b80 (m_X10_areRights_l4  v_rights a_board n4) v_rights a_board x1 x2 t0 = some rv → kv p l e rm_X10_areRights s m ([.ref h0] : List Value).toArray below meth c D A 6 0 0 Q (wM h0 q cI v_code v_side v_rights v_passed v_halves v_number v_top v_typedCount v_readAt v_place v_writtenCount v_chosenFrom v_chosenTo v_chosenTurn v_changed v_readSide v_readRights v_readPassed v_readHalves v_readNumber a_board a_before a_typed a_written a_froms a_tos a_turns a_counts a_changedSquare a_changedMan a_readBoard) [(0, .ref h0), (1, .int x1), (2, .int x2)] 80 [.int t0] := by
        intro x1 x2 t0 h
        unfold m_X10_areRights_b80 at h
        refine kv_istore C (lv2 := [(0, .ref h0), (1, .int x1), (2, .int x2), (5, .int t0)]) [1, 2, 3, 0] dX10_areRights_80 (by decide) rfl rfl ?_
        refine kv_iload_n C 1 dX10_areRights_82 rfl rfl ?_
        refine kv_if_eq C 106 dX10_areRights_83 (by decide) (fun c_2 => ?_) (fun c_2 => ?_)
        · have h := oi_t h c_2
          exact kv_lv [0, 2] (lv2 := [(0, .ref h0), (2, .int x2)]) rfl (j106 x2 h)
        · have h := oi_f h c_2
          refine kv_aload_n C 0 dX10_areRights_86 rfl rfl ?_
          refine kv_get C (Cn := RX10) (T := TX10) (N := 31) 0 3 hin10 rfl rfl (by decide) (C.ts _ (List.mem_cons_of_mem _ lf_RX10_60)) rfl rfl dX10_areRights_87 ?_
          refine kv_iload_n C 2 dX10_areRights_90 rfl rfl ?_
          refine kv_ishr C dX10_areRights_91 ?_
          refine kv_iconst C 1 dX10_areRights_92 (by decide) ?_
          refine kv_iand C dX10_areRights_93 ?_
          refine kv_if_eq C 102 dX10_areRights_94 (by decide) (fun c_3 => ?_) (fun c_3 => ?_)
          · have h := oi_t h c_3
            exact kv_lv [0, 2] (lv2 := [(0, .ref h0), (2, .int x2)]) rfl (j102 x2 h)
          · have h := oi_f h c_3
            refine kv_iload C 3 dX10_areRights_97 rfl ?_
            refine kv_if_eq C 106 dX10_areRights_99 (by decide) (fun c_4 => ?_) (fun c_4 => ?_)
            · have h := oi_t h c_4
              exact kv_lv [0, 2] (lv2 := [(0, .ref h0), (2, .int x2)]) rfl (j106 x2 h)
            · have h := oi_f h c_4
              exact kv_lv [0, 2] (lv2 := [(0, .ref h0), (2, .int x2)]) rfl (j102 x2 h)
      have j79 : ∀ (x1 : Int32) (x2 : Int32), m_X10_areRights_b79 (m_X10_areRights_l4  v_rights a_board n4) v_rights a_board x1 x2 = some rv → kv p l e rm_X10_areRights s m ([.ref h0] : List Value).toArray below meth c D A 6 0 0 Q (wM h0 q cI v_code v_side v_rights v_passed v_halves v_number v_top v_typedCount v_readAt v_place v_writtenCount v_chosenFrom v_chosenTo v_chosenTurn v_changed v_readSide v_readRights v_readPassed v_readHalves v_readNumber a_board a_before a_typed a_written a_froms a_tos a_turns a_counts a_changedSquare a_changedMan a_readBoard) [(0, .ref h0), (1, .int x1), (2, .int x2)] 79 [] := by
        intro x1 x2 h
        unfold m_X10_areRights_b79 at h
        refine kv_iconst C 0 dX10_areRights_79 (by decide) ?_
        exact kv_lv [0, 1, 2] (lv2 := [(0, .ref h0), (1, .int x1), (2, .int x2)]) rfl (j80 x1 x2 0 h)
      have j67 : ∀ (x1 : Int32) (x2 : Int32) (x3 : Int32) (t1 : Int32) (t2 : Int32), m_X10_areRights_b67 (m_X10_areRights_l4  v_rights a_board n4) v_rights a_board x1 x2 x3 t1 t2 = some rv → kv p l e rm_X10_areRights s m ([.ref h0] : List Value).toArray below meth c D A 6 0 0 Q (wM h0 q cI v_code v_side v_rights v_passed v_halves v_number v_top v_typedCount v_readAt v_place v_writtenCount v_chosenFrom v_chosenTo v_chosenTurn v_changed v_readSide v_readRights v_readPassed v_readHalves v_readNumber a_board a_before a_typed a_written a_froms a_tos a_turns a_counts a_changedSquare a_changedMan a_readBoard) [(0, .ref h0), (1, .int x1), (2, .int x2), (3, .int x3)] 67 [.int t2, .int t1, .ref (q 1)] := by
        intro x1 x2 x3 t1 t2 h
        unfold m_X10_areRights_b67 at h
        refine kv_iadd C dX10_areRights_67 ?_
        obtain ⟨g_5, h⟩ := oin_e h
        refine kv_iald C 1 0 rfl rfl g_5 dX10_areRights_68 ?_
        refine kv_iload_n C 3 dX10_areRights_69 rfl rfl ?_
        refine kv_iconst C 4 dX10_areRights_70 (by decide) ?_
        refine kv_imul C dX10_areRights_71 ?_
        refine kv_icmp_ne C 79 dX10_areRights_72 (by decide) (fun c_6 => ?_) (fun c_6 => ?_)
        · have h := oi_f h c_6
          exact kv_lv [0, 1, 2] (lv2 := [(0, .ref h0), (1, .int x1), (2, .int x2)]) rfl (j79 x1 x2 h)
        · have h := oi_t h c_6
          refine kv_iconst C 1 dX10_areRights_75 (by decide) ?_
          refine kv_goto C 80 dX10_areRights_76 (by decide) ?_
          exact kv_lv [0, 1, 2] (lv2 := [(0, .ref h0), (1, .int x1), (2, .int x2)]) rfl (j80 x1 x2 1 h)
      have j31 : ∀ (x1 : Int32) (x2 : Int32) (x3 : Int32) (t0 : Int32), m_X10_areRights_b31 (m_X10_areRights_l4  v_rights a_board n4) v_rights a_board x1 x2 x3 t0 = some rv → kv p l e rm_X10_areRights s m ([.ref h0] : List Value).toArray below meth c D A 6 0 0 Q (wM h0 q cI v_code v_side v_rights v_passed v_halves v_number v_top v_typedCount v_readAt v_place v_writtenCount v_chosenFrom v_chosenTo v_chosenTurn v_changed v_readSide v_readRights v_readPassed v_readHalves v_readNumber a_board a_before a_typed a_written a_froms a_tos a_turns a_counts a_changedSquare a_changedMan a_readBoard) [(0, .ref h0), (1, .int x1), (2, .int x2), (3, .int x3)] 31 [.int t0] := by
        intro x1 x2 x3 t0 h
        unfold m_X10_areRights_b31 at h
        refine kv_istore C (lv2 := [(0, .ref h0), (1, .int x1), (2, .int x2), (3, .int x3), (4, .int t0)]) [1, 2, 3, 4, 0] dX10_areRights_31 (by decide) rfl rfl ?_
        refine kv_aload_n C 0 dX10_areRights_33 rfl rfl ?_
        refine kv_get C (Cn := RX10) (T := TX10) (N := 31) 0 1 hin10 rfl rfl (by decide) (C.ts _ (List.mem_cons_of_mem _ lf_RX10_7)) rfl rfl dX10_areRights_34 ?_
        refine kv_iload C 4 dX10_areRights_37 rfl ?_
        refine kv_iconst C 4 dX10_areRights_39 (by decide) ?_
        refine kv_iadd C dX10_areRights_40 ?_
        obtain ⟨g_7, h⟩ := oin_e h
        refine kv_iald C 1 0 rfl rfl g_7 dX10_areRights_41 ?_
        refine kv_iload_n C 3 dX10_areRights_42 rfl rfl ?_
        refine kv_bipush C 6 dX10_areRights_43 (by decide) ?_
        refine kv_imul C dX10_areRights_45 ?_
        refine kv_icmp_ne C 79 dX10_areRights_46 (by decide) (fun c_8 => ?_) (fun c_8 => ?_)
        · have h := oi_f h c_8
          exact kv_lv [0, 1, 2] (lv2 := [(0, .ref h0), (1, .int x1), (2, .int x2)]) rfl (j79 x1 x2 h)
        · have h := oi_t h c_8
          refine kv_aload_n C 0 dX10_areRights_49 rfl rfl ?_
          refine kv_get C (Cn := RX10) (T := TX10) (N := 31) 0 1 hin10 rfl rfl (by decide) (C.ts _ (List.mem_cons_of_mem _ lf_RX10_7)) rfl rfl dX10_areRights_50 ?_
          refine kv_iload C 4 dX10_areRights_53 rfl ?_
          refine kv_iload_n C 2 dX10_areRights_55 rfl rfl ?_
          refine kv_iconst C 2 dX10_areRights_56 (by decide) ?_
          refine kv_irem C dX10_areRights_57 (by decide) ?_
          refine kv_if_ne C 66 dX10_areRights_58 (by decide) (fun c_9 => ?_) (fun c_9 => ?_)
          · have h := oi_f h c_9
            refine kv_iconst C 0 dX10_areRights_66 (by decide) ?_
            exact kv_lv [0, 1, 2, 3] (lv2 := [(0, .ref h0), (1, .int x1), (2, .int x2), (3, .int x3)]) rfl (j67 x1 x2 x3 t0 0 h)
          · have h := oi_t h c_9
            refine kv_bipush C 7 dX10_areRights_61 (by decide) ?_
            refine kv_goto C 67 dX10_areRights_63 (by decide) ?_
            exact kv_lv [0, 1, 2, 3] (lv2 := [(0, .ref h0), (1, .int x1), (2, .int x2), (3, .int x3)]) rfl (j67 x1 x2 x3 t0 7 h)
      have j19 : ∀ (x1 : Int32) (x2 : Int32) (t0 : Int32), m_X10_areRights_b19 (m_X10_areRights_l4  v_rights a_board n4) v_rights a_board x1 x2 t0 = some rv → kv p l e rm_X10_areRights s m ([.ref h0] : List Value).toArray below meth c D A 6 0 0 Q (wM h0 q cI v_code v_side v_rights v_passed v_halves v_number v_top v_typedCount v_readAt v_place v_writtenCount v_chosenFrom v_chosenTo v_chosenTurn v_changed v_readSide v_readRights v_readPassed v_readHalves v_readNumber a_board a_before a_typed a_written a_froms a_tos a_turns a_counts a_changedSquare a_changedMan a_readBoard) [(0, .ref h0), (1, .int x1), (2, .int x2)] 19 [.int t0] := by
        intro x1 x2 t0 h
        unfold m_X10_areRights_b19 at h
        refine kv_istore_n C (lv2 := [(0, .ref h0), (1, .int x1), (2, .int x2), (3, .int t0)]) [1, 2, 3, 0] dX10_areRights_19 rfl (by decide) rfl rfl ?_
        refine kv_iload_n C 2 dX10_areRights_20 rfl rfl ?_
        refine kv_iconst C 2 dX10_areRights_21 (by decide) ?_
        refine kv_icmp_ge C 29 dX10_areRights_22 (by decide) (fun c_10 => ?_) (fun c_10 => ?_)
        · have h := oi_t h c_10
          refine kv_bipush C 56 dX10_areRights_29 (by decide) ?_
          exact kv_lv [0, 1, 2, 3] (lv2 := [(0, .ref h0), (1, .int x1), (2, .int x2), (3, .int t0)]) rfl (j31 x1 x2 t0 56 h)
        · have h := oi_f h c_10
          refine kv_iconst C 0 dX10_areRights_25 (by decide) ?_
          refine kv_goto C 31 dX10_areRights_26 (by decide) ?_
          exact kv_lv [0, 1, 2, 3] (lv2 := [(0, .ref h0), (1, .int x1), (2, .int x2), (3, .int t0)]) rfl (j31 x1 x2 t0 0 h)
      intro x1 x2 h
      replace h : m_X10_areRights_b4  (m_X10_areRights_l4  v_rights a_board n4) v_rights a_board x1 x2 = some rv := h
      unfold m_X10_areRights_b4 at h
      refine kv_iload_n C 2 dX10_areRights_4 rfl rfl ?_
      refine kv_iconst C 4 dX10_areRights_5 (by decide) ?_
      refine kv_icmp_ge C 114 dX10_areRights_6 (by decide) (fun c_11 => ?_) (fun c_11 => ?_)
      · have h := oi_t h c_11
        refine kv_iload_n C 1 dX10_areRights_114 rfl rfl ?_
        obtain ⟨g_12, h⟩ := obl_e h
        cases h
        exact hret _ _ dX10_areRights_115 (fun _ => g_12)
      · have h := oi_f h c_11
        refine kv_iload_n C 2 dX10_areRights_9 rfl rfl ?_
        refine kv_iconst C 2 dX10_areRights_10 (by decide) ?_
        refine kv_icmp_ge C 18 dX10_areRights_11 (by decide) (fun c_13 => ?_) (fun c_13 => ?_)
        · have h := oi_t h c_13
          refine kv_iconst C (-1) dX10_areRights_18 (by decide) ?_
          exact kv_lv [0, 1, 2] (lv2 := [(0, .ref h0), (1, .int x1), (2, .int x2)]) rfl (j19 x1 x2 (-1) h)
        · have h := oi_f h c_13
          refine kv_iconst C 1 dX10_areRights_14 (by decide) ?_
          refine kv_goto C 19 dX10_areRights_15 (by decide) ?_
          exact kv_lv [0, 1, 2] (lv2 := [(0, .ref h0), (1, .int x1), (2, .int x2)]) rfl (j19 x1 x2 1 h)
  unfold m_X10_areRights at hm
  have h := hm
  refine kv_lv [0] (lv2 := [(0, .ref h0)]) rfl ?_
  refine kv_iconst C 1 dX10_areRights_0 (by decide) ?_
  refine kv_istore_n C (lv2 := [(0, .ref h0), (1, .int 1)]) [1, 0] dX10_areRights_1 rfl (by decide) rfl rfl ?_
  refine kv_iconst C 0 dX10_areRights_2 (by decide) ?_
  refine kv_istore_n C (lv2 := [(0, .ref h0), (1, .int 1), (2, .int 0)]) [1, 2, 0] dX10_areRights_3 rfl (by decide) rfl rfl ?_
  exact kv_lv [0, 1, 2] (lv2 := [(0, .ref h0), (1, .int 1), (2, .int 0)]) rfl (l4 kF 1 0 h)
def m_X10_isPassed_b106 (v_side : Int32) (v_passed : Int32) (a_board : Nat → Int32) (t0 : Int32) : Option (Int32) := obl (t0) (some t0)
def m_X10_isPassed_b105 (v_side : Int32) (v_passed : Int32) (a_board : Nat → Int32) : Option (Int32) := m_X10_isPassed_b106 v_side v_passed a_board 0
def m_X10_isPassed_b98 (v_side : Int32) (v_passed : Int32) (a_board : Nat → Int32) (t0 : Int32) (t1 : Int32) : Option (Int32) := if t0 = t1 then m_X10_isPassed_b106 v_side v_passed a_board 1 else m_X10_isPassed_b105 v_side v_passed a_board
def m_X10_isPassed_b64 (v_side : Int32) (v_passed : Int32) (a_board : Nat → Int32) (t0 : Int32) : Option (Int32) := if t0 = 0 then m_X10_isPassed_b105 v_side v_passed a_board else ob (m_X10_up v_side) fun r_4 => oin (v_passed - r_4) 64 (if v_side = 0 then m_X10_isPassed_b98 v_side v_passed a_board (a_board (v_passed - r_4).toNatClampNeg) (-1) else m_X10_isPassed_b98 v_side v_passed a_board (a_board (v_passed - r_4).toNatClampNeg) 1)
def m_X10_isPassed_b63 (v_side : Int32) (v_passed : Int32) (a_board : Nat → Int32) : Option (Int32) := m_X10_isPassed_b64 v_side v_passed a_board 0
def m_X10_isPassed (v_side : Int32) (v_passed : Int32) (a_board : Nat → Int32) : Option (Int32) := if v_passed = (-1) then obl (1) (some 1) else ob (m_X10_rankOf v_passed v_side) fun r_9 => if r_9 = 5 then oin (v_passed) 64 (if (a_board v_passed.toNatClampNeg) = 0 then ob (m_X10_up v_side) fun r_14 => oin (v_passed + r_14) 64 (if (a_board (v_passed + r_14).toNatClampNeg) = 0 then m_X10_isPassed_b64 v_side v_passed a_board 1 else m_X10_isPassed_b63 v_side v_passed a_board) else m_X10_isPassed_b63 v_side v_passed a_board) else obl (0) (some 0)
abbrev rm_X10_isPassed : Room := { frames := 1, cells := 0, slots := 0, locals := 21 }
abbrev wy_X10_isPassed : List Cond := .code yX10_isPassed cX10_isPassed 2 (some .boolean) :: gT
theorem cv_X10_isPassed {R : Room} {s : State} {args : Array Value} {own : String} {index : Nat} {w0 : Cond} (hts : ∀ w ∈ w0 :: gT, w.before args s = true) (hl : Cond.methodLink own index yX10_isPassed ∈ gT) (hR : 1 + 1 ≤ R.frames ∧ 8 + (2 + 11) + 21 ≤ R.locals) : CallW R s args own RX10 index yX10_isPassed cX10_isPassed 2 (some .boolean) wy_X10_isPassed rm_X10_isPassed 0 0 0 :=
  cwV 0 hts (gT_call w0 (pre := [.methodLink own index yX10_isPassed, .instanceMethod yX10_isPassed, .selects RX10 yX10_isPassed yX10_isPassed, .initialized RX10]) (gT_lc hl (gT_lc ly_yX10_isPassed (gT_lc lx_yX10_isPassed (gT_l1 li_RX10)))) lc_yX10_isPassed) rfl rfl rfl (by decide +kernel) hR
set_option maxRecDepth 100000 in
set_option maxHeartbeats 4000000 in
theorem c_X10_isPassed (l : Launch) (D : va_G) (h0 : Nat) (q : Nat → Nat) (cI : ClassId) (v_code : Int32) (v_side : Int32) (v_rights : Int32) (v_passed : Int32) (v_halves : Int32) (v_number : Int32) (v_top : Int32) (v_typedCount : Int32) (v_readAt : Int32) (v_place : Int32) (v_writtenCount : Int32) (v_chosenFrom : Int32) (v_chosenTo : Int32) (v_chosenTurn : Int32) (v_changed : Int32) (v_readSide : Int32) (v_readRights : Int32) (v_readPassed : Int32) (v_readHalves : Int32) (v_readNumber : Int32) (a_board : Nat → Int32) (a_before : Nat → Int32) (a_typed : Nat → Int32) (a_written : Nat → Int32) (a_froms : Nat → Int32) (a_tos : Nat → Int32) (a_turns : Nat → Int32) (a_counts : Nat → Int32) (a_changedSquare : Nat → Int32) (a_changedMan : Nat → Int32) (a_readBoard : Nat → Int32) (rv : Int32) (hm : m_X10_isPassed v_side v_passed a_board = some rv) : kDi l yX10_isPassed wy_X10_isPassed rm_X10_isPassed D [(cI, .int)] rv (wM h0 q cI v_code v_side v_rights v_passed v_halves v_number v_top v_typedCount v_readAt v_place v_writtenCount v_chosenFrom v_chosenTo v_chosenTurn v_changed v_readSide v_readRights v_readPassed v_readHalves v_readNumber a_board a_before a_typed a_written a_froms a_tos a_turns a_counts a_changedSquare a_changedMan a_readBoard) (wM h0 q cI v_code v_side v_rights v_passed v_halves v_number v_top v_typedCount v_readAt v_place v_writtenCount v_chosenFrom v_chosenTo v_chosenTurn v_changed v_readSide v_readRights v_readPassed v_readHalves v_readNumber a_board a_before a_typed a_written a_froms a_tos a_turns a_counts a_changedSquare a_changedMan a_readBoard) [.ref h0] := by
  refine kDi.of cX10_isPassed 2 (some .boolean) (by decide) rfl (Or.inr rfl) (Nat.le_of_ble_eq_true rfl) ?_
  intro p e s m below meth c A Q C hret
  have hin10 : ∀ w ∈ wsX100, w ∈ wy_X10_isPassed := fun w h => List.mem_cons_of_mem _ (inG10 w h)
  have j106 : ∀ (t0 : Int32), m_X10_isPassed_b106  v_side v_passed a_board t0 = some rv → kv p l e rm_X10_isPassed s m ([.ref h0] : List Value).toArray below meth c D A 2 0 0 Q (wM h0 q cI v_code v_side v_rights v_passed v_halves v_number v_top v_typedCount v_readAt v_place v_writtenCount v_chosenFrom v_chosenTo v_chosenTurn v_changed v_readSide v_readRights v_readPassed v_readHalves v_readNumber a_board a_before a_typed a_written a_froms a_tos a_turns a_counts a_changedSquare a_changedMan a_readBoard) [] 106 [.int t0] := by
    intro t0 h
    unfold m_X10_isPassed_b106 at h
    obtain ⟨g_1, h⟩ := obl_e h
    cases h
    exact hret _ _ dX10_isPassed_106 (fun _ => g_1)
  have j105 : m_X10_isPassed_b105  v_side v_passed a_board  = some rv → kv p l e rm_X10_isPassed s m ([.ref h0] : List Value).toArray below meth c D A 2 0 0 Q (wM h0 q cI v_code v_side v_rights v_passed v_halves v_number v_top v_typedCount v_readAt v_place v_writtenCount v_chosenFrom v_chosenTo v_chosenTurn v_changed v_readSide v_readRights v_readPassed v_readHalves v_readNumber a_board a_before a_typed a_written a_froms a_tos a_turns a_counts a_changedSquare a_changedMan a_readBoard) [] 105 [] := by
    intro  h
    unfold m_X10_isPassed_b105 at h
    refine kv_iconst C 0 dX10_isPassed_105 (by decide) ?_
    exact kv_lv [] (lv2 := []) rfl (j106 0 h)
  have j98 : ∀ (t0 : Int32) (t1 : Int32), m_X10_isPassed_b98  v_side v_passed a_board t0 t1 = some rv → kv p l e rm_X10_isPassed s m ([.ref h0] : List Value).toArray below meth c D A 2 0 0 Q (wM h0 q cI v_code v_side v_rights v_passed v_halves v_number v_top v_typedCount v_readAt v_place v_writtenCount v_chosenFrom v_chosenTo v_chosenTurn v_changed v_readSide v_readRights v_readPassed v_readHalves v_readNumber a_board a_before a_typed a_written a_froms a_tos a_turns a_counts a_changedSquare a_changedMan a_readBoard) [] 98 [.int t1, .int t0] := by
    intro t0 t1 h
    unfold m_X10_isPassed_b98 at h
    refine kv_icmp_ne C 105 dX10_isPassed_98 (by decide) (fun c_2 => ?_) (fun c_2 => ?_)
    · have h := oi_f h c_2
      exact kv_lv [] (lv2 := []) rfl (j105  h)
    · have h := oi_t h c_2
      refine kv_iconst C 1 dX10_isPassed_101 (by decide) ?_
      refine kv_goto C 106 dX10_isPassed_102 (by decide) ?_
      exact kv_lv [] (lv2 := []) rfl (j106 1 h)
  have j64 : ∀ (t0 : Int32), m_X10_isPassed_b64  v_side v_passed a_board t0 = some rv → kv p l e rm_X10_isPassed s m ([.ref h0] : List Value).toArray below meth c D A 2 0 0 Q (wM h0 q cI v_code v_side v_rights v_passed v_halves v_number v_top v_typedCount v_readAt v_place v_writtenCount v_chosenFrom v_chosenTo v_chosenTurn v_changed v_readSide v_readRights v_readPassed v_readHalves v_readNumber a_board a_before a_typed a_written a_froms a_tos a_turns a_counts a_changedSquare a_changedMan a_readBoard) [(0, .ref h0)] 64 [.int t0] := by
    intro t0 h
    unfold m_X10_isPassed_b64 at h
    refine kv_istore_n C (lv2 := [(0, .ref h0), (1, .int t0)]) [1, 0] dX10_isPassed_64 rfl (by decide) rfl rfl ?_
    refine kv_iload_n C 1 dX10_isPassed_65 rfl rfl ?_
    refine kv_if_eq C 105 dX10_isPassed_66 (by decide) (fun c_3 => ?_) (fun c_3 => ?_)
    · have h := oi_t h c_3
      exact kv_lv [] (lv2 := []) rfl (j105  h)
    · have h := oi_f h c_3
      refine kv_aload_n C 0 dX10_isPassed_69 rfl rfl ?_
      refine kv_get C (Cn := RX10) (T := TX10) (N := 31) 0 1 hin10 rfl rfl (by decide) (C.ts _ (List.mem_cons_of_mem _ lf_RX10_7)) rfl rfl dX10_isPassed_70 ?_
      refine kv_aload_n C 0 dX10_isPassed_73 rfl rfl ?_
      refine kv_get C (Cn := RX10) (T := TX10) (N := 31) 0 4 hin10 rfl rfl (by decide) (C.ts _ (List.mem_cons_of_mem _ lf_RX10_13)) rfl rfl dX10_isPassed_74 ?_
      refine kv_aload_n C 0 dX10_isPassed_77 rfl rfl ?_
      refine kv_get C (Cn := RX10) (T := TX10) (N := 31) 0 2 hin10 rfl rfl (by decide) (C.ts _ (List.mem_cons_of_mem _ lf_RX10_119)) rfl rfl dX10_isPassed_78 ?_
      obtain ⟨r_4, hm_5, h⟩ := ob_e h
      refine kv_callS0i C [.int v_side] (c_X10_up l D v_side r_4 hm_5) (cs_X10_up C.ts lm_RX10_98 ⟨Nat.le_of_ble_eq_true rfl, Nat.le_of_ble_eq_true rfl⟩) rfl rfl (Nat.le_of_ble_eq_true rfl) dX10_isPassed_81 ⟨Nat.zero_le _, Nat.zero_le _⟩ ?_
      refine kv_isub C dX10_isPassed_84 ?_
      obtain ⟨g_6, h⟩ := oin_e h
      refine kv_iald C 1 0 rfl rfl g_6 dX10_isPassed_85 ?_
      refine kv_aload_n C 0 dX10_isPassed_86 rfl rfl ?_
      refine kv_get C (Cn := RX10) (T := TX10) (N := 31) 0 2 hin10 rfl rfl (by decide) (C.ts _ (List.mem_cons_of_mem _ lf_RX10_119)) rfl rfl dX10_isPassed_87 ?_
      refine kv_if_ne C 97 dX10_isPassed_90 (by decide) (fun c_7 => ?_) (fun c_7 => ?_)
      · have h := oi_f h c_7
        refine kv_iconst C 1 dX10_isPassed_97 (by decide) ?_
        exact kv_lv [] (lv2 := []) rfl (j98 (a_board (v_passed - r_4).toNatClampNeg) 1 h)
      · have h := oi_t h c_7
        refine kv_iconst C (-1) dX10_isPassed_93 (by decide) ?_
        refine kv_goto C 98 dX10_isPassed_94 (by decide) ?_
        exact kv_lv [] (lv2 := []) rfl (j98 (a_board (v_passed - r_4).toNatClampNeg) (-1) h)
  have j63 : m_X10_isPassed_b63  v_side v_passed a_board  = some rv → kv p l e rm_X10_isPassed s m ([.ref h0] : List Value).toArray below meth c D A 2 0 0 Q (wM h0 q cI v_code v_side v_rights v_passed v_halves v_number v_top v_typedCount v_readAt v_place v_writtenCount v_chosenFrom v_chosenTo v_chosenTurn v_changed v_readSide v_readRights v_readPassed v_readHalves v_readNumber a_board a_before a_typed a_written a_froms a_tos a_turns a_counts a_changedSquare a_changedMan a_readBoard) [(0, .ref h0)] 63 [] := by
    intro  h
    unfold m_X10_isPassed_b63 at h
    refine kv_iconst C 0 dX10_isPassed_63 (by decide) ?_
    exact kv_lv [0] (lv2 := [(0, .ref h0)]) rfl (j64 0 h)
  unfold m_X10_isPassed at hm
  have h := hm
  refine kv_lv [0] (lv2 := [(0, .ref h0)]) rfl ?_
  refine kv_aload_n C 0 dX10_isPassed_0 rfl rfl ?_
  refine kv_get C (Cn := RX10) (T := TX10) (N := 31) 0 4 hin10 rfl rfl (by decide) (C.ts _ (List.mem_cons_of_mem _ lf_RX10_13)) rfl rfl dX10_isPassed_1 ?_
  refine kv_iconst C (-1) dX10_isPassed_4 (by decide) ?_
  refine kv_icmp_ne C 10 dX10_isPassed_5 (by decide) (fun c_8 => ?_) (fun c_8 => ?_)
  · have h := oi_f h c_8
    refine kv_aload_n C 0 dX10_isPassed_10 rfl rfl ?_
    refine kv_get C (Cn := RX10) (T := TX10) (N := 31) 0 4 hin10 rfl rfl (by decide) (C.ts _ (List.mem_cons_of_mem _ lf_RX10_13)) rfl rfl dX10_isPassed_11 ?_
    refine kv_aload_n C 0 dX10_isPassed_14 rfl rfl ?_
    refine kv_get C (Cn := RX10) (T := TX10) (N := 31) 0 2 hin10 rfl rfl (by decide) (C.ts _ (List.mem_cons_of_mem _ lf_RX10_119)) rfl rfl dX10_isPassed_15 ?_
    obtain ⟨r_9, hm_10, h⟩ := ob_e h
    refine kv_callS0i C [.int v_passed, .int v_side] (c_X10_rankOf l D v_passed v_side r_9 hm_10) (cs_X10_rankOf C.ts lm_RX10_138 ⟨Nat.le_of_ble_eq_true rfl, Nat.le_of_ble_eq_true rfl⟩) rfl rfl (Nat.le_of_ble_eq_true rfl) dX10_isPassed_18 ⟨Nat.zero_le _, Nat.zero_le _⟩ ?_
    refine kv_iconst C 5 dX10_isPassed_21 (by decide) ?_
    refine kv_icmp_eq C 27 dX10_isPassed_22 (by decide) (fun c_11 => ?_) (fun c_11 => ?_)
    · have h := oi_t h c_11
      refine kv_aload_n C 0 dX10_isPassed_27 rfl rfl ?_
      refine kv_get C (Cn := RX10) (T := TX10) (N := 31) 0 1 hin10 rfl rfl (by decide) (C.ts _ (List.mem_cons_of_mem _ lf_RX10_7)) rfl rfl dX10_isPassed_28 ?_
      refine kv_aload_n C 0 dX10_isPassed_31 rfl rfl ?_
      refine kv_get C (Cn := RX10) (T := TX10) (N := 31) 0 4 hin10 rfl rfl (by decide) (C.ts _ (List.mem_cons_of_mem _ lf_RX10_13)) rfl rfl dX10_isPassed_32 ?_
      obtain ⟨g_12, h⟩ := oin_e h
      refine kv_iald C 1 0 rfl rfl g_12 dX10_isPassed_35 ?_
      refine kv_if_ne C 63 dX10_isPassed_36 (by decide) (fun c_13 => ?_) (fun c_13 => ?_)
      · have h := oi_f h c_13
        exact kv_lv [0] (lv2 := [(0, .ref h0)]) rfl (j63  h)
      · have h := oi_t h c_13
        refine kv_aload_n C 0 dX10_isPassed_39 rfl rfl ?_
        refine kv_get C (Cn := RX10) (T := TX10) (N := 31) 0 1 hin10 rfl rfl (by decide) (C.ts _ (List.mem_cons_of_mem _ lf_RX10_7)) rfl rfl dX10_isPassed_40 ?_
        refine kv_aload_n C 0 dX10_isPassed_43 rfl rfl ?_
        refine kv_get C (Cn := RX10) (T := TX10) (N := 31) 0 4 hin10 rfl rfl (by decide) (C.ts _ (List.mem_cons_of_mem _ lf_RX10_13)) rfl rfl dX10_isPassed_44 ?_
        refine kv_aload_n C 0 dX10_isPassed_47 rfl rfl ?_
        refine kv_get C (Cn := RX10) (T := TX10) (N := 31) 0 2 hin10 rfl rfl (by decide) (C.ts _ (List.mem_cons_of_mem _ lf_RX10_119)) rfl rfl dX10_isPassed_48 ?_
        obtain ⟨r_14, hm_15, h⟩ := ob_e h
        refine kv_callS0i C [.int v_side] (c_X10_up l D v_side r_14 hm_15) (cs_X10_up C.ts lm_RX10_98 ⟨Nat.le_of_ble_eq_true rfl, Nat.le_of_ble_eq_true rfl⟩) rfl rfl (Nat.le_of_ble_eq_true rfl) dX10_isPassed_51 ⟨Nat.zero_le _, Nat.zero_le _⟩ ?_
        refine kv_iadd C dX10_isPassed_54 ?_
        obtain ⟨g_16, h⟩ := oin_e h
        refine kv_iald C 1 0 rfl rfl g_16 dX10_isPassed_55 ?_
        refine kv_if_ne C 63 dX10_isPassed_56 (by decide) (fun c_17 => ?_) (fun c_17 => ?_)
        · have h := oi_f h c_17
          exact kv_lv [0] (lv2 := [(0, .ref h0)]) rfl (j63  h)
        · have h := oi_t h c_17
          refine kv_iconst C 1 dX10_isPassed_59 (by decide) ?_
          refine kv_goto C 64 dX10_isPassed_60 (by decide) ?_
          exact kv_lv [0] (lv2 := [(0, .ref h0)]) rfl (j64 1 h)
    · have h := oi_f h c_11
      refine kv_iconst C 0 dX10_isPassed_25 (by decide) ?_
      obtain ⟨g_18, h⟩ := obl_e h
      cases h
      exact hret _ _ dX10_isPassed_26 (fun _ => g_18)
  · have h := oi_t h c_8
    refine kv_iconst C 1 dX10_isPassed_8 (by decide) ?_
    obtain ⟨g_19, h⟩ := obl_e h
    cases h
    exact hret _ _ dX10_isPassed_9 (fun _ => g_19)
def m_X10_faultNow_b94 (v_side : Int32) (v_rights : Int32) (v_passed : Int32) (a_board : Nat → Int32) (t0 : Int32) : Option (Int32) := some t0
def m_X10_faultNow_b42 (v_side : Int32) (v_rights : Int32) (v_passed : Int32) (a_board : Nat → Int32) : Option (Int32) := some 2
def m_X10_faultNow (v_side : Int32) (v_rights : Int32) (v_passed : Int32) (a_board : Nat → Int32) : Option (Int32) := ob (m_X10_men a_board 0 1) fun r_1 => if r_1 = 1 then ob (m_X10_men a_board 1 1) fun r_4 => if r_4 = 1 then ob (m_X10_men a_board 0 0) fun r_7 => if 16 < r_7 then m_X10_faultNow_b42 v_side v_rights v_passed a_board else ob (m_X10_men a_board 1 0) fun r_10 => if r_10 ≤ 16 then ob (m_X10_isEdgePawn a_board ) fun r_13 => if r_13 = 0 then ob (m_X10_inCheck a_board (1 - v_side)) fun r_16 => if r_16 = 0 then ob (m_X10_areRights v_rights a_board ) fun r_19 => if r_19 = 0 then m_X10_faultNow_b94 v_side v_rights v_passed a_board 5 else ob (m_X10_isPassed v_side v_passed a_board ) fun r_22 => if r_22 = 0 then m_X10_faultNow_b94 v_side v_rights v_passed a_board 6 else m_X10_faultNow_b94 v_side v_rights v_passed a_board 0 else m_X10_faultNow_b94 v_side v_rights v_passed a_board 4 else some 3 else m_X10_faultNow_b42 v_side v_rights v_passed a_board else m_X10_faultNow_b42 v_side v_rights v_passed a_board else m_X10_faultNow_b42 v_side v_rights v_passed a_board
abbrev rm_X10_faultNow : Room := { frames := 5, cells := 0, slots := 0, locals := 122 }
abbrev wy_X10_faultNow : List Cond := .code yX10_faultNow cX10_faultNow 1 (some .int) :: gT
theorem cv_X10_faultNow {R : Room} {s : State} {args : Array Value} {own : String} {index : Nat} {w0 : Cond} (hts : ∀ w ∈ w0 :: gT, w.before args s = true) (hl : Cond.methodLink own index yX10_faultNow ∈ gT) (hR : 5 + 1 ≤ R.frames ∧ 8 + (1 + 11) + 122 ≤ R.locals) : CallW R s args own RX10 index yX10_faultNow cX10_faultNow 1 (some .int) wy_X10_faultNow rm_X10_faultNow 0 0 0 :=
  cwV 0 hts (gT_call w0 (pre := [.methodLink own index yX10_faultNow, .instanceMethod yX10_faultNow, .selects RX10 yX10_faultNow yX10_faultNow, .initialized RX10]) (gT_lc hl (gT_lc ly_yX10_faultNow (gT_lc lx_yX10_faultNow (gT_l1 li_RX10)))) lc_yX10_faultNow) rfl rfl rfl (by decide +kernel) hR
set_option maxRecDepth 100000 in
set_option maxHeartbeats 4000000 in
theorem c_X10_faultNow (l : Launch) (D : va_G) (h0 : Nat) (q : Nat → Nat) (cI : ClassId) (v_code : Int32) (v_side : Int32) (v_rights : Int32) (v_passed : Int32) (v_halves : Int32) (v_number : Int32) (v_top : Int32) (v_typedCount : Int32) (v_readAt : Int32) (v_place : Int32) (v_writtenCount : Int32) (v_chosenFrom : Int32) (v_chosenTo : Int32) (v_chosenTurn : Int32) (v_changed : Int32) (v_readSide : Int32) (v_readRights : Int32) (v_readPassed : Int32) (v_readHalves : Int32) (v_readNumber : Int32) (a_board : Nat → Int32) (a_before : Nat → Int32) (a_typed : Nat → Int32) (a_written : Nat → Int32) (a_froms : Nat → Int32) (a_tos : Nat → Int32) (a_turns : Nat → Int32) (a_counts : Nat → Int32) (a_changedSquare : Nat → Int32) (a_changedMan : Nat → Int32) (a_readBoard : Nat → Int32) (rv : Int32) (hm : m_X10_faultNow v_side v_rights v_passed a_board = some rv) : kDi l yX10_faultNow wy_X10_faultNow rm_X10_faultNow D [(cI, .int)] rv (wM h0 q cI v_code v_side v_rights v_passed v_halves v_number v_top v_typedCount v_readAt v_place v_writtenCount v_chosenFrom v_chosenTo v_chosenTurn v_changed v_readSide v_readRights v_readPassed v_readHalves v_readNumber a_board a_before a_typed a_written a_froms a_tos a_turns a_counts a_changedSquare a_changedMan a_readBoard) (wM h0 q cI v_code v_side v_rights v_passed v_halves v_number v_top v_typedCount v_readAt v_place v_writtenCount v_chosenFrom v_chosenTo v_chosenTurn v_changed v_readSide v_readRights v_readPassed v_readHalves v_readNumber a_board a_before a_typed a_written a_froms a_tos a_turns a_counts a_changedSquare a_changedMan a_readBoard) [.ref h0] := by
  refine kDi.of cX10_faultNow 1 (some .int) (by decide) rfl (Or.inl rfl) (Nat.le_of_ble_eq_true rfl) ?_
  intro p e s m below meth c A Q C hret
  have hin10 : ∀ w ∈ wsX100, w ∈ wy_X10_faultNow := fun w h => List.mem_cons_of_mem _ (inG10 w h)
  have j94 : ∀ (t0 : Int32), m_X10_faultNow_b94  v_side v_rights v_passed a_board t0 = some rv → kv p l e rm_X10_faultNow s m ([.ref h0] : List Value).toArray below meth c D A 1 0 0 Q (wM h0 q cI v_code v_side v_rights v_passed v_halves v_number v_top v_typedCount v_readAt v_place v_writtenCount v_chosenFrom v_chosenTo v_chosenTurn v_changed v_readSide v_readRights v_readPassed v_readHalves v_readNumber a_board a_before a_typed a_written a_froms a_tos a_turns a_counts a_changedSquare a_changedMan a_readBoard) [] 94 [.int t0] := by
    intro t0 h
    unfold m_X10_faultNow_b94 at h
    cases h
    exact hret _ _ dX10_faultNow_94 (fun q => by cases q)
  have j42 : m_X10_faultNow_b42  v_side v_rights v_passed a_board  = some rv → kv p l e rm_X10_faultNow s m ([.ref h0] : List Value).toArray below meth c D A 1 0 0 Q (wM h0 q cI v_code v_side v_rights v_passed v_halves v_number v_top v_typedCount v_readAt v_place v_writtenCount v_chosenFrom v_chosenTo v_chosenTurn v_changed v_readSide v_readRights v_readPassed v_readHalves v_readNumber a_board a_before a_typed a_written a_froms a_tos a_turns a_counts a_changedSquare a_changedMan a_readBoard) [] 42 [] := by
    intro  h
    unfold m_X10_faultNow_b42 at h
    refine kv_iconst C 2 dX10_faultNow_42 (by decide) ?_
    cases h
    exact hret _ _ dX10_faultNow_43 (fun q => by cases q)
  unfold m_X10_faultNow at hm
  have h := hm
  refine kv_lv [0] (lv2 := [(0, .ref h0)]) rfl ?_
  refine kv_aload_n C 0 dX10_faultNow_0 rfl rfl ?_
  refine kv_iconst C 0 dX10_faultNow_1 (by decide) ?_
  refine kv_iconst C 1 dX10_faultNow_2 (by decide) ?_
  obtain ⟨r_1, hm_2, h⟩ := ob_e h
  refine kv_callWi C [.int 0, .int 1] 0 (c_X10_men l D h0 q cI v_code v_side v_rights v_passed v_halves v_number v_top v_typedCount v_readAt v_place v_writtenCount v_chosenFrom v_chosenTo v_chosenTurn v_changed v_readSide v_readRights v_readPassed v_readHalves v_readNumber a_board a_before a_typed a_written a_froms a_tos a_turns a_counts a_changedSquare a_changedMan a_readBoard 0 1 r_1 hm_2) (cv_X10_men C.ts lm_RX10_259 ⟨Nat.le_of_ble_eq_true rfl, Nat.le_of_ble_eq_true rfl⟩) rfl rfl rfl rfl (Nat.le_of_ble_eq_true rfl) dX10_faultNow_3 ⟨Nat.zero_le _, Nat.zero_le _⟩ ?_
  refine kv_iconst C 1 dX10_faultNow_6 (by decide) ?_
  refine kv_icmp_ne C 42 dX10_faultNow_7 (by decide) (fun c_3 => ?_) (fun c_3 => ?_)
  · have h := oi_f h c_3
    exact kv_lv [] (lv2 := []) rfl (j42  h)
  · have h := oi_t h c_3
    refine kv_aload_n C 0 dX10_faultNow_10 rfl rfl ?_
    refine kv_iconst C 1 dX10_faultNow_11 (by decide) ?_
    refine kv_iconst C 1 dX10_faultNow_12 (by decide) ?_
    obtain ⟨r_4, hm_5, h⟩ := ob_e h
    refine kv_callWi C [.int 1, .int 1] 0 (c_X10_men l D h0 q cI v_code v_side v_rights v_passed v_halves v_number v_top v_typedCount v_readAt v_place v_writtenCount v_chosenFrom v_chosenTo v_chosenTurn v_changed v_readSide v_readRights v_readPassed v_readHalves v_readNumber a_board a_before a_typed a_written a_froms a_tos a_turns a_counts a_changedSquare a_changedMan a_readBoard 1 1 r_4 hm_5) (cv_X10_men C.ts lm_RX10_259 ⟨Nat.le_of_ble_eq_true rfl, Nat.le_of_ble_eq_true rfl⟩) rfl rfl rfl rfl (Nat.le_of_ble_eq_true rfl) dX10_faultNow_13 ⟨Nat.zero_le _, Nat.zero_le _⟩ ?_
    refine kv_iconst C 1 dX10_faultNow_16 (by decide) ?_
    refine kv_icmp_ne C 42 dX10_faultNow_17 (by decide) (fun c_6 => ?_) (fun c_6 => ?_)
    · have h := oi_f h c_6
      exact kv_lv [] (lv2 := []) rfl (j42  h)
    · have h := oi_t h c_6
      refine kv_aload_n C 0 dX10_faultNow_20 rfl rfl ?_
      refine kv_iconst C 0 dX10_faultNow_21 (by decide) ?_
      refine kv_iconst C 0 dX10_faultNow_22 (by decide) ?_
      obtain ⟨r_7, hm_8, h⟩ := ob_e h
      refine kv_callWi C [.int 0, .int 0] 0 (c_X10_men l D h0 q cI v_code v_side v_rights v_passed v_halves v_number v_top v_typedCount v_readAt v_place v_writtenCount v_chosenFrom v_chosenTo v_chosenTurn v_changed v_readSide v_readRights v_readPassed v_readHalves v_readNumber a_board a_before a_typed a_written a_froms a_tos a_turns a_counts a_changedSquare a_changedMan a_readBoard 0 0 r_7 hm_8) (cv_X10_men C.ts lm_RX10_259 ⟨Nat.le_of_ble_eq_true rfl, Nat.le_of_ble_eq_true rfl⟩) rfl rfl rfl rfl (Nat.le_of_ble_eq_true rfl) dX10_faultNow_23 ⟨Nat.zero_le _, Nat.zero_le _⟩ ?_
      refine kv_bipush C 16 dX10_faultNow_26 (by decide) ?_
      refine kv_icmp_gt C 42 dX10_faultNow_28 (by decide) (fun c_9 => ?_) (fun c_9 => ?_)
      · have h := oi_t h c_9
        exact kv_lv [] (lv2 := []) rfl (j42  h)
      · have h := oi_f h c_9
        refine kv_aload_n C 0 dX10_faultNow_31 rfl rfl ?_
        refine kv_iconst C 1 dX10_faultNow_32 (by decide) ?_
        refine kv_iconst C 0 dX10_faultNow_33 (by decide) ?_
        obtain ⟨r_10, hm_11, h⟩ := ob_e h
        refine kv_callWi C [.int 1, .int 0] 0 (c_X10_men l D h0 q cI v_code v_side v_rights v_passed v_halves v_number v_top v_typedCount v_readAt v_place v_writtenCount v_chosenFrom v_chosenTo v_chosenTurn v_changed v_readSide v_readRights v_readPassed v_readHalves v_readNumber a_board a_before a_typed a_written a_froms a_tos a_turns a_counts a_changedSquare a_changedMan a_readBoard 1 0 r_10 hm_11) (cv_X10_men C.ts lm_RX10_259 ⟨Nat.le_of_ble_eq_true rfl, Nat.le_of_ble_eq_true rfl⟩) rfl rfl rfl rfl (Nat.le_of_ble_eq_true rfl) dX10_faultNow_34 ⟨Nat.zero_le _, Nat.zero_le _⟩ ?_
        refine kv_bipush C 16 dX10_faultNow_37 (by decide) ?_
        refine kv_icmp_le C 44 dX10_faultNow_39 (by decide) (fun c_12 => ?_) (fun c_12 => ?_)
        · have h := oi_t h c_12
          refine kv_aload_n C 0 dX10_faultNow_44 rfl rfl ?_
          obtain ⟨r_13, hm_14, h⟩ := ob_e h
          refine kv_callWi C [] 0 (c_X10_isEdgePawn l D h0 q cI v_code v_side v_rights v_passed v_halves v_number v_top v_typedCount v_readAt v_place v_writtenCount v_chosenFrom v_chosenTo v_chosenTurn v_changed v_readSide v_readRights v_readPassed v_readHalves v_readNumber a_board a_before a_typed a_written a_froms a_tos a_turns a_counts a_changedSquare a_changedMan a_readBoard  r_13 hm_14) (cv_X10_isEdgePawn C.ts lm_RX10_263 ⟨Nat.le_of_ble_eq_true rfl, Nat.le_of_ble_eq_true rfl⟩) rfl rfl rfl rfl (Nat.le_of_ble_eq_true rfl) dX10_faultNow_45 ⟨Nat.zero_le _, Nat.zero_le _⟩ ?_
          refine kv_if_eq C 53 dX10_faultNow_48 (by decide) (fun c_15 => ?_) (fun c_15 => ?_)
          · have h := oi_t h c_15
            refine kv_aload_n C 0 dX10_faultNow_53 rfl rfl ?_
            refine kv_iconst C 1 dX10_faultNow_54 (by decide) ?_
            refine kv_aload_n C 0 dX10_faultNow_55 rfl rfl ?_
            refine kv_get C (Cn := RX10) (T := TX10) (N := 31) 0 2 hin10 rfl rfl (by decide) (C.ts _ (List.mem_cons_of_mem _ lf_RX10_119)) rfl rfl dX10_faultNow_56 ?_
            refine kv_isub C dX10_faultNow_59 ?_
            obtain ⟨r_16, hm_17, h⟩ := ob_e h
            refine kv_callWi C [.int (1 - v_side)] 0 (c_X10_inCheck l D h0 q cI v_code v_side v_rights v_passed v_halves v_number v_top v_typedCount v_readAt v_place v_writtenCount v_chosenFrom v_chosenTo v_chosenTurn v_changed v_readSide v_readRights v_readPassed v_readHalves v_readNumber a_board a_before a_typed a_written a_froms a_tos a_turns a_counts a_changedSquare a_changedMan a_readBoard (1 - v_side) r_16 hm_17) (cv_X10_inCheck C.ts lm_RX10_109 ⟨Nat.le_of_ble_eq_true rfl, Nat.le_of_ble_eq_true rfl⟩) rfl rfl rfl rfl (Nat.le_of_ble_eq_true rfl) dX10_faultNow_60 ⟨Nat.zero_le _, Nat.zero_le _⟩ ?_
            refine kv_if_eq C 70 dX10_faultNow_63 (by decide) (fun c_18 => ?_) (fun c_18 => ?_)
            · have h := oi_t h c_18
              refine kv_aload_n C 0 dX10_faultNow_70 rfl rfl ?_
              obtain ⟨r_19, hm_20, h⟩ := ob_e h
              refine kv_callWi C [] 0 (c_X10_areRights l D h0 q cI v_code v_side v_rights v_passed v_halves v_number v_top v_typedCount v_readAt v_place v_writtenCount v_chosenFrom v_chosenTo v_chosenTurn v_changed v_readSide v_readRights v_readPassed v_readHalves v_readNumber a_board a_before a_typed a_written a_froms a_tos a_turns a_counts a_changedSquare a_changedMan a_readBoard  r_19 hm_20) (cv_X10_areRights C.ts lm_RX10_266 ⟨Nat.le_of_ble_eq_true rfl, Nat.le_of_ble_eq_true rfl⟩) rfl rfl rfl rfl (Nat.le_of_ble_eq_true rfl) dX10_faultNow_71 ⟨Nat.zero_le _, Nat.zero_le _⟩ ?_
              refine kv_if_ne C 81 dX10_faultNow_74 (by decide) (fun c_21 => ?_) (fun c_21 => ?_)
              · have h := oi_f h c_21
                refine kv_aload_n C 0 dX10_faultNow_81 rfl rfl ?_
                obtain ⟨r_22, hm_23, h⟩ := ob_e h
                refine kv_callWi C [] 0 (c_X10_isPassed l D h0 q cI v_code v_side v_rights v_passed v_halves v_number v_top v_typedCount v_readAt v_place v_writtenCount v_chosenFrom v_chosenTo v_chosenTurn v_changed v_readSide v_readRights v_readPassed v_readHalves v_readNumber a_board a_before a_typed a_written a_froms a_tos a_turns a_counts a_changedSquare a_changedMan a_readBoard  r_22 hm_23) (cv_X10_isPassed C.ts lm_RX10_269 ⟨Nat.le_of_ble_eq_true rfl, Nat.le_of_ble_eq_true rfl⟩) rfl rfl rfl rfl (Nat.le_of_ble_eq_true rfl) dX10_faultNow_82 ⟨Nat.zero_le _, Nat.zero_le _⟩ ?_
                refine kv_if_ne C 93 dX10_faultNow_85 (by decide) (fun c_24 => ?_) (fun c_24 => ?_)
                · have h := oi_f h c_24
                  refine kv_iconst C 0 dX10_faultNow_93 (by decide) ?_
                  exact kv_lv [] (lv2 := []) rfl (j94 0 h)
                · have h := oi_t h c_24
                  refine kv_bipush C 6 dX10_faultNow_88 (by decide) ?_
                  refine kv_goto C 94 dX10_faultNow_90 (by decide) ?_
                  exact kv_lv [] (lv2 := []) rfl (j94 6 h)
              · have h := oi_t h c_21
                refine kv_iconst C 5 dX10_faultNow_77 (by decide) ?_
                refine kv_goto C 94 dX10_faultNow_78 (by decide) ?_
                exact kv_lv [] (lv2 := []) rfl (j94 5 h)
            · have h := oi_f h c_18
              refine kv_iconst C 4 dX10_faultNow_66 (by decide) ?_
              refine kv_goto C 94 dX10_faultNow_67 (by decide) ?_
              exact kv_lv [] (lv2 := []) rfl (j94 4 h)
          · have h := oi_f h c_15
            refine kv_iconst C 3 dX10_faultNow_51 (by decide) ?_
            cases h
            exact hret _ _ dX10_faultNow_52 (fun q => by cases q)
        · have h := oi_f h c_12
          exact kv_lv [] (lv2 := []) rfl (j42  h)
def m_X10_takeRead_b2 (k2 : Int32 → Int32 → Int32 → Int32 → Int32 → (Nat → Int32) → Int32 → Option (Int32 × Int32 × Int32 × Int32 × Int32 × (Nat → Int32))) (v_side : Int32) (v_rights : Int32) (v_passed : Int32) (v_halves : Int32) (v_number : Int32) (v_readSide : Int32) (v_readRights : Int32) (v_readPassed : Int32) (v_readHalves : Int32) (v_readNumber : Int32) (a_board : Nat → Int32) (a_readBoard : Nat → Int32) (x1 : Int32) : Option (Int32 × Int32 × Int32 × Int32 × Int32 × (Nat → Int32)) := if 64 ≤ x1 then some (v_readSide, v_readRights, v_readPassed, v_readHalves, v_readNumber, a_board) else oin (x1) 64 (ol (a_readBoard x1.toNatClampNeg) fun y_3 => oin (x1) 64 (ol (upd a_board (x1.toNatClampNeg) y_3) fun a_board_5 => ol (x1 + 1) fun x1_6 => k2 v_side v_rights v_passed v_halves v_number a_board_5 x1_6))
def m_X10_takeRead_l2 (v_readSide : Int32) (v_readRights : Int32) (v_readPassed : Int32) (v_readHalves : Int32) (v_readNumber : Int32) (a_readBoard : Nat → Int32) (n : Nat) : Int32 → Int32 → Int32 → Int32 → Int32 → (Nat → Int32) → Int32 → Option (Int32 × Int32 × Int32 × Int32 × Int32 × (Nat → Int32)) := fz (fun _ _ _ _ _ _ _ => none) (fun k2 v_side v_rights v_passed v_halves v_number a_board x1 => m_X10_takeRead_b2 k2 v_side v_rights v_passed v_halves v_number v_readSide v_readRights v_readPassed v_readHalves v_readNumber a_board a_readBoard x1) n
def m_X10_takeRead (v_side : Int32) (v_rights : Int32) (v_passed : Int32) (v_halves : Int32) (v_number : Int32) (v_readSide : Int32) (v_readRights : Int32) (v_readPassed : Int32) (v_readHalves : Int32) (v_readNumber : Int32) (a_board : Nat → Int32) (a_readBoard : Nat → Int32) : Option (Int32 × Int32 × Int32 × Int32 × Int32 × (Nat → Int32)) := m_X10_takeRead_l2 v_readSide v_readRights v_readPassed v_readHalves v_readNumber a_readBoard kF v_side v_rights v_passed v_halves v_number a_board 0
abbrev rm_X10_takeRead : Room := { frames := 0, cells := 0, slots := 0, locals := 0 }
abbrev wy_X10_takeRead : List Cond := .code yX10_takeRead cX10_takeRead 2 none :: gT
theorem cv_X10_takeRead {R : Room} {s : State} {args : Array Value} {own : String} {index : Nat} {w0 : Cond} (hts : ∀ w ∈ w0 :: gT, w.before args s = true) (hl : Cond.methodLink own index yX10_takeRead ∈ gT) (hR : 0 + 1 ≤ R.frames ∧ 8 + (2 + 11) + 0 ≤ R.locals) : CallW R s args own RX10 index yX10_takeRead cX10_takeRead 2 none wy_X10_takeRead rm_X10_takeRead 0 0 0 :=
  cwV 0 hts (gT_call w0 (pre := [.methodLink own index yX10_takeRead, .instanceMethod yX10_takeRead, .selects RX10 yX10_takeRead yX10_takeRead, .initialized RX10]) (gT_lc hl (gT_lc ly_yX10_takeRead (gT_lc lx_yX10_takeRead (gT_l1 li_RX10)))) lc_yX10_takeRead) rfl rfl rfl (by decide +kernel) hR
set_option maxRecDepth 100000 in
set_option maxHeartbeats 4000000 in
theorem c_X10_takeRead (l : Launch) (D : va_G) (h0 : Nat) (q : Nat → Nat) (cI : ClassId) (v_code : Int32) (v_side : Int32) (v_rights : Int32) (v_passed : Int32) (v_halves : Int32) (v_number : Int32) (v_top : Int32) (v_typedCount : Int32) (v_readAt : Int32) (v_place : Int32) (v_writtenCount : Int32) (v_chosenFrom : Int32) (v_chosenTo : Int32) (v_chosenTurn : Int32) (v_changed : Int32) (v_readSide : Int32) (v_readRights : Int32) (v_readPassed : Int32) (v_readHalves : Int32) (v_readNumber : Int32) (a_board : Nat → Int32) (a_before : Nat → Int32) (a_typed : Nat → Int32) (a_written : Nat → Int32) (a_froms : Nat → Int32) (a_tos : Nat → Int32) (a_turns : Nat → Int32) (a_counts : Nat → Int32) (a_changedSquare : Nat → Int32) (a_changedMan : Nat → Int32) (a_readBoard : Nat → Int32) (v_side' : Int32) (v_rights' : Int32) (v_passed' : Int32) (v_halves' : Int32) (v_number' : Int32) (a_board' : Nat → Int32) (hm : m_X10_takeRead v_side v_rights v_passed v_halves v_number v_readSide v_readRights v_readPassed v_readHalves v_readNumber a_board a_readBoard = some (v_side', v_rights', v_passed', v_halves', v_number', a_board')) : kDv l yX10_takeRead wy_X10_takeRead rm_X10_takeRead D [(cI, .int)] (wM h0 q cI v_code v_side v_rights v_passed v_halves v_number v_top v_typedCount v_readAt v_place v_writtenCount v_chosenFrom v_chosenTo v_chosenTurn v_changed v_readSide v_readRights v_readPassed v_readHalves v_readNumber a_board a_before a_typed a_written a_froms a_tos a_turns a_counts a_changedSquare a_changedMan a_readBoard) (wM h0 q cI v_code v_side' v_rights' v_passed' v_halves' v_number' v_top v_typedCount v_readAt v_place v_writtenCount v_chosenFrom v_chosenTo v_chosenTurn v_changed v_readSide v_readRights v_readPassed v_readHalves v_readNumber a_board' a_before a_typed a_written a_froms a_tos a_turns a_counts a_changedSquare a_changedMan a_readBoard) [.ref h0] := by
  refine kDv.of cX10_takeRead 2 none (by decide) rfl rfl (Nat.le_of_ble_eq_true rfl) ?_
  intro p e s m below meth c A Q C hret
  have hin10 : ∀ w ∈ wsX100, w ∈ wy_X10_takeRead := fun w h => List.mem_cons_of_mem _ (inG10 w h)
  have l2 : ∀ (n2 : Nat) (v_side : Int32) (v_rights : Int32) (v_passed : Int32) (v_halves : Int32) (v_number : Int32) (a_board : Nat → Int32) (x1 : Int32), m_X10_takeRead_l2  v_readSide v_readRights v_readPassed v_readHalves v_readNumber a_readBoard n2 v_side v_rights v_passed v_halves v_number a_board x1 = some (v_side', v_rights', v_passed', v_halves', v_number', a_board') → kv p l e rm_X10_takeRead s m ([.ref h0] : List Value).toArray below meth c D A 2 0 0 Q (wM h0 q cI v_code v_side v_rights v_passed v_halves v_number v_top v_typedCount v_readAt v_place v_writtenCount v_chosenFrom v_chosenTo v_chosenTurn v_changed v_readSide v_readRights v_readPassed v_readHalves v_readNumber a_board a_before a_typed a_written a_froms a_tos a_turns a_counts a_changedSquare a_changedMan a_readBoard) [(0, .ref h0), (1, .int x1)] 2 [] := by
    intro n2
    induction n2 with
    | zero =>
      intro v_side v_rights v_passed v_halves v_number a_board x1 h
      exact kv_no h
    | succ n2 ih2 =>
      intro v_side v_rights v_passed v_halves v_number a_board x1 h
      replace h : m_X10_takeRead_b2  (m_X10_takeRead_l2  v_readSide v_readRights v_readPassed v_readHalves v_readNumber a_readBoard n2) v_side v_rights v_passed v_halves v_number v_readSide v_readRights v_readPassed v_readHalves v_readNumber a_board a_readBoard x1 = some (v_side', v_rights', v_passed', v_halves', v_number', a_board') := h
      unfold m_X10_takeRead_b2 at h
      refine kv_iload_n C 1 dX10_takeRead_2 rfl rfl ?_
      refine kv_bipush C 64 dX10_takeRead_3 (by decide) ?_
      refine kv_icmp_ge C 26 dX10_takeRead_5 (by decide) (fun c_1 => ?_) (fun c_1 => ?_)
      · have h := oi_t h c_1
        refine kv_aload_n C 0 dX10_takeRead_26 rfl rfl ?_
        refine kv_aload_n C 0 dX10_takeRead_27 rfl rfl ?_
        refine kv_get C (Cn := RX10) (T := TX10) (N := 31) 0 26 hin10 rfl rfl (by decide) (C.ts _ (List.mem_cons_of_mem _ lf_RX10_226)) rfl rfl dX10_takeRead_28 ?_
        refine kv_put C (Cn := RX10) (T := TX10) (N := 31) (ty := .int) (ws1 := (wM h0 q cI v_code v_readSide v_rights v_passed v_halves v_number v_top v_typedCount v_readAt v_place v_writtenCount v_chosenFrom v_chosenTo v_chosenTurn v_changed v_readSide v_readRights v_readPassed v_readHalves v_readNumber a_board a_before a_typed a_written a_froms a_tos a_turns a_counts a_changedSquare a_changedMan a_readBoard)) 0 2 hin10 tyX10 tyX10_ok nmX10 rfl rfl (by decide) (C.ts _ (List.mem_cons_of_mem _ lf_RX10_119)) rfl rfl (by decide +kernel) rfl rfl (Nat.le_of_ble_eq_true rfl) rfl dX10_takeRead_31 ?_
        refine kv_aload_n C 0 dX10_takeRead_34 rfl rfl ?_
        refine kv_aload_n C 0 dX10_takeRead_35 rfl rfl ?_
        refine kv_get C (Cn := RX10) (T := TX10) (N := 31) 0 27 hin10 rfl rfl (by decide) (C.ts _ (List.mem_cons_of_mem _ lf_RX10_229)) rfl rfl dX10_takeRead_36 ?_
        refine kv_put C (Cn := RX10) (T := TX10) (N := 31) (ty := .int) (ws1 := (wM h0 q cI v_code v_readSide v_readRights v_passed v_halves v_number v_top v_typedCount v_readAt v_place v_writtenCount v_chosenFrom v_chosenTo v_chosenTurn v_changed v_readSide v_readRights v_readPassed v_readHalves v_readNumber a_board a_before a_typed a_written a_froms a_tos a_turns a_counts a_changedSquare a_changedMan a_readBoard)) 0 3 hin10 tyX10 tyX10_ok nmX10 rfl rfl (by decide) (C.ts _ (List.mem_cons_of_mem _ lf_RX10_60)) rfl rfl (by decide +kernel) rfl rfl (Nat.le_of_ble_eq_true rfl) rfl dX10_takeRead_39 ?_
        refine kv_aload_n C 0 dX10_takeRead_42 rfl rfl ?_
        refine kv_aload_n C 0 dX10_takeRead_43 rfl rfl ?_
        refine kv_get C (Cn := RX10) (T := TX10) (N := 31) 0 28 hin10 rfl rfl (by decide) (C.ts _ (List.mem_cons_of_mem _ lf_RX10_232)) rfl rfl dX10_takeRead_44 ?_
        refine kv_put C (Cn := RX10) (T := TX10) (N := 31) (ty := .int) (ws1 := (wM h0 q cI v_code v_readSide v_readRights v_readPassed v_halves v_number v_top v_typedCount v_readAt v_place v_writtenCount v_chosenFrom v_chosenTo v_chosenTurn v_changed v_readSide v_readRights v_readPassed v_readHalves v_readNumber a_board a_before a_typed a_written a_froms a_tos a_turns a_counts a_changedSquare a_changedMan a_readBoard)) 0 4 hin10 tyX10 tyX10_ok nmX10 rfl rfl (by decide) (C.ts _ (List.mem_cons_of_mem _ lf_RX10_13)) rfl rfl (by decide +kernel) rfl rfl (Nat.le_of_ble_eq_true rfl) rfl dX10_takeRead_47 ?_
        refine kv_aload_n C 0 dX10_takeRead_50 rfl rfl ?_
        refine kv_aload_n C 0 dX10_takeRead_51 rfl rfl ?_
        refine kv_get C (Cn := RX10) (T := TX10) (N := 31) 0 29 hin10 rfl rfl (by decide) (C.ts _ (List.mem_cons_of_mem _ lf_RX10_253)) rfl rfl dX10_takeRead_52 ?_
        refine kv_put C (Cn := RX10) (T := TX10) (N := 31) (ty := .int) (ws1 := (wM h0 q cI v_code v_readSide v_readRights v_readPassed v_readHalves v_number v_top v_typedCount v_readAt v_place v_writtenCount v_chosenFrom v_chosenTo v_chosenTurn v_changed v_readSide v_readRights v_readPassed v_readHalves v_readNumber a_board a_before a_typed a_written a_froms a_tos a_turns a_counts a_changedSquare a_changedMan a_readBoard)) 0 5 hin10 tyX10 tyX10_ok nmX10 rfl rfl (by decide) (C.ts _ (List.mem_cons_of_mem _ lf_RX10_122)) rfl rfl (by decide +kernel) rfl rfl (Nat.le_of_ble_eq_true rfl) rfl dX10_takeRead_55 ?_
        refine kv_aload_n C 0 dX10_takeRead_58 rfl rfl ?_
        refine kv_aload_n C 0 dX10_takeRead_59 rfl rfl ?_
        refine kv_get C (Cn := RX10) (T := TX10) (N := 31) 0 30 hin10 rfl rfl (by decide) (C.ts _ (List.mem_cons_of_mem _ lf_RX10_256)) rfl rfl dX10_takeRead_60 ?_
        refine kv_put C (Cn := RX10) (T := TX10) (N := 31) (ty := .int) (ws1 := (wM h0 q cI v_code v_readSide v_readRights v_readPassed v_readHalves v_readNumber v_top v_typedCount v_readAt v_place v_writtenCount v_chosenFrom v_chosenTo v_chosenTurn v_changed v_readSide v_readRights v_readPassed v_readHalves v_readNumber a_board a_before a_typed a_written a_froms a_tos a_turns a_counts a_changedSquare a_changedMan a_readBoard)) 0 6 hin10 tyX10 tyX10_ok nmX10 rfl rfl (by decide) (C.ts _ (List.mem_cons_of_mem _ lf_RX10_63)) rfl rfl (by decide +kernel) rfl rfl (Nat.le_of_ble_eq_true rfl) rfl dX10_takeRead_63 ?_
        cases h
        exact hret _ _ dX10_takeRead_66
      · have h := oi_f h c_1
        refine kv_aload_n C 0 dX10_takeRead_8 rfl rfl ?_
        refine kv_get C (Cn := RX10) (T := TX10) (N := 31) 0 1 hin10 rfl rfl (by decide) (C.ts _ (List.mem_cons_of_mem _ lf_RX10_7)) rfl rfl dX10_takeRead_9 ?_
        refine kv_iload_n C 1 dX10_takeRead_12 rfl rfl ?_
        refine kv_aload_n C 0 dX10_takeRead_13 rfl rfl ?_
        refine kv_get C (Cn := RX10) (T := TX10) (N := 31) 0 25 hin10 rfl rfl (by decide) (C.ts _ (List.mem_cons_of_mem _ lf_RX10_57)) rfl rfl dX10_takeRead_14 ?_
        refine kv_iload_n C 1 dX10_takeRead_17 rfl rfl ?_
        obtain ⟨g_2, h⟩ := oin_e h
        refine kv_iald C 11 0 rfl rfl g_2 dX10_takeRead_18 ?_
        obtain ⟨y_3, ey_3, h⟩ := ol_e h
        refine kv_top ey_3 ?_
        obtain ⟨g_4, h⟩ := oin_e h
        obtain ⟨a_board_5, ea_board_5, h⟩ := ol_e h
        refine kv_iast2 C (ws1 := (wM h0 q cI v_code v_side v_rights v_passed v_halves v_number v_top v_typedCount v_readAt v_place v_writtenCount v_chosenFrom v_chosenTo v_chosenTurn v_changed v_readSide v_readRights v_readPassed v_readHalves v_readNumber a_board_5 a_before a_typed a_written a_froms a_tos a_turns a_counts a_changedSquare a_changedMan a_readBoard)) 1 0 rfl rfl g_4 ea_board_5 rfl dX10_takeRead_19 ?_
        obtain ⟨x1_6, ex1_6, h⟩ := ol_e h
        refine kv_iinc C (v := x1_6) (lv2 := [(0, .ref h0), (1, .int x1_6)]) 1 [1, 0] dX10_takeRead_20 rfl ex1_6.symm (by decide) rfl rfl ?_
        refine kv_goto C 2 dX10_takeRead_23 (by decide) ?_
        exact kv_lv [0, 1] (lv2 := [(0, .ref h0), (1, .int x1_6)]) rfl (ih2 v_side v_rights v_passed v_halves v_number a_board_5 x1_6 h)
  unfold m_X10_takeRead at hm
  have h := hm
  refine kv_lv [0] (lv2 := [(0, .ref h0)]) rfl ?_
  refine kv_iconst C 0 dX10_takeRead_0 (by decide) ?_
  refine kv_istore_n C (lv2 := [(0, .ref h0), (1, .int 0)]) [1, 0] dX10_takeRead_1 rfl (by decide) rfl rfl ?_
  exact kv_lv [0, 1] (lv2 := [(0, .ref h0), (1, .int 0)]) rfl (l2 kF v_side v_rights v_passed v_halves v_number a_board 0 h)
def m_X10_read_b89 (v_code : Int32) (v_side : Int32) (v_rights : Int32) (v_passed : Int32) (v_halves : Int32) (v_number : Int32) (v_top : Int32) (v_typedCount : Int32) (v_readAt : Int32) (v_place : Int32) (v_changed : Int32) (v_readSide : Int32) (v_readRights : Int32) (v_readPassed : Int32) (v_readHalves : Int32) (v_readNumber : Int32) (a_board : Nat → Int32) (a_before : Nat → Int32) (a_typed : Nat → Int32) (a_changedSquare : Nat → Int32) (a_changedMan : Nat → Int32) (a_readBoard : Nat → Int32) : Option (Int32 × Int32 × Int32 × Int32 × Int32 × Int32 × Int32 × Int32 × Int32 × Int32 × Int32 × Int32 × Int32 × Int32 × Int32 × Int32 × Int32 × (Nat → Int32) × (Nat → Int32) × (Nat → Int32) × (Nat → Int32) × (Nat → Int32)) := some (0, v_code, v_side, v_rights, v_passed, v_halves, v_number, v_top, v_typedCount, v_readAt, v_place, v_changed, v_readSide, v_readRights, v_readPassed, v_readHalves, v_readNumber, a_board, a_before, a_changedSquare, a_changedMan, a_readBoard)
def m_X10_read_b23 (v_code : Int32) (v_side : Int32) (v_rights : Int32) (v_passed : Int32) (v_halves : Int32) (v_number : Int32) (v_top : Int32) (v_typedCount : Int32) (v_readAt : Int32) (v_place : Int32) (v_changed : Int32) (v_readSide : Int32) (v_readRights : Int32) (v_readPassed : Int32) (v_readHalves : Int32) (v_readNumber : Int32) (a_board : Nat → Int32) (a_before : Nat → Int32) (a_typed : Nat → Int32) (a_changedSquare : Nat → Int32) (a_changedMan : Nat → Int32) (a_readBoard : Nat → Int32) (x1 : Int32) (t1 : Int32) : Option (Int32 × Int32 × Int32 × Int32 × Int32 × Int32 × Int32 × Int32 × Int32 × Int32 × Int32 × Int32 × Int32 × Int32 × Int32 × Int32 × Int32 × (Nat → Int32) × (Nat → Int32) × (Nat → Int32) × (Nat → Int32) × (Nat → Int32)) := if x1 = 0 then some (1, v_code, v_side, v_rights, v_passed, v_halves, v_number, v_top, 0, v_readAt, t1, v_changed, v_readSide, v_readRights, v_readPassed, v_readHalves, v_readNumber, a_board, a_before, a_changedSquare, a_changedMan, a_readBoard) else ob (m_X10_push v_side v_rights v_passed v_halves v_number v_top a_board a_before ) fun (v_top_2, a_before_3) => ob (m_X10_takeRead v_side v_rights v_passed v_halves v_number v_readSide v_readRights v_readPassed v_readHalves v_readNumber a_board a_readBoard ) fun (v_side_6, v_rights_7, v_passed_8, v_halves_9, v_number_10, a_board_11) => ob (m_X10_faultNow v_side_6 v_rights_7 v_passed_8 a_board_11 ) fun r_14 => if r_14 ≤ 0 then if v_passed_8 = (-1) then m_X10_read_b89 v_code v_side_6 v_rights_7 v_passed_8 v_halves_9 v_number_10 0 0 v_readAt t1 v_changed v_readSide v_readRights v_readPassed v_readHalves v_readNumber a_board_11 a_before_3 a_typed a_changedSquare a_changedMan a_readBoard else ob (m_X10_isTakenAt v_side_6 v_changed a_board_11 a_changedSquare a_changedMan v_passed_8) fun (r_18, v_changed_19, a_board_20, a_changedSquare_21, a_changedMan_22) => if r_18 = 0 then m_X10_read_b89 v_code v_side_6 v_rights_7 (-1) v_halves_9 v_number_10 0 0 v_readAt t1 v_changed_19 v_readSide v_readRights v_readPassed v_readHalves v_readNumber a_board_20 a_before_3 a_typed a_changedSquare_21 a_changedMan_22 a_readBoard else m_X10_read_b89 v_code v_side_6 v_rights_7 v_passed_8 v_halves_9 v_number_10 0 0 v_readAt t1 v_changed_19 v_readSide v_readRights v_readPassed v_readHalves v_readNumber a_board_20 a_before_3 a_typed a_changedSquare_21 a_changedMan_22 a_readBoard else ob (m_X10_pop v_side_6 v_rights_7 v_passed_8 v_halves_9 v_number_10 v_top_2 a_board_11 a_before_3 ) fun (v_side_26, v_rights_27, v_passed_28, v_halves_29, v_number_30, v_top_31, a_board_32) => some (r_14, v_code, v_side_26, v_rights_27, v_passed_28, v_halves_29, v_number_30, v_top_31, 0, v_readAt, t1, v_changed, v_readSide, v_readRights, v_readPassed, v_readHalves, v_readNumber, a_board_32, a_before_3, a_changedSquare, a_changedMan, a_readBoard)
def m_X10_read (v_code : Int32) (v_side : Int32) (v_rights : Int32) (v_passed : Int32) (v_halves : Int32) (v_number : Int32) (v_top : Int32) (v_typedCount : Int32) (v_readAt : Int32) (v_place : Int32) (v_changed : Int32) (v_readSide : Int32) (v_readRights : Int32) (v_readPassed : Int32) (v_readHalves : Int32) (v_readNumber : Int32) (a_board : Nat → Int32) (a_before : Nat → Int32) (a_typed : Nat → Int32) (a_changedSquare : Nat → Int32) (a_changedMan : Nat → Int32) (a_readBoard : Nat → Int32) : Option (Int32 × Int32 × Int32 × Int32 × Int32 × Int32 × Int32 × Int32 × Int32 × Int32 × Int32 × Int32 × Int32 × Int32 × Int32 × Int32 × Int32 × (Nat → Int32) × (Nat → Int32) × (Nat → Int32) × (Nat → Int32) × (Nat → Int32)) := ob (m_X10_isWritten v_typedCount v_readAt v_readSide v_readRights v_readPassed v_readHalves v_readNumber a_typed a_readBoard ) fun (r_35, v_readAt_36, v_readSide_37, v_readRights_38, v_readPassed_39, v_readHalves_40, v_readNumber_41, a_readBoard_42) => if r_35 = 0 then m_X10_read_b23 0 v_side v_rights v_passed v_halves v_number v_top v_typedCount v_readAt_36 v_place v_changed v_readSide_37 v_readRights_38 v_readPassed_39 v_readHalves_40 v_readNumber_41 a_board a_before a_typed a_changedSquare a_changedMan a_readBoard_42 r_35 v_readAt_36 else m_X10_read_b23 0 v_side v_rights v_passed v_halves v_number v_top v_typedCount v_readAt_36 v_place v_changed v_readSide_37 v_readRights_38 v_readPassed_39 v_readHalves_40 v_readNumber_41 a_board a_before a_typed a_changedSquare a_changedMan a_readBoard_42 r_35 (-1)
abbrev rm_X10_read : Room := { frames := 7, cells := 0, slots := 0, locals := 174 }
abbrev wy_X10_read : List Cond := .code yX10_read cX10_read 3 (some .int) :: gT
theorem cv_X10_read {R : Room} {s : State} {args : Array Value} {own : String} {index : Nat} {w0 : Cond} (hts : ∀ w ∈ w0 :: gT, w.before args s = true) (hl : Cond.methodLink own index yX10_read ∈ gT) (hR : 7 + 1 ≤ R.frames ∧ 8 + (3 + 11) + 174 ≤ R.locals) : CallW R s args own RX10 index yX10_read cX10_read 3 (some .int) wy_X10_read rm_X10_read 0 0 0 :=
  cwV 0 hts (gT_call w0 (pre := [.methodLink own index yX10_read, .instanceMethod yX10_read, .selects RX10 yX10_read yX10_read, .initialized RX10]) (gT_lc hl (gT_lc ly_yX10_read (gT_lc lx_yX10_read (gT_l1 li_RX10)))) lc_yX10_read) rfl rfl rfl (by decide +kernel) hR
set_option maxRecDepth 100000 in
set_option maxHeartbeats 4000000 in
theorem c_X10_read (l : Launch) (D : va_G) (h0 : Nat) (q : Nat → Nat) (cI : ClassId) (v_code : Int32) (v_side : Int32) (v_rights : Int32) (v_passed : Int32) (v_halves : Int32) (v_number : Int32) (v_top : Int32) (v_typedCount : Int32) (v_readAt : Int32) (v_place : Int32) (v_writtenCount : Int32) (v_chosenFrom : Int32) (v_chosenTo : Int32) (v_chosenTurn : Int32) (v_changed : Int32) (v_readSide : Int32) (v_readRights : Int32) (v_readPassed : Int32) (v_readHalves : Int32) (v_readNumber : Int32) (a_board : Nat → Int32) (a_before : Nat → Int32) (a_typed : Nat → Int32) (a_written : Nat → Int32) (a_froms : Nat → Int32) (a_tos : Nat → Int32) (a_turns : Nat → Int32) (a_counts : Nat → Int32) (a_changedSquare : Nat → Int32) (a_changedMan : Nat → Int32) (a_readBoard : Nat → Int32) (rv : Int32) (v_code' : Int32) (v_side' : Int32) (v_rights' : Int32) (v_passed' : Int32) (v_halves' : Int32) (v_number' : Int32) (v_top' : Int32) (v_typedCount' : Int32) (v_readAt' : Int32) (v_place' : Int32) (v_changed' : Int32) (v_readSide' : Int32) (v_readRights' : Int32) (v_readPassed' : Int32) (v_readHalves' : Int32) (v_readNumber' : Int32) (a_board' : Nat → Int32) (a_before' : Nat → Int32) (a_changedSquare' : Nat → Int32) (a_changedMan' : Nat → Int32) (a_readBoard' : Nat → Int32) (hm : m_X10_read v_code v_side v_rights v_passed v_halves v_number v_top v_typedCount v_readAt v_place v_changed v_readSide v_readRights v_readPassed v_readHalves v_readNumber a_board a_before a_typed a_changedSquare a_changedMan a_readBoard = some (rv, v_code', v_side', v_rights', v_passed', v_halves', v_number', v_top', v_typedCount', v_readAt', v_place', v_changed', v_readSide', v_readRights', v_readPassed', v_readHalves', v_readNumber', a_board', a_before', a_changedSquare', a_changedMan', a_readBoard')) : kDi l yX10_read wy_X10_read rm_X10_read D [(cI, .int)] rv (wM h0 q cI v_code v_side v_rights v_passed v_halves v_number v_top v_typedCount v_readAt v_place v_writtenCount v_chosenFrom v_chosenTo v_chosenTurn v_changed v_readSide v_readRights v_readPassed v_readHalves v_readNumber a_board a_before a_typed a_written a_froms a_tos a_turns a_counts a_changedSquare a_changedMan a_readBoard) (wM h0 q cI v_code' v_side' v_rights' v_passed' v_halves' v_number' v_top' v_typedCount' v_readAt' v_place' v_writtenCount v_chosenFrom v_chosenTo v_chosenTurn v_changed' v_readSide' v_readRights' v_readPassed' v_readHalves' v_readNumber' a_board' a_before' a_typed a_written a_froms a_tos a_turns a_counts a_changedSquare' a_changedMan' a_readBoard') [.ref h0] := by
  refine kDi.of cX10_read 3 (some .int) (by decide) rfl (Or.inl rfl) (Nat.le_of_ble_eq_true rfl) ?_
  intro p e s m below meth c A Q C hret
  have hin10 : ∀ w ∈ wsX100, w ∈ wy_X10_read := fun w h => List.mem_cons_of_mem _ (inG10 w h)
  have j89 : ∀ (v_code : Int32) (v_side : Int32) (v_rights : Int32) (v_passed : Int32) (v_halves : Int32) (v_number : Int32) (v_top : Int32) (v_typedCount : Int32) (v_readAt : Int32) (v_place : Int32) (v_changed : Int32) (v_readSide : Int32) (v_readRights : Int32) (v_readPassed : Int32) (v_readHalves : Int32) (v_readNumber : Int32) (a_board : Nat → Int32) (a_before : Nat → Int32) (a_changedSquare : Nat → Int32) (a_changedMan : Nat → Int32) (a_readBoard : Nat → Int32), m_X10_read_b89  v_code v_side v_rights v_passed v_halves v_number v_top v_typedCount v_readAt v_place v_changed v_readSide v_readRights v_readPassed v_readHalves v_readNumber a_board a_before a_typed a_changedSquare a_changedMan a_readBoard  = some (rv, v_code', v_side', v_rights', v_passed', v_halves', v_number', v_top', v_typedCount', v_readAt', v_place', v_changed', v_readSide', v_readRights', v_readPassed', v_readHalves', v_readNumber', a_board', a_before', a_changedSquare', a_changedMan', a_readBoard') → kv p l e rm_X10_read s m ([.ref h0] : List Value).toArray below meth c D A 3 0 0 Q (wM h0 q cI v_code v_side v_rights v_passed v_halves v_number v_top v_typedCount v_readAt v_place v_writtenCount v_chosenFrom v_chosenTo v_chosenTurn v_changed v_readSide v_readRights v_readPassed v_readHalves v_readNumber a_board a_before a_typed a_written a_froms a_tos a_turns a_counts a_changedSquare a_changedMan a_readBoard) [] 89 [] := by
    intro v_code v_side v_rights v_passed v_halves v_number v_top v_typedCount v_readAt v_place v_changed v_readSide v_readRights v_readPassed v_readHalves v_readNumber a_board a_before a_changedSquare a_changedMan a_readBoard h
    unfold m_X10_read_b89 at h
    refine kv_iconst C 0 dX10_read_89 (by decide) ?_
    cases h
    exact hret _ _ dX10_read_90 (fun q => by cases q)
  have j23 : ∀ (v_code : Int32) (v_side : Int32) (v_rights : Int32) (v_passed : Int32) (v_halves : Int32) (v_number : Int32) (v_top : Int32) (v_typedCount : Int32) (v_readAt : Int32) (v_place : Int32) (v_changed : Int32) (v_readSide : Int32) (v_readRights : Int32) (v_readPassed : Int32) (v_readHalves : Int32) (v_readNumber : Int32) (a_board : Nat → Int32) (a_before : Nat → Int32) (a_changedSquare : Nat → Int32) (a_changedMan : Nat → Int32) (a_readBoard : Nat → Int32) (x1 : Int32) (t1 : Int32), m_X10_read_b23  v_code v_side v_rights v_passed v_halves v_number v_top v_typedCount v_readAt v_place v_changed v_readSide v_readRights v_readPassed v_readHalves v_readNumber a_board a_before a_typed a_changedSquare a_changedMan a_readBoard x1 t1 = some (rv, v_code', v_side', v_rights', v_passed', v_halves', v_number', v_top', v_typedCount', v_readAt', v_place', v_changed', v_readSide', v_readRights', v_readPassed', v_readHalves', v_readNumber', a_board', a_before', a_changedSquare', a_changedMan', a_readBoard') → kv p l e rm_X10_read s m ([.ref h0] : List Value).toArray below meth c D A 3 0 0 Q (wM h0 q cI v_code v_side v_rights v_passed v_halves v_number v_top v_typedCount v_readAt v_place v_writtenCount v_chosenFrom v_chosenTo v_chosenTurn v_changed v_readSide v_readRights v_readPassed v_readHalves v_readNumber a_board a_before a_typed a_written a_froms a_tos a_turns a_counts a_changedSquare a_changedMan a_readBoard) [(0, .ref h0), (1, .int x1)] 23 [.int t1, .ref h0] := by
    intro v_code v_side v_rights v_passed v_halves v_number v_top v_typedCount v_readAt v_place v_changed v_readSide v_readRights v_readPassed v_readHalves v_readNumber a_board a_before a_changedSquare a_changedMan a_readBoard x1 t1 h
    unfold m_X10_read_b23 at h
    refine kv_put C (Cn := RX10) (T := TX10) (N := 31) (ty := .int) (ws1 := (wM h0 q cI v_code v_side v_rights v_passed v_halves v_number v_top v_typedCount v_readAt t1 v_writtenCount v_chosenFrom v_chosenTo v_chosenTurn v_changed v_readSide v_readRights v_readPassed v_readHalves v_readNumber a_board a_before a_typed a_written a_froms a_tos a_turns a_counts a_changedSquare a_changedMan a_readBoard)) 0 12 hin10 tyX10 tyX10_ok nmX10 rfl rfl (by decide) (C.ts _ (List.mem_cons_of_mem _ lf_RX10_24)) rfl rfl (by decide +kernel) rfl rfl (Nat.le_of_ble_eq_true rfl) rfl dX10_read_23 ?_
    refine kv_aload_n C 0 dX10_read_26 rfl rfl ?_
    refine kv_iconst C 0 dX10_read_27 (by decide) ?_
    refine kv_put C (Cn := RX10) (T := TX10) (N := 31) (ty := .int) (ws1 := (wM h0 q cI v_code v_side v_rights v_passed v_halves v_number v_top 0 v_readAt t1 v_writtenCount v_chosenFrom v_chosenTo v_chosenTurn v_changed v_readSide v_readRights v_readPassed v_readHalves v_readNumber a_board a_before a_typed a_written a_froms a_tos a_turns a_counts a_changedSquare a_changedMan a_readBoard)) 0 10 hin10 tyX10 tyX10_ok nmX10 rfl rfl (by decide) (C.ts _ (List.mem_cons_of_mem _ lf_RX10_208)) rfl rfl (by decide +kernel) rfl rfl (Nat.le_of_ble_eq_true rfl) rfl dX10_read_28 ?_
    refine kv_iload_n C 1 dX10_read_31 rfl rfl ?_
    refine kv_if_ne C 37 dX10_read_32 (by decide) (fun c_1 => ?_) (fun c_1 => ?_)
    · have h := oi_f h c_1
      refine kv_aload_n C 0 dX10_read_37 rfl rfl ?_
      obtain ⟨⟨v_top_2, a_before_3⟩, hm_4, h⟩ := ob_e h
      replace h : _ = _ := h
      refine kv_callWv C [] 0 (c_X10_push l D h0 q cI v_code v_side v_rights v_passed v_halves v_number v_top 0 v_readAt t1 v_writtenCount v_chosenFrom v_chosenTo v_chosenTurn v_changed v_readSide v_readRights v_readPassed v_readHalves v_readNumber a_board a_before a_typed a_written a_froms a_tos a_turns a_counts a_changedSquare a_changedMan a_readBoard  v_top_2 a_before_3 hm_4) (cv_X10_push C.ts lm_RX10_129 ⟨Nat.le_of_ble_eq_true rfl, Nat.le_of_ble_eq_true rfl⟩) rfl rfl rfl rfl (Nat.le_of_ble_eq_true rfl) dX10_read_38 ⟨Nat.zero_le _, Nat.zero_le _⟩ ?_
      refine kv_aload_n C 0 dX10_read_41 rfl rfl ?_
      obtain ⟨⟨v_side_6, v_rights_7, v_passed_8, v_halves_9, v_number_10, a_board_11⟩, hm_12, h⟩ := ob_e h
      replace h : _ = _ := h
      refine kv_callWv C [] 0 (c_X10_takeRead l D h0 q cI v_code v_side v_rights v_passed v_halves v_number v_top_2 0 v_readAt t1 v_writtenCount v_chosenFrom v_chosenTo v_chosenTurn v_changed v_readSide v_readRights v_readPassed v_readHalves v_readNumber a_board a_before_3 a_typed a_written a_froms a_tos a_turns a_counts a_changedSquare a_changedMan a_readBoard  v_side_6 v_rights_7 v_passed_8 v_halves_9 v_number_10 a_board_11 hm_12) (cv_X10_takeRead C.ts lm_RX10_275 ⟨Nat.le_of_ble_eq_true rfl, Nat.le_of_ble_eq_true rfl⟩) rfl rfl rfl rfl (Nat.le_of_ble_eq_true rfl) dX10_read_42 ⟨Nat.zero_le _, Nat.zero_le _⟩ ?_
      refine kv_aload_n C 0 dX10_read_45 rfl rfl ?_
      obtain ⟨r_14, hm_15, h⟩ := ob_e h
      refine kv_callWi C [] 0 (c_X10_faultNow l D h0 q cI v_code v_side_6 v_rights_7 v_passed_8 v_halves_9 v_number_10 v_top_2 0 v_readAt t1 v_writtenCount v_chosenFrom v_chosenTo v_chosenTurn v_changed v_readSide v_readRights v_readPassed v_readHalves v_readNumber a_board_11 a_before_3 a_typed a_written a_froms a_tos a_turns a_counts a_changedSquare a_changedMan a_readBoard  r_14 hm_15) (cv_X10_faultNow C.ts lm_RX10_278 ⟨Nat.le_of_ble_eq_true rfl, Nat.le_of_ble_eq_true rfl⟩) rfl rfl rfl rfl (Nat.le_of_ble_eq_true rfl) dX10_read_46 ⟨Nat.zero_le _, Nat.zero_le _⟩ ?_
      refine kv_istore_n C (lv2 := [(0, .ref h0), (2, .int r_14)]) [1, 0] dX10_read_49 rfl (by decide) rfl rfl ?_
      refine kv_iload_n C 1 dX10_read_50 rfl rfl ?_
      refine kv_if_le C 60 dX10_read_51 (by decide) (fun c_16 => ?_) (fun c_16 => ?_)
      · have h := oi_t h c_16
        refine kv_aload_n C 0 dX10_read_60 rfl rfl ?_
        refine kv_iconst C 0 dX10_read_61 (by decide) ?_
        refine kv_put C (Cn := RX10) (T := TX10) (N := 31) (ty := .int) (ws1 := (wM h0 q cI v_code v_side_6 v_rights_7 v_passed_8 v_halves_9 v_number_10 0 0 v_readAt t1 v_writtenCount v_chosenFrom v_chosenTo v_chosenTurn v_changed v_readSide v_readRights v_readPassed v_readHalves v_readNumber a_board_11 a_before_3 a_typed a_written a_froms a_tos a_turns a_counts a_changedSquare a_changedMan a_readBoard)) 0 8 hin10 tyX10 tyX10_ok nmX10 rfl rfl (by decide) (C.ts _ (List.mem_cons_of_mem _ lf_RX10_116)) rfl rfl (by decide +kernel) rfl rfl (Nat.le_of_ble_eq_true rfl) rfl dX10_read_62 ?_
        refine kv_aload_n C 0 dX10_read_65 rfl rfl ?_
        refine kv_get C (Cn := RX10) (T := TX10) (N := 31) 0 4 hin10 rfl rfl (by decide) (C.ts _ (List.mem_cons_of_mem _ lf_RX10_13)) rfl rfl dX10_read_66 ?_
        refine kv_iconst C (-1) dX10_read_69 (by decide) ?_
        refine kv_icmp_eq C 89 dX10_read_70 (by decide) (fun c_17 => ?_) (fun c_17 => ?_)
        · have h := oi_t h c_17
          exact kv_lv [] (lv2 := []) rfl (j89 v_code v_side_6 v_rights_7 v_passed_8 v_halves_9 v_number_10 0 0 v_readAt t1 v_changed v_readSide v_readRights v_readPassed v_readHalves v_readNumber a_board_11 a_before_3 a_changedSquare a_changedMan a_readBoard h)
        · have h := oi_f h c_17
          refine kv_aload_n C 0 dX10_read_73 rfl rfl ?_
          refine kv_aload_n C 0 dX10_read_74 rfl rfl ?_
          refine kv_get C (Cn := RX10) (T := TX10) (N := 31) 0 4 hin10 rfl rfl (by decide) (C.ts _ (List.mem_cons_of_mem _ lf_RX10_13)) rfl rfl dX10_read_75 ?_
          obtain ⟨⟨r_18, v_changed_19, a_board_20, a_changedSquare_21, a_changedMan_22⟩, hm_23, h⟩ := ob_e h
          replace h : _ = _ := h
          refine kv_callWi C [.int v_passed_8] 0 (c_X10_isTakenAt l D h0 q cI v_code v_side_6 v_rights_7 v_passed_8 v_halves_9 v_number_10 0 0 v_readAt t1 v_writtenCount v_chosenFrom v_chosenTo v_chosenTurn v_changed v_readSide v_readRights v_readPassed v_readHalves v_readNumber a_board_11 a_before_3 a_typed a_written a_froms a_tos a_turns a_counts a_changedSquare a_changedMan a_readBoard v_passed_8 r_18 v_changed_19 a_board_20 a_changedSquare_21 a_changedMan_22 hm_23) (cv_X10_isTakenAt C.ts lm_RX10_135 ⟨Nat.le_of_ble_eq_true rfl, Nat.le_of_ble_eq_true rfl⟩) rfl rfl rfl rfl (Nat.le_of_ble_eq_true rfl) dX10_read_78 ⟨Nat.zero_le _, Nat.zero_le _⟩ ?_
          refine kv_if_ne C 89 dX10_read_81 (by decide) (fun c_25 => ?_) (fun c_25 => ?_)
          · have h := oi_f h c_25
            exact kv_lv [] (lv2 := []) rfl (j89 v_code v_side_6 v_rights_7 v_passed_8 v_halves_9 v_number_10 0 0 v_readAt t1 v_changed_19 v_readSide v_readRights v_readPassed v_readHalves v_readNumber a_board_20 a_before_3 a_changedSquare_21 a_changedMan_22 a_readBoard h)
          · have h := oi_t h c_25
            refine kv_aload_n C 0 dX10_read_84 rfl rfl ?_
            refine kv_iconst C (-1) dX10_read_85 (by decide) ?_
            refine kv_put C (Cn := RX10) (T := TX10) (N := 31) (ty := .int) (ws1 := (wM h0 q cI v_code v_side_6 v_rights_7 (-1) v_halves_9 v_number_10 0 0 v_readAt t1 v_writtenCount v_chosenFrom v_chosenTo v_chosenTurn v_changed_19 v_readSide v_readRights v_readPassed v_readHalves v_readNumber a_board_20 a_before_3 a_typed a_written a_froms a_tos a_turns a_counts a_changedSquare_21 a_changedMan_22 a_readBoard)) 0 4 hin10 tyX10 tyX10_ok nmX10 rfl rfl (by decide) (C.ts _ (List.mem_cons_of_mem _ lf_RX10_13)) rfl rfl (by decide +kernel) rfl rfl (Nat.le_of_ble_eq_true rfl) rfl dX10_read_86 ?_
            exact kv_lv [] (lv2 := []) rfl (j89 v_code v_side_6 v_rights_7 (-1) v_halves_9 v_number_10 0 0 v_readAt t1 v_changed_19 v_readSide v_readRights v_readPassed v_readHalves v_readNumber a_board_20 a_before_3 a_changedSquare_21 a_changedMan_22 a_readBoard h)
      · have h := oi_f h c_16
        refine kv_aload_n C 0 dX10_read_54 rfl rfl ?_
        obtain ⟨⟨v_side_26, v_rights_27, v_passed_28, v_halves_29, v_number_30, v_top_31, a_board_32⟩, hm_33, h⟩ := ob_e h
        replace h : _ = _ := h
        refine kv_callWv C [] 0 (c_X10_pop l D h0 q cI v_code v_side_6 v_rights_7 v_passed_8 v_halves_9 v_number_10 v_top_2 0 v_readAt t1 v_writtenCount v_chosenFrom v_chosenTo v_chosenTurn v_changed v_readSide v_readRights v_readPassed v_readHalves v_readNumber a_board_11 a_before_3 a_typed a_written a_froms a_tos a_turns a_counts a_changedSquare a_changedMan a_readBoard  v_side_26 v_rights_27 v_passed_28 v_halves_29 v_number_30 v_top_31 a_board_32 hm_33) (cv_X10_pop C.ts lm_RX10_186 ⟨Nat.le_of_ble_eq_true rfl, Nat.le_of_ble_eq_true rfl⟩) rfl rfl rfl rfl (Nat.le_of_ble_eq_true rfl) dX10_read_55 ⟨Nat.zero_le _, Nat.zero_le _⟩ ?_
        refine kv_iload_n C 1 dX10_read_58 rfl rfl ?_
        cases h
        exact hret _ _ dX10_read_59 (fun q => by cases q)
    · have h := oi_t h c_1
      refine kv_iconst C 1 dX10_read_35 (by decide) ?_
      cases h
      exact hret _ _ dX10_read_36 (fun q => by cases q)
  unfold m_X10_read at hm
  have h := hm
  refine kv_lv [0] (lv2 := [(0, .ref h0)]) rfl ?_
  refine kv_aload_n C 0 dX10_read_0 rfl rfl ?_
  refine kv_iconst C 0 dX10_read_1 (by decide) ?_
  refine kv_put C (Cn := RX10) (T := TX10) (N := 31) (ty := .int) (ws1 := (wM h0 q cI 0 v_side v_rights v_passed v_halves v_number v_top v_typedCount v_readAt v_place v_writtenCount v_chosenFrom v_chosenTo v_chosenTurn v_changed v_readSide v_readRights v_readPassed v_readHalves v_readNumber a_board a_before a_typed a_written a_froms a_tos a_turns a_counts a_changedSquare a_changedMan a_readBoard)) 0 0 hin10 tyX10 tyX10_ok nmX10 rfl rfl (by decide) (C.ts _ (List.mem_cons_of_mem _ lf_RX10_66)) rfl rfl (by decide +kernel) rfl rfl (Nat.le_of_ble_eq_true rfl) rfl dX10_read_2 ?_
  refine kv_aload_n C 0 dX10_read_5 rfl rfl ?_
  obtain ⟨⟨r_35, v_readAt_36, v_readSide_37, v_readRights_38, v_readPassed_39, v_readHalves_40, v_readNumber_41, a_readBoard_42⟩, hm_43, h⟩ := ob_e h
  replace h : _ = _ := h
  refine kv_callWi C [] 0 (c_X10_isWritten l D h0 q cI 0 v_side v_rights v_passed v_halves v_number v_top v_typedCount v_readAt v_place v_writtenCount v_chosenFrom v_chosenTo v_chosenTurn v_changed v_readSide v_readRights v_readPassed v_readHalves v_readNumber a_board a_before a_typed a_written a_froms a_tos a_turns a_counts a_changedSquare a_changedMan a_readBoard  r_35 v_readAt_36 v_readSide_37 v_readRights_38 v_readPassed_39 v_readHalves_40 v_readNumber_41 a_readBoard_42 hm_43) (cv_X10_isWritten C.ts lm_RX10_272 ⟨Nat.le_of_ble_eq_true rfl, Nat.le_of_ble_eq_true rfl⟩) rfl rfl rfl rfl (Nat.le_of_ble_eq_true rfl) dX10_read_6 ⟨Nat.zero_le _, Nat.zero_le _⟩ ?_
  refine kv_istore_n C (lv2 := [(0, .ref h0), (1, .int r_35)]) [1, 0] dX10_read_9 rfl (by decide) rfl rfl ?_
  refine kv_aload_n C 0 dX10_read_10 rfl rfl ?_
  refine kv_iload_n C 1 dX10_read_11 rfl rfl ?_
  refine kv_if_eq C 19 dX10_read_12 (by decide) (fun c_45 => ?_) (fun c_45 => ?_)
  · have h := oi_t h c_45
    refine kv_aload_n C 0 dX10_read_19 rfl rfl ?_
    refine kv_get C (Cn := RX10) (T := TX10) (N := 31) 0 11 hin10 rfl rfl (by decide) (C.ts _ (List.mem_cons_of_mem _ lf_RX10_211)) rfl rfl dX10_read_20 ?_
    exact kv_lv [0, 1] (lv2 := [(0, .ref h0), (1, .int r_35)]) rfl (j23 0 v_side v_rights v_passed v_halves v_number v_top v_typedCount v_readAt_36 v_place v_changed v_readSide_37 v_readRights_38 v_readPassed_39 v_readHalves_40 v_readNumber_41 a_board a_before a_changedSquare a_changedMan a_readBoard_42 r_35 v_readAt_36 h)
  · have h := oi_f h c_45
    refine kv_iconst C (-1) dX10_read_15 (by decide) ?_
    refine kv_goto C 23 dX10_read_16 (by decide) ?_
    exact kv_lv [0, 1] (lv2 := [(0, .ref h0), (1, .int r_35)]) rfl (j23 0 v_side v_rights v_passed v_halves v_number v_top v_typedCount v_readAt_36 v_place v_changed v_readSide_37 v_readRights_38 v_readPassed_39 v_readHalves_40 v_readNumber_41 a_board a_before a_changedSquare a_changedMan a_readBoard_42 r_35 (-1) h)
def m_X10_place (v_code : Int32) (v_place : Int32) : Option (Int32 × Int32) := some (v_place, 0)
abbrev rm_X10_place : Room := { frames := 0, cells := 0, slots := 0, locals := 0 }
abbrev wy_X10_place : List Cond := .code yX10_place cX10_place 1 (some .int) :: gT
theorem cv_X10_place {R : Room} {s : State} {args : Array Value} {own : String} {index : Nat} {w0 : Cond} (hts : ∀ w ∈ w0 :: gT, w.before args s = true) (hl : Cond.methodLink own index yX10_place ∈ gT) (hR : 0 + 1 ≤ R.frames ∧ 8 + (1 + 11) + 0 ≤ R.locals) : CallW R s args own RX10 index yX10_place cX10_place 1 (some .int) wy_X10_place rm_X10_place 0 0 0 :=
  cwV 0 hts (gT_call w0 (pre := [.methodLink own index yX10_place, .instanceMethod yX10_place, .selects RX10 yX10_place yX10_place, .initialized RX10]) (gT_lc hl (gT_lc ly_yX10_place (gT_lc lx_yX10_place (gT_l1 li_RX10)))) lc_yX10_place) rfl rfl rfl (by decide +kernel) hR
set_option maxRecDepth 100000 in
set_option maxHeartbeats 4000000 in
theorem c_X10_place (l : Launch) (D : va_G) (h0 : Nat) (q : Nat → Nat) (cI : ClassId) (v_code : Int32) (v_side : Int32) (v_rights : Int32) (v_passed : Int32) (v_halves : Int32) (v_number : Int32) (v_top : Int32) (v_typedCount : Int32) (v_readAt : Int32) (v_place : Int32) (v_writtenCount : Int32) (v_chosenFrom : Int32) (v_chosenTo : Int32) (v_chosenTurn : Int32) (v_changed : Int32) (v_readSide : Int32) (v_readRights : Int32) (v_readPassed : Int32) (v_readHalves : Int32) (v_readNumber : Int32) (a_board : Nat → Int32) (a_before : Nat → Int32) (a_typed : Nat → Int32) (a_written : Nat → Int32) (a_froms : Nat → Int32) (a_tos : Nat → Int32) (a_turns : Nat → Int32) (a_counts : Nat → Int32) (a_changedSquare : Nat → Int32) (a_changedMan : Nat → Int32) (a_readBoard : Nat → Int32) (rv : Int32) (v_code' : Int32) (hm : m_X10_place v_code v_place = some (rv, v_code')) : kDi l yX10_place wy_X10_place rm_X10_place D [(cI, .int)] rv (wM h0 q cI v_code v_side v_rights v_passed v_halves v_number v_top v_typedCount v_readAt v_place v_writtenCount v_chosenFrom v_chosenTo v_chosenTurn v_changed v_readSide v_readRights v_readPassed v_readHalves v_readNumber a_board a_before a_typed a_written a_froms a_tos a_turns a_counts a_changedSquare a_changedMan a_readBoard) (wM h0 q cI v_code' v_side v_rights v_passed v_halves v_number v_top v_typedCount v_readAt v_place v_writtenCount v_chosenFrom v_chosenTo v_chosenTurn v_changed v_readSide v_readRights v_readPassed v_readHalves v_readNumber a_board a_before a_typed a_written a_froms a_tos a_turns a_counts a_changedSquare a_changedMan a_readBoard) [.ref h0] := by
  refine kDi.of cX10_place 1 (some .int) (by decide) rfl (Or.inl rfl) (Nat.le_of_ble_eq_true rfl) ?_
  intro p e s m below meth c A Q C hret
  have hin10 : ∀ w ∈ wsX100, w ∈ wy_X10_place := fun w h => List.mem_cons_of_mem _ (inG10 w h)
  unfold m_X10_place at hm
  have h := hm
  refine kv_lv [0] (lv2 := [(0, .ref h0)]) rfl ?_
  refine kv_aload_n C 0 dX10_place_0 rfl rfl ?_
  refine kv_iconst C 0 dX10_place_1 (by decide) ?_
  refine kv_put C (Cn := RX10) (T := TX10) (N := 31) (ty := .int) (ws1 := (wM h0 q cI 0 v_side v_rights v_passed v_halves v_number v_top v_typedCount v_readAt v_place v_writtenCount v_chosenFrom v_chosenTo v_chosenTurn v_changed v_readSide v_readRights v_readPassed v_readHalves v_readNumber a_board a_before a_typed a_written a_froms a_tos a_turns a_counts a_changedSquare a_changedMan a_readBoard)) 0 0 hin10 tyX10 tyX10_ok nmX10 rfl rfl (by decide) (C.ts _ (List.mem_cons_of_mem _ lf_RX10_66)) rfl rfl (by decide +kernel) rfl rfl (Nat.le_of_ble_eq_true rfl) rfl dX10_place_2 ?_
  refine kv_aload_n C 0 dX10_place_5 rfl rfl ?_
  refine kv_get C (Cn := RX10) (T := TX10) (N := 31) 0 12 hin10 rfl rfl (by decide) (C.ts _ (List.mem_cons_of_mem _ lf_RX10_24)) rfl rfl dX10_place_6 ?_
  cases h
  exact hret _ _ dX10_place_9 (fun q => by cases q)
def m_X10_put (v_writtenCount : Int32) (a_written : Nat → Int32) (p0 : Int32) : Option (Int32 × (Nat → Int32)) := oin (v_writtenCount) 128 (ol (upd a_written (v_writtenCount.toNatClampNeg) p0) fun a_written_2 => ol (v_writtenCount + 1) fun y_3 => some (y_3, a_written_2))
abbrev rm_X10_put : Room := { frames := 0, cells := 0, slots := 0, locals := 0 }
abbrev wy_X10_put : List Cond := .code yX10_put cX10_put 2 none :: gT
theorem cv_X10_put {R : Room} {s : State} {args : Array Value} {own : String} {index : Nat} {w0 : Cond} (hts : ∀ w ∈ w0 :: gT, w.before args s = true) (hl : Cond.methodLink own index yX10_put ∈ gT) (hR : 0 + 1 ≤ R.frames ∧ 8 + (2 + 11) + 0 ≤ R.locals) : CallW R s args own RX10 index yX10_put cX10_put 2 none wy_X10_put rm_X10_put 0 0 1 :=
  cwV 1 hts (gT_call w0 (pre := [.methodLink own index yX10_put, .instanceMethod yX10_put, .selects RX10 yX10_put yX10_put, .initialized RX10]) (gT_lc hl (gT_lc ly_yX10_put (gT_lc lx_yX10_put (gT_l1 li_RX10)))) lc_yX10_put) rfl rfl rfl (by decide +kernel) hR
set_option maxRecDepth 100000 in
set_option maxHeartbeats 4000000 in
theorem c_X10_put (l : Launch) (D : va_G) (h0 : Nat) (q : Nat → Nat) (cI : ClassId) (v_code : Int32) (v_side : Int32) (v_rights : Int32) (v_passed : Int32) (v_halves : Int32) (v_number : Int32) (v_top : Int32) (v_typedCount : Int32) (v_readAt : Int32) (v_place : Int32) (v_writtenCount : Int32) (v_chosenFrom : Int32) (v_chosenTo : Int32) (v_chosenTurn : Int32) (v_changed : Int32) (v_readSide : Int32) (v_readRights : Int32) (v_readPassed : Int32) (v_readHalves : Int32) (v_readNumber : Int32) (a_board : Nat → Int32) (a_before : Nat → Int32) (a_typed : Nat → Int32) (a_written : Nat → Int32) (a_froms : Nat → Int32) (a_tos : Nat → Int32) (a_turns : Nat → Int32) (a_counts : Nat → Int32) (a_changedSquare : Nat → Int32) (a_changedMan : Nat → Int32) (a_readBoard : Nat → Int32) (p0 : Int32) (v_writtenCount' : Int32) (a_written' : Nat → Int32) (hm : m_X10_put v_writtenCount a_written p0 = some (v_writtenCount', a_written')) : kDv l yX10_put wy_X10_put rm_X10_put D [(cI, .int)] (wM h0 q cI v_code v_side v_rights v_passed v_halves v_number v_top v_typedCount v_readAt v_place v_writtenCount v_chosenFrom v_chosenTo v_chosenTurn v_changed v_readSide v_readRights v_readPassed v_readHalves v_readNumber a_board a_before a_typed a_written a_froms a_tos a_turns a_counts a_changedSquare a_changedMan a_readBoard) (wM h0 q cI v_code v_side v_rights v_passed v_halves v_number v_top v_typedCount v_readAt v_place v_writtenCount' v_chosenFrom v_chosenTo v_chosenTurn v_changed v_readSide v_readRights v_readPassed v_readHalves v_readNumber a_board a_before a_typed a_written' a_froms a_tos a_turns a_counts a_changedSquare a_changedMan a_readBoard) [.ref h0, .int p0] := by
  refine kDv.of cX10_put 2 none (by decide) rfl rfl (Nat.le_of_ble_eq_true rfl) ?_
  intro p e s m below meth c A Q C hret
  have hin10 : ∀ w ∈ wsX100, w ∈ wy_X10_put := fun w h => List.mem_cons_of_mem _ (inG10 w h)
  unfold m_X10_put at hm
  have h := hm
  refine kv_lv [0, 1] (lv2 := [(0, .ref h0), (1, .int p0)]) rfl ?_
  refine kv_aload_n C 0 dX10_put_0 rfl rfl ?_
  refine kv_get C (Cn := RX10) (T := TX10) (N := 31) 0 13 hin10 rfl rfl (by decide) (C.ts _ (List.mem_cons_of_mem _ lf_RX10_27)) rfl rfl dX10_put_1 ?_
  refine kv_aload_n C 0 dX10_put_4 rfl rfl ?_
  refine kv_get C (Cn := RX10) (T := TX10) (N := 31) 0 14 hin10 rfl rfl (by decide) (C.ts _ (List.mem_cons_of_mem _ lf_RX10_281)) rfl rfl dX10_put_5 ?_
  refine kv_iload_n C 1 dX10_put_8 rfl rfl ?_
  obtain ⟨g_1, h⟩ := oin_e h
  obtain ⟨a_written_2, ea_written_2, h⟩ := ol_e h
  refine kv_iast2 C (ws1 := (wM h0 q cI v_code v_side v_rights v_passed v_halves v_number v_top v_typedCount v_readAt v_place v_writtenCount v_chosenFrom v_chosenTo v_chosenTurn v_changed v_readSide v_readRights v_readPassed v_readHalves v_readNumber a_board a_before a_typed a_written_2 a_froms a_tos a_turns a_counts a_changedSquare a_changedMan a_readBoard)) 4 0 rfl rfl g_1 ea_written_2 rfl dX10_put_9 ?_
  refine kv_aload_n C 0 dX10_put_10 rfl rfl ?_
  refine kv_dup C dX10_put_11 rfl ?_
  refine kv_get C (Cn := RX10) (T := TX10) (N := 31) 0 14 hin10 rfl rfl (by decide) (C.ts _ (List.mem_cons_of_mem _ lf_RX10_281)) rfl rfl dX10_put_12 ?_
  refine kv_iconst C 1 dX10_put_15 (by decide) ?_
  refine kv_iadd C dX10_put_16 ?_
  obtain ⟨y_3, ey_3, h⟩ := ol_e h
  refine kv_top ey_3 ?_
  refine kv_put C (Cn := RX10) (T := TX10) (N := 31) (ty := .int) (ws1 := (wM h0 q cI v_code v_side v_rights v_passed v_halves v_number v_top v_typedCount v_readAt v_place y_3 v_chosenFrom v_chosenTo v_chosenTurn v_changed v_readSide v_readRights v_readPassed v_readHalves v_readNumber a_board a_before a_typed a_written_2 a_froms a_tos a_turns a_counts a_changedSquare a_changedMan a_readBoard)) 0 14 hin10 tyX10 tyX10_ok nmX10 rfl rfl (by decide) (C.ts _ (List.mem_cons_of_mem _ lf_RX10_281)) rfl rfl (by decide +kernel) rfl rfl (Nat.le_of_ble_eq_true rfl) rfl dX10_put_17 ?_
  cases h
  exact hret _ _ dX10_put_20
def m_X10_putNumber_b18 (k18 : Int32 → (Nat → Int32) → Int32 → Int32 → Option (Int32 × (Nat → Int32))) (v_writtenCount : Int32) (a_written : Nat → Int32) (x1 : Int32) (x2 : Int32) : Option (Int32 × (Nat → Int32)) := if x2 ≤ 0 then some (v_writtenCount, a_written) else odz (x2) (ol (x1 / x2) fun y_3 => ob (m_X10_put v_writtenCount a_written (48 + (y_3 - y_3 / 10 * 10))) fun (v_writtenCount_4, a_written_5) => ol (x2 / 10) fun x2_8 => k18 v_writtenCount_4 a_written_5 x1 x2_8)
def m_X10_putNumber_l18 (n : Nat) : Int32 → (Nat → Int32) → Int32 → Int32 → Option (Int32 × (Nat → Int32)) := fz (fun _ _ _ _ => none) (fun k18 v_writtenCount a_written x1 x2 => m_X10_putNumber_b18 k18 v_writtenCount a_written x1 x2) n
def m_X10_putNumber_b2 (k2 : Int32 → (Nat → Int32) → Int32 → Int32 → Option (Int32 × (Nat → Int32))) (v_writtenCount : Int32) (a_written : Nat → Int32) (x1 : Int32) (x2 : Int32) : Option (Int32 × (Nat → Int32)) := odz (x2) (if (x1 / x2) ≤ 9 then m_X10_putNumber_l18 kF v_writtenCount a_written x1 x2 else ol (10 * x2) fun x2_11 => k2 v_writtenCount a_written x1 x2_11)
def m_X10_putNumber_l2 (n : Nat) : Int32 → (Nat → Int32) → Int32 → Int32 → Option (Int32 × (Nat → Int32)) := fz (fun _ _ _ _ => none) (fun k2 v_writtenCount a_written x1 x2 => m_X10_putNumber_b2 k2 v_writtenCount a_written x1 x2) n
def m_X10_putNumber (v_writtenCount : Int32) (a_written : Nat → Int32) (p0 : Int32) : Option (Int32 × (Nat → Int32)) := m_X10_putNumber_l2 kF v_writtenCount a_written p0 1
abbrev rm_X10_putNumber : Room := { frames := 1, cells := 0, slots := 0, locals := 21 }
abbrev wy_X10_putNumber : List Cond := .code yX10_putNumber cX10_putNumber 3 none :: gT
theorem cv_X10_putNumber {R : Room} {s : State} {args : Array Value} {own : String} {index : Nat} {w0 : Cond} (hts : ∀ w ∈ w0 :: gT, w.before args s = true) (hl : Cond.methodLink own index yX10_putNumber ∈ gT) (hR : 1 + 1 ≤ R.frames ∧ 8 + (3 + 11) + 21 ≤ R.locals) : CallW R s args own RX10 index yX10_putNumber cX10_putNumber 3 none wy_X10_putNumber rm_X10_putNumber 0 0 1 :=
  cwV 1 hts (gT_call w0 (pre := [.methodLink own index yX10_putNumber, .instanceMethod yX10_putNumber, .selects RX10 yX10_putNumber yX10_putNumber, .initialized RX10]) (gT_lc hl (gT_lc ly_yX10_putNumber (gT_lc lx_yX10_putNumber (gT_l1 li_RX10)))) lc_yX10_putNumber) rfl rfl rfl (by decide +kernel) hR
set_option maxRecDepth 100000 in
set_option maxHeartbeats 4000000 in
theorem c_X10_putNumber (l : Launch) (D : va_G) (h0 : Nat) (q : Nat → Nat) (cI : ClassId) (v_code : Int32) (v_side : Int32) (v_rights : Int32) (v_passed : Int32) (v_halves : Int32) (v_number : Int32) (v_top : Int32) (v_typedCount : Int32) (v_readAt : Int32) (v_place : Int32) (v_writtenCount : Int32) (v_chosenFrom : Int32) (v_chosenTo : Int32) (v_chosenTurn : Int32) (v_changed : Int32) (v_readSide : Int32) (v_readRights : Int32) (v_readPassed : Int32) (v_readHalves : Int32) (v_readNumber : Int32) (a_board : Nat → Int32) (a_before : Nat → Int32) (a_typed : Nat → Int32) (a_written : Nat → Int32) (a_froms : Nat → Int32) (a_tos : Nat → Int32) (a_turns : Nat → Int32) (a_counts : Nat → Int32) (a_changedSquare : Nat → Int32) (a_changedMan : Nat → Int32) (a_readBoard : Nat → Int32) (p0 : Int32) (v_writtenCount' : Int32) (a_written' : Nat → Int32) (hm : m_X10_putNumber v_writtenCount a_written p0 = some (v_writtenCount', a_written')) : kDv l yX10_putNumber wy_X10_putNumber rm_X10_putNumber D [(cI, .int)] (wM h0 q cI v_code v_side v_rights v_passed v_halves v_number v_top v_typedCount v_readAt v_place v_writtenCount v_chosenFrom v_chosenTo v_chosenTurn v_changed v_readSide v_readRights v_readPassed v_readHalves v_readNumber a_board a_before a_typed a_written a_froms a_tos a_turns a_counts a_changedSquare a_changedMan a_readBoard) (wM h0 q cI v_code v_side v_rights v_passed v_halves v_number v_top v_typedCount v_readAt v_place v_writtenCount' v_chosenFrom v_chosenTo v_chosenTurn v_changed v_readSide v_readRights v_readPassed v_readHalves v_readNumber a_board a_before a_typed a_written' a_froms a_tos a_turns a_counts a_changedSquare a_changedMan a_readBoard) [.ref h0, .int p0] := by
  refine kDv.of cX10_putNumber 3 none (by decide) rfl rfl (Nat.le_of_ble_eq_true rfl) ?_
  intro p e s m below meth c A Q C hret
  have hin10 : ∀ w ∈ wsX100, w ∈ wy_X10_putNumber := fun w h => List.mem_cons_of_mem _ (inG10 w h)
  have l18 : ∀ (n18 : Nat) (v_writtenCount : Int32) (a_written : Nat → Int32) (x1 : Int32) (x2 : Int32), m_X10_putNumber_l18   n18 v_writtenCount a_written x1 x2 = some (v_writtenCount', a_written') → kv p l e rm_X10_putNumber s m ([.ref h0, .int p0] : List Value).toArray below meth c D A 3 0 0 Q (wM h0 q cI v_code v_side v_rights v_passed v_halves v_number v_top v_typedCount v_readAt v_place v_writtenCount v_chosenFrom v_chosenTo v_chosenTurn v_changed v_readSide v_readRights v_readPassed v_readHalves v_readNumber a_board a_before a_typed a_written a_froms a_tos a_turns a_counts a_changedSquare a_changedMan a_readBoard) [(0, .ref h0), (1, .int x1), (2, .int x2)] 18 [] := by
    intro n18
    induction n18 with
    | zero =>
      intro v_writtenCount a_written x1 x2 h
      exact kv_no h
    | succ n18 ih18 =>
      intro v_writtenCount a_written x1 x2 h
      replace h : m_X10_putNumber_b18  (m_X10_putNumber_l18   n18) v_writtenCount a_written x1 x2 = some (v_writtenCount', a_written') := h
      unfold m_X10_putNumber_b18 at h
      refine kv_iload_n C 2 dX10_putNumber_18 rfl rfl ?_
      refine kv_if_le C 43 dX10_putNumber_19 (by decide) (fun c_1 => ?_) (fun c_1 => ?_)
      · have h := oi_t h c_1
        cases h
        exact hret _ _ dX10_putNumber_43
      · have h := oi_f h c_1
        refine kv_aload_n C 0 dX10_putNumber_22 rfl rfl ?_
        refine kv_bipush C 48 dX10_putNumber_23 (by decide) ?_
        refine kv_iload_n C 1 dX10_putNumber_25 rfl rfl ?_
        refine kv_iload_n C 2 dX10_putNumber_26 rfl rfl ?_
        obtain ⟨g_2, h⟩ := odz_e h
        refine kv_idiv C dX10_putNumber_27 g_2 ?_
        refine kv_bipush C 10 dX10_putNumber_28 (by decide) ?_
        obtain ⟨y_3, ey_3, h⟩ := ol_e h
        refine kv_top2 ey_3 ?_
        refine kv_irem C dX10_putNumber_30 (by decide) ?_
        refine kv_iadd C dX10_putNumber_31 ?_
        obtain ⟨⟨v_writtenCount_4, a_written_5⟩, hm_6, h⟩ := ob_e h
        replace h : _ = _ := h
        refine kv_callWv C [.int (48 + (y_3 - y_3 / 10 * 10))] 0 (c_X10_put l D h0 q cI v_code v_side v_rights v_passed v_halves v_number v_top v_typedCount v_readAt v_place v_writtenCount v_chosenFrom v_chosenTo v_chosenTurn v_changed v_readSide v_readRights v_readPassed v_readHalves v_readNumber a_board a_before a_typed a_written a_froms a_tos a_turns a_counts a_changedSquare a_changedMan a_readBoard (48 + (y_3 - y_3 / 10 * 10)) v_writtenCount_4 a_written_5 hm_6) (cv_X10_put C.ts lm_RX10_284 ⟨Nat.le_of_ble_eq_true rfl, Nat.le_of_ble_eq_true rfl⟩) rfl rfl rfl rfl (Nat.le_of_ble_eq_true rfl) dX10_putNumber_32 ⟨Nat.zero_le _, Nat.zero_le _⟩ ?_
        refine kv_iload_n C 2 dX10_putNumber_35 rfl rfl ?_
        refine kv_bipush C 10 dX10_putNumber_36 (by decide) ?_
        refine kv_idiv C dX10_putNumber_38 (by decide) ?_
        obtain ⟨x2_8, ex2_8, h⟩ := ol_e h
        refine kv_top ex2_8 ?_
        refine kv_istore_n C (lv2 := [(0, .ref h0), (1, .int x1), (2, .int x2_8)]) [1, 2, 0] dX10_putNumber_39 rfl (by decide) rfl rfl ?_
        refine kv_goto C 18 dX10_putNumber_40 (by decide) ?_
        exact kv_lv [0, 1, 2] (lv2 := [(0, .ref h0), (1, .int x1), (2, .int x2_8)]) rfl (ih18 v_writtenCount_4 a_written_5 x1 x2_8 h)
  have l2 : ∀ (n2 : Nat) (v_writtenCount : Int32) (a_written : Nat → Int32) (x1 : Int32) (x2 : Int32), m_X10_putNumber_l2   n2 v_writtenCount a_written x1 x2 = some (v_writtenCount', a_written') → kv p l e rm_X10_putNumber s m ([.ref h0, .int p0] : List Value).toArray below meth c D A 3 0 0 Q (wM h0 q cI v_code v_side v_rights v_passed v_halves v_number v_top v_typedCount v_readAt v_place v_writtenCount v_chosenFrom v_chosenTo v_chosenTurn v_changed v_readSide v_readRights v_readPassed v_readHalves v_readNumber a_board a_before a_typed a_written a_froms a_tos a_turns a_counts a_changedSquare a_changedMan a_readBoard) [(0, .ref h0), (1, .int x1), (2, .int x2)] 2 [] := by
    intro n2
    induction n2 with
    | zero =>
      intro v_writtenCount a_written x1 x2 h
      exact kv_no h
    | succ n2 ih2 =>
      intro v_writtenCount a_written x1 x2 h
      replace h : m_X10_putNumber_b2  (m_X10_putNumber_l2   n2) v_writtenCount a_written x1 x2 = some (v_writtenCount', a_written') := h
      unfold m_X10_putNumber_b2 at h
      refine kv_iload_n C 1 dX10_putNumber_2 rfl rfl ?_
      refine kv_iload_n C 2 dX10_putNumber_3 rfl rfl ?_
      obtain ⟨g_9, h⟩ := odz_e h
      refine kv_idiv C dX10_putNumber_4 g_9 ?_
      refine kv_bipush C 9 dX10_putNumber_5 (by decide) ?_
      refine kv_icmp_le C 18 dX10_putNumber_7 (by decide) (fun c_10 => ?_) (fun c_10 => ?_)
      · have h := oi_t h c_10
        exact kv_lv [0, 1, 2] (lv2 := [(0, .ref h0), (1, .int x1), (2, .int x2)]) rfl (l18 kF v_writtenCount a_written x1 x2 h)
      · have h := oi_f h c_10
        refine kv_bipush C 10 dX10_putNumber_10 (by decide) ?_
        refine kv_iload_n C 2 dX10_putNumber_12 rfl rfl ?_
        refine kv_imul C dX10_putNumber_13 ?_
        obtain ⟨x2_11, ex2_11, h⟩ := ol_e h
        refine kv_top ex2_11 ?_
        refine kv_istore_n C (lv2 := [(0, .ref h0), (1, .int x1), (2, .int x2_11)]) [1, 2, 0] dX10_putNumber_14 rfl (by decide) rfl rfl ?_
        refine kv_goto C 2 dX10_putNumber_15 (by decide) ?_
        exact kv_lv [0, 1, 2] (lv2 := [(0, .ref h0), (1, .int x1), (2, .int x2_11)]) rfl (ih2 v_writtenCount a_written x1 x2_11 h)
  unfold m_X10_putNumber at hm
  have h := hm
  refine kv_lv [0, 1] (lv2 := [(0, .ref h0), (1, .int p0)]) rfl ?_
  refine kv_iconst C 1 dX10_putNumber_0 (by decide) ?_
  refine kv_istore_n C (lv2 := [(0, .ref h0), (1, .int p0), (2, .int 1)]) [1, 2, 0] dX10_putNumber_1 rfl (by decide) rfl rfl ?_
  exact kv_lv [0, 1, 2] (lv2 := [(0, .ref h0), (1, .int p0), (2, .int 1)]) rfl (l2 kF v_writtenCount a_written p0 1 h)
def m_X10_letterOf_b70 (t0 : Int32) : Option (Int32) := some t0
def m_X10_letterOf_b57 (x0 : Int32) (t0 : Int32) : Option (Int32) := if x0 ≤ 0 then m_X10_letterOf_b70 (t0 + 32) else m_X10_letterOf_b70 t0
def m_X10_letterOf (p0 : Int32) : Option (Int32) := ob (m_X10_kindOf p0) fun r_2 => if r_2 = 1 then m_X10_letterOf_b57 p0 80 else if r_2 = 2 then m_X10_letterOf_b57 p0 78 else if r_2 = 3 then m_X10_letterOf_b57 p0 66 else if r_2 = 4 then m_X10_letterOf_b57 p0 82 else if r_2 = 5 then m_X10_letterOf_b57 p0 81 else m_X10_letterOf_b57 p0 75
abbrev rm_X10_letterOf : Room := { frames := 1, cells := 0, slots := 0, locals := 20 }
abbrev wy_X10_letterOf : List Cond := .code yX10_letterOf cX10_letterOf 3 (some .int) :: gT
theorem cs_X10_letterOf {R : Room} {s : State} {args : Array Value} {own : String} {index : Nat} {w0 : Cond} (hts : ∀ w ∈ w0 :: gT, w.before args s = true) (hl : Cond.methodLink own index yX10_letterOf ∈ gT) (hR : 1 + 1 ≤ R.frames ∧ 8 + (3 + 11) + 20 ≤ R.locals) : CallB R s args own index yX10_letterOf cX10_letterOf 3 (some .int) wy_X10_letterOf rm_X10_letterOf 0 0 1 ∧ (Cond.static yX10_letterOf).before args s = true :=
  va_cwS 1 hts (gT_call w0 (pre := [.methodLink own index yX10_letterOf, .static yX10_letterOf, .initialized yX10_letterOf.cls]) (gT_lc hl (gT_lc ls_yX10_letterOf (gT_l1 li_RX10))) lc_yX10_letterOf) rfl rfl rfl (by decide +kernel) hR
set_option maxRecDepth 100000 in
set_option maxHeartbeats 4000000 in
theorem c_X10_letterOf (l : Launch) (D : va_G) (p0 : Int32) (rv : Int32) (hm : m_X10_letterOf p0 = some rv) : kDi l yX10_letterOf wy_X10_letterOf rm_X10_letterOf D [] rv [] [] [.int p0] := by
  refine kDi.of cX10_letterOf 3 (some .int) (by decide) rfl (Or.inl rfl) (Nat.le_of_ble_eq_true rfl) ?_
  intro p e s m below meth c A Q C hret
  have j70 : ∀ (t0 : Int32), m_X10_letterOf_b70   t0 = some rv → kv p l e rm_X10_letterOf s m ([.int p0] : List Value).toArray below meth c D A 3 0 0 Q [] [] 70 [.int t0] := by
    intro t0 h
    unfold m_X10_letterOf_b70 at h
    cases h
    exact hret _ _ dX10_letterOf_70 (fun q => by cases q)
  have j57 : ∀ (x0 : Int32) (t0 : Int32), m_X10_letterOf_b57   x0 t0 = some rv → kv p l e rm_X10_letterOf s m ([.int p0] : List Value).toArray below meth c D A 3 0 0 Q [] [(0, .int x0)] 57 [.int t0] := by
    intro x0 t0 h
    unfold m_X10_letterOf_b57 at h
    refine kv_istore_n C (lv2 := [(0, .int x0), (2, .int t0)]) [1, 0] dX10_letterOf_57 rfl (by decide) rfl rfl ?_
    refine kv_iload_n C 0 dX10_letterOf_58 rfl rfl ?_
    refine kv_if_le C 66 dX10_letterOf_59 (by decide) (fun c_1 => ?_) (fun c_1 => ?_)
    · have h := oi_t h c_1
      refine kv_iload_n C 1 dX10_letterOf_66 rfl rfl ?_
      refine kv_bipush C 32 dX10_letterOf_67 (by decide) ?_
      refine kv_iadd C dX10_letterOf_69 ?_
      exact kv_lv [] (lv2 := []) rfl (j70 (t0 + 32) h)
    · have h := oi_f h c_1
      refine kv_iload_n C 1 dX10_letterOf_62 rfl rfl ?_
      refine kv_goto C 70 dX10_letterOf_63 (by decide) ?_
      exact kv_lv [] (lv2 := []) rfl (j70 t0 h)
  unfold m_X10_letterOf at hm
  have h := hm
  refine kv_lv [0] (lv2 := [(0, .int p0)]) rfl ?_
  refine kv_iload_n C 0 dX10_letterOf_0 rfl rfl ?_
  obtain ⟨r_2, hm_3, h⟩ := ob_e h
  refine kv_callS0i C [.int p0] (c_X10_kindOf l D p0 r_2 hm_3) (cs_X10_kindOf C.ts lm_RX10_79 ⟨Nat.le_of_ble_eq_true rfl, Nat.le_of_ble_eq_true rfl⟩) rfl rfl (Nat.le_of_ble_eq_true rfl) dX10_letterOf_1 ⟨Nat.zero_le _, Nat.zero_le _⟩ ?_
  refine kv_istore_n C (lv2 := [(0, .int p0), (1, .int r_2)]) [1, 0] dX10_letterOf_4 rfl (by decide) rfl rfl ?_
  refine kv_iload_n C 1 dX10_letterOf_5 rfl rfl ?_
  refine kv_iconst C 1 dX10_letterOf_6 (by decide) ?_
  refine kv_icmp_ne C 15 dX10_letterOf_7 (by decide) (fun c_4 => ?_) (fun c_4 => ?_)
  · have h := oi_f h c_4
    refine kv_iload_n C 1 dX10_letterOf_15 rfl rfl ?_
    refine kv_iconst C 2 dX10_letterOf_16 (by decide) ?_
    refine kv_icmp_ne C 25 dX10_letterOf_17 (by decide) (fun c_5 => ?_) (fun c_5 => ?_)
    · have h := oi_f h c_5
      refine kv_iload_n C 1 dX10_letterOf_25 rfl rfl ?_
      refine kv_iconst C 3 dX10_letterOf_26 (by decide) ?_
      refine kv_icmp_ne C 35 dX10_letterOf_27 (by decide) (fun c_6 => ?_) (fun c_6 => ?_)
      · have h := oi_f h c_6
        refine kv_iload_n C 1 dX10_letterOf_35 rfl rfl ?_
        refine kv_iconst C 4 dX10_letterOf_36 (by decide) ?_
        refine kv_icmp_ne C 45 dX10_letterOf_37 (by decide) (fun c_7 => ?_) (fun c_7 => ?_)
        · have h := oi_f h c_7
          refine kv_iload_n C 1 dX10_letterOf_45 rfl rfl ?_
          refine kv_iconst C 5 dX10_letterOf_46 (by decide) ?_
          refine kv_icmp_ne C 55 dX10_letterOf_47 (by decide) (fun c_8 => ?_) (fun c_8 => ?_)
          · have h := oi_f h c_8
            refine kv_bipush C 75 dX10_letterOf_55 (by decide) ?_
            exact kv_lv [0] (lv2 := [(0, .int p0)]) rfl (j57 p0 75 h)
          · have h := oi_t h c_8
            refine kv_bipush C 81 dX10_letterOf_50 (by decide) ?_
            refine kv_goto C 57 dX10_letterOf_52 (by decide) ?_
            exact kv_lv [0] (lv2 := [(0, .int p0)]) rfl (j57 p0 81 h)
        · have h := oi_t h c_7
          refine kv_bipush C 82 dX10_letterOf_40 (by decide) ?_
          refine kv_goto C 57 dX10_letterOf_42 (by decide) ?_
          exact kv_lv [0] (lv2 := [(0, .int p0)]) rfl (j57 p0 82 h)
      · have h := oi_t h c_6
        refine kv_bipush C 66 dX10_letterOf_30 (by decide) ?_
        refine kv_goto C 57 dX10_letterOf_32 (by decide) ?_
        exact kv_lv [0] (lv2 := [(0, .int p0)]) rfl (j57 p0 66 h)
    · have h := oi_t h c_5
      refine kv_bipush C 78 dX10_letterOf_20 (by decide) ?_
      refine kv_goto C 57 dX10_letterOf_22 (by decide) ?_
      exact kv_lv [0] (lv2 := [(0, .int p0)]) rfl (j57 p0 78 h)
  · have h := oi_t h c_4
    refine kv_bipush C 80 dX10_letterOf_10 (by decide) ?_
    refine kv_goto C 57 dX10_letterOf_12 (by decide) ?_
    exact kv_lv [0] (lv2 := [(0, .int p0)]) rfl (j57 p0 80 h)
def m_X10_putRow_b85 (v_writtenCount : Int32) (a_board : Nat → Int32) (a_written : Nat → Int32) : Option (Int32 × (Nat → Int32)) := some (v_writtenCount, a_written)
def m_X10_putRow_b67 (k4 : Int32 → (Nat → Int32) → Int32 → Int32 → Int32 → Option (Int32 × (Nat → Int32))) (v_writtenCount : Int32) (a_board : Nat → Int32) (a_written : Nat → Int32) (x1 : Int32) (x2 : Int32) (x3 : Int32) : Option (Int32 × (Nat → Int32)) := ol (x3 + 1) fun x3_1 => k4 v_writtenCount a_written x1 x2 x3_1
def m_X10_putRow_b52 (k4 : Int32 → (Nat → Int32) → Int32 → Int32 → Int32 → Option (Int32 × (Nat → Int32))) (v_writtenCount : Int32) (a_board : Nat → Int32) (a_written : Nat → Int32) (x1 : Int32) (x3 : Int32) (x4 : Int32) (t0 : Int32) : Option (Int32 × (Nat → Int32)) := if x4 = 0 then m_X10_putRow_b67 k4 v_writtenCount a_board a_written x1 t0 x3 else ob (m_X10_letterOf x4) fun r_3 => ob (m_X10_put v_writtenCount a_written r_3) fun (v_writtenCount_5, a_written_6) => m_X10_putRow_b67 k4 v_writtenCount_5 a_board a_written_6 x1 t0 x3
def m_X10_putRow_b40 (k4 : Int32 → (Nat → Int32) → Int32 → Int32 → Int32 → Option (Int32 × (Nat → Int32))) (v_writtenCount : Int32) (a_board : Nat → Int32) (a_written : Nat → Int32) (x1 : Int32) (x2 : Int32) (x3 : Int32) (x4 : Int32) : Option (Int32 × (Nat → Int32)) := if x4 = 0 then m_X10_putRow_b52 k4 v_writtenCount a_board a_written x1 x3 x4 (x2 + 1) else m_X10_putRow_b52 k4 v_writtenCount a_board a_written x1 x3 x4 0
def m_X10_putRow_b4 (k4 : Int32 → (Nat → Int32) → Int32 → Int32 → Int32 → Option (Int32 × (Nat → Int32))) (v_writtenCount : Int32) (a_board : Nat → Int32) (a_written : Nat → Int32) (x1 : Int32) (x2 : Int32) (x3 : Int32) : Option (Int32 × (Nat → Int32)) := if 8 ≤ x3 then if x2 ≤ 0 then m_X10_putRow_b85 v_writtenCount a_board a_written else ob (m_X10_put v_writtenCount a_written (48 + x2)) fun (v_writtenCount_12, a_written_13) => m_X10_putRow_b85 v_writtenCount_12 a_board a_written_13 else oin ((8 * x1) + x3) 64 (ol (a_board ((8 * x1) + x3).toNatClampNeg) fun x4_17 => if x4_17 = 0 then m_X10_putRow_b40 k4 v_writtenCount a_board a_written x1 x2 x3 x4_17 else if x2 ≤ 0 then m_X10_putRow_b40 k4 v_writtenCount a_board a_written x1 x2 x3 x4_17 else ob (m_X10_put v_writtenCount a_written (48 + x2)) fun (v_writtenCount_20, a_written_21) => m_X10_putRow_b40 k4 v_writtenCount_20 a_board a_written_21 x1 x2 x3 x4_17)
def m_X10_putRow_l4 (a_board : Nat → Int32) (n : Nat) : Int32 → (Nat → Int32) → Int32 → Int32 → Int32 → Option (Int32 × (Nat → Int32)) := fz (fun _ _ _ _ _ => none) (fun k4 v_writtenCount a_written x1 x2 x3 => m_X10_putRow_b4 k4 v_writtenCount a_board a_written x1 x2 x3) n
def m_X10_putRow (v_writtenCount : Int32) (a_board : Nat → Int32) (a_written : Nat → Int32) (p0 : Int32) : Option (Int32 × (Nat → Int32)) := m_X10_putRow_l4 a_board kF v_writtenCount a_written p0 0 0
abbrev rm_X10_putRow : Room := { frames := 2, cells := 0, slots := 0, locals := 42 }
abbrev wy_X10_putRow : List Cond := .code yX10_putRow cX10_putRow 5 none :: gT
theorem cv_X10_putRow {R : Room} {s : State} {args : Array Value} {own : String} {index : Nat} {w0 : Cond} (hts : ∀ w ∈ w0 :: gT, w.before args s = true) (hl : Cond.methodLink own index yX10_putRow ∈ gT) (hR : 2 + 1 ≤ R.frames ∧ 8 + (5 + 11) + 42 ≤ R.locals) : CallW R s args own RX10 index yX10_putRow cX10_putRow 5 none wy_X10_putRow rm_X10_putRow 0 0 1 :=
  cwV 1 hts (gT_call w0 (pre := [.methodLink own index yX10_putRow, .instanceMethod yX10_putRow, .selects RX10 yX10_putRow yX10_putRow, .initialized RX10]) (gT_lc hl (gT_lc ly_yX10_putRow (gT_lc lx_yX10_putRow (gT_l1 li_RX10)))) lc_yX10_putRow) rfl rfl rfl (by decide +kernel) hR
set_option maxRecDepth 100000 in
set_option maxHeartbeats 4000000 in
theorem c_X10_putRow (l : Launch) (D : va_G) (h0 : Nat) (q : Nat → Nat) (cI : ClassId) (v_code : Int32) (v_side : Int32) (v_rights : Int32) (v_passed : Int32) (v_halves : Int32) (v_number : Int32) (v_top : Int32) (v_typedCount : Int32) (v_readAt : Int32) (v_place : Int32) (v_writtenCount : Int32) (v_chosenFrom : Int32) (v_chosenTo : Int32) (v_chosenTurn : Int32) (v_changed : Int32) (v_readSide : Int32) (v_readRights : Int32) (v_readPassed : Int32) (v_readHalves : Int32) (v_readNumber : Int32) (a_board : Nat → Int32) (a_before : Nat → Int32) (a_typed : Nat → Int32) (a_written : Nat → Int32) (a_froms : Nat → Int32) (a_tos : Nat → Int32) (a_turns : Nat → Int32) (a_counts : Nat → Int32) (a_changedSquare : Nat → Int32) (a_changedMan : Nat → Int32) (a_readBoard : Nat → Int32) (p0 : Int32) (v_writtenCount' : Int32) (a_written' : Nat → Int32) (hm : m_X10_putRow v_writtenCount a_board a_written p0 = some (v_writtenCount', a_written')) : kDv l yX10_putRow wy_X10_putRow rm_X10_putRow D [(cI, .int)] (wM h0 q cI v_code v_side v_rights v_passed v_halves v_number v_top v_typedCount v_readAt v_place v_writtenCount v_chosenFrom v_chosenTo v_chosenTurn v_changed v_readSide v_readRights v_readPassed v_readHalves v_readNumber a_board a_before a_typed a_written a_froms a_tos a_turns a_counts a_changedSquare a_changedMan a_readBoard) (wM h0 q cI v_code v_side v_rights v_passed v_halves v_number v_top v_typedCount v_readAt v_place v_writtenCount' v_chosenFrom v_chosenTo v_chosenTurn v_changed v_readSide v_readRights v_readPassed v_readHalves v_readNumber a_board a_before a_typed a_written' a_froms a_tos a_turns a_counts a_changedSquare a_changedMan a_readBoard) [.ref h0, .int p0] := by
  refine kDv.of cX10_putRow 5 none (by decide) rfl rfl (Nat.le_of_ble_eq_true rfl) ?_
  intro p e s m below meth c A Q C hret
  have hin10 : ∀ w ∈ wsX100, w ∈ wy_X10_putRow := fun w h => List.mem_cons_of_mem _ (inG10 w h)
  have j85 : ∀ (v_writtenCount : Int32) (a_written : Nat → Int32), m_X10_putRow_b85  v_writtenCount a_board a_written  = some (v_writtenCount', a_written') → kv p l e rm_X10_putRow s m ([.ref h0, .int p0] : List Value).toArray below meth c D A 5 0 0 Q (wM h0 q cI v_code v_side v_rights v_passed v_halves v_number v_top v_typedCount v_readAt v_place v_writtenCount v_chosenFrom v_chosenTo v_chosenTurn v_changed v_readSide v_readRights v_readPassed v_readHalves v_readNumber a_board a_before a_typed a_written a_froms a_tos a_turns a_counts a_changedSquare a_changedMan a_readBoard) [] 85 [] := by
    intro v_writtenCount a_written h
    unfold m_X10_putRow_b85 at h
    cases h
    exact hret _ _ dX10_putRow_85
  have l4 : ∀ (n4 : Nat) (v_writtenCount : Int32) (a_written : Nat → Int32) (x1 : Int32) (x2 : Int32) (x3 : Int32), m_X10_putRow_l4  a_board n4 v_writtenCount a_written x1 x2 x3 = some (v_writtenCount', a_written') → kv p l e rm_X10_putRow s m ([.ref h0, .int p0] : List Value).toArray below meth c D A 5 0 0 Q (wM h0 q cI v_code v_side v_rights v_passed v_halves v_number v_top v_typedCount v_readAt v_place v_writtenCount v_chosenFrom v_chosenTo v_chosenTurn v_changed v_readSide v_readRights v_readPassed v_readHalves v_readNumber a_board a_before a_typed a_written a_froms a_tos a_turns a_counts a_changedSquare a_changedMan a_readBoard) [(0, .ref h0), (1, .int x1), (2, .int x2), (3, .int x3)] 4 [] := by
    intro n4
    induction n4 with
    | zero =>
      intro v_writtenCount a_written x1 x2 x3 h
      exact kv_no h
    | succ n4 ih4 =>
      have j67 : ∀ (v_writtenCount : Int32) (a_written : Nat → Int32) (x1 : Int32) (x2 : Int32) (x3 : Int32), m_X10_putRow_b67 (m_X10_putRow_l4  a_board n4) v_writtenCount a_board a_written x1 x2 x3 = some (v_writtenCount', a_written') → kv p l e rm_X10_putRow s m ([.ref h0, .int p0] : List Value).toArray below meth c D A 5 0 0 Q (wM h0 q cI v_code v_side v_rights v_passed v_halves v_number v_top v_typedCount v_readAt v_place v_writtenCount v_chosenFrom v_chosenTo v_chosenTurn v_changed v_readSide v_readRights v_readPassed v_readHalves v_readNumber a_board a_before a_typed a_written a_froms a_tos a_turns a_counts a_changedSquare a_changedMan a_readBoard) [(0, .ref h0), (1, .int x1), (2, .int x2), (3, .int x3)] 67 [] := by
        intro v_writtenCount a_written x1 x2 x3 h
        unfold m_X10_putRow_b67 at h
        obtain ⟨x3_1, ex3_1, h⟩ := ol_e h
        refine kv_iinc C (v := x3_1) (lv2 := [(0, .ref h0), (1, .int x1), (2, .int x2), (3, .int x3_1)]) 3 [1, 2, 3, 0] dX10_putRow_67 rfl ex3_1.symm (by decide) rfl rfl ?_
        refine kv_goto C 4 dX10_putRow_70 (by decide) ?_
        exact kv_lv [0, 1, 2, 3] (lv2 := [(0, .ref h0), (1, .int x1), (2, .int x2), (3, .int x3_1)]) rfl (ih4 v_writtenCount a_written x1 x2 x3_1 h)
      have j52 : ∀ (v_writtenCount : Int32) (a_written : Nat → Int32) (x1 : Int32) (x3 : Int32) (x4 : Int32) (t0 : Int32), m_X10_putRow_b52 (m_X10_putRow_l4  a_board n4) v_writtenCount a_board a_written x1 x3 x4 t0 = some (v_writtenCount', a_written') → kv p l e rm_X10_putRow s m ([.ref h0, .int p0] : List Value).toArray below meth c D A 5 0 0 Q (wM h0 q cI v_code v_side v_rights v_passed v_halves v_number v_top v_typedCount v_readAt v_place v_writtenCount v_chosenFrom v_chosenTo v_chosenTurn v_changed v_readSide v_readRights v_readPassed v_readHalves v_readNumber a_board a_before a_typed a_written a_froms a_tos a_turns a_counts a_changedSquare a_changedMan a_readBoard) [(0, .ref h0), (1, .int x1), (3, .int x3), (4, .int x4)] 52 [.int t0] := by
        intro v_writtenCount a_written x1 x3 x4 t0 h
        unfold m_X10_putRow_b52 at h
        refine kv_istore_n C (lv2 := [(0, .ref h0), (1, .int x1), (2, .int t0), (3, .int x3), (4, .int x4)]) [1, 2, 0, 3, 4] dX10_putRow_52 rfl (by decide) rfl rfl ?_
        refine kv_iload C 4 dX10_putRow_53 rfl ?_
        refine kv_if_eq C 67 dX10_putRow_55 (by decide) (fun c_2 => ?_) (fun c_2 => ?_)
        · have h := oi_t h c_2
          exact kv_lv [0, 1, 2, 3] (lv2 := [(0, .ref h0), (1, .int x1), (2, .int t0), (3, .int x3)]) rfl (j67 v_writtenCount a_written x1 t0 x3 h)
        · have h := oi_f h c_2
          refine kv_aload_n C 0 dX10_putRow_58 rfl rfl ?_
          refine kv_iload C 4 dX10_putRow_59 rfl ?_
          obtain ⟨r_3, hm_4, h⟩ := ob_e h
          refine kv_callS0i C [.int x4] (c_X10_letterOf l D x4 r_3 hm_4) (cs_X10_letterOf C.ts lm_RX10_287 ⟨Nat.le_of_ble_eq_true rfl, Nat.le_of_ble_eq_true rfl⟩) rfl rfl (Nat.le_of_ble_eq_true rfl) dX10_putRow_61 ⟨Nat.zero_le _, Nat.zero_le _⟩ ?_
          obtain ⟨⟨v_writtenCount_5, a_written_6⟩, hm_7, h⟩ := ob_e h
          replace h : _ = _ := h
          refine kv_callWv C [.int r_3] 0 (c_X10_put l D h0 q cI v_code v_side v_rights v_passed v_halves v_number v_top v_typedCount v_readAt v_place v_writtenCount v_chosenFrom v_chosenTo v_chosenTurn v_changed v_readSide v_readRights v_readPassed v_readHalves v_readNumber a_board a_before a_typed a_written a_froms a_tos a_turns a_counts a_changedSquare a_changedMan a_readBoard r_3 v_writtenCount_5 a_written_6 hm_7) (cv_X10_put C.ts lm_RX10_284 ⟨Nat.le_of_ble_eq_true rfl, Nat.le_of_ble_eq_true rfl⟩) rfl rfl rfl rfl (Nat.le_of_ble_eq_true rfl) dX10_putRow_64 ⟨Nat.zero_le _, Nat.zero_le _⟩ ?_
          exact kv_lv [0, 1, 2, 3] (lv2 := [(0, .ref h0), (1, .int x1), (2, .int t0), (3, .int x3)]) rfl (j67 v_writtenCount_5 a_written_6 x1 t0 x3 h)
      have j40 : ∀ (v_writtenCount : Int32) (a_written : Nat → Int32) (x1 : Int32) (x2 : Int32) (x3 : Int32) (x4 : Int32), m_X10_putRow_b40 (m_X10_putRow_l4  a_board n4) v_writtenCount a_board a_written x1 x2 x3 x4 = some (v_writtenCount', a_written') → kv p l e rm_X10_putRow s m ([.ref h0, .int p0] : List Value).toArray below meth c D A 5 0 0 Q (wM h0 q cI v_code v_side v_rights v_passed v_halves v_number v_top v_typedCount v_readAt v_place v_writtenCount v_chosenFrom v_chosenTo v_chosenTurn v_changed v_readSide v_readRights v_readPassed v_readHalves v_readNumber a_board a_before a_typed a_written a_froms a_tos a_turns a_counts a_changedSquare a_changedMan a_readBoard) [(0, .ref h0), (1, .int x1), (2, .int x2), (3, .int x3), (4, .int x4)] 40 [] := by
        intro v_writtenCount a_written x1 x2 x3 x4 h
        unfold m_X10_putRow_b40 at h
        refine kv_iload C 4 dX10_putRow_40 rfl ?_
        refine kv_if_ne C 51 dX10_putRow_42 (by decide) (fun c_9 => ?_) (fun c_9 => ?_)
        · have h := oi_f h c_9
          refine kv_iconst C 0 dX10_putRow_51 (by decide) ?_
          exact kv_lv [0, 1, 3, 4] (lv2 := [(0, .ref h0), (1, .int x1), (3, .int x3), (4, .int x4)]) rfl (j52 v_writtenCount a_written x1 x3 x4 0 h)
        · have h := oi_t h c_9
          refine kv_iload_n C 2 dX10_putRow_45 rfl rfl ?_
          refine kv_iconst C 1 dX10_putRow_46 (by decide) ?_
          refine kv_iadd C dX10_putRow_47 ?_
          refine kv_goto C 52 dX10_putRow_48 (by decide) ?_
          exact kv_lv [0, 1, 3, 4] (lv2 := [(0, .ref h0), (1, .int x1), (3, .int x3), (4, .int x4)]) rfl (j52 v_writtenCount a_written x1 x3 x4 (x2 + 1) h)
      intro v_writtenCount a_written x1 x2 x3 h
      replace h : m_X10_putRow_b4  (m_X10_putRow_l4  a_board n4) v_writtenCount a_board a_written x1 x2 x3 = some (v_writtenCount', a_written') := h
      unfold m_X10_putRow_b4 at h
      refine kv_iload_n C 3 dX10_putRow_4 rfl rfl ?_
      refine kv_bipush C 8 dX10_putRow_5 (by decide) ?_
      refine kv_icmp_ge C 73 dX10_putRow_7 (by decide) (fun c_10 => ?_) (fun c_10 => ?_)
      · have h := oi_t h c_10
        refine kv_iload_n C 2 dX10_putRow_73 rfl rfl ?_
        refine kv_if_le C 85 dX10_putRow_74 (by decide) (fun c_11 => ?_) (fun c_11 => ?_)
        · have h := oi_t h c_11
          exact kv_lv [] (lv2 := []) rfl (j85 v_writtenCount a_written h)
        · have h := oi_f h c_11
          refine kv_aload_n C 0 dX10_putRow_77 rfl rfl ?_
          refine kv_bipush C 48 dX10_putRow_78 (by decide) ?_
          refine kv_iload_n C 2 dX10_putRow_80 rfl rfl ?_
          refine kv_iadd C dX10_putRow_81 ?_
          obtain ⟨⟨v_writtenCount_12, a_written_13⟩, hm_14, h⟩ := ob_e h
          replace h : _ = _ := h
          refine kv_callWv C [.int (48 + x2)] 0 (c_X10_put l D h0 q cI v_code v_side v_rights v_passed v_halves v_number v_top v_typedCount v_readAt v_place v_writtenCount v_chosenFrom v_chosenTo v_chosenTurn v_changed v_readSide v_readRights v_readPassed v_readHalves v_readNumber a_board a_before a_typed a_written a_froms a_tos a_turns a_counts a_changedSquare a_changedMan a_readBoard (48 + x2) v_writtenCount_12 a_written_13 hm_14) (cv_X10_put C.ts lm_RX10_284 ⟨Nat.le_of_ble_eq_true rfl, Nat.le_of_ble_eq_true rfl⟩) rfl rfl rfl rfl (Nat.le_of_ble_eq_true rfl) dX10_putRow_82 ⟨Nat.zero_le _, Nat.zero_le _⟩ ?_
          exact kv_lv [] (lv2 := []) rfl (j85 v_writtenCount_12 a_written_13 h)
      · have h := oi_f h c_10
        refine kv_aload_n C 0 dX10_putRow_10 rfl rfl ?_
        refine kv_get C (Cn := RX10) (T := TX10) (N := 31) 0 1 hin10 rfl rfl (by decide) (C.ts _ (List.mem_cons_of_mem _ lf_RX10_7)) rfl rfl dX10_putRow_11 ?_
        refine kv_bipush C 8 dX10_putRow_14 (by decide) ?_
        refine kv_iload_n C 1 dX10_putRow_16 rfl rfl ?_
        refine kv_imul C dX10_putRow_17 ?_
        refine kv_iload_n C 3 dX10_putRow_18 rfl rfl ?_
        refine kv_iadd C dX10_putRow_19 ?_
        obtain ⟨g_16, h⟩ := oin_e h
        refine kv_iald C 1 0 rfl rfl g_16 dX10_putRow_20 ?_
        obtain ⟨x4_17, ex4_17, h⟩ := ol_e h
        refine kv_top ex4_17 ?_
        refine kv_istore C (lv2 := [(0, .ref h0), (1, .int x1), (2, .int x2), (3, .int x3), (4, .int x4_17)]) [1, 2, 3, 4, 0] dX10_putRow_21 (by decide) rfl rfl ?_
        refine kv_iload C 4 dX10_putRow_23 rfl ?_
        refine kv_if_eq C 40 dX10_putRow_25 (by decide) (fun c_18 => ?_) (fun c_18 => ?_)
        · have h := oi_t h c_18
          exact kv_lv [0, 1, 2, 3, 4] (lv2 := [(0, .ref h0), (1, .int x1), (2, .int x2), (3, .int x3), (4, .int x4_17)]) rfl (j40 v_writtenCount a_written x1 x2 x3 x4_17 h)
        · have h := oi_f h c_18
          refine kv_iload_n C 2 dX10_putRow_28 rfl rfl ?_
          refine kv_if_le C 40 dX10_putRow_29 (by decide) (fun c_19 => ?_) (fun c_19 => ?_)
          · have h := oi_t h c_19
            exact kv_lv [0, 1, 2, 3, 4] (lv2 := [(0, .ref h0), (1, .int x1), (2, .int x2), (3, .int x3), (4, .int x4_17)]) rfl (j40 v_writtenCount a_written x1 x2 x3 x4_17 h)
          · have h := oi_f h c_19
            refine kv_aload_n C 0 dX10_putRow_32 rfl rfl ?_
            refine kv_bipush C 48 dX10_putRow_33 (by decide) ?_
            refine kv_iload_n C 2 dX10_putRow_35 rfl rfl ?_
            refine kv_iadd C dX10_putRow_36 ?_
            obtain ⟨⟨v_writtenCount_20, a_written_21⟩, hm_22, h⟩ := ob_e h
            replace h : _ = _ := h
            refine kv_callWv C [.int (48 + x2)] 0 (c_X10_put l D h0 q cI v_code v_side v_rights v_passed v_halves v_number v_top v_typedCount v_readAt v_place v_writtenCount v_chosenFrom v_chosenTo v_chosenTurn v_changed v_readSide v_readRights v_readPassed v_readHalves v_readNumber a_board a_before a_typed a_written a_froms a_tos a_turns a_counts a_changedSquare a_changedMan a_readBoard (48 + x2) v_writtenCount_20 a_written_21 hm_22) (cv_X10_put C.ts lm_RX10_284 ⟨Nat.le_of_ble_eq_true rfl, Nat.le_of_ble_eq_true rfl⟩) rfl rfl rfl rfl (Nat.le_of_ble_eq_true rfl) dX10_putRow_37 ⟨Nat.zero_le _, Nat.zero_le _⟩ ?_
            exact kv_lv [0, 1, 2, 3, 4] (lv2 := [(0, .ref h0), (1, .int x1), (2, .int x2), (3, .int x3), (4, .int x4_17)]) rfl (j40 v_writtenCount_20 a_written_21 x1 x2 x3 x4_17 h)
  unfold m_X10_putRow at hm
  have h := hm
  refine kv_lv [0, 1] (lv2 := [(0, .ref h0), (1, .int p0)]) rfl ?_
  refine kv_iconst C 0 dX10_putRow_0 (by decide) ?_
  refine kv_istore_n C (lv2 := [(0, .ref h0), (1, .int p0), (2, .int 0)]) [1, 2, 0] dX10_putRow_1 rfl (by decide) rfl rfl ?_
  refine kv_iconst C 0 dX10_putRow_2 (by decide) ?_
  refine kv_istore_n C (lv2 := [(0, .ref h0), (1, .int p0), (2, .int 0), (3, .int 0)]) [1, 2, 3, 0] dX10_putRow_3 rfl (by decide) rfl rfl ?_
  exact kv_lv [0, 1, 2, 3] (lv2 := [(0, .ref h0), (1, .int p0), (2, .int 0), (3, .int 0)]) rfl (l4 kF v_writtenCount a_written p0 0 0 h)
def m_X10_write_b191 (v_code : Int32) (v_side : Int32) (v_rights : Int32) (v_passed : Int32) (v_halves : Int32) (v_number : Int32) (v_writtenCount : Int32) (a_board : Nat → Int32) (a_written : Nat → Int32) : Option (Int32 × Int32 × Int32 × (Nat → Int32)) := ob (m_X10_put v_writtenCount a_written 32) fun (v_writtenCount_1, a_written_2) => ob (m_X10_putNumber v_writtenCount_1 a_written_2 v_halves) fun (v_writtenCount_5, a_written_6) => ob (m_X10_put v_writtenCount_5 a_written_6 32) fun (v_writtenCount_9, a_written_10) => ob (m_X10_putNumber v_writtenCount_9 a_written_10 v_number) fun (v_writtenCount_13, a_written_14) => some (v_writtenCount_13, v_code, v_writtenCount_13, a_written_14)
def m_X10_write_b140 (v_code : Int32) (v_side : Int32) (v_rights : Int32) (v_passed : Int32) (v_halves : Int32) (v_number : Int32) (v_writtenCount : Int32) (a_board : Nat → Int32) (a_written : Nat → Int32) : Option (Int32 × Int32 × Int32 × (Nat → Int32)) := ob (m_X10_put v_writtenCount a_written 32) fun (v_writtenCount_17, a_written_18) => if v_passed = (-1) then ob (m_X10_put v_writtenCount_17 a_written_18 45) fun (v_writtenCount_34, a_written_35) => m_X10_write_b191 v_code v_side v_rights v_passed v_halves v_number v_writtenCount_34 a_board a_written_35 else ob (m_X10_columnOf v_passed) fun r_22 => ob (m_X10_put v_writtenCount_17 a_written_18 (97 + r_22)) fun (v_writtenCount_24, a_written_25) => ob (m_X10_rowOf v_passed) fun r_28 => ob (m_X10_put v_writtenCount_24 a_written_25 (49 + r_28)) fun (v_writtenCount_30, a_written_31) => m_X10_write_b191 v_code v_side v_rights v_passed v_halves v_number v_writtenCount_30 a_board a_written_31
def m_X10_write_b121 (k69 : Int32 → Int32 → (Nat → Int32) → Int32 → Option (Int32 × Int32 × Int32 × (Nat → Int32))) (v_code : Int32) (v_side : Int32) (v_rights : Int32) (v_passed : Int32) (v_halves : Int32) (v_number : Int32) (v_writtenCount : Int32) (a_board : Nat → Int32) (a_written : Nat → Int32) (x1 : Int32) : Option (Int32 × Int32 × Int32 × (Nat → Int32)) := ol (x1 + 1) fun x1_38 => k69 v_code v_writtenCount a_written x1_38
def m_X10_write_b118 (k69 : Int32 → Int32 → (Nat → Int32) → Int32 → Option (Int32 × Int32 × Int32 × (Nat → Int32))) (v_code : Int32) (v_side : Int32) (v_rights : Int32) (v_passed : Int32) (v_halves : Int32) (v_number : Int32) (v_writtenCount : Int32) (a_board : Nat → Int32) (a_written : Nat → Int32) (x1 : Int32) (t1 : Int32) : Option (Int32 × Int32 × Int32 × (Nat → Int32)) := ob (m_X10_put v_writtenCount a_written t1) fun (v_writtenCount_39, a_written_40) => m_X10_write_b121 k69 v_code v_side v_rights v_passed v_halves v_number v_writtenCount_39 a_board a_written_40 x1
def m_X10_write_b69 (k69 : Int32 → Int32 → (Nat → Int32) → Int32 → Option (Int32 × Int32 × Int32 × (Nat → Int32))) (v_code : Int32) (v_side : Int32) (v_rights : Int32) (v_passed : Int32) (v_halves : Int32) (v_number : Int32) (v_writtenCount : Int32) (a_board : Nat → Int32) (a_written : Nat → Int32) (x1 : Int32) : Option (Int32 × Int32 × Int32 × (Nat → Int32)) := if 4 ≤ x1 then if v_rights = 0 then ob (m_X10_put v_writtenCount a_written 45) fun (v_writtenCount_45, a_written_46) => m_X10_write_b140 v_code v_side v_rights v_passed v_halves v_number v_writtenCount_45 a_board a_written_46 else m_X10_write_b140 v_code v_side v_rights v_passed v_halves v_number v_writtenCount a_board a_written else if ((v_rights >>> (x1 &&& 31)) &&& 1) = 1 then if x1 = 0 then m_X10_write_b118 k69 v_code v_side v_rights v_passed v_halves v_number v_writtenCount a_board a_written x1 75 else if x1 = 1 then m_X10_write_b118 k69 v_code v_side v_rights v_passed v_halves v_number v_writtenCount a_board a_written x1 81 else if x1 = 2 then m_X10_write_b118 k69 v_code v_side v_rights v_passed v_halves v_number v_writtenCount a_board a_written x1 107 else m_X10_write_b118 k69 v_code v_side v_rights v_passed v_halves v_number v_writtenCount a_board a_written x1 113 else m_X10_write_b121 k69 v_code v_side v_rights v_passed v_halves v_number v_writtenCount a_board a_written x1
def m_X10_write_l69 (v_side : Int32) (v_rights : Int32) (v_passed : Int32) (v_halves : Int32) (v_number : Int32) (a_board : Nat → Int32) (n : Nat) : Int32 → Int32 → (Nat → Int32) → Int32 → Option (Int32 × Int32 × Int32 × (Nat → Int32)) := fz (fun _ _ _ _ => none) (fun k69 v_code v_writtenCount a_written x1 => m_X10_write_b69 k69 v_code v_side v_rights v_passed v_halves v_number v_writtenCount a_board a_written x1) n
def m_X10_write_b58 (v_code : Int32) (v_side : Int32) (v_rights : Int32) (v_passed : Int32) (v_halves : Int32) (v_number : Int32) (v_writtenCount : Int32) (a_board : Nat → Int32) (a_written : Nat → Int32) (t1 : Int32) : Option (Int32 × Int32 × Int32 × (Nat → Int32)) := ob (m_X10_put v_writtenCount a_written t1) fun (v_writtenCount_53, a_written_54) => ob (m_X10_put v_writtenCount_53 a_written_54 32) fun (v_writtenCount_57, a_written_58) => m_X10_write_l69 v_side v_rights v_passed v_halves v_number a_board kF v_code v_writtenCount_57 a_written_58 0
def m_X10_write_b34 (k13 : Int32 → Int32 → (Nat → Int32) → Int32 → Option (Int32 × Int32 × Int32 × (Nat → Int32))) (v_code : Int32) (v_side : Int32) (v_rights : Int32) (v_passed : Int32) (v_halves : Int32) (v_number : Int32) (v_writtenCount : Int32) (a_board : Nat → Int32) (a_written : Nat → Int32) (x1 : Int32) (t1 : Int32) : Option (Int32 × Int32 × Int32 × (Nat → Int32)) := ob (m_X10_put v_writtenCount a_written t1) fun (v_writtenCount_61, a_written_62) => ol (x1 + (-1)) fun x1_65 => k13 v_code v_writtenCount_61 a_written_62 x1_65
def m_X10_write_b13 (k13 : Int32 → Int32 → (Nat → Int32) → Int32 → Option (Int32 × Int32 × Int32 × (Nat → Int32))) (v_code : Int32) (v_side : Int32) (v_rights : Int32) (v_passed : Int32) (v_halves : Int32) (v_number : Int32) (v_writtenCount : Int32) (a_board : Nat → Int32) (a_written : Nat → Int32) (x1 : Int32) : Option (Int32 × Int32 × Int32 × (Nat → Int32)) := if x1 < 0 then if v_side = 0 then m_X10_write_b58 v_code v_side v_rights v_passed v_halves v_number v_writtenCount a_board a_written 119 else m_X10_write_b58 v_code v_side v_rights v_passed v_halves v_number v_writtenCount a_board a_written 98 else ob (m_X10_putRow v_writtenCount a_board a_written x1) fun (v_writtenCount_68, a_written_69) => if x1 ≤ 0 then m_X10_write_b34 k13 v_code v_side v_rights v_passed v_halves v_number v_writtenCount_68 a_board a_written_69 x1 32 else m_X10_write_b34 k13 v_code v_side v_rights v_passed v_halves v_number v_writtenCount_68 a_board a_written_69 x1 47
def m_X10_write_l13 (v_side : Int32) (v_rights : Int32) (v_passed : Int32) (v_halves : Int32) (v_number : Int32) (a_board : Nat → Int32) (n : Nat) : Int32 → Int32 → (Nat → Int32) → Int32 → Option (Int32 × Int32 × Int32 × (Nat → Int32)) := fz (fun _ _ _ _ => none) (fun k13 v_code v_writtenCount a_written x1 => m_X10_write_b13 k13 v_code v_side v_rights v_passed v_halves v_number v_writtenCount a_board a_written x1) n
def m_X10_write (v_code : Int32) (v_side : Int32) (v_rights : Int32) (v_passed : Int32) (v_halves : Int32) (v_number : Int32) (v_writtenCount : Int32) (a_board : Nat → Int32) (a_written : Nat → Int32) : Option (Int32 × Int32 × Int32 × (Nat → Int32)) := m_X10_write_l13 v_side v_rights v_passed v_halves v_number a_board kF 0 0 a_written 7
abbrev rm_X10_write : Room := { frames := 3, cells := 0, slots := 0, locals := 66 }
abbrev wy_X10_write : List Cond := .code yX10_write cX10_write 2 (some .int) :: gT
theorem cv_X10_write {R : Room} {s : State} {args : Array Value} {own : String} {index : Nat} {w0 : Cond} (hts : ∀ w ∈ w0 :: gT, w.before args s = true) (hl : Cond.methodLink own index yX10_write ∈ gT) (hR : 3 + 1 ≤ R.frames ∧ 8 + (2 + 11) + 66 ≤ R.locals) : CallW R s args own RX10 index yX10_write cX10_write 2 (some .int) wy_X10_write rm_X10_write 0 0 0 :=
  cwV 0 hts (gT_call w0 (pre := [.methodLink own index yX10_write, .instanceMethod yX10_write, .selects RX10 yX10_write yX10_write, .initialized RX10]) (gT_lc hl (gT_lc ly_yX10_write (gT_lc lx_yX10_write (gT_l1 li_RX10)))) lc_yX10_write) rfl rfl rfl (by decide +kernel) hR
set_option maxRecDepth 100000 in
set_option maxHeartbeats 4000000 in
theorem c_X10_write (l : Launch) (D : va_G) (h0 : Nat) (q : Nat → Nat) (cI : ClassId) (v_code : Int32) (v_side : Int32) (v_rights : Int32) (v_passed : Int32) (v_halves : Int32) (v_number : Int32) (v_top : Int32) (v_typedCount : Int32) (v_readAt : Int32) (v_place : Int32) (v_writtenCount : Int32) (v_chosenFrom : Int32) (v_chosenTo : Int32) (v_chosenTurn : Int32) (v_changed : Int32) (v_readSide : Int32) (v_readRights : Int32) (v_readPassed : Int32) (v_readHalves : Int32) (v_readNumber : Int32) (a_board : Nat → Int32) (a_before : Nat → Int32) (a_typed : Nat → Int32) (a_written : Nat → Int32) (a_froms : Nat → Int32) (a_tos : Nat → Int32) (a_turns : Nat → Int32) (a_counts : Nat → Int32) (a_changedSquare : Nat → Int32) (a_changedMan : Nat → Int32) (a_readBoard : Nat → Int32) (rv : Int32) (v_code' : Int32) (v_writtenCount' : Int32) (a_written' : Nat → Int32) (hm : m_X10_write v_code v_side v_rights v_passed v_halves v_number v_writtenCount a_board a_written = some (rv, v_code', v_writtenCount', a_written')) : kDi l yX10_write wy_X10_write rm_X10_write D [(cI, .int)] rv (wM h0 q cI v_code v_side v_rights v_passed v_halves v_number v_top v_typedCount v_readAt v_place v_writtenCount v_chosenFrom v_chosenTo v_chosenTurn v_changed v_readSide v_readRights v_readPassed v_readHalves v_readNumber a_board a_before a_typed a_written a_froms a_tos a_turns a_counts a_changedSquare a_changedMan a_readBoard) (wM h0 q cI v_code' v_side v_rights v_passed v_halves v_number v_top v_typedCount v_readAt v_place v_writtenCount' v_chosenFrom v_chosenTo v_chosenTurn v_changed v_readSide v_readRights v_readPassed v_readHalves v_readNumber a_board a_before a_typed a_written' a_froms a_tos a_turns a_counts a_changedSquare a_changedMan a_readBoard) [.ref h0] := by
  refine kDi.of cX10_write 2 (some .int) (by decide) rfl (Or.inl rfl) (Nat.le_of_ble_eq_true rfl) ?_
  intro p e s m below meth c A Q C hret
  have hin10 : ∀ w ∈ wsX100, w ∈ wy_X10_write := fun w h => List.mem_cons_of_mem _ (inG10 w h)
  have j191 : ∀ (v_code : Int32) (v_writtenCount : Int32) (a_written : Nat → Int32), m_X10_write_b191  v_code v_side v_rights v_passed v_halves v_number v_writtenCount a_board a_written  = some (rv, v_code', v_writtenCount', a_written') → kv p l e rm_X10_write s m ([.ref h0] : List Value).toArray below meth c D A 2 0 0 Q (wM h0 q cI v_code v_side v_rights v_passed v_halves v_number v_top v_typedCount v_readAt v_place v_writtenCount v_chosenFrom v_chosenTo v_chosenTurn v_changed v_readSide v_readRights v_readPassed v_readHalves v_readNumber a_board a_before a_typed a_written a_froms a_tos a_turns a_counts a_changedSquare a_changedMan a_readBoard) [(0, .ref h0)] 191 [] := by
    intro v_code v_writtenCount a_written h
    unfold m_X10_write_b191 at h
    refine kv_aload_n C 0 dX10_write_191 rfl rfl ?_
    refine kv_bipush C 32 dX10_write_192 (by decide) ?_
    obtain ⟨⟨v_writtenCount_1, a_written_2⟩, hm_3, h⟩ := ob_e h
    replace h : _ = _ := h
    refine kv_callWv C [.int 32] 0 (c_X10_put l D h0 q cI v_code v_side v_rights v_passed v_halves v_number v_top v_typedCount v_readAt v_place v_writtenCount v_chosenFrom v_chosenTo v_chosenTurn v_changed v_readSide v_readRights v_readPassed v_readHalves v_readNumber a_board a_before a_typed a_written a_froms a_tos a_turns a_counts a_changedSquare a_changedMan a_readBoard 32 v_writtenCount_1 a_written_2 hm_3) (cv_X10_put C.ts lm_RX10_284 ⟨Nat.le_of_ble_eq_true rfl, Nat.le_of_ble_eq_true rfl⟩) rfl rfl rfl rfl (Nat.le_of_ble_eq_true rfl) dX10_write_194 ⟨Nat.zero_le _, Nat.zero_le _⟩ ?_
    refine kv_aload_n C 0 dX10_write_197 rfl rfl ?_
    refine kv_aload_n C 0 dX10_write_198 rfl rfl ?_
    refine kv_get C (Cn := RX10) (T := TX10) (N := 31) 0 5 hin10 rfl rfl (by decide) (C.ts _ (List.mem_cons_of_mem _ lf_RX10_122)) rfl rfl dX10_write_199 ?_
    obtain ⟨⟨v_writtenCount_5, a_written_6⟩, hm_7, h⟩ := ob_e h
    replace h : _ = _ := h
    refine kv_callWv C [.int v_halves] 0 (c_X10_putNumber l D h0 q cI v_code v_side v_rights v_passed v_halves v_number v_top v_typedCount v_readAt v_place v_writtenCount_1 v_chosenFrom v_chosenTo v_chosenTurn v_changed v_readSide v_readRights v_readPassed v_readHalves v_readNumber a_board a_before a_typed a_written_2 a_froms a_tos a_turns a_counts a_changedSquare a_changedMan a_readBoard v_halves v_writtenCount_5 a_written_6 hm_7) (cv_X10_putNumber C.ts lm_RX10_293 ⟨Nat.le_of_ble_eq_true rfl, Nat.le_of_ble_eq_true rfl⟩) rfl rfl rfl rfl (Nat.le_of_ble_eq_true rfl) dX10_write_202 ⟨Nat.zero_le _, Nat.zero_le _⟩ ?_
    refine kv_aload_n C 0 dX10_write_205 rfl rfl ?_
    refine kv_bipush C 32 dX10_write_206 (by decide) ?_
    obtain ⟨⟨v_writtenCount_9, a_written_10⟩, hm_11, h⟩ := ob_e h
    replace h : _ = _ := h
    refine kv_callWv C [.int 32] 0 (c_X10_put l D h0 q cI v_code v_side v_rights v_passed v_halves v_number v_top v_typedCount v_readAt v_place v_writtenCount_5 v_chosenFrom v_chosenTo v_chosenTurn v_changed v_readSide v_readRights v_readPassed v_readHalves v_readNumber a_board a_before a_typed a_written_6 a_froms a_tos a_turns a_counts a_changedSquare a_changedMan a_readBoard 32 v_writtenCount_9 a_written_10 hm_11) (cv_X10_put C.ts lm_RX10_284 ⟨Nat.le_of_ble_eq_true rfl, Nat.le_of_ble_eq_true rfl⟩) rfl rfl rfl rfl (Nat.le_of_ble_eq_true rfl) dX10_write_208 ⟨Nat.zero_le _, Nat.zero_le _⟩ ?_
    refine kv_aload_n C 0 dX10_write_211 rfl rfl ?_
    refine kv_aload_n C 0 dX10_write_212 rfl rfl ?_
    refine kv_get C (Cn := RX10) (T := TX10) (N := 31) 0 6 hin10 rfl rfl (by decide) (C.ts _ (List.mem_cons_of_mem _ lf_RX10_63)) rfl rfl dX10_write_213 ?_
    obtain ⟨⟨v_writtenCount_13, a_written_14⟩, hm_15, h⟩ := ob_e h
    replace h : _ = _ := h
    refine kv_callWv C [.int v_number] 0 (c_X10_putNumber l D h0 q cI v_code v_side v_rights v_passed v_halves v_number v_top v_typedCount v_readAt v_place v_writtenCount_9 v_chosenFrom v_chosenTo v_chosenTurn v_changed v_readSide v_readRights v_readPassed v_readHalves v_readNumber a_board a_before a_typed a_written_10 a_froms a_tos a_turns a_counts a_changedSquare a_changedMan a_readBoard v_number v_writtenCount_13 a_written_14 hm_15) (cv_X10_putNumber C.ts lm_RX10_293 ⟨Nat.le_of_ble_eq_true rfl, Nat.le_of_ble_eq_true rfl⟩) rfl rfl rfl rfl (Nat.le_of_ble_eq_true rfl) dX10_write_216 ⟨Nat.zero_le _, Nat.zero_le _⟩ ?_
    refine kv_aload_n C 0 dX10_write_219 rfl rfl ?_
    refine kv_get C (Cn := RX10) (T := TX10) (N := 31) 0 14 hin10 rfl rfl (by decide) (C.ts _ (List.mem_cons_of_mem _ lf_RX10_281)) rfl rfl dX10_write_220 ?_
    cases h
    exact hret _ _ dX10_write_223 (fun q => by cases q)
  have j140 : ∀ (v_code : Int32) (v_writtenCount : Int32) (a_written : Nat → Int32), m_X10_write_b140  v_code v_side v_rights v_passed v_halves v_number v_writtenCount a_board a_written  = some (rv, v_code', v_writtenCount', a_written') → kv p l e rm_X10_write s m ([.ref h0] : List Value).toArray below meth c D A 2 0 0 Q (wM h0 q cI v_code v_side v_rights v_passed v_halves v_number v_top v_typedCount v_readAt v_place v_writtenCount v_chosenFrom v_chosenTo v_chosenTurn v_changed v_readSide v_readRights v_readPassed v_readHalves v_readNumber a_board a_before a_typed a_written a_froms a_tos a_turns a_counts a_changedSquare a_changedMan a_readBoard) [(0, .ref h0)] 140 [] := by
    intro v_code v_writtenCount a_written h
    unfold m_X10_write_b140 at h
    refine kv_aload_n C 0 dX10_write_140 rfl rfl ?_
    refine kv_bipush C 32 dX10_write_141 (by decide) ?_
    obtain ⟨⟨v_writtenCount_17, a_written_18⟩, hm_19, h⟩ := ob_e h
    replace h : _ = _ := h
    refine kv_callWv C [.int 32] 0 (c_X10_put l D h0 q cI v_code v_side v_rights v_passed v_halves v_number v_top v_typedCount v_readAt v_place v_writtenCount v_chosenFrom v_chosenTo v_chosenTurn v_changed v_readSide v_readRights v_readPassed v_readHalves v_readNumber a_board a_before a_typed a_written a_froms a_tos a_turns a_counts a_changedSquare a_changedMan a_readBoard 32 v_writtenCount_17 a_written_18 hm_19) (cv_X10_put C.ts lm_RX10_284 ⟨Nat.le_of_ble_eq_true rfl, Nat.le_of_ble_eq_true rfl⟩) rfl rfl rfl rfl (Nat.le_of_ble_eq_true rfl) dX10_write_143 ⟨Nat.zero_le _, Nat.zero_le _⟩ ?_
    refine kv_aload_n C 0 dX10_write_146 rfl rfl ?_
    refine kv_get C (Cn := RX10) (T := TX10) (N := 31) 0 4 hin10 rfl rfl (by decide) (C.ts _ (List.mem_cons_of_mem _ lf_RX10_13)) rfl rfl dX10_write_147 ?_
    refine kv_iconst C (-1) dX10_write_150 (by decide) ?_
    refine kv_icmp_ne C 163 dX10_write_151 (by decide) (fun c_21 => ?_) (fun c_21 => ?_)
    · have h := oi_f h c_21
      refine kv_aload_n C 0 dX10_write_163 rfl rfl ?_
      refine kv_bipush C 97 dX10_write_164 (by decide) ?_
      refine kv_aload_n C 0 dX10_write_166 rfl rfl ?_
      refine kv_get C (Cn := RX10) (T := TX10) (N := 31) 0 4 hin10 rfl rfl (by decide) (C.ts _ (List.mem_cons_of_mem _ lf_RX10_13)) rfl rfl dX10_write_167 ?_
      obtain ⟨r_22, hm_23, h⟩ := ob_e h
      refine kv_callS0i C [.int v_passed] (c_X10_columnOf l D v_passed r_22 hm_23) (cs_X10_columnOf C.ts lm_RX10_73 ⟨Nat.le_of_ble_eq_true rfl, Nat.le_of_ble_eq_true rfl⟩) rfl rfl (Nat.le_of_ble_eq_true rfl) dX10_write_170 ⟨Nat.zero_le _, Nat.zero_le _⟩ ?_
      refine kv_iadd C dX10_write_173 ?_
      obtain ⟨⟨v_writtenCount_24, a_written_25⟩, hm_26, h⟩ := ob_e h
      replace h : _ = _ := h
      refine kv_callWv C [.int (97 + r_22)] 0 (c_X10_put l D h0 q cI v_code v_side v_rights v_passed v_halves v_number v_top v_typedCount v_readAt v_place v_writtenCount_17 v_chosenFrom v_chosenTo v_chosenTurn v_changed v_readSide v_readRights v_readPassed v_readHalves v_readNumber a_board a_before a_typed a_written_18 a_froms a_tos a_turns a_counts a_changedSquare a_changedMan a_readBoard (97 + r_22) v_writtenCount_24 a_written_25 hm_26) (cv_X10_put C.ts lm_RX10_284 ⟨Nat.le_of_ble_eq_true rfl, Nat.le_of_ble_eq_true rfl⟩) rfl rfl rfl rfl (Nat.le_of_ble_eq_true rfl) dX10_write_174 ⟨Nat.zero_le _, Nat.zero_le _⟩ ?_
      refine kv_aload_n C 0 dX10_write_177 rfl rfl ?_
      refine kv_bipush C 49 dX10_write_178 (by decide) ?_
      refine kv_aload_n C 0 dX10_write_180 rfl rfl ?_
      refine kv_get C (Cn := RX10) (T := TX10) (N := 31) 0 4 hin10 rfl rfl (by decide) (C.ts _ (List.mem_cons_of_mem _ lf_RX10_13)) rfl rfl dX10_write_181 ?_
      obtain ⟨r_28, hm_29, h⟩ := ob_e h
      refine kv_callS0i C [.int v_passed] (c_X10_rowOf l D v_passed r_28 hm_29) (cs_X10_rowOf C.ts lm_RX10_69 ⟨Nat.le_of_ble_eq_true rfl, Nat.le_of_ble_eq_true rfl⟩) rfl rfl (Nat.le_of_ble_eq_true rfl) dX10_write_184 ⟨Nat.zero_le _, Nat.zero_le _⟩ ?_
      refine kv_iadd C dX10_write_187 ?_
      obtain ⟨⟨v_writtenCount_30, a_written_31⟩, hm_32, h⟩ := ob_e h
      replace h : _ = _ := h
      refine kv_callWv C [.int (49 + r_28)] 0 (c_X10_put l D h0 q cI v_code v_side v_rights v_passed v_halves v_number v_top v_typedCount v_readAt v_place v_writtenCount_24 v_chosenFrom v_chosenTo v_chosenTurn v_changed v_readSide v_readRights v_readPassed v_readHalves v_readNumber a_board a_before a_typed a_written_25 a_froms a_tos a_turns a_counts a_changedSquare a_changedMan a_readBoard (49 + r_28) v_writtenCount_30 a_written_31 hm_32) (cv_X10_put C.ts lm_RX10_284 ⟨Nat.le_of_ble_eq_true rfl, Nat.le_of_ble_eq_true rfl⟩) rfl rfl rfl rfl (Nat.le_of_ble_eq_true rfl) dX10_write_188 ⟨Nat.zero_le _, Nat.zero_le _⟩ ?_
      exact kv_lv [0] (lv2 := [(0, .ref h0)]) rfl (j191 v_code v_writtenCount_30 a_written_31 h)
    · have h := oi_t h c_21
      refine kv_aload_n C 0 dX10_write_154 rfl rfl ?_
      refine kv_bipush C 45 dX10_write_155 (by decide) ?_
      obtain ⟨⟨v_writtenCount_34, a_written_35⟩, hm_36, h⟩ := ob_e h
      replace h : _ = _ := h
      refine kv_callWv C [.int 45] 0 (c_X10_put l D h0 q cI v_code v_side v_rights v_passed v_halves v_number v_top v_typedCount v_readAt v_place v_writtenCount_17 v_chosenFrom v_chosenTo v_chosenTurn v_changed v_readSide v_readRights v_readPassed v_readHalves v_readNumber a_board a_before a_typed a_written_18 a_froms a_tos a_turns a_counts a_changedSquare a_changedMan a_readBoard 45 v_writtenCount_34 a_written_35 hm_36) (cv_X10_put C.ts lm_RX10_284 ⟨Nat.le_of_ble_eq_true rfl, Nat.le_of_ble_eq_true rfl⟩) rfl rfl rfl rfl (Nat.le_of_ble_eq_true rfl) dX10_write_157 ⟨Nat.zero_le _, Nat.zero_le _⟩ ?_
      refine kv_goto C 191 dX10_write_160 (by decide) ?_
      exact kv_lv [0] (lv2 := [(0, .ref h0)]) rfl (j191 v_code v_writtenCount_34 a_written_35 h)
  have l69 : ∀ (n69 : Nat) (v_code : Int32) (v_writtenCount : Int32) (a_written : Nat → Int32) (x1 : Int32), m_X10_write_l69  v_side v_rights v_passed v_halves v_number a_board n69 v_code v_writtenCount a_written x1 = some (rv, v_code', v_writtenCount', a_written') → kv p l e rm_X10_write s m ([.ref h0] : List Value).toArray below meth c D A 2 0 0 Q (wM h0 q cI v_code v_side v_rights v_passed v_halves v_number v_top v_typedCount v_readAt v_place v_writtenCount v_chosenFrom v_chosenTo v_chosenTurn v_changed v_readSide v_readRights v_readPassed v_readHalves v_readNumber a_board a_before a_typed a_written a_froms a_tos a_turns a_counts a_changedSquare a_changedMan a_readBoard) [(0, .ref h0), (1, .int x1)] 69 [] := by
    intro n69
    induction n69 with
    | zero =>
      intro v_code v_writtenCount a_written x1 h
      exact kv_no h
    | succ n69 ih69 =>
      have j121 : ∀ (v_code : Int32) (v_writtenCount : Int32) (a_written : Nat → Int32) (x1 : Int32), m_X10_write_b121 (m_X10_write_l69  v_side v_rights v_passed v_halves v_number a_board n69) v_code v_side v_rights v_passed v_halves v_number v_writtenCount a_board a_written x1 = some (rv, v_code', v_writtenCount', a_written') → kv p l e rm_X10_write s m ([.ref h0] : List Value).toArray below meth c D A 2 0 0 Q (wM h0 q cI v_code v_side v_rights v_passed v_halves v_number v_top v_typedCount v_readAt v_place v_writtenCount v_chosenFrom v_chosenTo v_chosenTurn v_changed v_readSide v_readRights v_readPassed v_readHalves v_readNumber a_board a_before a_typed a_written a_froms a_tos a_turns a_counts a_changedSquare a_changedMan a_readBoard) [(0, .ref h0), (1, .int x1)] 121 [] := by
        intro v_code v_writtenCount a_written x1 h
        unfold m_X10_write_b121 at h
        obtain ⟨x1_38, ex1_38, h⟩ := ol_e h
        refine kv_iinc C (v := x1_38) (lv2 := [(0, .ref h0), (1, .int x1_38)]) 1 [1, 0] dX10_write_121 rfl ex1_38.symm (by decide) rfl rfl ?_
        refine kv_goto C 69 dX10_write_124 (by decide) ?_
        exact kv_lv [0, 1] (lv2 := [(0, .ref h0), (1, .int x1_38)]) rfl (ih69 v_code v_writtenCount a_written x1_38 h)
      have j118 : ∀ (v_code : Int32) (v_writtenCount : Int32) (a_written : Nat → Int32) (x1 : Int32) (t1 : Int32), m_X10_write_b118 (m_X10_write_l69  v_side v_rights v_passed v_halves v_number a_board n69) v_code v_side v_rights v_passed v_halves v_number v_writtenCount a_board a_written x1 t1 = some (rv, v_code', v_writtenCount', a_written') → kv p l e rm_X10_write s m ([.ref h0] : List Value).toArray below meth c D A 2 0 0 Q (wM h0 q cI v_code v_side v_rights v_passed v_halves v_number v_top v_typedCount v_readAt v_place v_writtenCount v_chosenFrom v_chosenTo v_chosenTurn v_changed v_readSide v_readRights v_readPassed v_readHalves v_readNumber a_board a_before a_typed a_written a_froms a_tos a_turns a_counts a_changedSquare a_changedMan a_readBoard) [(0, .ref h0), (1, .int x1)] 118 [.int t1, .ref h0] := by
        intro v_code v_writtenCount a_written x1 t1 h
        unfold m_X10_write_b118 at h
        obtain ⟨⟨v_writtenCount_39, a_written_40⟩, hm_41, h⟩ := ob_e h
        replace h : _ = _ := h
        refine kv_callWv C [.int t1] 0 (c_X10_put l D h0 q cI v_code v_side v_rights v_passed v_halves v_number v_top v_typedCount v_readAt v_place v_writtenCount v_chosenFrom v_chosenTo v_chosenTurn v_changed v_readSide v_readRights v_readPassed v_readHalves v_readNumber a_board a_before a_typed a_written a_froms a_tos a_turns a_counts a_changedSquare a_changedMan a_readBoard t1 v_writtenCount_39 a_written_40 hm_41) (cv_X10_put C.ts lm_RX10_284 ⟨Nat.le_of_ble_eq_true rfl, Nat.le_of_ble_eq_true rfl⟩) rfl rfl rfl rfl (Nat.le_of_ble_eq_true rfl) dX10_write_118 ⟨Nat.zero_le _, Nat.zero_le _⟩ ?_
        exact kv_lv [0, 1] (lv2 := [(0, .ref h0), (1, .int x1)]) rfl (j121 v_code v_writtenCount_39 a_written_40 x1 h)
      intro v_code v_writtenCount a_written x1 h
      replace h : m_X10_write_b69  (m_X10_write_l69  v_side v_rights v_passed v_halves v_number a_board n69) v_code v_side v_rights v_passed v_halves v_number v_writtenCount a_board a_written x1 = some (rv, v_code', v_writtenCount', a_written') := h
      unfold m_X10_write_b69 at h
      refine kv_iload_n C 1 dX10_write_69 rfl rfl ?_
      refine kv_iconst C 4 dX10_write_70 (by decide) ?_
      refine kv_icmp_ge C 127 dX10_write_71 (by decide) (fun c_43 => ?_) (fun c_43 => ?_)
      · have h := oi_t h c_43
        refine kv_aload_n C 0 dX10_write_127 rfl rfl ?_
        refine kv_get C (Cn := RX10) (T := TX10) (N := 31) 0 3 hin10 rfl rfl (by decide) (C.ts _ (List.mem_cons_of_mem _ lf_RX10_60)) rfl rfl dX10_write_128 ?_
        refine kv_if_ne C 140 dX10_write_131 (by decide) (fun c_44 => ?_) (fun c_44 => ?_)
        · have h := oi_f h c_44
          exact kv_lv [0] (lv2 := [(0, .ref h0)]) rfl (j140 v_code v_writtenCount a_written h)
        · have h := oi_t h c_44
          refine kv_aload_n C 0 dX10_write_134 rfl rfl ?_
          refine kv_bipush C 45 dX10_write_135 (by decide) ?_
          obtain ⟨⟨v_writtenCount_45, a_written_46⟩, hm_47, h⟩ := ob_e h
          replace h : _ = _ := h
          refine kv_callWv C [.int 45] 0 (c_X10_put l D h0 q cI v_code v_side v_rights v_passed v_halves v_number v_top v_typedCount v_readAt v_place v_writtenCount v_chosenFrom v_chosenTo v_chosenTurn v_changed v_readSide v_readRights v_readPassed v_readHalves v_readNumber a_board a_before a_typed a_written a_froms a_tos a_turns a_counts a_changedSquare a_changedMan a_readBoard 45 v_writtenCount_45 a_written_46 hm_47) (cv_X10_put C.ts lm_RX10_284 ⟨Nat.le_of_ble_eq_true rfl, Nat.le_of_ble_eq_true rfl⟩) rfl rfl rfl rfl (Nat.le_of_ble_eq_true rfl) dX10_write_137 ⟨Nat.zero_le _, Nat.zero_le _⟩ ?_
          exact kv_lv [0] (lv2 := [(0, .ref h0)]) rfl (j140 v_code v_writtenCount_45 a_written_46 h)
      · have h := oi_f h c_43
        refine kv_aload_n C 0 dX10_write_74 rfl rfl ?_
        refine kv_get C (Cn := RX10) (T := TX10) (N := 31) 0 3 hin10 rfl rfl (by decide) (C.ts _ (List.mem_cons_of_mem _ lf_RX10_60)) rfl rfl dX10_write_75 ?_
        refine kv_iload_n C 1 dX10_write_78 rfl rfl ?_
        refine kv_ishr C dX10_write_79 ?_
        refine kv_iconst C 1 dX10_write_80 (by decide) ?_
        refine kv_iand C dX10_write_81 ?_
        refine kv_iconst C 1 dX10_write_82 (by decide) ?_
        refine kv_icmp_ne C 121 dX10_write_83 (by decide) (fun c_49 => ?_) (fun c_49 => ?_)
        · have h := oi_f h c_49
          exact kv_lv [0, 1] (lv2 := [(0, .ref h0), (1, .int x1)]) rfl (j121 v_code v_writtenCount a_written x1 h)
        · have h := oi_t h c_49
          refine kv_aload_n C 0 dX10_write_86 rfl rfl ?_
          refine kv_iload_n C 1 dX10_write_87 rfl rfl ?_
          refine kv_if_ne C 96 dX10_write_88 (by decide) (fun c_50 => ?_) (fun c_50 => ?_)
          · have h := oi_f h c_50
            refine kv_iload_n C 1 dX10_write_96 rfl rfl ?_
            refine kv_iconst C 1 dX10_write_97 (by decide) ?_
            refine kv_icmp_ne C 106 dX10_write_98 (by decide) (fun c_51 => ?_) (fun c_51 => ?_)
            · have h := oi_f h c_51
              refine kv_iload_n C 1 dX10_write_106 rfl rfl ?_
              refine kv_iconst C 2 dX10_write_107 (by decide) ?_
              refine kv_icmp_ne C 116 dX10_write_108 (by decide) (fun c_52 => ?_) (fun c_52 => ?_)
              · have h := oi_f h c_52
                refine kv_bipush C 113 dX10_write_116 (by decide) ?_
                exact kv_lv [0, 1] (lv2 := [(0, .ref h0), (1, .int x1)]) rfl (j118 v_code v_writtenCount a_written x1 113 h)
              · have h := oi_t h c_52
                refine kv_bipush C 107 dX10_write_111 (by decide) ?_
                refine kv_goto C 118 dX10_write_113 (by decide) ?_
                exact kv_lv [0, 1] (lv2 := [(0, .ref h0), (1, .int x1)]) rfl (j118 v_code v_writtenCount a_written x1 107 h)
            · have h := oi_t h c_51
              refine kv_bipush C 81 dX10_write_101 (by decide) ?_
              refine kv_goto C 118 dX10_write_103 (by decide) ?_
              exact kv_lv [0, 1] (lv2 := [(0, .ref h0), (1, .int x1)]) rfl (j118 v_code v_writtenCount a_written x1 81 h)
          · have h := oi_t h c_50
            refine kv_bipush C 75 dX10_write_91 (by decide) ?_
            refine kv_goto C 118 dX10_write_93 (by decide) ?_
            exact kv_lv [0, 1] (lv2 := [(0, .ref h0), (1, .int x1)]) rfl (j118 v_code v_writtenCount a_written x1 75 h)
  have j58 : ∀ (v_code : Int32) (v_writtenCount : Int32) (a_written : Nat → Int32) (t1 : Int32), m_X10_write_b58  v_code v_side v_rights v_passed v_halves v_number v_writtenCount a_board a_written t1 = some (rv, v_code', v_writtenCount', a_written') → kv p l e rm_X10_write s m ([.ref h0] : List Value).toArray below meth c D A 2 0 0 Q (wM h0 q cI v_code v_side v_rights v_passed v_halves v_number v_top v_typedCount v_readAt v_place v_writtenCount v_chosenFrom v_chosenTo v_chosenTurn v_changed v_readSide v_readRights v_readPassed v_readHalves v_readNumber a_board a_before a_typed a_written a_froms a_tos a_turns a_counts a_changedSquare a_changedMan a_readBoard) [(0, .ref h0)] 58 [.int t1, .ref h0] := by
    intro v_code v_writtenCount a_written t1 h
    unfold m_X10_write_b58 at h
    obtain ⟨⟨v_writtenCount_53, a_written_54⟩, hm_55, h⟩ := ob_e h
    replace h : _ = _ := h
    refine kv_callWv C [.int t1] 0 (c_X10_put l D h0 q cI v_code v_side v_rights v_passed v_halves v_number v_top v_typedCount v_readAt v_place v_writtenCount v_chosenFrom v_chosenTo v_chosenTurn v_changed v_readSide v_readRights v_readPassed v_readHalves v_readNumber a_board a_before a_typed a_written a_froms a_tos a_turns a_counts a_changedSquare a_changedMan a_readBoard t1 v_writtenCount_53 a_written_54 hm_55) (cv_X10_put C.ts lm_RX10_284 ⟨Nat.le_of_ble_eq_true rfl, Nat.le_of_ble_eq_true rfl⟩) rfl rfl rfl rfl (Nat.le_of_ble_eq_true rfl) dX10_write_58 ⟨Nat.zero_le _, Nat.zero_le _⟩ ?_
    refine kv_aload_n C 0 dX10_write_61 rfl rfl ?_
    refine kv_bipush C 32 dX10_write_62 (by decide) ?_
    obtain ⟨⟨v_writtenCount_57, a_written_58⟩, hm_59, h⟩ := ob_e h
    replace h : _ = _ := h
    refine kv_callWv C [.int 32] 0 (c_X10_put l D h0 q cI v_code v_side v_rights v_passed v_halves v_number v_top v_typedCount v_readAt v_place v_writtenCount_53 v_chosenFrom v_chosenTo v_chosenTurn v_changed v_readSide v_readRights v_readPassed v_readHalves v_readNumber a_board a_before a_typed a_written_54 a_froms a_tos a_turns a_counts a_changedSquare a_changedMan a_readBoard 32 v_writtenCount_57 a_written_58 hm_59) (cv_X10_put C.ts lm_RX10_284 ⟨Nat.le_of_ble_eq_true rfl, Nat.le_of_ble_eq_true rfl⟩) rfl rfl rfl rfl (Nat.le_of_ble_eq_true rfl) dX10_write_64 ⟨Nat.zero_le _, Nat.zero_le _⟩ ?_
    refine kv_iconst C 0 dX10_write_67 (by decide) ?_
    refine kv_istore_n C (lv2 := [(0, .ref h0), (1, .int 0)]) [1, 0] dX10_write_68 rfl (by decide) rfl rfl ?_
    exact kv_lv [0, 1] (lv2 := [(0, .ref h0), (1, .int 0)]) rfl (l69 kF v_code v_writtenCount_57 a_written_58 0 h)
  have l13 : ∀ (n13 : Nat) (v_code : Int32) (v_writtenCount : Int32) (a_written : Nat → Int32) (x1 : Int32), m_X10_write_l13  v_side v_rights v_passed v_halves v_number a_board n13 v_code v_writtenCount a_written x1 = some (rv, v_code', v_writtenCount', a_written') → kv p l e rm_X10_write s m ([.ref h0] : List Value).toArray below meth c D A 2 0 0 Q (wM h0 q cI v_code v_side v_rights v_passed v_halves v_number v_top v_typedCount v_readAt v_place v_writtenCount v_chosenFrom v_chosenTo v_chosenTurn v_changed v_readSide v_readRights v_readPassed v_readHalves v_readNumber a_board a_before a_typed a_written a_froms a_tos a_turns a_counts a_changedSquare a_changedMan a_readBoard) [(0, .ref h0), (1, .int x1)] 13 [] := by
    intro n13
    induction n13 with
    | zero =>
      intro v_code v_writtenCount a_written x1 h
      exact kv_no h
    | succ n13 ih13 =>
      have j34 : ∀ (v_code : Int32) (v_writtenCount : Int32) (a_written : Nat → Int32) (x1 : Int32) (t1 : Int32), m_X10_write_b34 (m_X10_write_l13  v_side v_rights v_passed v_halves v_number a_board n13) v_code v_side v_rights v_passed v_halves v_number v_writtenCount a_board a_written x1 t1 = some (rv, v_code', v_writtenCount', a_written') → kv p l e rm_X10_write s m ([.ref h0] : List Value).toArray below meth c D A 2 0 0 Q (wM h0 q cI v_code v_side v_rights v_passed v_halves v_number v_top v_typedCount v_readAt v_place v_writtenCount v_chosenFrom v_chosenTo v_chosenTurn v_changed v_readSide v_readRights v_readPassed v_readHalves v_readNumber a_board a_before a_typed a_written a_froms a_tos a_turns a_counts a_changedSquare a_changedMan a_readBoard) [(0, .ref h0), (1, .int x1)] 34 [.int t1, .ref h0] := by
        intro v_code v_writtenCount a_written x1 t1 h
        unfold m_X10_write_b34 at h
        obtain ⟨⟨v_writtenCount_61, a_written_62⟩, hm_63, h⟩ := ob_e h
        replace h : _ = _ := h
        refine kv_callWv C [.int t1] 0 (c_X10_put l D h0 q cI v_code v_side v_rights v_passed v_halves v_number v_top v_typedCount v_readAt v_place v_writtenCount v_chosenFrom v_chosenTo v_chosenTurn v_changed v_readSide v_readRights v_readPassed v_readHalves v_readNumber a_board a_before a_typed a_written a_froms a_tos a_turns a_counts a_changedSquare a_changedMan a_readBoard t1 v_writtenCount_61 a_written_62 hm_63) (cv_X10_put C.ts lm_RX10_284 ⟨Nat.le_of_ble_eq_true rfl, Nat.le_of_ble_eq_true rfl⟩) rfl rfl rfl rfl (Nat.le_of_ble_eq_true rfl) dX10_write_34 ⟨Nat.zero_le _, Nat.zero_le _⟩ ?_
        obtain ⟨x1_65, ex1_65, h⟩ := ol_e h
        refine kv_iinc C (v := x1_65) (lv2 := [(0, .ref h0), (1, .int x1_65)]) 1 [1, 0] dX10_write_37 rfl ex1_65.symm (by decide) rfl rfl ?_
        refine kv_goto C 13 dX10_write_40 (by decide) ?_
        exact kv_lv [0, 1] (lv2 := [(0, .ref h0), (1, .int x1_65)]) rfl (ih13 v_code v_writtenCount_61 a_written_62 x1_65 h)
      intro v_code v_writtenCount a_written x1 h
      replace h : m_X10_write_b13  (m_X10_write_l13  v_side v_rights v_passed v_halves v_number a_board n13) v_code v_side v_rights v_passed v_halves v_number v_writtenCount a_board a_written x1 = some (rv, v_code', v_writtenCount', a_written') := h
      unfold m_X10_write_b13 at h
      refine kv_iload_n C 1 dX10_write_13 rfl rfl ?_
      refine kv_if_lt C 43 dX10_write_14 (by decide) (fun c_66 => ?_) (fun c_66 => ?_)
      · have h := oi_t h c_66
        refine kv_aload_n C 0 dX10_write_43 rfl rfl ?_
        refine kv_aload_n C 0 dX10_write_44 rfl rfl ?_
        refine kv_get C (Cn := RX10) (T := TX10) (N := 31) 0 2 hin10 rfl rfl (by decide) (C.ts _ (List.mem_cons_of_mem _ lf_RX10_119)) rfl rfl dX10_write_45 ?_
        refine kv_if_ne C 56 dX10_write_48 (by decide) (fun c_67 => ?_) (fun c_67 => ?_)
        · have h := oi_f h c_67
          refine kv_bipush C 98 dX10_write_56 (by decide) ?_
          exact kv_lv [0] (lv2 := [(0, .ref h0)]) rfl (j58 v_code v_writtenCount a_written 98 h)
        · have h := oi_t h c_67
          refine kv_bipush C 119 dX10_write_51 (by decide) ?_
          refine kv_goto C 58 dX10_write_53 (by decide) ?_
          exact kv_lv [0] (lv2 := [(0, .ref h0)]) rfl (j58 v_code v_writtenCount a_written 119 h)
      · have h := oi_f h c_66
        refine kv_aload_n C 0 dX10_write_17 rfl rfl ?_
        refine kv_iload_n C 1 dX10_write_18 rfl rfl ?_
        obtain ⟨⟨v_writtenCount_68, a_written_69⟩, hm_70, h⟩ := ob_e h
        replace h : _ = _ := h
        refine kv_callWv C [.int x1] 0 (c_X10_putRow l D h0 q cI v_code v_side v_rights v_passed v_halves v_number v_top v_typedCount v_readAt v_place v_writtenCount v_chosenFrom v_chosenTo v_chosenTurn v_changed v_readSide v_readRights v_readPassed v_readHalves v_readNumber a_board a_before a_typed a_written a_froms a_tos a_turns a_counts a_changedSquare a_changedMan a_readBoard x1 v_writtenCount_68 a_written_69 hm_70) (cv_X10_putRow C.ts lm_RX10_290 ⟨Nat.le_of_ble_eq_true rfl, Nat.le_of_ble_eq_true rfl⟩) rfl rfl rfl rfl (Nat.le_of_ble_eq_true rfl) dX10_write_19 ⟨Nat.zero_le _, Nat.zero_le _⟩ ?_
        refine kv_aload_n C 0 dX10_write_22 rfl rfl ?_
        refine kv_iload_n C 1 dX10_write_23 rfl rfl ?_
        refine kv_if_le C 32 dX10_write_24 (by decide) (fun c_72 => ?_) (fun c_72 => ?_)
        · have h := oi_t h c_72
          refine kv_bipush C 32 dX10_write_32 (by decide) ?_
          exact kv_lv [0, 1] (lv2 := [(0, .ref h0), (1, .int x1)]) rfl (j34 v_code v_writtenCount_68 a_written_69 x1 32 h)
        · have h := oi_f h c_72
          refine kv_bipush C 47 dX10_write_27 (by decide) ?_
          refine kv_goto C 34 dX10_write_29 (by decide) ?_
          exact kv_lv [0, 1] (lv2 := [(0, .ref h0), (1, .int x1)]) rfl (j34 v_code v_writtenCount_68 a_written_69 x1 47 h)
  unfold m_X10_write at hm
  have h := hm
  refine kv_lv [0] (lv2 := [(0, .ref h0)]) rfl ?_
  refine kv_aload_n C 0 dX10_write_0 rfl rfl ?_
  refine kv_iconst C 0 dX10_write_1 (by decide) ?_
  refine kv_put C (Cn := RX10) (T := TX10) (N := 31) (ty := .int) (ws1 := (wM h0 q cI 0 v_side v_rights v_passed v_halves v_number v_top v_typedCount v_readAt v_place v_writtenCount v_chosenFrom v_chosenTo v_chosenTurn v_changed v_readSide v_readRights v_readPassed v_readHalves v_readNumber a_board a_before a_typed a_written a_froms a_tos a_turns a_counts a_changedSquare a_changedMan a_readBoard)) 0 0 hin10 tyX10 tyX10_ok nmX10 rfl rfl (by decide) (C.ts _ (List.mem_cons_of_mem _ lf_RX10_66)) rfl rfl (by decide +kernel) rfl rfl (Nat.le_of_ble_eq_true rfl) rfl dX10_write_2 ?_
  refine kv_aload_n C 0 dX10_write_5 rfl rfl ?_
  refine kv_iconst C 0 dX10_write_6 (by decide) ?_
  refine kv_put C (Cn := RX10) (T := TX10) (N := 31) (ty := .int) (ws1 := (wM h0 q cI 0 v_side v_rights v_passed v_halves v_number v_top v_typedCount v_readAt v_place 0 v_chosenFrom v_chosenTo v_chosenTurn v_changed v_readSide v_readRights v_readPassed v_readHalves v_readNumber a_board a_before a_typed a_written a_froms a_tos a_turns a_counts a_changedSquare a_changedMan a_readBoard)) 0 14 hin10 tyX10 tyX10_ok nmX10 rfl rfl (by decide) (C.ts _ (List.mem_cons_of_mem _ lf_RX10_281)) rfl rfl (by decide +kernel) rfl rfl (Nat.le_of_ble_eq_true rfl) rfl dX10_write_7 ?_
  refine kv_bipush C 7 dX10_write_10 (by decide) ?_
  refine kv_istore_n C (lv2 := [(0, .ref h0), (1, .int 7)]) [1, 0] dX10_write_12 rfl (by decide) rfl rfl ?_
  exact kv_lv [0, 1] (lv2 := [(0, .ref h0), (1, .int 7)]) rfl (l13 kF 0 0 a_written 7 h)
def m_X10_written_b38 (v_code : Int32) (v_writtenCount : Int32) (a_written : Nat → Int32) (t0 : Int32) : Option (Int32 × Int32) := some (t0, v_code)
def m_X10_written_b18 (v_code : Int32) (v_writtenCount : Int32) (a_written : Nat → Int32) (x1 : Int32) (t1 : Int32) : Option (Int32 × Int32) := if t1 ≤ 0 then oin (x1) 128 (m_X10_written_b38 t1 v_writtenCount a_written (a_written x1.toNatClampNeg)) else m_X10_written_b38 t1 v_writtenCount a_written 0
def m_X10_written_b13 (v_code : Int32) (v_writtenCount : Int32) (a_written : Nat → Int32) (x1 : Int32) : Option (Int32 × Int32) := m_X10_written_b18 v_code v_writtenCount a_written x1 1
def m_X10_written (v_code : Int32) (v_writtenCount : Int32) (a_written : Nat → Int32) (p0 : Int32) : Option (Int32 × Int32) := if p0 < 0 then m_X10_written_b13 v_code v_writtenCount a_written p0 else if p0 < v_writtenCount then m_X10_written_b18 v_code v_writtenCount a_written p0 0 else m_X10_written_b13 v_code v_writtenCount a_written p0
abbrev rm_X10_written : Room := { frames := 0, cells := 0, slots := 0, locals := 0 }
abbrev wy_X10_written : List Cond := .code yX10_written cX10_written 2 (some .int) :: gT
theorem cv_X10_written {R : Room} {s : State} {args : Array Value} {own : String} {index : Nat} {w0 : Cond} (hts : ∀ w ∈ w0 :: gT, w.before args s = true) (hl : Cond.methodLink own index yX10_written ∈ gT) (hR : 0 + 1 ≤ R.frames ∧ 8 + (2 + 11) + 0 ≤ R.locals) : CallW R s args own RX10 index yX10_written cX10_written 2 (some .int) wy_X10_written rm_X10_written 0 0 1 :=
  cwV 1 hts (gT_call w0 (pre := [.methodLink own index yX10_written, .instanceMethod yX10_written, .selects RX10 yX10_written yX10_written, .initialized RX10]) (gT_lc hl (gT_lc ly_yX10_written (gT_lc lx_yX10_written (gT_l1 li_RX10)))) lc_yX10_written) rfl rfl rfl (by decide +kernel) hR
set_option maxRecDepth 100000 in
set_option maxHeartbeats 4000000 in
theorem c_X10_written (l : Launch) (D : va_G) (h0 : Nat) (q : Nat → Nat) (cI : ClassId) (v_code : Int32) (v_side : Int32) (v_rights : Int32) (v_passed : Int32) (v_halves : Int32) (v_number : Int32) (v_top : Int32) (v_typedCount : Int32) (v_readAt : Int32) (v_place : Int32) (v_writtenCount : Int32) (v_chosenFrom : Int32) (v_chosenTo : Int32) (v_chosenTurn : Int32) (v_changed : Int32) (v_readSide : Int32) (v_readRights : Int32) (v_readPassed : Int32) (v_readHalves : Int32) (v_readNumber : Int32) (a_board : Nat → Int32) (a_before : Nat → Int32) (a_typed : Nat → Int32) (a_written : Nat → Int32) (a_froms : Nat → Int32) (a_tos : Nat → Int32) (a_turns : Nat → Int32) (a_counts : Nat → Int32) (a_changedSquare : Nat → Int32) (a_changedMan : Nat → Int32) (a_readBoard : Nat → Int32) (p0 : Int32) (rv : Int32) (v_code' : Int32) (hm : m_X10_written v_code v_writtenCount a_written p0 = some (rv, v_code')) : kDi l yX10_written wy_X10_written rm_X10_written D [(cI, .int)] rv (wM h0 q cI v_code v_side v_rights v_passed v_halves v_number v_top v_typedCount v_readAt v_place v_writtenCount v_chosenFrom v_chosenTo v_chosenTurn v_changed v_readSide v_readRights v_readPassed v_readHalves v_readNumber a_board a_before a_typed a_written a_froms a_tos a_turns a_counts a_changedSquare a_changedMan a_readBoard) (wM h0 q cI v_code' v_side v_rights v_passed v_halves v_number v_top v_typedCount v_readAt v_place v_writtenCount v_chosenFrom v_chosenTo v_chosenTurn v_changed v_readSide v_readRights v_readPassed v_readHalves v_readNumber a_board a_before a_typed a_written a_froms a_tos a_turns a_counts a_changedSquare a_changedMan a_readBoard) [.ref h0, .int p0] := by
  refine kDi.of cX10_written 2 (some .int) (by decide) rfl (Or.inl rfl) (Nat.le_of_ble_eq_true rfl) ?_
  intro p e s m below meth c A Q C hret
  have hin10 : ∀ w ∈ wsX100, w ∈ wy_X10_written := fun w h => List.mem_cons_of_mem _ (inG10 w h)
  have j38 : ∀ (v_code : Int32) (t0 : Int32), m_X10_written_b38  v_code v_writtenCount a_written t0 = some (rv, v_code') → kv p l e rm_X10_written s m ([.ref h0, .int p0] : List Value).toArray below meth c D A 2 0 0 Q (wM h0 q cI v_code v_side v_rights v_passed v_halves v_number v_top v_typedCount v_readAt v_place v_writtenCount v_chosenFrom v_chosenTo v_chosenTurn v_changed v_readSide v_readRights v_readPassed v_readHalves v_readNumber a_board a_before a_typed a_written a_froms a_tos a_turns a_counts a_changedSquare a_changedMan a_readBoard) [] 38 [.int t0] := by
    intro v_code t0 h
    unfold m_X10_written_b38 at h
    cases h
    exact hret _ _ dX10_written_38 (fun q => by cases q)
  have j18 : ∀ (v_code : Int32) (x1 : Int32) (t1 : Int32), m_X10_written_b18  v_code v_writtenCount a_written x1 t1 = some (rv, v_code') → kv p l e rm_X10_written s m ([.ref h0, .int p0] : List Value).toArray below meth c D A 2 0 0 Q (wM h0 q cI v_code v_side v_rights v_passed v_halves v_number v_top v_typedCount v_readAt v_place v_writtenCount v_chosenFrom v_chosenTo v_chosenTurn v_changed v_readSide v_readRights v_readPassed v_readHalves v_readNumber a_board a_before a_typed a_written a_froms a_tos a_turns a_counts a_changedSquare a_changedMan a_readBoard) [(0, .ref h0), (1, .int x1)] 18 [.int t1, .ref h0] := by
    intro v_code x1 t1 h
    unfold m_X10_written_b18 at h
    refine kv_put C (Cn := RX10) (T := TX10) (N := 31) (ty := .int) (ws1 := (wM h0 q cI t1 v_side v_rights v_passed v_halves v_number v_top v_typedCount v_readAt v_place v_writtenCount v_chosenFrom v_chosenTo v_chosenTurn v_changed v_readSide v_readRights v_readPassed v_readHalves v_readNumber a_board a_before a_typed a_written a_froms a_tos a_turns a_counts a_changedSquare a_changedMan a_readBoard)) 0 0 hin10 tyX10 tyX10_ok nmX10 rfl rfl (by decide) (C.ts _ (List.mem_cons_of_mem _ lf_RX10_66)) rfl rfl (by decide +kernel) rfl rfl (Nat.le_of_ble_eq_true rfl) rfl dX10_written_18 ?_
    refine kv_aload_n C 0 dX10_written_21 rfl rfl ?_
    refine kv_get C (Cn := RX10) (T := TX10) (N := 31) 0 0 hin10 rfl rfl (by decide) (C.ts _ (List.mem_cons_of_mem _ lf_RX10_66)) rfl rfl dX10_written_22 ?_
    refine kv_if_le C 32 dX10_written_25 (by decide) (fun c_1 => ?_) (fun c_1 => ?_)
    · have h := oi_t h c_1
      refine kv_aload_n C 0 dX10_written_32 rfl rfl ?_
      refine kv_get C (Cn := RX10) (T := TX10) (N := 31) 0 13 hin10 rfl rfl (by decide) (C.ts _ (List.mem_cons_of_mem _ lf_RX10_27)) rfl rfl dX10_written_33 ?_
      refine kv_iload_n C 1 dX10_written_36 rfl rfl ?_
      obtain ⟨g_2, h⟩ := oin_e h
      refine kv_iald C 4 0 rfl rfl g_2 dX10_written_37 ?_
      exact kv_lv [] (lv2 := []) rfl (j38 t1 (a_written x1.toNatClampNeg) h)
    · have h := oi_f h c_1
      refine kv_iconst C 0 dX10_written_28 (by decide) ?_
      refine kv_goto C 38 dX10_written_29 (by decide) ?_
      exact kv_lv [] (lv2 := []) rfl (j38 t1 0 h)
  have j13 : ∀ (v_code : Int32) (x1 : Int32), m_X10_written_b13  v_code v_writtenCount a_written x1 = some (rv, v_code') → kv p l e rm_X10_written s m ([.ref h0, .int p0] : List Value).toArray below meth c D A 2 0 0 Q (wM h0 q cI v_code v_side v_rights v_passed v_halves v_number v_top v_typedCount v_readAt v_place v_writtenCount v_chosenFrom v_chosenTo v_chosenTurn v_changed v_readSide v_readRights v_readPassed v_readHalves v_readNumber a_board a_before a_typed a_written a_froms a_tos a_turns a_counts a_changedSquare a_changedMan a_readBoard) [(0, .ref h0), (1, .int x1)] 13 [.ref h0] := by
    intro v_code x1 h
    unfold m_X10_written_b13 at h
    refine kv_iconst C 1 dX10_written_13 (by decide) ?_
    refine kv_goto C 18 dX10_written_14 (by decide) ?_
    exact kv_lv [0, 1] (lv2 := [(0, .ref h0), (1, .int x1)]) rfl (j18 v_code x1 1 h)
  unfold m_X10_written at hm
  have h := hm
  refine kv_lv [0, 1] (lv2 := [(0, .ref h0), (1, .int p0)]) rfl ?_
  refine kv_aload_n C 0 dX10_written_0 rfl rfl ?_
  refine kv_iload_n C 1 dX10_written_1 rfl rfl ?_
  refine kv_if_lt C 13 dX10_written_2 (by decide) (fun c_3 => ?_) (fun c_3 => ?_)
  · have h := oi_t h c_3
    exact kv_lv [0, 1] (lv2 := [(0, .ref h0), (1, .int p0)]) rfl (j13 v_code p0 h)
  · have h := oi_f h c_3
    refine kv_iload_n C 1 dX10_written_5 rfl rfl ?_
    refine kv_aload_n C 0 dX10_written_6 rfl rfl ?_
    refine kv_get C (Cn := RX10) (T := TX10) (N := 31) 0 14 hin10 rfl rfl (by decide) (C.ts _ (List.mem_cons_of_mem _ lf_RX10_281)) rfl rfl dX10_written_7 ?_
    refine kv_icmp_lt C 17 dX10_written_10 (by decide) (fun c_4 => ?_) (fun c_4 => ?_)
    · have h := oi_t h c_4
      refine kv_iconst C 0 dX10_written_17 (by decide) ?_
      exact kv_lv [0, 1] (lv2 := [(0, .ref h0), (1, .int p0)]) rfl (j18 v_code p0 0 h)
    · have h := oi_f h c_4
      exact kv_lv [0, 1] (lv2 := [(0, .ref h0), (1, .int p0)]) rfl (j13 v_code p0 h)
