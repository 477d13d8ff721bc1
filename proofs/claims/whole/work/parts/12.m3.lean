/-! X10: X10_isBare, X10_stood, X10_isThrice, X10_state, X10_worthOf, X10_worthNow, X10_worth, X10_ended, X10_makeMove, X10_valueOne, X10_valueTwo, X10_behind, X10_search -/
def m_X10_isBare_b174 (a_board : Nat → Int32) (t0 : Int32) : Option (Int32) := obl (t0) (some t0)
def m_X10_isBare_b173 (a_board : Nat → Int32) : Option (Int32) := m_X10_isBare_b174 a_board 0
def m_X10_isBare_b169 (a_board : Nat → Int32) : Option (Int32) := m_X10_isBare_b174 a_board 1
def m_X10_isBare_b158 (a_board : Nat → Int32) (x1 : Int32) (x2 : Int32) (x3 : Int32) : Option (Int32) := if x1 = 1 then if (x2 + x3) = 0 then m_X10_isBare_b169 a_board else m_X10_isBare_b173 a_board else m_X10_isBare_b173 a_board
def m_X10_isBare_b133 (k12 : Int32 → Int32 → Int32 → Int32 → Int32 → Option (Int32)) (a_board : Nat → Int32) (x1 : Int32) (x2 : Int32) (x3 : Int32) (x5 : Int32) (t0 : Int32) : Option (Int32) := ol (x5 + 1) fun x5_4 => k12 x1 x2 x3 t0 x5_4
def m_X10_isBare_b124 (k12 : Int32 → Int32 → Int32 → Int32 → Int32 → Option (Int32)) (a_board : Nat → Int32) (x1 : Int32) (x2 : Int32) (x3 : Int32) (x4 : Int32) (x5 : Int32) : Option (Int32) := m_X10_isBare_b133 k12 a_board x1 x2 x3 x5 (x4 + 1)
def m_X10_isBare_b105 (k12 : Int32 → Int32 → Int32 → Int32 → Int32 → Option (Int32)) (a_board : Nat → Int32) (x1 : Int32) (x2 : Int32) (x4 : Int32) (x5 : Int32) (x6 : Int32) (t0 : Int32) : Option (Int32) := if x6 = 1 then m_X10_isBare_b124 k12 a_board x1 x2 t0 x4 x5 else if x6 = 4 then m_X10_isBare_b124 k12 a_board x1 x2 t0 x4 x5 else if x6 = 5 then m_X10_isBare_b124 k12 a_board x1 x2 t0 x4 x5 else m_X10_isBare_b133 k12 a_board x1 x2 t0 x5 x4
def m_X10_isBare_b104 (k12 : Int32 → Int32 → Int32 → Int32 → Int32 → Option (Int32)) (a_board : Nat → Int32) (x1 : Int32) (x2 : Int32) (x3 : Int32) (x4 : Int32) (x5 : Int32) (x6 : Int32) : Option (Int32) := m_X10_isBare_b105 k12 a_board x1 x2 x4 x5 x6 x3
def m_X10_isBare_b86 (k12 : Int32 → Int32 → Int32 → Int32 → Int32 → Option (Int32)) (a_board : Nat → Int32) (x1 : Int32) (x3 : Int32) (x4 : Int32) (x5 : Int32) (x6 : Int32) (x7 : Int32) (t0 : Int32) : Option (Int32) := if x6 = 3 then if x7 = 0 then m_X10_isBare_b105 k12 a_board x1 t0 x4 x5 x6 (x3 + 1) else m_X10_isBare_b104 k12 a_board x1 t0 x3 x4 x5 x6 else m_X10_isBare_b104 k12 a_board x1 t0 x3 x4 x5 x6
def m_X10_isBare_b85 (k12 : Int32 → Int32 → Int32 → Int32 → Int32 → Option (Int32)) (a_board : Nat → Int32) (x1 : Int32) (x2 : Int32) (x3 : Int32) (x4 : Int32) (x5 : Int32) (x6 : Int32) (x7 : Int32) : Option (Int32) := m_X10_isBare_b86 k12 a_board x1 x3 x4 x5 x6 x7 x2
def m_X10_isBare_b67 (k12 : Int32 → Int32 → Int32 → Int32 → Int32 → Option (Int32)) (a_board : Nat → Int32) (x2 : Int32) (x3 : Int32) (x4 : Int32) (x5 : Int32) (x6 : Int32) (x7 : Int32) (t0 : Int32) : Option (Int32) := if x6 = 3 then if x7 = 0 then m_X10_isBare_b85 k12 a_board t0 x2 x3 x4 x5 x6 x7 else m_X10_isBare_b86 k12 a_board t0 x3 x4 x5 x6 x7 (x2 + 1) else m_X10_isBare_b85 k12 a_board t0 x2 x3 x4 x5 x6 x7
def m_X10_isBare_b52 (k12 : Int32 → Int32 → Int32 → Int32 → Int32 → Option (Int32)) (a_board : Nat → Int32) (x1 : Int32) (x2 : Int32) (x3 : Int32) (x4 : Int32) (x5 : Int32) (x6 : Int32) (t0 : Int32) : Option (Int32) := if x6 = 2 then m_X10_isBare_b67 k12 a_board x2 x3 x4 x5 x6 t0 (x1 + 1) else m_X10_isBare_b67 k12 a_board x2 x3 x4 x5 x6 t0 x1
def m_X10_isBare_b12 (k12 : Int32 → Int32 → Int32 → Int32 → Int32 → Option (Int32)) (a_board : Nat → Int32) (x1 : Int32) (x2 : Int32) (x3 : Int32) (x4 : Int32) (x5 : Int32) : Option (Int32) := if 64 ≤ x5 then if x4 = 0 then if x1 = 0 then if x2 = 0 then m_X10_isBare_b169 a_board else if x3 = 0 then m_X10_isBare_b169 a_board else m_X10_isBare_b158 a_board x1 x2 x3 else m_X10_isBare_b158 a_board x1 x2 x3 else m_X10_isBare_b173 a_board else oin (x5) 64 (ob (m_X10_kindOf (a_board x5.toNatClampNeg)) fun r_19 => ob (m_X10_rowOf x5) fun r_21 => ob (m_X10_columnOf x5) fun r_23 => ol (r_21 + r_23) fun y_25 => if (y_25 - y_25 / 2 * 2) = 0 then m_X10_isBare_b52 k12 a_board x1 x2 x3 x4 x5 r_19 1 else m_X10_isBare_b52 k12 a_board x1 x2 x3 x4 x5 r_19 0)
def m_X10_isBare_l12 (a_board : Nat → Int32) (n : Nat) : Int32 → Int32 → Int32 → Int32 → Int32 → Option (Int32) := fz (fun _ _ _ _ _ => none) (fun k12 x1 x2 x3 x4 x5 => m_X10_isBare_b12 k12 a_board x1 x2 x3 x4 x5) n
def m_X10_isBare (a_board : Nat → Int32) : Option (Int32) := m_X10_isBare_l12 a_board kF 0 0 0 0 0
abbrev rm_X10_isBare : Room := { frames := 1, cells := 0, slots := 0, locals := 20 }
abbrev wy_X10_isBare : List Cond := .code yX10_isBare cX10_isBare 8 (some .boolean) :: gT
theorem cv_X10_isBare {R : Room} {s : State} {args : Array Value} {own : String} {index : Nat} {w0 : Cond} (hts : ∀ w ∈ w0 :: gT, w.before args s = true) (hl : Cond.methodLink own index yX10_isBare ∈ gT) (hR : 1 + 1 ≤ R.frames ∧ 8 + (8 + 11) + 20 ≤ R.locals) : CallW R s args own RX10 index yX10_isBare cX10_isBare 8 (some .boolean) wy_X10_isBare rm_X10_isBare 0 0 0 :=
  cwV 0 hts (gT_call w0 (pre := [.methodLink own index yX10_isBare, .instanceMethod yX10_isBare, .selects RX10 yX10_isBare yX10_isBare, .initialized RX10]) (gT_lc hl (gT_lc ly_yX10_isBare (gT_lc lx_yX10_isBare (gT_l1 li_RX10)))) lc_yX10_isBare) rfl rfl rfl (by decide +kernel) hR
set_option maxRecDepth 100000 in
set_option maxHeartbeats 4000000 in
theorem c_X10_isBare (l : Launch) (D : va_G) (h0 : Nat) (q : Nat → Nat) (cI : ClassId) (v_code : Int32) (v_side : Int32) (v_rights : Int32) (v_passed : Int32) (v_halves : Int32) (v_number : Int32) (v_top : Int32) (v_typedCount : Int32) (v_readAt : Int32) (v_place : Int32) (v_writtenCount : Int32) (v_chosenFrom : Int32) (v_chosenTo : Int32) (v_chosenTurn : Int32) (v_changed : Int32) (v_readSide : Int32) (v_readRights : Int32) (v_readPassed : Int32) (v_readHalves : Int32) (v_readNumber : Int32) (a_board : Nat → Int32) (a_before : Nat → Int32) (a_typed : Nat → Int32) (a_written : Nat → Int32) (a_froms : Nat → Int32) (a_tos : Nat → Int32) (a_turns : Nat → Int32) (a_counts : Nat → Int32) (a_changedSquare : Nat → Int32) (a_changedMan : Nat → Int32) (a_readBoard : Nat → Int32) (rv : Int32) (hm : m_X10_isBare a_board = some rv) : kDi l yX10_isBare wy_X10_isBare rm_X10_isBare D [(cI, .int)] rv (wM h0 q cI v_code v_side v_rights v_passed v_halves v_number v_top v_typedCount v_readAt v_place v_writtenCount v_chosenFrom v_chosenTo v_chosenTurn v_changed v_readSide v_readRights v_readPassed v_readHalves v_readNumber a_board a_before a_typed a_written a_froms a_tos a_turns a_counts a_changedSquare a_changedMan a_readBoard) (wM h0 q cI v_code v_side v_rights v_passed v_halves v_number v_top v_typedCount v_readAt v_place v_writtenCount v_chosenFrom v_chosenTo v_chosenTurn v_changed v_readSide v_readRights v_readPassed v_readHalves v_readNumber a_board a_before a_typed a_written a_froms a_tos a_turns a_counts a_changedSquare a_changedMan a_readBoard) [.ref h0] := by
  refine kDi.of cX10_isBare 8 (some .boolean) (by decide) rfl (Or.inr rfl) (Nat.le_of_ble_eq_true rfl) ?_
  intro p e s m below meth c A Q C hret
  have hin10 : ∀ w ∈ wsX100, w ∈ wy_X10_isBare := fun w h => List.mem_cons_of_mem _ (inG10 w h)
  have j174 : ∀ (t0 : Int32), m_X10_isBare_b174  a_board t0 = some rv → kv p l e rm_X10_isBare s m ([.ref h0] : List Value).toArray below meth c D A 8 0 0 Q (wM h0 q cI v_code v_side v_rights v_passed v_halves v_number v_top v_typedCount v_readAt v_place v_writtenCount v_chosenFrom v_chosenTo v_chosenTurn v_changed v_readSide v_readRights v_readPassed v_readHalves v_readNumber a_board a_before a_typed a_written a_froms a_tos a_turns a_counts a_changedSquare a_changedMan a_readBoard) [] 174 [.int t0] := by
    intro t0 h
    unfold m_X10_isBare_b174 at h
    obtain ⟨g_1, h⟩ := obl_e h
    cases h
    exact hret _ _ dX10_isBare_174 (fun _ => g_1)
  have j173 : m_X10_isBare_b173  a_board  = some rv → kv p l e rm_X10_isBare s m ([.ref h0] : List Value).toArray below meth c D A 8 0 0 Q (wM h0 q cI v_code v_side v_rights v_passed v_halves v_number v_top v_typedCount v_readAt v_place v_writtenCount v_chosenFrom v_chosenTo v_chosenTurn v_changed v_readSide v_readRights v_readPassed v_readHalves v_readNumber a_board a_before a_typed a_written a_froms a_tos a_turns a_counts a_changedSquare a_changedMan a_readBoard) [] 173 [] := by
    intro  h
    unfold m_X10_isBare_b173 at h
    refine kv_iconst C 0 dX10_isBare_173 (by decide) ?_
    exact kv_lv [] (lv2 := []) rfl (j174 0 h)
  have j169 : m_X10_isBare_b169  a_board  = some rv → kv p l e rm_X10_isBare s m ([.ref h0] : List Value).toArray below meth c D A 8 0 0 Q (wM h0 q cI v_code v_side v_rights v_passed v_halves v_number v_top v_typedCount v_readAt v_place v_writtenCount v_chosenFrom v_chosenTo v_chosenTurn v_changed v_readSide v_readRights v_readPassed v_readHalves v_readNumber a_board a_before a_typed a_written a_froms a_tos a_turns a_counts a_changedSquare a_changedMan a_readBoard) [] 169 [] := by
    intro  h
    unfold m_X10_isBare_b169 at h
    refine kv_iconst C 1 dX10_isBare_169 (by decide) ?_
    refine kv_goto C 174 dX10_isBare_170 (by decide) ?_
    exact kv_lv [] (lv2 := []) rfl (j174 1 h)
  have j158 : ∀ (x1 : Int32) (x2 : Int32) (x3 : Int32), m_X10_isBare_b158  a_board x1 x2 x3 = some rv → kv p l e rm_X10_isBare s m ([.ref h0] : List Value).toArray below meth c D A 8 0 0 Q (wM h0 q cI v_code v_side v_rights v_passed v_halves v_number v_top v_typedCount v_readAt v_place v_writtenCount v_chosenFrom v_chosenTo v_chosenTurn v_changed v_readSide v_readRights v_readPassed v_readHalves v_readNumber a_board a_before a_typed a_written a_froms a_tos a_turns a_counts a_changedSquare a_changedMan a_readBoard) [(1, .int x1), (2, .int x2), (3, .int x3)] 158 [] := by
    intro x1 x2 x3 h
    unfold m_X10_isBare_b158 at h
    refine kv_iload_n C 0 dX10_isBare_158 rfl rfl ?_
    refine kv_iconst C 1 dX10_isBare_159 (by decide) ?_
    refine kv_icmp_ne C 173 dX10_isBare_160 (by decide) (fun c_2 => ?_) (fun c_2 => ?_)
    · have h := oi_f h c_2
      exact kv_lv [] (lv2 := []) rfl (j173  h)
    · have h := oi_t h c_2
      refine kv_iload_n C 1 dX10_isBare_163 rfl rfl ?_
      refine kv_iload_n C 2 dX10_isBare_164 rfl rfl ?_
      refine kv_iadd C dX10_isBare_165 ?_
      refine kv_if_ne C 173 dX10_isBare_166 (by decide) (fun c_3 => ?_) (fun c_3 => ?_)
      · have h := oi_f h c_3
        exact kv_lv [] (lv2 := []) rfl (j173  h)
      · have h := oi_t h c_3
        exact kv_lv [] (lv2 := []) rfl (j169  h)
  have l12 : ∀ (n12 : Nat) (x1 : Int32) (x2 : Int32) (x3 : Int32) (x4 : Int32) (x5 : Int32), m_X10_isBare_l12  a_board n12 x1 x2 x3 x4 x5 = some rv → kv p l e rm_X10_isBare s m ([.ref h0] : List Value).toArray below meth c D A 8 0 0 Q (wM h0 q cI v_code v_side v_rights v_passed v_halves v_number v_top v_typedCount v_readAt v_place v_writtenCount v_chosenFrom v_chosenTo v_chosenTurn v_changed v_readSide v_readRights v_readPassed v_readHalves v_readNumber a_board a_before a_typed a_written a_froms a_tos a_turns a_counts a_changedSquare a_changedMan a_readBoard) [(0, .ref h0), (1, .int x1), (2, .int x2), (3, .int x3), (4, .int x4), (5, .int x5)] 12 [] := by
    intro n12
    induction n12 with
    | zero =>
      intro x1 x2 x3 x4 x5 h
      exact kv_no h
    | succ n12 ih12 =>
      have j133 : ∀ (x1 : Int32) (x2 : Int32) (x3 : Int32) (x5 : Int32) (t0 : Int32), m_X10_isBare_b133 (m_X10_isBare_l12  a_board n12) a_board x1 x2 x3 x5 t0 = some rv → kv p l e rm_X10_isBare s m ([.ref h0] : List Value).toArray below meth c D A 8 0 0 Q (wM h0 q cI v_code v_side v_rights v_passed v_halves v_number v_top v_typedCount v_readAt v_place v_writtenCount v_chosenFrom v_chosenTo v_chosenTurn v_changed v_readSide v_readRights v_readPassed v_readHalves v_readNumber a_board a_before a_typed a_written a_froms a_tos a_turns a_counts a_changedSquare a_changedMan a_readBoard) [(0, .ref h0), (1, .int x1), (2, .int x2), (3, .int x3), (5, .int x5)] 133 [.int t0] := by
        intro x1 x2 x3 x5 t0 h
        unfold m_X10_isBare_b133 at h
        refine kv_istore C (lv2 := [(0, .ref h0), (1, .int x1), (2, .int x2), (3, .int x3), (4, .int t0), (5, .int x5)]) [1, 2, 3, 4, 0, 5] dX10_isBare_133 (by decide) rfl rfl ?_
        obtain ⟨x5_4, ex5_4, h⟩ := ol_e h
        refine kv_iinc C (v := x5_4) (lv2 := [(0, .ref h0), (1, .int x1), (2, .int x2), (3, .int x3), (4, .int t0), (5, .int x5_4)]) 5 [1, 2, 3, 4, 5, 0] dX10_isBare_135 rfl ex5_4.symm (by decide) rfl rfl ?_
        refine kv_goto C 12 dX10_isBare_138 (by decide) ?_
        exact kv_lv [0, 1, 2, 3, 4, 5] (lv2 := [(0, .ref h0), (1, .int x1), (2, .int x2), (3, .int x3), (4, .int t0), (5, .int x5_4)]) rfl (ih12 x1 x2 x3 t0 x5_4 h)
      have j124 : ∀ (x1 : Int32) (x2 : Int32) (x3 : Int32) (x4 : Int32) (x5 : Int32), m_X10_isBare_b124 (m_X10_isBare_l12  a_board n12) a_board x1 x2 x3 x4 x5 = some rv → kv p l e rm_X10_isBare s m ([.ref h0] : List Value).toArray below meth c D A 8 0 0 Q (wM h0 q cI v_code v_side v_rights v_passed v_halves v_number v_top v_typedCount v_readAt v_place v_writtenCount v_chosenFrom v_chosenTo v_chosenTurn v_changed v_readSide v_readRights v_readPassed v_readHalves v_readNumber a_board a_before a_typed a_written a_froms a_tos a_turns a_counts a_changedSquare a_changedMan a_readBoard) [(0, .ref h0), (1, .int x1), (2, .int x2), (3, .int x3), (4, .int x4), (5, .int x5)] 124 [] := by
        intro x1 x2 x3 x4 x5 h
        unfold m_X10_isBare_b124 at h
        refine kv_iload C 4 dX10_isBare_124 rfl ?_
        refine kv_iconst C 1 dX10_isBare_126 (by decide) ?_
        refine kv_iadd C dX10_isBare_127 ?_
        refine kv_goto C 133 dX10_isBare_128 (by decide) ?_
        exact kv_lv [0, 1, 2, 3, 5] (lv2 := [(0, .ref h0), (1, .int x1), (2, .int x2), (3, .int x3), (5, .int x5)]) rfl (j133 x1 x2 x3 x5 (x4 + 1) h)
      have j105 : ∀ (x1 : Int32) (x2 : Int32) (x4 : Int32) (x5 : Int32) (x6 : Int32) (t0 : Int32), m_X10_isBare_b105 (m_X10_isBare_l12  a_board n12) a_board x1 x2 x4 x5 x6 t0 = some rv → kv p l e rm_X10_isBare s m ([.ref h0] : List Value).toArray below meth c D A 8 0 0 Q (wM h0 q cI v_code v_side v_rights v_passed v_halves v_number v_top v_typedCount v_readAt v_place v_writtenCount v_chosenFrom v_chosenTo v_chosenTurn v_changed v_readSide v_readRights v_readPassed v_readHalves v_readNumber a_board a_before a_typed a_written a_froms a_tos a_turns a_counts a_changedSquare a_changedMan a_readBoard) [(0, .ref h0), (1, .int x1), (2, .int x2), (4, .int x4), (5, .int x5), (6, .int x6)] 105 [.int t0] := by
        intro x1 x2 x4 x5 x6 t0 h
        unfold m_X10_isBare_b105 at h
        refine kv_istore_n C (lv2 := [(0, .ref h0), (1, .int x1), (2, .int x2), (3, .int t0), (4, .int x4), (5, .int x5), (6, .int x6)]) [1, 2, 3, 0, 4, 5, 6] dX10_isBare_105 rfl (by decide) rfl rfl ?_
        refine kv_iload C 6 dX10_isBare_106 rfl ?_
        refine kv_iconst C 1 dX10_isBare_108 (by decide) ?_
        refine kv_icmp_eq C 124 dX10_isBare_109 (by decide) (fun c_5 => ?_) (fun c_5 => ?_)
        · have h := oi_t h c_5
          exact kv_lv [0, 1, 2, 3, 4, 5] (lv2 := [(0, .ref h0), (1, .int x1), (2, .int x2), (3, .int t0), (4, .int x4), (5, .int x5)]) rfl (j124 x1 x2 t0 x4 x5 h)
        · have h := oi_f h c_5
          refine kv_iload C 6 dX10_isBare_112 rfl ?_
          refine kv_iconst C 4 dX10_isBare_114 (by decide) ?_
          refine kv_icmp_eq C 124 dX10_isBare_115 (by decide) (fun c_6 => ?_) (fun c_6 => ?_)
          · have h := oi_t h c_6
            exact kv_lv [0, 1, 2, 3, 4, 5] (lv2 := [(0, .ref h0), (1, .int x1), (2, .int x2), (3, .int t0), (4, .int x4), (5, .int x5)]) rfl (j124 x1 x2 t0 x4 x5 h)
          · have h := oi_f h c_6
            refine kv_iload C 6 dX10_isBare_118 rfl ?_
            refine kv_iconst C 5 dX10_isBare_120 (by decide) ?_
            refine kv_icmp_ne C 131 dX10_isBare_121 (by decide) (fun c_7 => ?_) (fun c_7 => ?_)
            · have h := oi_f h c_7
              refine kv_iload C 4 dX10_isBare_131 rfl ?_
              exact kv_lv [0, 1, 2, 3, 5] (lv2 := [(0, .ref h0), (1, .int x1), (2, .int x2), (3, .int t0), (5, .int x5)]) rfl (j133 x1 x2 t0 x5 x4 h)
            · have h := oi_t h c_7
              exact kv_lv [0, 1, 2, 3, 4, 5] (lv2 := [(0, .ref h0), (1, .int x1), (2, .int x2), (3, .int t0), (4, .int x4), (5, .int x5)]) rfl (j124 x1 x2 t0 x4 x5 h)
      have j104 : ∀ (x1 : Int32) (x2 : Int32) (x3 : Int32) (x4 : Int32) (x5 : Int32) (x6 : Int32), m_X10_isBare_b104 (m_X10_isBare_l12  a_board n12) a_board x1 x2 x3 x4 x5 x6 = some rv → kv p l e rm_X10_isBare s m ([.ref h0] : List Value).toArray below meth c D A 8 0 0 Q (wM h0 q cI v_code v_side v_rights v_passed v_halves v_number v_top v_typedCount v_readAt v_place v_writtenCount v_chosenFrom v_chosenTo v_chosenTurn v_changed v_readSide v_readRights v_readPassed v_readHalves v_readNumber a_board a_before a_typed a_written a_froms a_tos a_turns a_counts a_changedSquare a_changedMan a_readBoard) [(0, .ref h0), (1, .int x1), (2, .int x2), (3, .int x3), (4, .int x4), (5, .int x5), (6, .int x6)] 104 [] := by
        intro x1 x2 x3 x4 x5 x6 h
        unfold m_X10_isBare_b104 at h
        refine kv_iload_n C 3 dX10_isBare_104 rfl rfl ?_
        exact kv_lv [0, 1, 2, 4, 5, 6] (lv2 := [(0, .ref h0), (1, .int x1), (2, .int x2), (4, .int x4), (5, .int x5), (6, .int x6)]) rfl (j105 x1 x2 x4 x5 x6 x3 h)
      have j86 : ∀ (x1 : Int32) (x3 : Int32) (x4 : Int32) (x5 : Int32) (x6 : Int32) (x7 : Int32) (t0 : Int32), m_X10_isBare_b86 (m_X10_isBare_l12  a_board n12) a_board x1 x3 x4 x5 x6 x7 t0 = some rv → kv p l e rm_X10_isBare s m ([.ref h0] : List Value).toArray below meth c D A 8 0 0 Q (wM h0 q cI v_code v_side v_rights v_passed v_halves v_number v_top v_typedCount v_readAt v_place v_writtenCount v_chosenFrom v_chosenTo v_chosenTurn v_changed v_readSide v_readRights v_readPassed v_readHalves v_readNumber a_board a_before a_typed a_written a_froms a_tos a_turns a_counts a_changedSquare a_changedMan a_readBoard) [(0, .ref h0), (1, .int x1), (3, .int x3), (4, .int x4), (5, .int x5), (6, .int x6), (7, .int x7)] 86 [.int t0] := by
        intro x1 x3 x4 x5 x6 x7 t0 h
        unfold m_X10_isBare_b86 at h
        refine kv_istore_n C (lv2 := [(0, .ref h0), (1, .int x1), (2, .int t0), (3, .int x3), (4, .int x4), (5, .int x5), (6, .int x6), (7, .int x7)]) [1, 2, 0, 3, 4, 5, 6, 7] dX10_isBare_86 rfl (by decide) rfl rfl ?_
        refine kv_iload C 6 dX10_isBare_87 rfl ?_
        refine kv_iconst C 3 dX10_isBare_89 (by decide) ?_
        refine kv_icmp_ne C 104 dX10_isBare_90 (by decide) (fun c_8 => ?_) (fun c_8 => ?_)
        · have h := oi_f h c_8
          exact kv_lv [0, 1, 2, 3, 4, 5, 6] (lv2 := [(0, .ref h0), (1, .int x1), (2, .int t0), (3, .int x3), (4, .int x4), (5, .int x5), (6, .int x6)]) rfl (j104 x1 t0 x3 x4 x5 x6 h)
        · have h := oi_t h c_8
          refine kv_iload C 7 dX10_isBare_93 rfl ?_
          refine kv_if_ne C 104 dX10_isBare_95 (by decide) (fun c_9 => ?_) (fun c_9 => ?_)
          · have h := oi_f h c_9
            exact kv_lv [0, 1, 2, 3, 4, 5, 6] (lv2 := [(0, .ref h0), (1, .int x1), (2, .int t0), (3, .int x3), (4, .int x4), (5, .int x5), (6, .int x6)]) rfl (j104 x1 t0 x3 x4 x5 x6 h)
          · have h := oi_t h c_9
            refine kv_iload_n C 3 dX10_isBare_98 rfl rfl ?_
            refine kv_iconst C 1 dX10_isBare_99 (by decide) ?_
            refine kv_iadd C dX10_isBare_100 ?_
            refine kv_goto C 105 dX10_isBare_101 (by decide) ?_
            exact kv_lv [0, 1, 2, 4, 5, 6] (lv2 := [(0, .ref h0), (1, .int x1), (2, .int t0), (4, .int x4), (5, .int x5), (6, .int x6)]) rfl (j105 x1 t0 x4 x5 x6 (x3 + 1) h)
      have j85 : ∀ (x1 : Int32) (x2 : Int32) (x3 : Int32) (x4 : Int32) (x5 : Int32) (x6 : Int32) (x7 : Int32), m_X10_isBare_b85 (m_X10_isBare_l12  a_board n12) a_board x1 x2 x3 x4 x5 x6 x7 = some rv → kv p l e rm_X10_isBare s m ([.ref h0] : List Value).toArray below meth c D A 8 0 0 Q (wM h0 q cI v_code v_side v_rights v_passed v_halves v_number v_top v_typedCount v_readAt v_place v_writtenCount v_chosenFrom v_chosenTo v_chosenTurn v_changed v_readSide v_readRights v_readPassed v_readHalves v_readNumber a_board a_before a_typed a_written a_froms a_tos a_turns a_counts a_changedSquare a_changedMan a_readBoard) [(0, .ref h0), (1, .int x1), (2, .int x2), (3, .int x3), (4, .int x4), (5, .int x5), (6, .int x6), (7, .int x7)] 85 [] := by
        intro x1 x2 x3 x4 x5 x6 x7 h
        unfold m_X10_isBare_b85 at h
        refine kv_iload_n C 2 dX10_isBare_85 rfl rfl ?_
        exact kv_lv [0, 1, 3, 4, 5, 6, 7] (lv2 := [(0, .ref h0), (1, .int x1), (3, .int x3), (4, .int x4), (5, .int x5), (6, .int x6), (7, .int x7)]) rfl (j86 x1 x3 x4 x5 x6 x7 x2 h)
      have j67 : ∀ (x2 : Int32) (x3 : Int32) (x4 : Int32) (x5 : Int32) (x6 : Int32) (x7 : Int32) (t0 : Int32), m_X10_isBare_b67 (m_X10_isBare_l12  a_board n12) a_board x2 x3 x4 x5 x6 x7 t0 = some rv → kv p l e rm_X10_isBare s m ([.ref h0] : List Value).toArray below meth c D A 8 0 0 Q (wM h0 q cI v_code v_side v_rights v_passed v_halves v_number v_top v_typedCount v_readAt v_place v_writtenCount v_chosenFrom v_chosenTo v_chosenTurn v_changed v_readSide v_readRights v_readPassed v_readHalves v_readNumber a_board a_before a_typed a_written a_froms a_tos a_turns a_counts a_changedSquare a_changedMan a_readBoard) [(0, .ref h0), (2, .int x2), (3, .int x3), (4, .int x4), (5, .int x5), (6, .int x6), (7, .int x7)] 67 [.int t0] := by
        intro x2 x3 x4 x5 x6 x7 t0 h
        unfold m_X10_isBare_b67 at h
        refine kv_istore_n C (lv2 := [(0, .ref h0), (1, .int t0), (2, .int x2), (3, .int x3), (4, .int x4), (5, .int x5), (6, .int x6), (7, .int x7)]) [1, 0, 2, 3, 4, 5, 6, 7] dX10_isBare_67 rfl (by decide) rfl rfl ?_
        refine kv_iload C 6 dX10_isBare_68 rfl ?_
        refine kv_iconst C 3 dX10_isBare_70 (by decide) ?_
        refine kv_icmp_ne C 85 dX10_isBare_71 (by decide) (fun c_10 => ?_) (fun c_10 => ?_)
        · have h := oi_f h c_10
          exact kv_lv [0, 1, 2, 3, 4, 5, 6, 7] (lv2 := [(0, .ref h0), (1, .int t0), (2, .int x2), (3, .int x3), (4, .int x4), (5, .int x5), (6, .int x6), (7, .int x7)]) rfl (j85 t0 x2 x3 x4 x5 x6 x7 h)
        · have h := oi_t h c_10
          refine kv_iload C 7 dX10_isBare_74 rfl ?_
          refine kv_if_eq C 85 dX10_isBare_76 (by decide) (fun c_11 => ?_) (fun c_11 => ?_)
          · have h := oi_t h c_11
            exact kv_lv [0, 1, 2, 3, 4, 5, 6, 7] (lv2 := [(0, .ref h0), (1, .int t0), (2, .int x2), (3, .int x3), (4, .int x4), (5, .int x5), (6, .int x6), (7, .int x7)]) rfl (j85 t0 x2 x3 x4 x5 x6 x7 h)
          · have h := oi_f h c_11
            refine kv_iload_n C 2 dX10_isBare_79 rfl rfl ?_
            refine kv_iconst C 1 dX10_isBare_80 (by decide) ?_
            refine kv_iadd C dX10_isBare_81 ?_
            refine kv_goto C 86 dX10_isBare_82 (by decide) ?_
            exact kv_lv [0, 1, 3, 4, 5, 6, 7] (lv2 := [(0, .ref h0), (1, .int t0), (3, .int x3), (4, .int x4), (5, .int x5), (6, .int x6), (7, .int x7)]) rfl (j86 t0 x3 x4 x5 x6 x7 (x2 + 1) h)
      have j52 : ∀ (x1 : Int32) (x2 : Int32) (x3 : Int32) (x4 : Int32) (x5 : Int32) (x6 : Int32) (t0 : Int32), m_X10_isBare_b52 (m_X10_isBare_l12  a_board n12) a_board x1 x2 x3 x4 x5 x6 t0 = some rv → kv p l e rm_X10_isBare s m ([.ref h0] : List Value).toArray below meth c D A 8 0 0 Q (wM h0 q cI v_code v_side v_rights v_passed v_halves v_number v_top v_typedCount v_readAt v_place v_writtenCount v_chosenFrom v_chosenTo v_chosenTurn v_changed v_readSide v_readRights v_readPassed v_readHalves v_readNumber a_board a_before a_typed a_written a_froms a_tos a_turns a_counts a_changedSquare a_changedMan a_readBoard) [(0, .ref h0), (1, .int x1), (2, .int x2), (3, .int x3), (4, .int x4), (5, .int x5), (6, .int x6)] 52 [.int t0] := by
        intro x1 x2 x3 x4 x5 x6 t0 h
        unfold m_X10_isBare_b52 at h
        refine kv_istore C (lv2 := [(0, .ref h0), (1, .int x1), (2, .int x2), (3, .int x3), (4, .int x4), (5, .int x5), (6, .int x6), (7, .int t0)]) [1, 2, 3, 4, 5, 6, 7, 0] dX10_isBare_52 (by decide) rfl rfl ?_
        refine kv_iload C 6 dX10_isBare_54 rfl ?_
        refine kv_iconst C 2 dX10_isBare_56 (by decide) ?_
        refine kv_icmp_ne C 66 dX10_isBare_57 (by decide) (fun c_12 => ?_) (fun c_12 => ?_)
        · have h := oi_f h c_12
          refine kv_iload_n C 1 dX10_isBare_66 rfl rfl ?_
          exact kv_lv [0, 2, 3, 4, 5, 6, 7] (lv2 := [(0, .ref h0), (2, .int x2), (3, .int x3), (4, .int x4), (5, .int x5), (6, .int x6), (7, .int t0)]) rfl (j67 x2 x3 x4 x5 x6 t0 x1 h)
        · have h := oi_t h c_12
          refine kv_iload_n C 1 dX10_isBare_60 rfl rfl ?_
          refine kv_iconst C 1 dX10_isBare_61 (by decide) ?_
          refine kv_iadd C dX10_isBare_62 ?_
          refine kv_goto C 67 dX10_isBare_63 (by decide) ?_
          exact kv_lv [0, 2, 3, 4, 5, 6, 7] (lv2 := [(0, .ref h0), (2, .int x2), (3, .int x3), (4, .int x4), (5, .int x5), (6, .int x6), (7, .int t0)]) rfl (j67 x2 x3 x4 x5 x6 t0 (x1 + 1) h)
      intro x1 x2 x3 x4 x5 h
      replace h : m_X10_isBare_b12  (m_X10_isBare_l12  a_board n12) a_board x1 x2 x3 x4 x5 = some rv := h
      unfold m_X10_isBare_b12 at h
      refine kv_iload C 5 dX10_isBare_12 rfl ?_
      refine kv_bipush C 64 dX10_isBare_14 (by decide) ?_
      refine kv_icmp_ge C 141 dX10_isBare_16 (by decide) (fun c_13 => ?_) (fun c_13 => ?_)
      · have h := oi_t h c_13
        refine kv_iload C 4 dX10_isBare_141 rfl ?_
        refine kv_if_ne C 173 dX10_isBare_143 (by decide) (fun c_14 => ?_) (fun c_14 => ?_)
        · have h := oi_f h c_14
          exact kv_lv [] (lv2 := []) rfl (j173  h)
        · have h := oi_t h c_14
          refine kv_iload_n C 1 dX10_isBare_146 rfl rfl ?_
          refine kv_if_ne C 158 dX10_isBare_147 (by decide) (fun c_15 => ?_) (fun c_15 => ?_)
          · have h := oi_f h c_15
            exact kv_lv [1, 2, 3] (lv2 := [(1, .int x1), (2, .int x2), (3, .int x3)]) rfl (j158 x1 x2 x3 h)
          · have h := oi_t h c_15
            refine kv_iload_n C 2 dX10_isBare_150 rfl rfl ?_
            refine kv_if_eq C 169 dX10_isBare_151 (by decide) (fun c_16 => ?_) (fun c_16 => ?_)
            · have h := oi_t h c_16
              exact kv_lv [] (lv2 := []) rfl (j169  h)
            · have h := oi_f h c_16
              refine kv_iload_n C 3 dX10_isBare_154 rfl rfl ?_
              refine kv_if_eq C 169 dX10_isBare_155 (by decide) (fun c_17 => ?_) (fun c_17 => ?_)
              · have h := oi_t h c_17
                exact kv_lv [] (lv2 := []) rfl (j169  h)
              · have h := oi_f h c_17
                exact kv_lv [1, 2, 3] (lv2 := [(1, .int x1), (2, .int x2), (3, .int x3)]) rfl (j158 x1 x2 x3 h)
      · have h := oi_f h c_13
        refine kv_aload_n C 0 dX10_isBare_19 rfl rfl ?_
        refine kv_get C (Cn := RX10) (T := TX10) (N := 31) 0 1 hin10 rfl rfl (by decide) (C.ts _ (List.mem_cons_of_mem _ lf_RX10_7)) rfl rfl dX10_isBare_20 ?_
        refine kv_iload C 5 dX10_isBare_23 rfl ?_
        obtain ⟨g_18, h⟩ := oin_e h
        refine kv_iald C 1 0 rfl rfl g_18 dX10_isBare_25 ?_
        obtain ⟨r_19, hm_20, h⟩ := ob_e h
        refine kv_callS0i C [.int (a_board x5.toNatClampNeg)] (c_X10_kindOf l D (a_board x5.toNatClampNeg) r_19 hm_20) (cs_X10_kindOf C.ts lm_RX10_79 ⟨Nat.le_of_ble_eq_true rfl, Nat.le_of_ble_eq_true rfl⟩) rfl rfl (Nat.le_of_ble_eq_true rfl) dX10_isBare_26 ⟨Nat.zero_le _, Nat.zero_le _⟩ ?_
        refine kv_istore C (lv2 := [(0, .ref h0), (1, .int x1), (2, .int x2), (3, .int x3), (4, .int x4), (5, .int x5), (6, .int r_19)]) [1, 2, 3, 4, 5, 6, 0] dX10_isBare_29 (by decide) rfl rfl ?_
        refine kv_iload C 5 dX10_isBare_31 rfl ?_
        obtain ⟨r_21, hm_22, h⟩ := ob_e h
        refine kv_callS0i C [.int x5] (c_X10_rowOf l D x5 r_21 hm_22) (cs_X10_rowOf C.ts lm_RX10_69 ⟨Nat.le_of_ble_eq_true rfl, Nat.le_of_ble_eq_true rfl⟩) rfl rfl (Nat.le_of_ble_eq_true rfl) dX10_isBare_33 ⟨Nat.zero_le _, Nat.zero_le _⟩ ?_
        refine kv_iload C 5 dX10_isBare_36 rfl ?_
        obtain ⟨r_23, hm_24, h⟩ := ob_e h
        refine kv_callS0i C [.int x5] (c_X10_columnOf l D x5 r_23 hm_24) (cs_X10_columnOf C.ts lm_RX10_73 ⟨Nat.le_of_ble_eq_true rfl, Nat.le_of_ble_eq_true rfl⟩) rfl rfl (Nat.le_of_ble_eq_true rfl) dX10_isBare_38 ⟨Nat.zero_le _, Nat.zero_le _⟩ ?_
        refine kv_iadd C dX10_isBare_41 ?_
        refine kv_iconst C 2 dX10_isBare_42 (by decide) ?_
        obtain ⟨y_25, ey_25, h⟩ := ol_e h
        refine kv_top2 ey_25 ?_
        refine kv_irem C dX10_isBare_43 (by decide) ?_
        refine kv_if_ne C 51 dX10_isBare_44 (by decide) (fun c_26 => ?_) (fun c_26 => ?_)
        · have h := oi_f h c_26
          refine kv_iconst C 0 dX10_isBare_51 (by decide) ?_
          exact kv_lv [0, 1, 2, 3, 4, 5, 6] (lv2 := [(0, .ref h0), (1, .int x1), (2, .int x2), (3, .int x3), (4, .int x4), (5, .int x5), (6, .int r_19)]) rfl (j52 x1 x2 x3 x4 x5 r_19 0 h)
        · have h := oi_t h c_26
          refine kv_iconst C 1 dX10_isBare_47 (by decide) ?_
          refine kv_goto C 52 dX10_isBare_48 (by decide) ?_
          exact kv_lv [0, 1, 2, 3, 4, 5, 6] (lv2 := [(0, .ref h0), (1, .int x1), (2, .int x2), (3, .int x3), (4, .int x4), (5, .int x5), (6, .int r_19)]) rfl (j52 x1 x2 x3 x4 x5 r_19 1 h)
  unfold m_X10_isBare at hm
  have h := hm
  refine kv_lv [0] (lv2 := [(0, .ref h0)]) rfl ?_
  refine kv_iconst C 0 dX10_isBare_0 (by decide) ?_
  refine kv_istore_n C (lv2 := [(0, .ref h0), (1, .int 0)]) [1, 0] dX10_isBare_1 rfl (by decide) rfl rfl ?_
  refine kv_iconst C 0 dX10_isBare_2 (by decide) ?_
  refine kv_istore_n C (lv2 := [(0, .ref h0), (1, .int 0), (2, .int 0)]) [1, 2, 0] dX10_isBare_3 rfl (by decide) rfl rfl ?_
  refine kv_iconst C 0 dX10_isBare_4 (by decide) ?_
  refine kv_istore_n C (lv2 := [(0, .ref h0), (1, .int 0), (2, .int 0), (3, .int 0)]) [1, 2, 3, 0] dX10_isBare_5 rfl (by decide) rfl rfl ?_
  refine kv_iconst C 0 dX10_isBare_6 (by decide) ?_
  refine kv_istore C (lv2 := [(0, .ref h0), (1, .int 0), (2, .int 0), (3, .int 0), (4, .int 0)]) [1, 2, 3, 4, 0] dX10_isBare_7 (by decide) rfl rfl ?_
  refine kv_iconst C 0 dX10_isBare_9 (by decide) ?_
  refine kv_istore C (lv2 := [(0, .ref h0), (1, .int 0), (2, .int 0), (3, .int 0), (4, .int 0), (5, .int 0)]) [1, 2, 3, 4, 5, 0] dX10_isBare_10 (by decide) rfl rfl ?_
  exact kv_lv [0, 1, 2, 3, 4, 5] (lv2 := [(0, .ref h0), (1, .int 0), (2, .int 0), (3, .int 0), (4, .int 0), (5, .int 0)]) rfl (l12 kF 0 0 0 0 0 h)
def m_X10_stood_b97 (k62 : Int32 → Int32 → Int32 → Option (Int32)) (v_side : Int32) (v_rights : Int32) (v_passed : Int32) (a_board : Nat → Int32) (a_before : Nat → Int32) (x2 : Int32) (x4 : Int32) (t0 : Int32) : Option (Int32) := ol (x4 + 1) fun x4_1 => k62 x2 t0 x4_1
def m_X10_stood_b96 (k62 : Int32 → Int32 → Int32 → Option (Int32)) (v_side : Int32) (v_rights : Int32) (v_passed : Int32) (a_board : Nat → Int32) (a_before : Nat → Int32) (x2 : Int32) (x4 : Int32) : Option (Int32) := m_X10_stood_b97 k62 v_side v_rights v_passed a_board a_before x2 x4 0
def m_X10_stood_b62 (k62 : Int32 → Int32 → Int32 → Option (Int32)) (v_side : Int32) (v_rights : Int32) (v_passed : Int32) (a_board : Nat → Int32) (a_before : Nat → Int32) (x2 : Int32) (x3 : Int32) (x4 : Int32) : Option (Int32) := if 64 ≤ x4 then obl (x3) (some x3) else if x3 = 0 then m_X10_stood_b96 k62 v_side v_rights v_passed a_board a_before x2 x4 else oin (x2 + x4) 71070 (oin (x4) 64 (if (a_before (x2 + x4).toNatClampNeg) = (a_board x4.toNatClampNeg) then m_X10_stood_b97 k62 v_side v_rights v_passed a_board a_before x2 x4 1 else m_X10_stood_b96 k62 v_side v_rights v_passed a_board a_before x2 x4))
def m_X10_stood_l62 (v_side : Int32) (v_rights : Int32) (v_passed : Int32) (a_board : Nat → Int32) (a_before : Nat → Int32) (n : Nat) : Int32 → Int32 → Int32 → Option (Int32) := fz (fun _ _ _ => none) (fun k62 x2 x3 x4 => m_X10_stood_b62 k62 v_side v_rights v_passed a_board a_before x2 x3 x4) n
def m_X10_stood_b58 (v_side : Int32) (v_rights : Int32) (v_passed : Int32) (a_board : Nat → Int32) (a_before : Nat → Int32) (x2 : Int32) (t0 : Int32) : Option (Int32) := m_X10_stood_l62 v_side v_rights v_passed a_board a_before kF x2 t0 0
def m_X10_stood_b57 (v_side : Int32) (v_rights : Int32) (v_passed : Int32) (a_board : Nat → Int32) (a_before : Nat → Int32) (x2 : Int32) : Option (Int32) := m_X10_stood_b58 v_side v_rights v_passed a_board a_before x2 0
def m_X10_stood (v_side : Int32) (v_rights : Int32) (v_passed : Int32) (a_board : Nat → Int32) (a_before : Nat → Int32) (p0 : Int32) : Option (Int32) := ol (69 * p0) fun x2_8 => oin (x2_8 + 64) 71070 (if (a_before (x2_8 + 64).toNatClampNeg) = v_side then oin (x2_8 + 65) 71070 (if (a_before (x2_8 + 65).toNatClampNeg) = v_rights then oin (x2_8 + 66) 71070 (if (a_before (x2_8 + 66).toNatClampNeg) = v_passed then m_X10_stood_b58 v_side v_rights v_passed a_board a_before x2_8 1 else m_X10_stood_b57 v_side v_rights v_passed a_board a_before x2_8) else m_X10_stood_b57 v_side v_rights v_passed a_board a_before x2_8) else m_X10_stood_b57 v_side v_rights v_passed a_board a_before x2_8)
abbrev rm_X10_stood : Room := { frames := 0, cells := 0, slots := 0, locals := 0 }
abbrev wy_X10_stood : List Cond := .code yX10_stood cX10_stood 5 (some .boolean) :: gT
theorem cv_X10_stood {R : Room} {s : State} {args : Array Value} {own : String} {index : Nat} {w0 : Cond} (hts : ∀ w ∈ w0 :: gT, w.before args s = true) (hl : Cond.methodLink own index yX10_stood ∈ gT) (hR : 0 + 1 ≤ R.frames ∧ 8 + (5 + 11) + 0 ≤ R.locals) : CallW R s args own RX10 index yX10_stood cX10_stood 5 (some .boolean) wy_X10_stood rm_X10_stood 0 0 1 :=
  cwV 1 hts (gT_call w0 (pre := [.methodLink own index yX10_stood, .instanceMethod yX10_stood, .selects RX10 yX10_stood yX10_stood, .initialized RX10]) (gT_lc hl (gT_lc ly_yX10_stood (gT_lc lx_yX10_stood (gT_l1 li_RX10)))) lc_yX10_stood) rfl rfl rfl (by decide +kernel) hR
set_option maxRecDepth 100000 in
set_option maxHeartbeats 4000000 in
theorem c_X10_stood (l : Launch) (D : va_G) (h0 : Nat) (q : Nat → Nat) (cI : ClassId) (v_code : Int32) (v_side : Int32) (v_rights : Int32) (v_passed : Int32) (v_halves : Int32) (v_number : Int32) (v_top : Int32) (v_typedCount : Int32) (v_readAt : Int32) (v_place : Int32) (v_writtenCount : Int32) (v_chosenFrom : Int32) (v_chosenTo : Int32) (v_chosenTurn : Int32) (v_changed : Int32) (v_readSide : Int32) (v_readRights : Int32) (v_readPassed : Int32) (v_readHalves : Int32) (v_readNumber : Int32) (a_board : Nat → Int32) (a_before : Nat → Int32) (a_typed : Nat → Int32) (a_written : Nat → Int32) (a_froms : Nat → Int32) (a_tos : Nat → Int32) (a_turns : Nat → Int32) (a_counts : Nat → Int32) (a_changedSquare : Nat → Int32) (a_changedMan : Nat → Int32) (a_readBoard : Nat → Int32) (p0 : Int32) (rv : Int32) (hm : m_X10_stood v_side v_rights v_passed a_board a_before p0 = some rv) : kDi l yX10_stood wy_X10_stood rm_X10_stood D [(cI, .int)] rv (wM h0 q cI v_code v_side v_rights v_passed v_halves v_number v_top v_typedCount v_readAt v_place v_writtenCount v_chosenFrom v_chosenTo v_chosenTurn v_changed v_readSide v_readRights v_readPassed v_readHalves v_readNumber a_board a_before a_typed a_written a_froms a_tos a_turns a_counts a_changedSquare a_changedMan a_readBoard) (wM h0 q cI v_code v_side v_rights v_passed v_halves v_number v_top v_typedCount v_readAt v_place v_writtenCount v_chosenFrom v_chosenTo v_chosenTurn v_changed v_readSide v_readRights v_readPassed v_readHalves v_readNumber a_board a_before a_typed a_written a_froms a_tos a_turns a_counts a_changedSquare a_changedMan a_readBoard) [.ref h0, .int p0] := by
  refine kDi.of cX10_stood 5 (some .boolean) (by decide) rfl (Or.inr rfl) (Nat.le_of_ble_eq_true rfl) ?_
  intro p e s m below meth c A Q C hret
  have hin10 : ∀ w ∈ wsX100, w ∈ wy_X10_stood := fun w h => List.mem_cons_of_mem _ (inG10 w h)
  have l62 : ∀ (n62 : Nat) (x2 : Int32) (x3 : Int32) (x4 : Int32), m_X10_stood_l62  v_side v_rights v_passed a_board a_before n62 x2 x3 x4 = some rv → kv p l e rm_X10_stood s m ([.ref h0, .int p0] : List Value).toArray below meth c D A 5 0 0 Q (wM h0 q cI v_code v_side v_rights v_passed v_halves v_number v_top v_typedCount v_readAt v_place v_writtenCount v_chosenFrom v_chosenTo v_chosenTurn v_changed v_readSide v_readRights v_readPassed v_readHalves v_readNumber a_board a_before a_typed a_written a_froms a_tos a_turns a_counts a_changedSquare a_changedMan a_readBoard) [(0, .ref h0), (2, .int x2), (3, .int x3), (4, .int x4)] 62 [] := by
    intro n62
    induction n62 with
    | zero =>
      intro x2 x3 x4 h
      exact kv_no h
    | succ n62 ih62 =>
      have j97 : ∀ (x2 : Int32) (x4 : Int32) (t0 : Int32), m_X10_stood_b97 (m_X10_stood_l62  v_side v_rights v_passed a_board a_before n62) v_side v_rights v_passed a_board a_before x2 x4 t0 = some rv → kv p l e rm_X10_stood s m ([.ref h0, .int p0] : List Value).toArray below meth c D A 5 0 0 Q (wM h0 q cI v_code v_side v_rights v_passed v_halves v_number v_top v_typedCount v_readAt v_place v_writtenCount v_chosenFrom v_chosenTo v_chosenTurn v_changed v_readSide v_readRights v_readPassed v_readHalves v_readNumber a_board a_before a_typed a_written a_froms a_tos a_turns a_counts a_changedSquare a_changedMan a_readBoard) [(0, .ref h0), (2, .int x2), (4, .int x4)] 97 [.int t0] := by
        intro x2 x4 t0 h
        unfold m_X10_stood_b97 at h
        refine kv_istore_n C (lv2 := [(0, .ref h0), (2, .int x2), (3, .int t0), (4, .int x4)]) [1, 2, 0, 3] dX10_stood_97 rfl (by decide) rfl rfl ?_
        obtain ⟨x4_1, ex4_1, h⟩ := ol_e h
        refine kv_iinc C (v := x4_1) (lv2 := [(0, .ref h0), (2, .int x2), (3, .int t0), (4, .int x4_1)]) 3 [1, 2, 3, 0] dX10_stood_98 rfl ex4_1.symm (by decide) rfl rfl ?_
        refine kv_goto C 62 dX10_stood_101 (by decide) ?_
        exact kv_lv [0, 1, 2, 3] (lv2 := [(0, .ref h0), (2, .int x2), (3, .int t0), (4, .int x4_1)]) rfl (ih62 x2 t0 x4_1 h)
      have j96 : ∀ (x2 : Int32) (x4 : Int32), m_X10_stood_b96 (m_X10_stood_l62  v_side v_rights v_passed a_board a_before n62) v_side v_rights v_passed a_board a_before x2 x4 = some rv → kv p l e rm_X10_stood s m ([.ref h0, .int p0] : List Value).toArray below meth c D A 5 0 0 Q (wM h0 q cI v_code v_side v_rights v_passed v_halves v_number v_top v_typedCount v_readAt v_place v_writtenCount v_chosenFrom v_chosenTo v_chosenTurn v_changed v_readSide v_readRights v_readPassed v_readHalves v_readNumber a_board a_before a_typed a_written a_froms a_tos a_turns a_counts a_changedSquare a_changedMan a_readBoard) [(0, .ref h0), (2, .int x2), (4, .int x4)] 96 [] := by
        intro x2 x4 h
        unfold m_X10_stood_b96 at h
        refine kv_iconst C 0 dX10_stood_96 (by decide) ?_
        exact kv_lv [0, 1, 2] (lv2 := [(0, .ref h0), (2, .int x2), (4, .int x4)]) rfl (j97 x2 x4 0 h)
      intro x2 x3 x4 h
      replace h : m_X10_stood_b62  (m_X10_stood_l62  v_side v_rights v_passed a_board a_before n62) v_side v_rights v_passed a_board a_before x2 x3 x4 = some rv := h
      unfold m_X10_stood_b62 at h
      refine kv_iload C 3 dX10_stood_62 rfl ?_
      refine kv_bipush C 64 dX10_stood_64 (by decide) ?_
      refine kv_icmp_ge C 104 dX10_stood_66 (by decide) (fun c_2 => ?_) (fun c_2 => ?_)
      · have h := oi_t h c_2
        refine kv_iload_n C 2 dX10_stood_104 rfl rfl ?_
        obtain ⟨g_3, h⟩ := obl_e h
        cases h
        exact hret _ _ dX10_stood_105 (fun _ => g_3)
      · have h := oi_f h c_2
        refine kv_iload_n C 2 dX10_stood_69 rfl rfl ?_
        refine kv_if_eq C 96 dX10_stood_70 (by decide) (fun c_4 => ?_) (fun c_4 => ?_)
        · have h := oi_t h c_4
          exact kv_lv [0, 1, 3] (lv2 := [(0, .ref h0), (2, .int x2), (4, .int x4)]) rfl (j96 x2 x4 h)
        · have h := oi_f h c_4
          refine kv_aload_n C 0 dX10_stood_73 rfl rfl ?_
          refine kv_get C (Cn := RX10) (T := TX10) (N := 31) 0 7 hin10 rfl rfl (by decide) (C.ts _ (List.mem_cons_of_mem _ lf_RX10_18)) rfl rfl dX10_stood_74 ?_
          refine kv_iload_n C 1 dX10_stood_77 rfl rfl ?_
          refine kv_iload C 3 dX10_stood_78 rfl ?_
          refine kv_iadd C dX10_stood_80 ?_
          obtain ⟨g_5, h⟩ := oin_e h
          refine kv_iald C 2 0 rfl rfl g_5 dX10_stood_81 ?_
          refine kv_aload_n C 0 dX10_stood_82 rfl rfl ?_
          refine kv_get C (Cn := RX10) (T := TX10) (N := 31) 0 1 hin10 rfl rfl (by decide) (C.ts _ (List.mem_cons_of_mem _ lf_RX10_7)) rfl rfl dX10_stood_83 ?_
          refine kv_iload C 3 dX10_stood_86 rfl ?_
          obtain ⟨g_6, h⟩ := oin_e h
          refine kv_iald C 1 0 rfl rfl g_6 dX10_stood_88 ?_
          refine kv_icmp_ne C 96 dX10_stood_89 (by decide) (fun c_7 => ?_) (fun c_7 => ?_)
          · have h := oi_f h c_7
            exact kv_lv [0, 1, 3] (lv2 := [(0, .ref h0), (2, .int x2), (4, .int x4)]) rfl (j96 x2 x4 h)
          · have h := oi_t h c_7
            refine kv_iconst C 1 dX10_stood_92 (by decide) ?_
            refine kv_goto C 97 dX10_stood_93 (by decide) ?_
            exact kv_lv [0, 1, 3] (lv2 := [(0, .ref h0), (2, .int x2), (4, .int x4)]) rfl (j97 x2 x4 1 h)
  have j58 : ∀ (x2 : Int32) (t0 : Int32), m_X10_stood_b58  v_side v_rights v_passed a_board a_before x2 t0 = some rv → kv p l e rm_X10_stood s m ([.ref h0, .int p0] : List Value).toArray below meth c D A 5 0 0 Q (wM h0 q cI v_code v_side v_rights v_passed v_halves v_number v_top v_typedCount v_readAt v_place v_writtenCount v_chosenFrom v_chosenTo v_chosenTurn v_changed v_readSide v_readRights v_readPassed v_readHalves v_readNumber a_board a_before a_typed a_written a_froms a_tos a_turns a_counts a_changedSquare a_changedMan a_readBoard) [(0, .ref h0), (2, .int x2)] 58 [.int t0] := by
    intro x2 t0 h
    unfold m_X10_stood_b58 at h
    refine kv_istore_n C (lv2 := [(0, .ref h0), (2, .int x2), (3, .int t0)]) [1, 2, 0] dX10_stood_58 rfl (by decide) rfl rfl ?_
    refine kv_iconst C 0 dX10_stood_59 (by decide) ?_
    refine kv_istore C (lv2 := [(0, .ref h0), (2, .int x2), (3, .int t0), (4, .int 0)]) [1, 2, 3, 0] dX10_stood_60 (by decide) rfl rfl ?_
    exact kv_lv [0, 1, 2, 3] (lv2 := [(0, .ref h0), (2, .int x2), (3, .int t0), (4, .int 0)]) rfl (l62 kF x2 t0 0 h)
  have j57 : ∀ (x2 : Int32), m_X10_stood_b57  v_side v_rights v_passed a_board a_before x2 = some rv → kv p l e rm_X10_stood s m ([.ref h0, .int p0] : List Value).toArray below meth c D A 5 0 0 Q (wM h0 q cI v_code v_side v_rights v_passed v_halves v_number v_top v_typedCount v_readAt v_place v_writtenCount v_chosenFrom v_chosenTo v_chosenTurn v_changed v_readSide v_readRights v_readPassed v_readHalves v_readNumber a_board a_before a_typed a_written a_froms a_tos a_turns a_counts a_changedSquare a_changedMan a_readBoard) [(0, .ref h0), (2, .int x2)] 57 [] := by
    intro x2 h
    unfold m_X10_stood_b57 at h
    refine kv_iconst C 0 dX10_stood_57 (by decide) ?_
    exact kv_lv [0, 1] (lv2 := [(0, .ref h0), (2, .int x2)]) rfl (j58 x2 0 h)
  unfold m_X10_stood at hm
  have h := hm
  refine kv_lv [0, 1] (lv2 := [(0, .ref h0), (1, .int p0)]) rfl ?_
  refine kv_bipush C 69 dX10_stood_0 (by decide) ?_
  refine kv_iload_n C 1 dX10_stood_2 rfl rfl ?_
  refine kv_imul C dX10_stood_3 ?_
  obtain ⟨x2_8, ex2_8, h⟩ := ol_e h
  refine kv_top ex2_8 ?_
  refine kv_istore_n C (lv2 := [(0, .ref h0), (2, .int x2_8)]) [1, 0] dX10_stood_4 rfl (by decide) rfl rfl ?_
  refine kv_aload_n C 0 dX10_stood_5 rfl rfl ?_
  refine kv_get C (Cn := RX10) (T := TX10) (N := 31) 0 7 hin10 rfl rfl (by decide) (C.ts _ (List.mem_cons_of_mem _ lf_RX10_18)) rfl rfl dX10_stood_6 ?_
  refine kv_iload_n C 1 dX10_stood_9 rfl rfl ?_
  refine kv_bipush C 64 dX10_stood_10 (by decide) ?_
  refine kv_iadd C dX10_stood_12 ?_
  obtain ⟨g_9, h⟩ := oin_e h
  refine kv_iald C 2 0 rfl rfl g_9 dX10_stood_13 ?_
  refine kv_aload_n C 0 dX10_stood_14 rfl rfl ?_
  refine kv_get C (Cn := RX10) (T := TX10) (N := 31) 0 2 hin10 rfl rfl (by decide) (C.ts _ (List.mem_cons_of_mem _ lf_RX10_119)) rfl rfl dX10_stood_15 ?_
  refine kv_icmp_ne C 57 dX10_stood_18 (by decide) (fun c_10 => ?_) (fun c_10 => ?_)
  · have h := oi_f h c_10
    exact kv_lv [0, 1] (lv2 := [(0, .ref h0), (2, .int x2_8)]) rfl (j57 x2_8 h)
  · have h := oi_t h c_10
    refine kv_aload_n C 0 dX10_stood_21 rfl rfl ?_
    refine kv_get C (Cn := RX10) (T := TX10) (N := 31) 0 7 hin10 rfl rfl (by decide) (C.ts _ (List.mem_cons_of_mem _ lf_RX10_18)) rfl rfl dX10_stood_22 ?_
    refine kv_iload_n C 1 dX10_stood_25 rfl rfl ?_
    refine kv_bipush C 65 dX10_stood_26 (by decide) ?_
    refine kv_iadd C dX10_stood_28 ?_
    obtain ⟨g_11, h⟩ := oin_e h
    refine kv_iald C 2 0 rfl rfl g_11 dX10_stood_29 ?_
    refine kv_aload_n C 0 dX10_stood_30 rfl rfl ?_
    refine kv_get C (Cn := RX10) (T := TX10) (N := 31) 0 3 hin10 rfl rfl (by decide) (C.ts _ (List.mem_cons_of_mem _ lf_RX10_60)) rfl rfl dX10_stood_31 ?_
    refine kv_icmp_ne C 57 dX10_stood_34 (by decide) (fun c_12 => ?_) (fun c_12 => ?_)
    · have h := oi_f h c_12
      exact kv_lv [0, 1] (lv2 := [(0, .ref h0), (2, .int x2_8)]) rfl (j57 x2_8 h)
    · have h := oi_t h c_12
      refine kv_aload_n C 0 dX10_stood_37 rfl rfl ?_
      refine kv_get C (Cn := RX10) (T := TX10) (N := 31) 0 7 hin10 rfl rfl (by decide) (C.ts _ (List.mem_cons_of_mem _ lf_RX10_18)) rfl rfl dX10_stood_38 ?_
      refine kv_iload_n C 1 dX10_stood_41 rfl rfl ?_
      refine kv_bipush C 66 dX10_stood_42 (by decide) ?_
      refine kv_iadd C dX10_stood_44 ?_
      obtain ⟨g_13, h⟩ := oin_e h
      refine kv_iald C 2 0 rfl rfl g_13 dX10_stood_45 ?_
      refine kv_aload_n C 0 dX10_stood_46 rfl rfl ?_
      refine kv_get C (Cn := RX10) (T := TX10) (N := 31) 0 4 hin10 rfl rfl (by decide) (C.ts _ (List.mem_cons_of_mem _ lf_RX10_13)) rfl rfl dX10_stood_47 ?_
      refine kv_icmp_ne C 57 dX10_stood_50 (by decide) (fun c_14 => ?_) (fun c_14 => ?_)
      · have h := oi_f h c_14
        exact kv_lv [0, 1] (lv2 := [(0, .ref h0), (2, .int x2_8)]) rfl (j57 x2_8 h)
      · have h := oi_t h c_14
        refine kv_iconst C 1 dX10_stood_53 (by decide) ?_
        refine kv_goto C 58 dX10_stood_54 (by decide) ?_
        exact kv_lv [0, 1] (lv2 := [(0, .ref h0), (2, .int x2_8)]) rfl (j58 x2_8 1 h)
def m_X10_isThrice_b44 (v_side : Int32) (v_rights : Int32) (v_passed : Int32) (v_top : Int32) (a_board : Nat → Int32) (a_before : Nat → Int32) (t0 : Int32) : Option (Int32) := obl (t0) (some t0)
def m_X10_isThrice_b27 (k4 : Int32 → Int32 → Option (Int32)) (v_side : Int32) (v_rights : Int32) (v_passed : Int32) (v_top : Int32) (a_board : Nat → Int32) (a_before : Nat → Int32) (x2 : Int32) (t0 : Int32) : Option (Int32) := ol (x2 + 1) fun x2_2 => k4 t0 x2_2
def m_X10_isThrice_b4 (k4 : Int32 → Int32 → Option (Int32)) (v_side : Int32) (v_rights : Int32) (v_passed : Int32) (v_top : Int32) (a_board : Nat → Int32) (a_before : Nat → Int32) (x1 : Int32) (x2 : Int32) : Option (Int32) := if v_top ≤ x2 then if x1 ≤ 1 then m_X10_isThrice_b44 v_side v_rights v_passed v_top a_board a_before 0 else m_X10_isThrice_b44 v_side v_rights v_passed v_top a_board a_before 1 else ob (m_X10_stood v_side v_rights v_passed a_board a_before x2) fun r_5 => if r_5 = 0 then m_X10_isThrice_b27 k4 v_side v_rights v_passed v_top a_board a_before x2 x1 else m_X10_isThrice_b27 k4 v_side v_rights v_passed v_top a_board a_before x2 (x1 + 1)
def m_X10_isThrice_l4 (v_side : Int32) (v_rights : Int32) (v_passed : Int32) (v_top : Int32) (a_board : Nat → Int32) (a_before : Nat → Int32) (n : Nat) : Int32 → Int32 → Option (Int32) := fz (fun _ _ => none) (fun k4 x1 x2 => m_X10_isThrice_b4 k4 v_side v_rights v_passed v_top a_board a_before x1 x2) n
def m_X10_isThrice (v_side : Int32) (v_rights : Int32) (v_passed : Int32) (v_top : Int32) (a_board : Nat → Int32) (a_before : Nat → Int32) : Option (Int32) := m_X10_isThrice_l4 v_side v_rights v_passed v_top a_board a_before kF 0 0
abbrev rm_X10_isThrice : Room := { frames := 1, cells := 0, slots := 0, locals := 24 }
abbrev wy_X10_isThrice : List Cond := .code yX10_isThrice cX10_isThrice 3 (some .boolean) :: gT
theorem cv_X10_isThrice {R : Room} {s : State} {args : Array Value} {own : String} {index : Nat} {w0 : Cond} (hts : ∀ w ∈ w0 :: gT, w.before args s = true) (hl : Cond.methodLink own index yX10_isThrice ∈ gT) (hR : 1 + 1 ≤ R.frames ∧ 8 + (3 + 11) + 24 ≤ R.locals) : CallW R s args own RX10 index yX10_isThrice cX10_isThrice 3 (some .boolean) wy_X10_isThrice rm_X10_isThrice 0 0 0 :=
  cwV 0 hts (gT_call w0 (pre := [.methodLink own index yX10_isThrice, .instanceMethod yX10_isThrice, .selects RX10 yX10_isThrice yX10_isThrice, .initialized RX10]) (gT_lc hl (gT_lc ly_yX10_isThrice (gT_lc lx_yX10_isThrice (gT_l1 li_RX10)))) lc_yX10_isThrice) rfl rfl rfl (by decide +kernel) hR
set_option maxRecDepth 100000 in
set_option maxHeartbeats 4000000 in
theorem c_X10_isThrice (l : Launch) (D : va_G) (h0 : Nat) (q : Nat → Nat) (cI : ClassId) (v_code : Int32) (v_side : Int32) (v_rights : Int32) (v_passed : Int32) (v_halves : Int32) (v_number : Int32) (v_top : Int32) (v_typedCount : Int32) (v_readAt : Int32) (v_place : Int32) (v_writtenCount : Int32) (v_chosenFrom : Int32) (v_chosenTo : Int32) (v_chosenTurn : Int32) (v_changed : Int32) (v_readSide : Int32) (v_readRights : Int32) (v_readPassed : Int32) (v_readHalves : Int32) (v_readNumber : Int32) (a_board : Nat → Int32) (a_before : Nat → Int32) (a_typed : Nat → Int32) (a_written : Nat → Int32) (a_froms : Nat → Int32) (a_tos : Nat → Int32) (a_turns : Nat → Int32) (a_counts : Nat → Int32) (a_changedSquare : Nat → Int32) (a_changedMan : Nat → Int32) (a_readBoard : Nat → Int32) (rv : Int32) (hm : m_X10_isThrice v_side v_rights v_passed v_top a_board a_before = some rv) : kDi l yX10_isThrice wy_X10_isThrice rm_X10_isThrice D [(cI, .int)] rv (wM h0 q cI v_code v_side v_rights v_passed v_halves v_number v_top v_typedCount v_readAt v_place v_writtenCount v_chosenFrom v_chosenTo v_chosenTurn v_changed v_readSide v_readRights v_readPassed v_readHalves v_readNumber a_board a_before a_typed a_written a_froms a_tos a_turns a_counts a_changedSquare a_changedMan a_readBoard) (wM h0 q cI v_code v_side v_rights v_passed v_halves v_number v_top v_typedCount v_readAt v_place v_writtenCount v_chosenFrom v_chosenTo v_chosenTurn v_changed v_readSide v_readRights v_readPassed v_readHalves v_readNumber a_board a_before a_typed a_written a_froms a_tos a_turns a_counts a_changedSquare a_changedMan a_readBoard) [.ref h0] := by
  refine kDi.of cX10_isThrice 3 (some .boolean) (by decide) rfl (Or.inr rfl) (Nat.le_of_ble_eq_true rfl) ?_
  intro p e s m below meth c A Q C hret
  have hin10 : ∀ w ∈ wsX100, w ∈ wy_X10_isThrice := fun w h => List.mem_cons_of_mem _ (inG10 w h)
  have j44 : ∀ (t0 : Int32), m_X10_isThrice_b44  v_side v_rights v_passed v_top a_board a_before t0 = some rv → kv p l e rm_X10_isThrice s m ([.ref h0] : List Value).toArray below meth c D A 3 0 0 Q (wM h0 q cI v_code v_side v_rights v_passed v_halves v_number v_top v_typedCount v_readAt v_place v_writtenCount v_chosenFrom v_chosenTo v_chosenTurn v_changed v_readSide v_readRights v_readPassed v_readHalves v_readNumber a_board a_before a_typed a_written a_froms a_tos a_turns a_counts a_changedSquare a_changedMan a_readBoard) [] 44 [.int t0] := by
    intro t0 h
    unfold m_X10_isThrice_b44 at h
    obtain ⟨g_1, h⟩ := obl_e h
    cases h
    exact hret _ _ dX10_isThrice_44 (fun _ => g_1)
  have l4 : ∀ (n4 : Nat) (x1 : Int32) (x2 : Int32), m_X10_isThrice_l4  v_side v_rights v_passed v_top a_board a_before n4 x1 x2 = some rv → kv p l e rm_X10_isThrice s m ([.ref h0] : List Value).toArray below meth c D A 3 0 0 Q (wM h0 q cI v_code v_side v_rights v_passed v_halves v_number v_top v_typedCount v_readAt v_place v_writtenCount v_chosenFrom v_chosenTo v_chosenTurn v_changed v_readSide v_readRights v_readPassed v_readHalves v_readNumber a_board a_before a_typed a_written a_froms a_tos a_turns a_counts a_changedSquare a_changedMan a_readBoard) [(0, .ref h0), (1, .int x1), (2, .int x2)] 4 [] := by
    intro n4
    induction n4 with
    | zero =>
      intro x1 x2 h
      exact kv_no h
    | succ n4 ih4 =>
      have j27 : ∀ (x2 : Int32) (t0 : Int32), m_X10_isThrice_b27 (m_X10_isThrice_l4  v_side v_rights v_passed v_top a_board a_before n4) v_side v_rights v_passed v_top a_board a_before x2 t0 = some rv → kv p l e rm_X10_isThrice s m ([.ref h0] : List Value).toArray below meth c D A 3 0 0 Q (wM h0 q cI v_code v_side v_rights v_passed v_halves v_number v_top v_typedCount v_readAt v_place v_writtenCount v_chosenFrom v_chosenTo v_chosenTurn v_changed v_readSide v_readRights v_readPassed v_readHalves v_readNumber a_board a_before a_typed a_written a_froms a_tos a_turns a_counts a_changedSquare a_changedMan a_readBoard) [(0, .ref h0), (2, .int x2)] 27 [.int t0] := by
        intro x2 t0 h
        unfold m_X10_isThrice_b27 at h
        refine kv_istore_n C (lv2 := [(0, .ref h0), (1, .int t0), (2, .int x2)]) [1, 0, 2] dX10_isThrice_27 rfl (by decide) rfl rfl ?_
        obtain ⟨x2_2, ex2_2, h⟩ := ol_e h
        refine kv_iinc C (v := x2_2) (lv2 := [(0, .ref h0), (1, .int t0), (2, .int x2_2)]) 2 [1, 2, 0] dX10_isThrice_28 rfl ex2_2.symm (by decide) rfl rfl ?_
        refine kv_goto C 4 dX10_isThrice_31 (by decide) ?_
        exact kv_lv [0, 1, 2] (lv2 := [(0, .ref h0), (1, .int t0), (2, .int x2_2)]) rfl (ih4 t0 x2_2 h)
      intro x1 x2 h
      replace h : m_X10_isThrice_b4  (m_X10_isThrice_l4  v_side v_rights v_passed v_top a_board a_before n4) v_side v_rights v_passed v_top a_board a_before x1 x2 = some rv := h
      unfold m_X10_isThrice_b4 at h
      refine kv_iload_n C 2 dX10_isThrice_4 rfl rfl ?_
      refine kv_aload_n C 0 dX10_isThrice_5 rfl rfl ?_
      refine kv_get C (Cn := RX10) (T := TX10) (N := 31) 0 8 hin10 rfl rfl (by decide) (C.ts _ (List.mem_cons_of_mem _ lf_RX10_116)) rfl rfl dX10_isThrice_6 ?_
      refine kv_icmp_ge C 34 dX10_isThrice_9 (by decide) (fun c_3 => ?_) (fun c_3 => ?_)
      · have h := oi_t h c_3
        refine kv_iload_n C 1 dX10_isThrice_34 rfl rfl ?_
        refine kv_iconst C 1 dX10_isThrice_35 (by decide) ?_
        refine kv_icmp_le C 43 dX10_isThrice_36 (by decide) (fun c_4 => ?_) (fun c_4 => ?_)
        · have h := oi_t h c_4
          refine kv_iconst C 0 dX10_isThrice_43 (by decide) ?_
          exact kv_lv [] (lv2 := []) rfl (j44 0 h)
        · have h := oi_f h c_4
          refine kv_iconst C 1 dX10_isThrice_39 (by decide) ?_
          refine kv_goto C 44 dX10_isThrice_40 (by decide) ?_
          exact kv_lv [] (lv2 := []) rfl (j44 1 h)
      · have h := oi_f h c_3
        refine kv_aload_n C 0 dX10_isThrice_12 rfl rfl ?_
        refine kv_iload_n C 2 dX10_isThrice_13 rfl rfl ?_
        obtain ⟨r_5, hm_6, h⟩ := ob_e h
        refine kv_callWi C [.int x2] 0 (c_X10_stood l D h0 q cI v_code v_side v_rights v_passed v_halves v_number v_top v_typedCount v_readAt v_place v_writtenCount v_chosenFrom v_chosenTo v_chosenTurn v_changed v_readSide v_readRights v_readPassed v_readHalves v_readNumber a_board a_before a_typed a_written a_froms a_tos a_turns a_counts a_changedSquare a_changedMan a_readBoard x2 r_5 hm_6) (cv_X10_stood C.ts lm_RX10_155 ⟨Nat.le_of_ble_eq_true rfl, Nat.le_of_ble_eq_true rfl⟩) rfl rfl rfl rfl (Nat.le_of_ble_eq_true rfl) dX10_isThrice_14 ⟨Nat.zero_le _, Nat.zero_le _⟩ ?_
        refine kv_if_eq C 26 dX10_isThrice_17 (by decide) (fun c_7 => ?_) (fun c_7 => ?_)
        · have h := oi_t h c_7
          refine kv_iload_n C 1 dX10_isThrice_26 rfl rfl ?_
          exact kv_lv [0, 2] (lv2 := [(0, .ref h0), (2, .int x2)]) rfl (j27 x2 x1 h)
        · have h := oi_f h c_7
          refine kv_iload_n C 1 dX10_isThrice_20 rfl rfl ?_
          refine kv_iconst C 1 dX10_isThrice_21 (by decide) ?_
          refine kv_iadd C dX10_isThrice_22 ?_
          refine kv_goto C 27 dX10_isThrice_23 (by decide) ?_
          exact kv_lv [0, 2] (lv2 := [(0, .ref h0), (2, .int x2)]) rfl (j27 x2 (x1 + 1) h)
  unfold m_X10_isThrice at hm
  have h := hm
  refine kv_lv [0] (lv2 := [(0, .ref h0)]) rfl ?_
  refine kv_iconst C 0 dX10_isThrice_0 (by decide) ?_
  refine kv_istore_n C (lv2 := [(0, .ref h0), (1, .int 0)]) [1, 0] dX10_isThrice_1 rfl (by decide) rfl rfl ?_
  refine kv_iconst C 0 dX10_isThrice_2 (by decide) ?_
  refine kv_istore_n C (lv2 := [(0, .ref h0), (1, .int 0), (2, .int 0)]) [1, 2, 0] dX10_isThrice_3 rfl (by decide) rfl rfl ?_
  exact kv_lv [0, 1, 2] (lv2 := [(0, .ref h0), (1, .int 0), (2, .int 0)]) rfl (l4 kF 0 0 h)
def m_X10_state_b72 (v_code : Int32) (v_side : Int32) (v_rights : Int32) (v_passed : Int32) (v_halves : Int32) (v_top : Int32) (v_changed : Int32) (a_board : Nat → Int32) (a_before : Nat → Int32) (a_froms : Nat → Int32) (a_tos : Nat → Int32) (a_turns : Nat → Int32) (a_counts : Nat → Int32) (a_changedSquare : Nat → Int32) (a_changedMan : Nat → Int32) (t0 : Int32) : Option (Int32 × Int32 × Int32 × (Nat → Int32) × (Nat → Int32) × (Nat → Int32) × (Nat → Int32) × (Nat → Int32) × (Nat → Int32) × (Nat → Int32)) := some (t0, v_code, v_changed, a_board, a_froms, a_tos, a_turns, a_counts, a_changedSquare, a_changedMan)
def m_X10_state_b35 (v_code : Int32) (v_side : Int32) (v_rights : Int32) (v_passed : Int32) (v_halves : Int32) (v_top : Int32) (v_changed : Int32) (a_board : Nat → Int32) (a_before : Nat → Int32) (a_froms : Nat → Int32) (a_tos : Nat → Int32) (a_turns : Nat → Int32) (a_counts : Nat → Int32) (a_changedSquare : Nat → Int32) (a_changedMan : Nat → Int32) (t0 : Int32) : Option (Int32 × Int32 × Int32 × (Nat → Int32) × (Nat → Int32) × (Nat → Int32) × (Nat → Int32) × (Nat → Int32) × (Nat → Int32) × (Nat → Int32)) := some (t0, v_code, v_changed, a_board, a_froms, a_tos, a_turns, a_counts, a_changedSquare, a_changedMan)
def m_X10_state (v_code : Int32) (v_side : Int32) (v_rights : Int32) (v_passed : Int32) (v_halves : Int32) (v_top : Int32) (v_changed : Int32) (a_board : Nat → Int32) (a_before : Nat → Int32) (a_froms : Nat → Int32) (a_tos : Nat → Int32) (a_turns : Nat → Int32) (a_counts : Nat → Int32) (a_changedSquare : Nat → Int32) (a_changedMan : Nat → Int32) : Option (Int32 × Int32 × Int32 × (Nat → Int32) × (Nat → Int32) × (Nat → Int32) × (Nat → Int32) × (Nat → Int32) × (Nat → Int32) × (Nat → Int32)) := ob (m_X10_find v_side v_rights v_passed v_changed a_board a_froms a_tos a_turns a_counts a_changedSquare a_changedMan 0) fun (v_changed_1, a_board_2, a_froms_3, a_tos_4, a_turns_5, a_counts_6, a_changedSquare_7, a_changedMan_8) => if (a_counts_6 (Int32.toNatClampNeg 0)) = 0 then ob (m_X10_inCheck a_board_2 v_side) fun r_19 => if r_19 = 0 then m_X10_state_b35 0 v_side v_rights v_passed v_halves v_top v_changed_1 a_board_2 a_before a_froms_3 a_tos_4 a_turns_5 a_counts_6 a_changedSquare_7 a_changedMan_8 2 else m_X10_state_b35 0 v_side v_rights v_passed v_halves v_top v_changed_1 a_board_2 a_before a_froms_3 a_tos_4 a_turns_5 a_counts_6 a_changedSquare_7 a_changedMan_8 1 else if v_halves < 100 then ob (m_X10_isThrice v_side v_rights v_passed v_top a_board_2 a_before ) fun r_13 => if r_13 = 0 then ob (m_X10_isBare a_board_2 ) fun r_16 => if r_16 = 0 then m_X10_state_b72 0 v_side v_rights v_passed v_halves v_top v_changed_1 a_board_2 a_before a_froms_3 a_tos_4 a_turns_5 a_counts_6 a_changedSquare_7 a_changedMan_8 0 else m_X10_state_b72 0 v_side v_rights v_passed v_halves v_top v_changed_1 a_board_2 a_before a_froms_3 a_tos_4 a_turns_5 a_counts_6 a_changedSquare_7 a_changedMan_8 5 else m_X10_state_b72 0 v_side v_rights v_passed v_halves v_top v_changed_1 a_board_2 a_before a_froms_3 a_tos_4 a_turns_5 a_counts_6 a_changedSquare_7 a_changedMan_8 4 else m_X10_state_b72 0 v_side v_rights v_passed v_halves v_top v_changed_1 a_board_2 a_before a_froms_3 a_tos_4 a_turns_5 a_counts_6 a_changedSquare_7 a_changedMan_8 3
abbrev rm_X10_state : Room := { frames := 8, cells := 0, slots := 0, locals := 198 }
abbrev wy_X10_state : List Cond := .code yX10_state cX10_state 1 (some .int) :: gT
theorem cv_X10_state {R : Room} {s : State} {args : Array Value} {own : String} {index : Nat} {w0 : Cond} (hts : ∀ w ∈ w0 :: gT, w.before args s = true) (hl : Cond.methodLink own index yX10_state ∈ gT) (hR : 8 + 1 ≤ R.frames ∧ 8 + (1 + 11) + 198 ≤ R.locals) : CallW R s args own RX10 index yX10_state cX10_state 1 (some .int) wy_X10_state rm_X10_state 0 0 0 :=
  cwV 0 hts (gT_call w0 (pre := [.methodLink own index yX10_state, .instanceMethod yX10_state, .selects RX10 yX10_state yX10_state, .initialized RX10]) (gT_lc hl (gT_lc ly_yX10_state (gT_lc lx_yX10_state (gT_l1 li_RX10)))) lc_yX10_state) rfl rfl rfl (by decide +kernel) hR
set_option maxRecDepth 100000 in
set_option maxHeartbeats 4000000 in
theorem c_X10_state (l : Launch) (D : va_G) (h0 : Nat) (q : Nat → Nat) (cI : ClassId) (v_code : Int32) (v_side : Int32) (v_rights : Int32) (v_passed : Int32) (v_halves : Int32) (v_number : Int32) (v_top : Int32) (v_typedCount : Int32) (v_readAt : Int32) (v_place : Int32) (v_writtenCount : Int32) (v_chosenFrom : Int32) (v_chosenTo : Int32) (v_chosenTurn : Int32) (v_changed : Int32) (v_readSide : Int32) (v_readRights : Int32) (v_readPassed : Int32) (v_readHalves : Int32) (v_readNumber : Int32) (a_board : Nat → Int32) (a_before : Nat → Int32) (a_typed : Nat → Int32) (a_written : Nat → Int32) (a_froms : Nat → Int32) (a_tos : Nat → Int32) (a_turns : Nat → Int32) (a_counts : Nat → Int32) (a_changedSquare : Nat → Int32) (a_changedMan : Nat → Int32) (a_readBoard : Nat → Int32) (rv : Int32) (v_code' : Int32) (v_changed' : Int32) (a_board' : Nat → Int32) (a_froms' : Nat → Int32) (a_tos' : Nat → Int32) (a_turns' : Nat → Int32) (a_counts' : Nat → Int32) (a_changedSquare' : Nat → Int32) (a_changedMan' : Nat → Int32) (hm : m_X10_state v_code v_side v_rights v_passed v_halves v_top v_changed a_board a_before a_froms a_tos a_turns a_counts a_changedSquare a_changedMan = some (rv, v_code', v_changed', a_board', a_froms', a_tos', a_turns', a_counts', a_changedSquare', a_changedMan')) : kDi l yX10_state wy_X10_state rm_X10_state D [(cI, .int)] rv (wM h0 q cI v_code v_side v_rights v_passed v_halves v_number v_top v_typedCount v_readAt v_place v_writtenCount v_chosenFrom v_chosenTo v_chosenTurn v_changed v_readSide v_readRights v_readPassed v_readHalves v_readNumber a_board a_before a_typed a_written a_froms a_tos a_turns a_counts a_changedSquare a_changedMan a_readBoard) (wM h0 q cI v_code' v_side v_rights v_passed v_halves v_number v_top v_typedCount v_readAt v_place v_writtenCount v_chosenFrom v_chosenTo v_chosenTurn v_changed' v_readSide v_readRights v_readPassed v_readHalves v_readNumber a_board' a_before a_typed a_written a_froms' a_tos' a_turns' a_counts' a_changedSquare' a_changedMan' a_readBoard) [.ref h0] := by
  refine kDi.of cX10_state 1 (some .int) (by decide) rfl (Or.inl rfl) (Nat.le_of_ble_eq_true rfl) ?_
  intro p e s m below meth c A Q C hret
  have hin10 : ∀ w ∈ wsX100, w ∈ wy_X10_state := fun w h => List.mem_cons_of_mem _ (inG10 w h)
  have j72 : ∀ (v_code : Int32) (v_changed : Int32) (a_board : Nat → Int32) (a_froms : Nat → Int32) (a_tos : Nat → Int32) (a_turns : Nat → Int32) (a_counts : Nat → Int32) (a_changedSquare : Nat → Int32) (a_changedMan : Nat → Int32) (t0 : Int32), m_X10_state_b72  v_code v_side v_rights v_passed v_halves v_top v_changed a_board a_before a_froms a_tos a_turns a_counts a_changedSquare a_changedMan t0 = some (rv, v_code', v_changed', a_board', a_froms', a_tos', a_turns', a_counts', a_changedSquare', a_changedMan') → kv p l e rm_X10_state s m ([.ref h0] : List Value).toArray below meth c D A 1 0 0 Q (wM h0 q cI v_code v_side v_rights v_passed v_halves v_number v_top v_typedCount v_readAt v_place v_writtenCount v_chosenFrom v_chosenTo v_chosenTurn v_changed v_readSide v_readRights v_readPassed v_readHalves v_readNumber a_board a_before a_typed a_written a_froms a_tos a_turns a_counts a_changedSquare a_changedMan a_readBoard) [] 72 [.int t0] := by
    intro v_code v_changed a_board a_froms a_tos a_turns a_counts a_changedSquare a_changedMan t0 h
    unfold m_X10_state_b72 at h
    cases h
    exact hret _ _ dX10_state_72 (fun q => by cases q)
  have j35 : ∀ (v_code : Int32) (v_changed : Int32) (a_board : Nat → Int32) (a_froms : Nat → Int32) (a_tos : Nat → Int32) (a_turns : Nat → Int32) (a_counts : Nat → Int32) (a_changedSquare : Nat → Int32) (a_changedMan : Nat → Int32) (t0 : Int32), m_X10_state_b35  v_code v_side v_rights v_passed v_halves v_top v_changed a_board a_before a_froms a_tos a_turns a_counts a_changedSquare a_changedMan t0 = some (rv, v_code', v_changed', a_board', a_froms', a_tos', a_turns', a_counts', a_changedSquare', a_changedMan') → kv p l e rm_X10_state s m ([.ref h0] : List Value).toArray below meth c D A 1 0 0 Q (wM h0 q cI v_code v_side v_rights v_passed v_halves v_number v_top v_typedCount v_readAt v_place v_writtenCount v_chosenFrom v_chosenTo v_chosenTurn v_changed v_readSide v_readRights v_readPassed v_readHalves v_readNumber a_board a_before a_typed a_written a_froms a_tos a_turns a_counts a_changedSquare a_changedMan a_readBoard) [] 35 [.int t0] := by
    intro v_code v_changed a_board a_froms a_tos a_turns a_counts a_changedSquare a_changedMan t0 h
    unfold m_X10_state_b35 at h
    cases h
    exact hret _ _ dX10_state_35 (fun q => by cases q)
  unfold m_X10_state at hm
  have h := hm
  refine kv_lv [0] (lv2 := [(0, .ref h0)]) rfl ?_
  refine kv_aload_n C 0 dX10_state_0 rfl rfl ?_
  refine kv_iconst C 0 dX10_state_1 (by decide) ?_
  refine kv_put C (Cn := RX10) (T := TX10) (N := 31) (ty := .int) (ws1 := (wM h0 q cI 0 v_side v_rights v_passed v_halves v_number v_top v_typedCount v_readAt v_place v_writtenCount v_chosenFrom v_chosenTo v_chosenTurn v_changed v_readSide v_readRights v_readPassed v_readHalves v_readNumber a_board a_before a_typed a_written a_froms a_tos a_turns a_counts a_changedSquare a_changedMan a_readBoard)) 0 0 hin10 tyX10 tyX10_ok nmX10 rfl rfl (by decide) (C.ts _ (List.mem_cons_of_mem _ lf_RX10_66)) rfl rfl (by decide +kernel) rfl rfl (Nat.le_of_ble_eq_true rfl) rfl dX10_state_2 ?_
  refine kv_aload_n C 0 dX10_state_5 rfl rfl ?_
  refine kv_iconst C 0 dX10_state_6 (by decide) ?_
  obtain ⟨⟨v_changed_1, a_board_2, a_froms_3, a_tos_4, a_turns_5, a_counts_6, a_changedSquare_7, a_changedMan_8⟩, hm_9, h⟩ := ob_e h
  replace h : _ = _ := h
  refine kv_callWv C [.int 0] 0 (c_X10_find l D h0 q cI 0 v_side v_rights v_passed v_halves v_number v_top v_typedCount v_readAt v_place v_writtenCount v_chosenFrom v_chosenTo v_chosenTurn v_changed v_readSide v_readRights v_readPassed v_readHalves v_readNumber a_board a_before a_typed a_written a_froms a_tos a_turns a_counts a_changedSquare a_changedMan a_readBoard 0 v_changed_1 a_board_2 a_froms_3 a_tos_4 a_turns_5 a_counts_6 a_changedSquare_7 a_changedMan_8 hm_9) (cv_X10_find C.ts lm_RX10_158 ⟨Nat.le_of_ble_eq_true rfl, Nat.le_of_ble_eq_true rfl⟩) rfl rfl rfl rfl (Nat.le_of_ble_eq_true rfl) dX10_state_7 ⟨Nat.zero_le _, Nat.zero_le _⟩ ?_
  refine kv_aload_n C 0 dX10_state_10 rfl rfl ?_
  refine kv_get C (Cn := RX10) (T := TX10) (N := 31) 0 18 hin10 rfl rfl (by decide) (C.ts _ (List.mem_cons_of_mem _ lf_RX10_39)) rfl rfl dX10_state_11 ?_
  refine kv_iconst C 0 dX10_state_14 (by decide) ?_
  refine kv_iald C 8 0 rfl rfl (by unfold vp_in; decide) dX10_state_15 ?_
  refine kv_if_ne C 36 dX10_state_16 (by decide) (fun c_11 => ?_) (fun c_11 => ?_)
  · have h := oi_f h c_11
    refine kv_aload_n C 0 dX10_state_36 rfl rfl ?_
    refine kv_get C (Cn := RX10) (T := TX10) (N := 31) 0 5 hin10 rfl rfl (by decide) (C.ts _ (List.mem_cons_of_mem _ lf_RX10_122)) rfl rfl dX10_state_37 ?_
    refine kv_bipush C 100 dX10_state_40 (by decide) ?_
    refine kv_icmp_lt C 49 dX10_state_42 (by decide) (fun c_12 => ?_) (fun c_12 => ?_)
    · have h := oi_t h c_12
      refine kv_aload_n C 0 dX10_state_49 rfl rfl ?_
      obtain ⟨r_13, hm_14, h⟩ := ob_e h
      refine kv_callWi C [] 0 (c_X10_isThrice l D h0 q cI 0 v_side v_rights v_passed v_halves v_number v_top v_typedCount v_readAt v_place v_writtenCount v_chosenFrom v_chosenTo v_chosenTurn v_changed_1 v_readSide v_readRights v_readPassed v_readHalves v_readNumber a_board_2 a_before a_typed a_written a_froms_3 a_tos_4 a_turns_5 a_counts_6 a_changedSquare_7 a_changedMan_8 a_readBoard  r_13 hm_14) (cv_X10_isThrice C.ts lm_RX10_162 ⟨Nat.le_of_ble_eq_true rfl, Nat.le_of_ble_eq_true rfl⟩) rfl rfl rfl rfl (Nat.le_of_ble_eq_true rfl) dX10_state_50 ⟨Nat.zero_le _, Nat.zero_le _⟩ ?_
      refine kv_if_eq C 60 dX10_state_53 (by decide) (fun c_15 => ?_) (fun c_15 => ?_)
      · have h := oi_t h c_15
        refine kv_aload_n C 0 dX10_state_60 rfl rfl ?_
        obtain ⟨r_16, hm_17, h⟩ := ob_e h
        refine kv_callWi C [] 0 (c_X10_isBare l D h0 q cI 0 v_side v_rights v_passed v_halves v_number v_top v_typedCount v_readAt v_place v_writtenCount v_chosenFrom v_chosenTo v_chosenTurn v_changed_1 v_readSide v_readRights v_readPassed v_readHalves v_readNumber a_board_2 a_before a_typed a_written a_froms_3 a_tos_4 a_turns_5 a_counts_6 a_changedSquare_7 a_changedMan_8 a_readBoard  r_16 hm_17) (cv_X10_isBare C.ts lm_RX10_166 ⟨Nat.le_of_ble_eq_true rfl, Nat.le_of_ble_eq_true rfl⟩) rfl rfl rfl rfl (Nat.le_of_ble_eq_true rfl) dX10_state_61 ⟨Nat.zero_le _, Nat.zero_le _⟩ ?_
        refine kv_if_eq C 71 dX10_state_64 (by decide) (fun c_18 => ?_) (fun c_18 => ?_)
        · have h := oi_t h c_18
          refine kv_iconst C 0 dX10_state_71 (by decide) ?_
          exact kv_lv [] (lv2 := []) rfl (j72 0 v_changed_1 a_board_2 a_froms_3 a_tos_4 a_turns_5 a_counts_6 a_changedSquare_7 a_changedMan_8 0 h)
        · have h := oi_f h c_18
          refine kv_iconst C 5 dX10_state_67 (by decide) ?_
          refine kv_goto C 72 dX10_state_68 (by decide) ?_
          exact kv_lv [] (lv2 := []) rfl (j72 0 v_changed_1 a_board_2 a_froms_3 a_tos_4 a_turns_5 a_counts_6 a_changedSquare_7 a_changedMan_8 5 h)
      · have h := oi_f h c_15
        refine kv_iconst C 4 dX10_state_56 (by decide) ?_
        refine kv_goto C 72 dX10_state_57 (by decide) ?_
        exact kv_lv [] (lv2 := []) rfl (j72 0 v_changed_1 a_board_2 a_froms_3 a_tos_4 a_turns_5 a_counts_6 a_changedSquare_7 a_changedMan_8 4 h)
    · have h := oi_f h c_12
      refine kv_iconst C 3 dX10_state_45 (by decide) ?_
      refine kv_goto C 72 dX10_state_46 (by decide) ?_
      exact kv_lv [] (lv2 := []) rfl (j72 0 v_changed_1 a_board_2 a_froms_3 a_tos_4 a_turns_5 a_counts_6 a_changedSquare_7 a_changedMan_8 3 h)
  · have h := oi_t h c_11
    refine kv_aload_n C 0 dX10_state_19 rfl rfl ?_
    refine kv_aload_n C 0 dX10_state_20 rfl rfl ?_
    refine kv_get C (Cn := RX10) (T := TX10) (N := 31) 0 2 hin10 rfl rfl (by decide) (C.ts _ (List.mem_cons_of_mem _ lf_RX10_119)) rfl rfl dX10_state_21 ?_
    obtain ⟨r_19, hm_20, h⟩ := ob_e h
    refine kv_callWi C [.int v_side] 0 (c_X10_inCheck l D h0 q cI 0 v_side v_rights v_passed v_halves v_number v_top v_typedCount v_readAt v_place v_writtenCount v_chosenFrom v_chosenTo v_chosenTurn v_changed_1 v_readSide v_readRights v_readPassed v_readHalves v_readNumber a_board_2 a_before a_typed a_written a_froms_3 a_tos_4 a_turns_5 a_counts_6 a_changedSquare_7 a_changedMan_8 a_readBoard v_side r_19 hm_20) (cv_X10_inCheck C.ts lm_RX10_109 ⟨Nat.le_of_ble_eq_true rfl, Nat.le_of_ble_eq_true rfl⟩) rfl rfl rfl rfl (Nat.le_of_ble_eq_true rfl) dX10_state_24 ⟨Nat.zero_le _, Nat.zero_le _⟩ ?_
    refine kv_if_eq C 34 dX10_state_27 (by decide) (fun c_21 => ?_) (fun c_21 => ?_)
    · have h := oi_t h c_21
      refine kv_iconst C 2 dX10_state_34 (by decide) ?_
      exact kv_lv [] (lv2 := []) rfl (j35 0 v_changed_1 a_board_2 a_froms_3 a_tos_4 a_turns_5 a_counts_6 a_changedSquare_7 a_changedMan_8 2 h)
    · have h := oi_f h c_21
      refine kv_iconst C 1 dX10_state_30 (by decide) ?_
      refine kv_goto C 35 dX10_state_31 (by decide) ?_
      exact kv_lv [] (lv2 := []) rfl (j35 0 v_changed_1 a_board_2 a_froms_3 a_tos_4 a_turns_5 a_counts_6 a_changedSquare_7 a_changedMan_8 1 h)
def m_X10_worthOf_b162 (a_board : Nat → Int32) (t0 : Int32) : Option (Int32) := some t0
def m_X10_worthOf_b67 (a_board : Nat → Int32) (x1 : Int32) (x3 : Int32) (x5 : Int32) (t0 : Int32) (t1 : Int32) : Option (Int32) := ol (t0 + t1) fun x6_1 => oin (x1) 64 (ob (m_X10_kindOf (a_board x1.toNatClampNeg)) fun r_3 => if r_3 = 1 then some ((100 + (4 * x3)) + (2 * x5)) else if r_3 = 2 then some (320 + (6 * x6_1)) else if r_3 = 3 then some (330 + (4 * x6_1)) else if r_3 = 4 then if x3 = 6 then m_X10_worthOf_b162 a_board 520 else m_X10_worthOf_b162 a_board 500 else if r_3 = 5 then some (900 + (2 * x6_1)) else if r_3 = 6 then some ((-3) * x6_1) else some 0)
def m_X10_worthOf_b47 (a_board : Nat → Int32) (x1 : Int32) (x3 : Int32) (t0 : Int32) : Option (Int32) := if (7 - x3) ≤ x3 then m_X10_worthOf_b67 a_board x1 x3 t0 t0 (7 - x3) else m_X10_worthOf_b67 a_board x1 x3 t0 t0 x3
def m_X10_worthOf_b14 (a_board : Nat → Int32) (x1 : Int32) (t0 : Int32) : Option (Int32) := ob (m_X10_rankOf x1 t0) fun r_13 => ob (m_X10_columnOf x1) fun r_15 => if (7 - r_15) ≤ r_15 then m_X10_worthOf_b47 a_board x1 r_13 (7 - r_15) else m_X10_worthOf_b47 a_board x1 r_13 r_15
def m_X10_worthOf (a_board : Nat → Int32) (p0 : Int32) : Option (Int32) := oin (p0) 64 (if (a_board p0.toNatClampNeg) ≤ 0 then m_X10_worthOf_b14 a_board p0 1 else m_X10_worthOf_b14 a_board p0 0)
abbrev rm_X10_worthOf : Room := { frames := 1, cells := 0, slots := 0, locals := 21 }
abbrev wy_X10_worthOf : List Cond := .code yX10_worthOf cX10_worthOf 7 (some .int) :: gT
theorem cv_X10_worthOf {R : Room} {s : State} {args : Array Value} {own : String} {index : Nat} {w0 : Cond} (hts : ∀ w ∈ w0 :: gT, w.before args s = true) (hl : Cond.methodLink own index yX10_worthOf ∈ gT) (hR : 1 + 1 ≤ R.frames ∧ 8 + (7 + 11) + 21 ≤ R.locals) : CallW R s args own RX10 index yX10_worthOf cX10_worthOf 7 (some .int) wy_X10_worthOf rm_X10_worthOf 0 0 1 :=
  cwV 1 hts (gT_call w0 (pre := [.methodLink own index yX10_worthOf, .instanceMethod yX10_worthOf, .selects RX10 yX10_worthOf yX10_worthOf, .initialized RX10]) (gT_lc hl (gT_lc ly_yX10_worthOf (gT_lc lx_yX10_worthOf (gT_l1 li_RX10)))) lc_yX10_worthOf) rfl rfl rfl (by decide +kernel) hR
set_option maxRecDepth 100000 in
set_option maxHeartbeats 4000000 in
theorem c_X10_worthOf (l : Launch) (D : va_G) (h0 : Nat) (q : Nat → Nat) (cI : ClassId) (v_code : Int32) (v_side : Int32) (v_rights : Int32) (v_passed : Int32) (v_halves : Int32) (v_number : Int32) (v_top : Int32) (v_typedCount : Int32) (v_readAt : Int32) (v_place : Int32) (v_writtenCount : Int32) (v_chosenFrom : Int32) (v_chosenTo : Int32) (v_chosenTurn : Int32) (v_changed : Int32) (v_readSide : Int32) (v_readRights : Int32) (v_readPassed : Int32) (v_readHalves : Int32) (v_readNumber : Int32) (a_board : Nat → Int32) (a_before : Nat → Int32) (a_typed : Nat → Int32) (a_written : Nat → Int32) (a_froms : Nat → Int32) (a_tos : Nat → Int32) (a_turns : Nat → Int32) (a_counts : Nat → Int32) (a_changedSquare : Nat → Int32) (a_changedMan : Nat → Int32) (a_readBoard : Nat → Int32) (p0 : Int32) (rv : Int32) (hm : m_X10_worthOf a_board p0 = some rv) : kDi l yX10_worthOf wy_X10_worthOf rm_X10_worthOf D [(cI, .int)] rv (wM h0 q cI v_code v_side v_rights v_passed v_halves v_number v_top v_typedCount v_readAt v_place v_writtenCount v_chosenFrom v_chosenTo v_chosenTurn v_changed v_readSide v_readRights v_readPassed v_readHalves v_readNumber a_board a_before a_typed a_written a_froms a_tos a_turns a_counts a_changedSquare a_changedMan a_readBoard) (wM h0 q cI v_code v_side v_rights v_passed v_halves v_number v_top v_typedCount v_readAt v_place v_writtenCount v_chosenFrom v_chosenTo v_chosenTurn v_changed v_readSide v_readRights v_readPassed v_readHalves v_readNumber a_board a_before a_typed a_written a_froms a_tos a_turns a_counts a_changedSquare a_changedMan a_readBoard) [.ref h0, .int p0] := by
  refine kDi.of cX10_worthOf 7 (some .int) (by decide) rfl (Or.inl rfl) (Nat.le_of_ble_eq_true rfl) ?_
  intro p e s m below meth c A Q C hret
  have hin10 : ∀ w ∈ wsX100, w ∈ wy_X10_worthOf := fun w h => List.mem_cons_of_mem _ (inG10 w h)
  have j162 : ∀ (t0 : Int32), m_X10_worthOf_b162  a_board t0 = some rv → kv p l e rm_X10_worthOf s m ([.ref h0, .int p0] : List Value).toArray below meth c D A 7 0 0 Q (wM h0 q cI v_code v_side v_rights v_passed v_halves v_number v_top v_typedCount v_readAt v_place v_writtenCount v_chosenFrom v_chosenTo v_chosenTurn v_changed v_readSide v_readRights v_readPassed v_readHalves v_readNumber a_board a_before a_typed a_written a_froms a_tos a_turns a_counts a_changedSquare a_changedMan a_readBoard) [] 162 [.int t0] := by
    intro t0 h
    unfold m_X10_worthOf_b162 at h
    cases h
    exact hret _ _ dX10_worthOf_162 (fun q => by cases q)
  have j67 : ∀ (x1 : Int32) (x3 : Int32) (x5 : Int32) (t0 : Int32) (t1 : Int32), m_X10_worthOf_b67  a_board x1 x3 x5 t0 t1 = some rv → kv p l e rm_X10_worthOf s m ([.ref h0, .int p0] : List Value).toArray below meth c D A 7 0 0 Q (wM h0 q cI v_code v_side v_rights v_passed v_halves v_number v_top v_typedCount v_readAt v_place v_writtenCount v_chosenFrom v_chosenTo v_chosenTurn v_changed v_readSide v_readRights v_readPassed v_readHalves v_readNumber a_board a_before a_typed a_written a_froms a_tos a_turns a_counts a_changedSquare a_changedMan a_readBoard) [(0, .ref h0), (1, .int x1), (3, .int x3), (5, .int x5)] 67 [.int t1, .int t0] := by
    intro x1 x3 x5 t0 t1 h
    unfold m_X10_worthOf_b67 at h
    refine kv_iadd C dX10_worthOf_67 ?_
    obtain ⟨x6_1, ex6_1, h⟩ := ol_e h
    refine kv_top ex6_1 ?_
    refine kv_istore C (lv2 := [(0, .ref h0), (1, .int x1), (3, .int x3), (5, .int x5), (6, .int x6_1)]) [1, 2, 3, 4, 0] dX10_worthOf_68 (by decide) rfl rfl ?_
    refine kv_aload_n C 0 dX10_worthOf_70 rfl rfl ?_
    refine kv_get C (Cn := RX10) (T := TX10) (N := 31) 0 1 hin10 rfl rfl (by decide) (C.ts _ (List.mem_cons_of_mem _ lf_RX10_7)) rfl rfl dX10_worthOf_71 ?_
    refine kv_iload_n C 1 dX10_worthOf_74 rfl rfl ?_
    obtain ⟨g_2, h⟩ := oin_e h
    refine kv_iald C 1 0 rfl rfl g_2 dX10_worthOf_75 ?_
    obtain ⟨r_3, hm_4, h⟩ := ob_e h
    refine kv_callS0i C [.int (a_board x1.toNatClampNeg)] (c_X10_kindOf l D (a_board x1.toNatClampNeg) r_3 hm_4) (cs_X10_kindOf C.ts lm_RX10_79 ⟨Nat.le_of_ble_eq_true rfl, Nat.le_of_ble_eq_true rfl⟩) rfl rfl (Nat.le_of_ble_eq_true rfl) dX10_worthOf_76 ⟨Nat.zero_le _, Nat.zero_le _⟩ ?_
    by_cases c_5 : r_3 = 1
    · have h := oi_t h c_5
      refine kv_tableIn C 1 116 dX10_worthOf_79 c_5 (by decide) (by decide) rfl (by decide) ?_
      refine kv_bipush C 100 dX10_worthOf_116 (by decide) ?_
      refine kv_iconst C 4 dX10_worthOf_118 (by decide) ?_
      refine kv_iload_n C 2 dX10_worthOf_119 rfl rfl ?_
      refine kv_imul C dX10_worthOf_120 ?_
      refine kv_iadd C dX10_worthOf_121 ?_
      refine kv_iconst C 2 dX10_worthOf_122 (by decide) ?_
      refine kv_iload C 3 dX10_worthOf_123 rfl ?_
      refine kv_imul C dX10_worthOf_125 ?_
      refine kv_iadd C dX10_worthOf_126 ?_
      cases h
      exact hret _ _ dX10_worthOf_127 (fun q => by cases q)
    have h := oi_f h c_5
    by_cases c_6 : r_3 = 2
    · have h := oi_t h c_6
      refine kv_tableIn C 2 128 dX10_worthOf_79 c_6 (by decide) (by decide) rfl (by decide) ?_
      refine kv_sipush C 320 dX10_worthOf_128 (by decide) ?_
      refine kv_bipush C 6 dX10_worthOf_131 (by decide) ?_
      refine kv_iload C 4 dX10_worthOf_133 rfl ?_
      refine kv_imul C dX10_worthOf_135 ?_
      refine kv_iadd C dX10_worthOf_136 ?_
      cases h
      exact hret _ _ dX10_worthOf_137 (fun q => by cases q)
    have h := oi_f h c_6
    by_cases c_7 : r_3 = 3
    · have h := oi_t h c_7
      refine kv_tableIn C 3 138 dX10_worthOf_79 c_7 (by decide) (by decide) rfl (by decide) ?_
      refine kv_sipush C 330 dX10_worthOf_138 (by decide) ?_
      refine kv_iconst C 4 dX10_worthOf_141 (by decide) ?_
      refine kv_iload C 4 dX10_worthOf_142 rfl ?_
      refine kv_imul C dX10_worthOf_144 ?_
      refine kv_iadd C dX10_worthOf_145 ?_
      cases h
      exact hret _ _ dX10_worthOf_146 (fun q => by cases q)
    have h := oi_f h c_7
    by_cases c_8 : r_3 = 4
    · have h := oi_t h c_8
      refine kv_tableIn C 4 147 dX10_worthOf_79 c_8 (by decide) (by decide) rfl (by decide) ?_
      refine kv_iload_n C 2 dX10_worthOf_147 rfl rfl ?_
      refine kv_bipush C 6 dX10_worthOf_148 (by decide) ?_
      refine kv_icmp_ne C 159 dX10_worthOf_150 (by decide) (fun c_9 => ?_) (fun c_9 => ?_)
      · have h := oi_f h c_9
        refine kv_sipush C 500 dX10_worthOf_159 (by decide) ?_
        exact kv_lv [] (lv2 := []) rfl (j162 500 h)
      · have h := oi_t h c_9
        refine kv_sipush C 520 dX10_worthOf_153 (by decide) ?_
        refine kv_goto C 162 dX10_worthOf_156 (by decide) ?_
        exact kv_lv [] (lv2 := []) rfl (j162 520 h)
    have h := oi_f h c_8
    by_cases c_10 : r_3 = 5
    · have h := oi_t h c_10
      refine kv_tableIn C 5 163 dX10_worthOf_79 c_10 (by decide) (by decide) rfl (by decide) ?_
      refine kv_sipush C 900 dX10_worthOf_163 (by decide) ?_
      refine kv_iconst C 2 dX10_worthOf_166 (by decide) ?_
      refine kv_iload C 4 dX10_worthOf_167 rfl ?_
      refine kv_imul C dX10_worthOf_169 ?_
      refine kv_iadd C dX10_worthOf_170 ?_
      cases h
      exact hret _ _ dX10_worthOf_171 (fun q => by cases q)
    have h := oi_f h c_10
    by_cases c_11 : r_3 = 6
    · have h := oi_t h c_11
      refine kv_tableIn C 6 172 dX10_worthOf_79 c_11 (by decide) (by decide) rfl (by decide) ?_
      refine kv_bipush C (-3) dX10_worthOf_172 (by decide) ?_
      refine kv_iload C 4 dX10_worthOf_174 rfl ?_
      refine kv_imul C dX10_worthOf_176 ?_
      cases h
      exact hret _ _ dX10_worthOf_177 (fun q => by cases q)
    have h := oi_f h c_11
    have qc_5 := kv_ne c_5
    have qc_6 := kv_ne c_6
    have qc_7 := kv_ne c_7
    have qc_8 := kv_ne c_8
    have qc_10 := kv_ne c_10
    have qc_11 := kv_ne c_11
    refine kv_tableOut C 178 dX10_worthOf_79 (by simp at qc_5 qc_6 qc_7 qc_8 qc_10 qc_11; omega) (by decide) ?_
    refine kv_iconst C 0 dX10_worthOf_178 (by decide) ?_
    cases h
    exact hret _ _ dX10_worthOf_179 (fun q => by cases q)
  have j47 : ∀ (x1 : Int32) (x3 : Int32) (t0 : Int32), m_X10_worthOf_b47  a_board x1 x3 t0 = some rv → kv p l e rm_X10_worthOf s m ([.ref h0, .int p0] : List Value).toArray below meth c D A 7 0 0 Q (wM h0 q cI v_code v_side v_rights v_passed v_halves v_number v_top v_typedCount v_readAt v_place v_writtenCount v_chosenFrom v_chosenTo v_chosenTurn v_changed v_readSide v_readRights v_readPassed v_readHalves v_readNumber a_board a_before a_typed a_written a_froms a_tos a_turns a_counts a_changedSquare a_changedMan a_readBoard) [(0, .ref h0), (1, .int x1), (3, .int x3)] 47 [.int t0] := by
    intro x1 x3 t0 h
    unfold m_X10_worthOf_b47 at h
    refine kv_istore C (lv2 := [(0, .ref h0), (1, .int x1), (3, .int x3), (5, .int t0)]) [1, 2, 3, 0] dX10_worthOf_47 (by decide) rfl rfl ?_
    refine kv_iload C 3 dX10_worthOf_49 rfl ?_
    refine kv_iload_n C 2 dX10_worthOf_51 rfl rfl ?_
    refine kv_bipush C 7 dX10_worthOf_52 (by decide) ?_
    refine kv_iload_n C 2 dX10_worthOf_54 rfl rfl ?_
    refine kv_isub C dX10_worthOf_55 ?_
    refine kv_icmp_ge C 63 dX10_worthOf_56 (by decide) (fun c_12 => ?_) (fun c_12 => ?_)
    · have h := oi_t h c_12
      refine kv_bipush C 7 dX10_worthOf_63 (by decide) ?_
      refine kv_iload_n C 2 dX10_worthOf_65 rfl rfl ?_
      refine kv_isub C dX10_worthOf_66 ?_
      exact kv_lv [0, 1, 2, 3] (lv2 := [(0, .ref h0), (1, .int x1), (3, .int x3), (5, .int t0)]) rfl (j67 x1 x3 t0 t0 (7 - x3) h)
    · have h := oi_f h c_12
      refine kv_iload_n C 2 dX10_worthOf_59 rfl rfl ?_
      refine kv_goto C 67 dX10_worthOf_60 (by decide) ?_
      exact kv_lv [0, 1, 2, 3] (lv2 := [(0, .ref h0), (1, .int x1), (3, .int x3), (5, .int t0)]) rfl (j67 x1 x3 t0 t0 x3 h)
  have j14 : ∀ (x1 : Int32) (t0 : Int32), m_X10_worthOf_b14  a_board x1 t0 = some rv → kv p l e rm_X10_worthOf s m ([.ref h0, .int p0] : List Value).toArray below meth c D A 7 0 0 Q (wM h0 q cI v_code v_side v_rights v_passed v_halves v_number v_top v_typedCount v_readAt v_place v_writtenCount v_chosenFrom v_chosenTo v_chosenTurn v_changed v_readSide v_readRights v_readPassed v_readHalves v_readNumber a_board a_before a_typed a_written a_froms a_tos a_turns a_counts a_changedSquare a_changedMan a_readBoard) [(0, .ref h0), (1, .int x1)] 14 [.int t0] := by
    intro x1 t0 h
    unfold m_X10_worthOf_b14 at h
    refine kv_istore_n C (lv2 := [(0, .ref h0), (1, .int x1), (2, .int t0)]) [1, 2, 0] dX10_worthOf_14 rfl (by decide) rfl rfl ?_
    refine kv_iload_n C 1 dX10_worthOf_15 rfl rfl ?_
    refine kv_iload_n C 2 dX10_worthOf_16 rfl rfl ?_
    obtain ⟨r_13, hm_14, h⟩ := ob_e h
    refine kv_callS0i C [.int x1, .int t0] (c_X10_rankOf l D x1 t0 r_13 hm_14) (cs_X10_rankOf C.ts lm_RX10_138 ⟨Nat.le_of_ble_eq_true rfl, Nat.le_of_ble_eq_true rfl⟩) rfl rfl (Nat.le_of_ble_eq_true rfl) dX10_worthOf_17 ⟨Nat.zero_le _, Nat.zero_le _⟩ ?_
    refine kv_istore_n C (lv2 := [(0, .ref h0), (1, .int x1), (3, .int r_13)]) [1, 2, 0] dX10_worthOf_20 rfl (by decide) rfl rfl ?_
    refine kv_iload_n C 1 dX10_worthOf_21 rfl rfl ?_
    obtain ⟨r_15, hm_16, h⟩ := ob_e h
    refine kv_callS0i C [.int x1] (c_X10_columnOf l D x1 r_15 hm_16) (cs_X10_columnOf C.ts lm_RX10_73 ⟨Nat.le_of_ble_eq_true rfl, Nat.le_of_ble_eq_true rfl⟩) rfl rfl (Nat.le_of_ble_eq_true rfl) dX10_worthOf_22 ⟨Nat.zero_le _, Nat.zero_le _⟩ ?_
    refine kv_istore C (lv2 := [(0, .ref h0), (1, .int x1), (3, .int r_13), (4, .int r_15)]) [1, 2, 3, 0] dX10_worthOf_25 (by decide) rfl rfl ?_
    refine kv_iload C 3 dX10_worthOf_27 rfl ?_
    refine kv_bipush C 7 dX10_worthOf_29 (by decide) ?_
    refine kv_iload C 3 dX10_worthOf_31 rfl ?_
    refine kv_isub C dX10_worthOf_33 ?_
    refine kv_icmp_ge C 42 dX10_worthOf_34 (by decide) (fun c_17 => ?_) (fun c_17 => ?_)
    · have h := oi_t h c_17
      refine kv_bipush C 7 dX10_worthOf_42 (by decide) ?_
      refine kv_iload C 3 dX10_worthOf_44 rfl ?_
      refine kv_isub C dX10_worthOf_46 ?_
      exact kv_lv [0, 1, 2] (lv2 := [(0, .ref h0), (1, .int x1), (3, .int r_13)]) rfl (j47 x1 r_13 (7 - r_15) h)
    · have h := oi_f h c_17
      refine kv_iload C 3 dX10_worthOf_37 rfl ?_
      refine kv_goto C 47 dX10_worthOf_39 (by decide) ?_
      exact kv_lv [0, 1, 2] (lv2 := [(0, .ref h0), (1, .int x1), (3, .int r_13)]) rfl (j47 x1 r_13 r_15 h)
  unfold m_X10_worthOf at hm
  have h := hm
  refine kv_lv [0, 1] (lv2 := [(0, .ref h0), (1, .int p0)]) rfl ?_
  refine kv_aload_n C 0 dX10_worthOf_0 rfl rfl ?_
  refine kv_get C (Cn := RX10) (T := TX10) (N := 31) 0 1 hin10 rfl rfl (by decide) (C.ts _ (List.mem_cons_of_mem _ lf_RX10_7)) rfl rfl dX10_worthOf_1 ?_
  refine kv_iload_n C 1 dX10_worthOf_4 rfl rfl ?_
  obtain ⟨g_18, h⟩ := oin_e h
  refine kv_iald C 1 0 rfl rfl g_18 dX10_worthOf_5 ?_
  refine kv_if_le C 13 dX10_worthOf_6 (by decide) (fun c_19 => ?_) (fun c_19 => ?_)
  · have h := oi_t h c_19
    refine kv_iconst C 1 dX10_worthOf_13 (by decide) ?_
    exact kv_lv [0, 1] (lv2 := [(0, .ref h0), (1, .int p0)]) rfl (j14 p0 1 h)
  · have h := oi_f h c_19
    refine kv_iconst C 0 dX10_worthOf_9 (by decide) ?_
    refine kv_goto C 14 dX10_worthOf_10 (by decide) ?_
    exact kv_lv [0, 1] (lv2 := [(0, .ref h0), (1, .int p0)]) rfl (j14 p0 0 h)
def m_X10_worthNow_b43 (k4 : Int32 → Int32 → Option (Int32)) (v_side : Int32) (a_board : Nat → Int32) (x2 : Int32) (t0 : Int32) : Option (Int32) := ol (x2 + 1) fun x2_1 => k4 t0 x2_1
def m_X10_worthNow_b4 (k4 : Int32 → Int32 → Option (Int32)) (v_side : Int32) (a_board : Nat → Int32) (x1 : Int32) (x2 : Int32) : Option (Int32) := if 64 ≤ x2 then some x1 else oin (x2) 64 (ob (m_X10_isSide (a_board x2.toNatClampNeg) v_side) fun r_4 => if r_4 = 0 then ob (m_X10_worthOf a_board x2) fun r_7 => m_X10_worthNow_b43 k4 v_side a_board x2 (x1 - r_7) else ob (m_X10_worthOf a_board x2) fun r_9 => m_X10_worthNow_b43 k4 v_side a_board x2 (x1 + r_9))
def m_X10_worthNow_l4 (v_side : Int32) (a_board : Nat → Int32) (n : Nat) : Int32 → Int32 → Option (Int32) := fz (fun _ _ => none) (fun k4 x1 x2 => m_X10_worthNow_b4 k4 v_side a_board x1 x2) n
def m_X10_worthNow (v_side : Int32) (a_board : Nat → Int32) : Option (Int32) := m_X10_worthNow_l4 v_side a_board kF 0 0
abbrev rm_X10_worthNow : Room := { frames := 2, cells := 0, slots := 0, locals := 47 }
abbrev wy_X10_worthNow : List Cond := .code yX10_worthNow cX10_worthNow 3 (some .int) :: gT
theorem cv_X10_worthNow {R : Room} {s : State} {args : Array Value} {own : String} {index : Nat} {w0 : Cond} (hts : ∀ w ∈ w0 :: gT, w.before args s = true) (hl : Cond.methodLink own index yX10_worthNow ∈ gT) (hR : 2 + 1 ≤ R.frames ∧ 8 + (3 + 11) + 47 ≤ R.locals) : CallW R s args own RX10 index yX10_worthNow cX10_worthNow 3 (some .int) wy_X10_worthNow rm_X10_worthNow 0 0 0 :=
  cwV 0 hts (gT_call w0 (pre := [.methodLink own index yX10_worthNow, .instanceMethod yX10_worthNow, .selects RX10 yX10_worthNow yX10_worthNow, .initialized RX10]) (gT_lc hl (gT_lc ly_yX10_worthNow (gT_lc lx_yX10_worthNow (gT_l1 li_RX10)))) lc_yX10_worthNow) rfl rfl rfl (by decide +kernel) hR
set_option maxRecDepth 100000 in
set_option maxHeartbeats 4000000 in
theorem c_X10_worthNow (l : Launch) (D : va_G) (h0 : Nat) (q : Nat → Nat) (cI : ClassId) (v_code : Int32) (v_side : Int32) (v_rights : Int32) (v_passed : Int32) (v_halves : Int32) (v_number : Int32) (v_top : Int32) (v_typedCount : Int32) (v_readAt : Int32) (v_place : Int32) (v_writtenCount : Int32) (v_chosenFrom : Int32) (v_chosenTo : Int32) (v_chosenTurn : Int32) (v_changed : Int32) (v_readSide : Int32) (v_readRights : Int32) (v_readPassed : Int32) (v_readHalves : Int32) (v_readNumber : Int32) (a_board : Nat → Int32) (a_before : Nat → Int32) (a_typed : Nat → Int32) (a_written : Nat → Int32) (a_froms : Nat → Int32) (a_tos : Nat → Int32) (a_turns : Nat → Int32) (a_counts : Nat → Int32) (a_changedSquare : Nat → Int32) (a_changedMan : Nat → Int32) (a_readBoard : Nat → Int32) (rv : Int32) (hm : m_X10_worthNow v_side a_board = some rv) : kDi l yX10_worthNow wy_X10_worthNow rm_X10_worthNow D [(cI, .int)] rv (wM h0 q cI v_code v_side v_rights v_passed v_halves v_number v_top v_typedCount v_readAt v_place v_writtenCount v_chosenFrom v_chosenTo v_chosenTurn v_changed v_readSide v_readRights v_readPassed v_readHalves v_readNumber a_board a_before a_typed a_written a_froms a_tos a_turns a_counts a_changedSquare a_changedMan a_readBoard) (wM h0 q cI v_code v_side v_rights v_passed v_halves v_number v_top v_typedCount v_readAt v_place v_writtenCount v_chosenFrom v_chosenTo v_chosenTurn v_changed v_readSide v_readRights v_readPassed v_readHalves v_readNumber a_board a_before a_typed a_written a_froms a_tos a_turns a_counts a_changedSquare a_changedMan a_readBoard) [.ref h0] := by
  refine kDi.of cX10_worthNow 3 (some .int) (by decide) rfl (Or.inl rfl) (Nat.le_of_ble_eq_true rfl) ?_
  intro p e s m below meth c A Q C hret
  have hin10 : ∀ w ∈ wsX100, w ∈ wy_X10_worthNow := fun w h => List.mem_cons_of_mem _ (inG10 w h)
  have l4 : ∀ (n4 : Nat) (x1 : Int32) (x2 : Int32), m_X10_worthNow_l4  v_side a_board n4 x1 x2 = some rv → kv p l e rm_X10_worthNow s m ([.ref h0] : List Value).toArray below meth c D A 3 0 0 Q (wM h0 q cI v_code v_side v_rights v_passed v_halves v_number v_top v_typedCount v_readAt v_place v_writtenCount v_chosenFrom v_chosenTo v_chosenTurn v_changed v_readSide v_readRights v_readPassed v_readHalves v_readNumber a_board a_before a_typed a_written a_froms a_tos a_turns a_counts a_changedSquare a_changedMan a_readBoard) [(0, .ref h0), (1, .int x1), (2, .int x2)] 4 [] := by
    intro n4
    induction n4 with
    | zero =>
      intro x1 x2 h
      exact kv_no h
    | succ n4 ih4 =>
      have j43 : ∀ (x2 : Int32) (t0 : Int32), m_X10_worthNow_b43 (m_X10_worthNow_l4  v_side a_board n4) v_side a_board x2 t0 = some rv → kv p l e rm_X10_worthNow s m ([.ref h0] : List Value).toArray below meth c D A 3 0 0 Q (wM h0 q cI v_code v_side v_rights v_passed v_halves v_number v_top v_typedCount v_readAt v_place v_writtenCount v_chosenFrom v_chosenTo v_chosenTurn v_changed v_readSide v_readRights v_readPassed v_readHalves v_readNumber a_board a_before a_typed a_written a_froms a_tos a_turns a_counts a_changedSquare a_changedMan a_readBoard) [(0, .ref h0), (2, .int x2)] 43 [.int t0] := by
        intro x2 t0 h
        unfold m_X10_worthNow_b43 at h
        refine kv_istore_n C (lv2 := [(0, .ref h0), (1, .int t0), (2, .int x2)]) [1, 0, 2] dX10_worthNow_43 rfl (by decide) rfl rfl ?_
        obtain ⟨x2_1, ex2_1, h⟩ := ol_e h
        refine kv_iinc C (v := x2_1) (lv2 := [(0, .ref h0), (1, .int t0), (2, .int x2_1)]) 2 [1, 2, 0] dX10_worthNow_44 rfl ex2_1.symm (by decide) rfl rfl ?_
        refine kv_goto C 4 dX10_worthNow_47 (by decide) ?_
        exact kv_lv [0, 1, 2] (lv2 := [(0, .ref h0), (1, .int t0), (2, .int x2_1)]) rfl (ih4 t0 x2_1 h)
      intro x1 x2 h
      replace h : m_X10_worthNow_b4  (m_X10_worthNow_l4  v_side a_board n4) v_side a_board x1 x2 = some rv := h
      unfold m_X10_worthNow_b4 at h
      refine kv_iload_n C 2 dX10_worthNow_4 rfl rfl ?_
      refine kv_bipush C 64 dX10_worthNow_5 (by decide) ?_
      refine kv_icmp_ge C 50 dX10_worthNow_7 (by decide) (fun c_2 => ?_) (fun c_2 => ?_)
      · have h := oi_t h c_2
        refine kv_iload_n C 1 dX10_worthNow_50 rfl rfl ?_
        cases h
        exact hret _ _ dX10_worthNow_51 (fun q => by cases q)
      · have h := oi_f h c_2
        refine kv_aload_n C 0 dX10_worthNow_10 rfl rfl ?_
        refine kv_get C (Cn := RX10) (T := TX10) (N := 31) 0 1 hin10 rfl rfl (by decide) (C.ts _ (List.mem_cons_of_mem _ lf_RX10_7)) rfl rfl dX10_worthNow_11 ?_
        refine kv_iload_n C 2 dX10_worthNow_14 rfl rfl ?_
        obtain ⟨g_3, h⟩ := oin_e h
        refine kv_iald C 1 0 rfl rfl g_3 dX10_worthNow_15 ?_
        refine kv_aload_n C 0 dX10_worthNow_16 rfl rfl ?_
        refine kv_get C (Cn := RX10) (T := TX10) (N := 31) 0 2 hin10 rfl rfl (by decide) (C.ts _ (List.mem_cons_of_mem _ lf_RX10_119)) rfl rfl dX10_worthNow_17 ?_
        obtain ⟨r_4, hm_5, h⟩ := ob_e h
        refine kv_callS0i C [.int (a_board x2.toNatClampNeg), .int v_side] (c_X10_isSide l D (a_board x2.toNatClampNeg) v_side r_4 hm_5) (cs_X10_isSide C.ts lm_RX10_86 ⟨Nat.le_of_ble_eq_true rfl, Nat.le_of_ble_eq_true rfl⟩) rfl rfl (Nat.le_of_ble_eq_true rfl) dX10_worthNow_20 ⟨Nat.zero_le _, Nat.zero_le _⟩ ?_
        refine kv_if_eq C 36 dX10_worthNow_23 (by decide) (fun c_6 => ?_) (fun c_6 => ?_)
        · have h := oi_t h c_6
          refine kv_iload_n C 1 dX10_worthNow_36 rfl rfl ?_
          refine kv_aload_n C 0 dX10_worthNow_37 rfl rfl ?_
          refine kv_iload_n C 2 dX10_worthNow_38 rfl rfl ?_
          obtain ⟨r_7, hm_8, h⟩ := ob_e h
          refine kv_callWi C [.int x2] 0 (c_X10_worthOf l D h0 q cI v_code v_side v_rights v_passed v_halves v_number v_top v_typedCount v_readAt v_place v_writtenCount v_chosenFrom v_chosenTo v_chosenTurn v_changed v_readSide v_readRights v_readPassed v_readHalves v_readNumber a_board a_before a_typed a_written a_froms a_tos a_turns a_counts a_changedSquare a_changedMan a_readBoard x2 r_7 hm_8) (cv_X10_worthOf C.ts lm_RX10_169 ⟨Nat.le_of_ble_eq_true rfl, Nat.le_of_ble_eq_true rfl⟩) rfl rfl rfl rfl (Nat.le_of_ble_eq_true rfl) dX10_worthNow_39 ⟨Nat.zero_le _, Nat.zero_le _⟩ ?_
          refine kv_isub C dX10_worthNow_42 ?_
          exact kv_lv [0, 2] (lv2 := [(0, .ref h0), (2, .int x2)]) rfl (j43 x2 (x1 - r_7) h)
        · have h := oi_f h c_6
          refine kv_iload_n C 1 dX10_worthNow_26 rfl rfl ?_
          refine kv_aload_n C 0 dX10_worthNow_27 rfl rfl ?_
          refine kv_iload_n C 2 dX10_worthNow_28 rfl rfl ?_
          obtain ⟨r_9, hm_10, h⟩ := ob_e h
          refine kv_callWi C [.int x2] 0 (c_X10_worthOf l D h0 q cI v_code v_side v_rights v_passed v_halves v_number v_top v_typedCount v_readAt v_place v_writtenCount v_chosenFrom v_chosenTo v_chosenTurn v_changed v_readSide v_readRights v_readPassed v_readHalves v_readNumber a_board a_before a_typed a_written a_froms a_tos a_turns a_counts a_changedSquare a_changedMan a_readBoard x2 r_9 hm_10) (cv_X10_worthOf C.ts lm_RX10_169 ⟨Nat.le_of_ble_eq_true rfl, Nat.le_of_ble_eq_true rfl⟩) rfl rfl rfl rfl (Nat.le_of_ble_eq_true rfl) dX10_worthNow_29 ⟨Nat.zero_le _, Nat.zero_le _⟩ ?_
          refine kv_iadd C dX10_worthNow_32 ?_
          refine kv_goto C 43 dX10_worthNow_33 (by decide) ?_
          exact kv_lv [0, 2] (lv2 := [(0, .ref h0), (2, .int x2)]) rfl (j43 x2 (x1 + r_9) h)
  unfold m_X10_worthNow at hm
  have h := hm
  refine kv_lv [0] (lv2 := [(0, .ref h0)]) rfl ?_
  refine kv_iconst C 0 dX10_worthNow_0 (by decide) ?_
  refine kv_istore_n C (lv2 := [(0, .ref h0), (1, .int 0)]) [1, 0] dX10_worthNow_1 rfl (by decide) rfl rfl ?_
  refine kv_iconst C 0 dX10_worthNow_2 (by decide) ?_
  refine kv_istore_n C (lv2 := [(0, .ref h0), (1, .int 0), (2, .int 0)]) [1, 2, 0] dX10_worthNow_3 rfl (by decide) rfl rfl ?_
  exact kv_lv [0, 1, 2] (lv2 := [(0, .ref h0), (1, .int 0), (2, .int 0)]) rfl (l4 kF 0 0 h)
def m_X10_worth (v_code : Int32) (v_side : Int32) (a_board : Nat → Int32) : Option (Int32 × Int32) := ob (m_X10_worthNow v_side a_board ) fun r_1 => some (r_1, 0)
abbrev rm_X10_worth : Room := { frames := 3, cells := 0, slots := 0, locals := 69 }
abbrev wy_X10_worth : List Cond := .code yX10_worth cX10_worth 1 (some .int) :: gT
theorem cv_X10_worth {R : Room} {s : State} {args : Array Value} {own : String} {index : Nat} {w0 : Cond} (hts : ∀ w ∈ w0 :: gT, w.before args s = true) (hl : Cond.methodLink own index yX10_worth ∈ gT) (hR : 3 + 1 ≤ R.frames ∧ 8 + (1 + 11) + 69 ≤ R.locals) : CallW R s args own RX10 index yX10_worth cX10_worth 1 (some .int) wy_X10_worth rm_X10_worth 0 0 0 :=
  cwV 0 hts (gT_call w0 (pre := [.methodLink own index yX10_worth, .instanceMethod yX10_worth, .selects RX10 yX10_worth yX10_worth, .initialized RX10]) (gT_lc hl (gT_lc ly_yX10_worth (gT_lc lx_yX10_worth (gT_l1 li_RX10)))) lc_yX10_worth) rfl rfl rfl (by decide +kernel) hR
set_option maxRecDepth 100000 in
set_option maxHeartbeats 4000000 in
theorem c_X10_worth (l : Launch) (D : va_G) (h0 : Nat) (q : Nat → Nat) (cI : ClassId) (v_code : Int32) (v_side : Int32) (v_rights : Int32) (v_passed : Int32) (v_halves : Int32) (v_number : Int32) (v_top : Int32) (v_typedCount : Int32) (v_readAt : Int32) (v_place : Int32) (v_writtenCount : Int32) (v_chosenFrom : Int32) (v_chosenTo : Int32) (v_chosenTurn : Int32) (v_changed : Int32) (v_readSide : Int32) (v_readRights : Int32) (v_readPassed : Int32) (v_readHalves : Int32) (v_readNumber : Int32) (a_board : Nat → Int32) (a_before : Nat → Int32) (a_typed : Nat → Int32) (a_written : Nat → Int32) (a_froms : Nat → Int32) (a_tos : Nat → Int32) (a_turns : Nat → Int32) (a_counts : Nat → Int32) (a_changedSquare : Nat → Int32) (a_changedMan : Nat → Int32) (a_readBoard : Nat → Int32) (rv : Int32) (v_code' : Int32) (hm : m_X10_worth v_code v_side a_board = some (rv, v_code')) : kDi l yX10_worth wy_X10_worth rm_X10_worth D [(cI, .int)] rv (wM h0 q cI v_code v_side v_rights v_passed v_halves v_number v_top v_typedCount v_readAt v_place v_writtenCount v_chosenFrom v_chosenTo v_chosenTurn v_changed v_readSide v_readRights v_readPassed v_readHalves v_readNumber a_board a_before a_typed a_written a_froms a_tos a_turns a_counts a_changedSquare a_changedMan a_readBoard) (wM h0 q cI v_code' v_side v_rights v_passed v_halves v_number v_top v_typedCount v_readAt v_place v_writtenCount v_chosenFrom v_chosenTo v_chosenTurn v_changed v_readSide v_readRights v_readPassed v_readHalves v_readNumber a_board a_before a_typed a_written a_froms a_tos a_turns a_counts a_changedSquare a_changedMan a_readBoard) [.ref h0] := by
  refine kDi.of cX10_worth 1 (some .int) (by decide) rfl (Or.inl rfl) (Nat.le_of_ble_eq_true rfl) ?_
  intro p e s m below meth c A Q C hret
  have hin10 : ∀ w ∈ wsX100, w ∈ wy_X10_worth := fun w h => List.mem_cons_of_mem _ (inG10 w h)
  unfold m_X10_worth at hm
  have h := hm
  refine kv_lv [0] (lv2 := [(0, .ref h0)]) rfl ?_
  refine kv_aload_n C 0 dX10_worth_0 rfl rfl ?_
  refine kv_iconst C 0 dX10_worth_1 (by decide) ?_
  refine kv_put C (Cn := RX10) (T := TX10) (N := 31) (ty := .int) (ws1 := (wM h0 q cI 0 v_side v_rights v_passed v_halves v_number v_top v_typedCount v_readAt v_place v_writtenCount v_chosenFrom v_chosenTo v_chosenTurn v_changed v_readSide v_readRights v_readPassed v_readHalves v_readNumber a_board a_before a_typed a_written a_froms a_tos a_turns a_counts a_changedSquare a_changedMan a_readBoard)) 0 0 hin10 tyX10 tyX10_ok nmX10 rfl rfl (by decide) (C.ts _ (List.mem_cons_of_mem _ lf_RX10_66)) rfl rfl (by decide +kernel) rfl rfl (Nat.le_of_ble_eq_true rfl) rfl dX10_worth_2 ?_
  refine kv_aload_n C 0 dX10_worth_5 rfl rfl ?_
  obtain ⟨r_1, hm_2, h⟩ := ob_e h
  refine kv_callWi C [] 0 (c_X10_worthNow l D h0 q cI 0 v_side v_rights v_passed v_halves v_number v_top v_typedCount v_readAt v_place v_writtenCount v_chosenFrom v_chosenTo v_chosenTurn v_changed v_readSide v_readRights v_readPassed v_readHalves v_readNumber a_board a_before a_typed a_written a_froms a_tos a_turns a_counts a_changedSquare a_changedMan a_readBoard  r_1 hm_2) (cv_X10_worthNow C.ts lm_RX10_172 ⟨Nat.le_of_ble_eq_true rfl, Nat.le_of_ble_eq_true rfl⟩) rfl rfl rfl rfl (Nat.le_of_ble_eq_true rfl) dX10_worth_6 ⟨Nat.zero_le _, Nat.zero_le _⟩ ?_
  cases h
  exact hret _ _ dX10_worth_9 (fun q => by cases q)
def m_X10_ended_b51 (v_side : Int32) (v_halves : Int32) (a_board : Nat → Int32) (a_counts : Nat → Int32) (t0 : Int32) : Option (Int32) := some t0
def m_X10_ended_b46 (v_side : Int32) (v_halves : Int32) (a_board : Nat → Int32) (a_counts : Nat → Int32) : Option (Int32) := m_X10_ended_b51 v_side v_halves a_board a_counts 0
def m_X10_ended_b29 (v_side : Int32) (v_halves : Int32) (a_board : Nat → Int32) (a_counts : Nat → Int32) (t0 : Int32) : Option (Int32) := some t0
def m_X10_ended (v_side : Int32) (v_halves : Int32) (a_board : Nat → Int32) (a_counts : Nat → Int32) (p0 : Int32) : Option (Int32) := oin (p0) 5 (if (a_counts p0.toNatClampNeg) = 0 then ob (m_X10_inCheck a_board v_side) fun r_7 => if r_7 = 0 then m_X10_ended_b29 v_side v_halves a_board a_counts 0 else m_X10_ended_b29 v_side v_halves a_board a_counts ((-30000) - p0) else if 100 ≤ v_halves then m_X10_ended_b46 v_side v_halves a_board a_counts else ob (m_X10_isBare a_board ) fun r_4 => if r_4 = 0 then m_X10_ended_b51 v_side v_halves a_board a_counts 1 else m_X10_ended_b46 v_side v_halves a_board a_counts)
abbrev rm_X10_ended : Room := { frames := 5, cells := 0, slots := 0, locals := 122 }
abbrev wy_X10_ended : List Cond := .code yX10_ended cX10_ended 2 (some .int) :: gT
theorem cv_X10_ended {R : Room} {s : State} {args : Array Value} {own : String} {index : Nat} {w0 : Cond} (hts : ∀ w ∈ w0 :: gT, w.before args s = true) (hl : Cond.methodLink own index yX10_ended ∈ gT) (hR : 5 + 1 ≤ R.frames ∧ 8 + (2 + 11) + 122 ≤ R.locals) : CallW R s args own RX10 index yX10_ended cX10_ended 2 (some .int) wy_X10_ended rm_X10_ended 0 0 1 :=
  cwV 1 hts (gT_call w0 (pre := [.methodLink own index yX10_ended, .instanceMethod yX10_ended, .selects RX10 yX10_ended yX10_ended, .initialized RX10]) (gT_lc hl (gT_lc ly_yX10_ended (gT_lc lx_yX10_ended (gT_l1 li_RX10)))) lc_yX10_ended) rfl rfl rfl (by decide +kernel) hR
set_option maxRecDepth 100000 in
set_option maxHeartbeats 4000000 in
theorem c_X10_ended (l : Launch) (D : va_G) (h0 : Nat) (q : Nat → Nat) (cI : ClassId) (v_code : Int32) (v_side : Int32) (v_rights : Int32) (v_passed : Int32) (v_halves : Int32) (v_number : Int32) (v_top : Int32) (v_typedCount : Int32) (v_readAt : Int32) (v_place : Int32) (v_writtenCount : Int32) (v_chosenFrom : Int32) (v_chosenTo : Int32) (v_chosenTurn : Int32) (v_changed : Int32) (v_readSide : Int32) (v_readRights : Int32) (v_readPassed : Int32) (v_readHalves : Int32) (v_readNumber : Int32) (a_board : Nat → Int32) (a_before : Nat → Int32) (a_typed : Nat → Int32) (a_written : Nat → Int32) (a_froms : Nat → Int32) (a_tos : Nat → Int32) (a_turns : Nat → Int32) (a_counts : Nat → Int32) (a_changedSquare : Nat → Int32) (a_changedMan : Nat → Int32) (a_readBoard : Nat → Int32) (p0 : Int32) (rv : Int32) (hm : m_X10_ended v_side v_halves a_board a_counts p0 = some rv) : kDi l yX10_ended wy_X10_ended rm_X10_ended D [(cI, .int)] rv (wM h0 q cI v_code v_side v_rights v_passed v_halves v_number v_top v_typedCount v_readAt v_place v_writtenCount v_chosenFrom v_chosenTo v_chosenTurn v_changed v_readSide v_readRights v_readPassed v_readHalves v_readNumber a_board a_before a_typed a_written a_froms a_tos a_turns a_counts a_changedSquare a_changedMan a_readBoard) (wM h0 q cI v_code v_side v_rights v_passed v_halves v_number v_top v_typedCount v_readAt v_place v_writtenCount v_chosenFrom v_chosenTo v_chosenTurn v_changed v_readSide v_readRights v_readPassed v_readHalves v_readNumber a_board a_before a_typed a_written a_froms a_tos a_turns a_counts a_changedSquare a_changedMan a_readBoard) [.ref h0, .int p0] := by
  refine kDi.of cX10_ended 2 (some .int) (by decide) rfl (Or.inl rfl) (Nat.le_of_ble_eq_true rfl) ?_
  intro p e s m below meth c A Q C hret
  have hin10 : ∀ w ∈ wsX100, w ∈ wy_X10_ended := fun w h => List.mem_cons_of_mem _ (inG10 w h)
  have j51 : ∀ (t0 : Int32), m_X10_ended_b51  v_side v_halves a_board a_counts t0 = some rv → kv p l e rm_X10_ended s m ([.ref h0, .int p0] : List Value).toArray below meth c D A 2 0 0 Q (wM h0 q cI v_code v_side v_rights v_passed v_halves v_number v_top v_typedCount v_readAt v_place v_writtenCount v_chosenFrom v_chosenTo v_chosenTurn v_changed v_readSide v_readRights v_readPassed v_readHalves v_readNumber a_board a_before a_typed a_written a_froms a_tos a_turns a_counts a_changedSquare a_changedMan a_readBoard) [] 51 [.int t0] := by
    intro t0 h
    unfold m_X10_ended_b51 at h
    cases h
    exact hret _ _ dX10_ended_51 (fun q => by cases q)
  have j46 : m_X10_ended_b46  v_side v_halves a_board a_counts  = some rv → kv p l e rm_X10_ended s m ([.ref h0, .int p0] : List Value).toArray below meth c D A 2 0 0 Q (wM h0 q cI v_code v_side v_rights v_passed v_halves v_number v_top v_typedCount v_readAt v_place v_writtenCount v_chosenFrom v_chosenTo v_chosenTurn v_changed v_readSide v_readRights v_readPassed v_readHalves v_readNumber a_board a_before a_typed a_written a_froms a_tos a_turns a_counts a_changedSquare a_changedMan a_readBoard) [] 46 [] := by
    intro  h
    unfold m_X10_ended_b46 at h
    refine kv_iconst C 0 dX10_ended_46 (by decide) ?_
    refine kv_goto C 51 dX10_ended_47 (by decide) ?_
    exact kv_lv [] (lv2 := []) rfl (j51 0 h)
  have j29 : ∀ (t0 : Int32), m_X10_ended_b29  v_side v_halves a_board a_counts t0 = some rv → kv p l e rm_X10_ended s m ([.ref h0, .int p0] : List Value).toArray below meth c D A 2 0 0 Q (wM h0 q cI v_code v_side v_rights v_passed v_halves v_number v_top v_typedCount v_readAt v_place v_writtenCount v_chosenFrom v_chosenTo v_chosenTurn v_changed v_readSide v_readRights v_readPassed v_readHalves v_readNumber a_board a_before a_typed a_written a_froms a_tos a_turns a_counts a_changedSquare a_changedMan a_readBoard) [] 29 [.int t0] := by
    intro t0 h
    unfold m_X10_ended_b29 at h
    cases h
    exact hret _ _ dX10_ended_29 (fun q => by cases q)
  unfold m_X10_ended at hm
  have h := hm
  refine kv_lv [0, 1] (lv2 := [(0, .ref h0), (1, .int p0)]) rfl ?_
  refine kv_aload_n C 0 dX10_ended_0 rfl rfl ?_
  refine kv_get C (Cn := RX10) (T := TX10) (N := 31) 0 18 hin10 rfl rfl (by decide) (C.ts _ (List.mem_cons_of_mem _ lf_RX10_39)) rfl rfl dX10_ended_1 ?_
  refine kv_iload_n C 1 dX10_ended_4 rfl rfl ?_
  obtain ⟨g_1, h⟩ := oin_e h
  refine kv_iald C 8 0 rfl rfl g_1 dX10_ended_5 ?_
  refine kv_if_ne C 30 dX10_ended_6 (by decide) (fun c_2 => ?_) (fun c_2 => ?_)
  · have h := oi_f h c_2
    refine kv_aload_n C 0 dX10_ended_30 rfl rfl ?_
    refine kv_get C (Cn := RX10) (T := TX10) (N := 31) 0 5 hin10 rfl rfl (by decide) (C.ts _ (List.mem_cons_of_mem _ lf_RX10_122)) rfl rfl dX10_ended_31 ?_
    refine kv_bipush C 100 dX10_ended_34 (by decide) ?_
    refine kv_icmp_ge C 46 dX10_ended_36 (by decide) (fun c_3 => ?_) (fun c_3 => ?_)
    · have h := oi_t h c_3
      exact kv_lv [] (lv2 := []) rfl (j46  h)
    · have h := oi_f h c_3
      refine kv_aload_n C 0 dX10_ended_39 rfl rfl ?_
      obtain ⟨r_4, hm_5, h⟩ := ob_e h
      refine kv_callWi C [] 0 (c_X10_isBare l D h0 q cI v_code v_side v_rights v_passed v_halves v_number v_top v_typedCount v_readAt v_place v_writtenCount v_chosenFrom v_chosenTo v_chosenTurn v_changed v_readSide v_readRights v_readPassed v_readHalves v_readNumber a_board a_before a_typed a_written a_froms a_tos a_turns a_counts a_changedSquare a_changedMan a_readBoard  r_4 hm_5) (cv_X10_isBare C.ts lm_RX10_166 ⟨Nat.le_of_ble_eq_true rfl, Nat.le_of_ble_eq_true rfl⟩) rfl rfl rfl rfl (Nat.le_of_ble_eq_true rfl) dX10_ended_40 ⟨Nat.zero_le _, Nat.zero_le _⟩ ?_
      refine kv_if_eq C 50 dX10_ended_43 (by decide) (fun c_6 => ?_) (fun c_6 => ?_)
      · have h := oi_t h c_6
        refine kv_iconst C 1 dX10_ended_50 (by decide) ?_
        exact kv_lv [] (lv2 := []) rfl (j51 1 h)
      · have h := oi_f h c_6
        exact kv_lv [] (lv2 := []) rfl (j46  h)
  · have h := oi_t h c_2
    refine kv_aload_n C 0 dX10_ended_9 rfl rfl ?_
    refine kv_aload_n C 0 dX10_ended_10 rfl rfl ?_
    refine kv_get C (Cn := RX10) (T := TX10) (N := 31) 0 2 hin10 rfl rfl (by decide) (C.ts _ (List.mem_cons_of_mem _ lf_RX10_119)) rfl rfl dX10_ended_11 ?_
    obtain ⟨r_7, hm_8, h⟩ := ob_e h
    refine kv_callWi C [.int v_side] 0 (c_X10_inCheck l D h0 q cI v_code v_side v_rights v_passed v_halves v_number v_top v_typedCount v_readAt v_place v_writtenCount v_chosenFrom v_chosenTo v_chosenTurn v_changed v_readSide v_readRights v_readPassed v_readHalves v_readNumber a_board a_before a_typed a_written a_froms a_tos a_turns a_counts a_changedSquare a_changedMan a_readBoard v_side r_7 hm_8) (cv_X10_inCheck C.ts lm_RX10_109 ⟨Nat.le_of_ble_eq_true rfl, Nat.le_of_ble_eq_true rfl⟩) rfl rfl rfl rfl (Nat.le_of_ble_eq_true rfl) dX10_ended_14 ⟨Nat.zero_le _, Nat.zero_le _⟩ ?_
    refine kv_if_eq C 28 dX10_ended_17 (by decide) (fun c_9 => ?_) (fun c_9 => ?_)
    · have h := oi_t h c_9
      refine kv_iconst C 0 dX10_ended_28 (by decide) ?_
      exact kv_lv [] (lv2 := []) rfl (j29 0 h)
    · have h := oi_f h c_9
      refine kv_sipush C (-30000) dX10_ended_20 (by decide) ?_
      refine kv_iload_n C 1 dX10_ended_23 rfl rfl ?_
      refine kv_isub C dX10_ended_24 ?_
      refine kv_goto C 29 dX10_ended_25 (by decide) ?_
      exact kv_lv [] (lv2 := []) rfl (j29 ((-30000) - p0) h)
def m_X10_makeMove (v_side : Int32) (v_rights : Int32) (v_passed : Int32) (v_halves : Int32) (v_number : Int32) (v_top : Int32) (v_changed : Int32) (a_board : Nat → Int32) (a_before : Nat → Int32) (a_froms : Nat → Int32) (a_tos : Nat → Int32) (a_turns : Nat → Int32) (a_changedSquare : Nat → Int32) (a_changedMan : Nat → Int32) (p0 : Int32) (p1 : Int32) : Option (Int32 × Int32 × Int32 × Int32 × Int32 × Int32 × Int32 × (Nat → Int32) × (Nat → Int32) × (Nat → Int32) × (Nat → Int32)) := ol ((512 * p0) + p1) fun x3_1 => oin (x3_1) 2560 (oin (x3_1) 2560 (oin (x3_1) 2560 (ob (m_X10_make v_side v_rights v_passed v_halves v_number v_top v_changed a_board a_before a_changedSquare a_changedMan (a_froms x3_1.toNatClampNeg) (a_tos x3_1.toNatClampNeg) (a_turns x3_1.toNatClampNeg)) fun (r_5, v_side_6, v_rights_7, v_passed_8, v_halves_9, v_number_10, v_top_11, v_changed_12, a_board_13, a_before_14, a_changedSquare_15, a_changedMan_16) => some (v_side_6, v_rights_7, v_passed_8, v_halves_9, v_number_10, v_top_11, v_changed_12, a_board_13, a_before_14, a_changedSquare_15, a_changedMan_16))))
abbrev rm_X10_makeMove : Room := { frames := 8, cells := 0, slots := 0, locals := 200 }
abbrev wy_X10_makeMove : List Cond := .code yX10_makeMove cX10_makeMove 5 none :: gT
theorem cv_X10_makeMove {R : Room} {s : State} {args : Array Value} {own : String} {index : Nat} {w0 : Cond} (hts : ∀ w ∈ w0 :: gT, w.before args s = true) (hl : Cond.methodLink own index yX10_makeMove ∈ gT) (hR : 8 + 1 ≤ R.frames ∧ 8 + (5 + 11) + 200 ≤ R.locals) : CallW R s args own RX10 index yX10_makeMove cX10_makeMove 5 none wy_X10_makeMove rm_X10_makeMove 0 0 2 :=
  cwV 2 hts (gT_call w0 (pre := [.methodLink own index yX10_makeMove, .instanceMethod yX10_makeMove, .selects RX10 yX10_makeMove yX10_makeMove, .initialized RX10]) (gT_lc hl (gT_lc ly_yX10_makeMove (gT_lc lx_yX10_makeMove (gT_l1 li_RX10)))) lc_yX10_makeMove) rfl rfl rfl (by decide +kernel) hR
set_option maxRecDepth 100000 in
set_option maxHeartbeats 4000000 in
theorem c_X10_makeMove (l : Launch) (D : va_G) (h0 : Nat) (q : Nat → Nat) (cI : ClassId) (v_code : Int32) (v_side : Int32) (v_rights : Int32) (v_passed : Int32) (v_halves : Int32) (v_number : Int32) (v_top : Int32) (v_typedCount : Int32) (v_readAt : Int32) (v_place : Int32) (v_writtenCount : Int32) (v_chosenFrom : Int32) (v_chosenTo : Int32) (v_chosenTurn : Int32) (v_changed : Int32) (v_readSide : Int32) (v_readRights : Int32) (v_readPassed : Int32) (v_readHalves : Int32) (v_readNumber : Int32) (a_board : Nat → Int32) (a_before : Nat → Int32) (a_typed : Nat → Int32) (a_written : Nat → Int32) (a_froms : Nat → Int32) (a_tos : Nat → Int32) (a_turns : Nat → Int32) (a_counts : Nat → Int32) (a_changedSquare : Nat → Int32) (a_changedMan : Nat → Int32) (a_readBoard : Nat → Int32) (p0 : Int32) (p1 : Int32) (v_side' : Int32) (v_rights' : Int32) (v_passed' : Int32) (v_halves' : Int32) (v_number' : Int32) (v_top' : Int32) (v_changed' : Int32) (a_board' : Nat → Int32) (a_before' : Nat → Int32) (a_changedSquare' : Nat → Int32) (a_changedMan' : Nat → Int32) (hm : m_X10_makeMove v_side v_rights v_passed v_halves v_number v_top v_changed a_board a_before a_froms a_tos a_turns a_changedSquare a_changedMan p0 p1 = some (v_side', v_rights', v_passed', v_halves', v_number', v_top', v_changed', a_board', a_before', a_changedSquare', a_changedMan')) : kDv l yX10_makeMove wy_X10_makeMove rm_X10_makeMove D [(cI, .int)] (wM h0 q cI v_code v_side v_rights v_passed v_halves v_number v_top v_typedCount v_readAt v_place v_writtenCount v_chosenFrom v_chosenTo v_chosenTurn v_changed v_readSide v_readRights v_readPassed v_readHalves v_readNumber a_board a_before a_typed a_written a_froms a_tos a_turns a_counts a_changedSquare a_changedMan a_readBoard) (wM h0 q cI v_code v_side' v_rights' v_passed' v_halves' v_number' v_top' v_typedCount v_readAt v_place v_writtenCount v_chosenFrom v_chosenTo v_chosenTurn v_changed' v_readSide v_readRights v_readPassed v_readHalves v_readNumber a_board' a_before' a_typed a_written a_froms a_tos a_turns a_counts a_changedSquare' a_changedMan' a_readBoard) [.ref h0, .int p0, .int p1] := by
  refine kDv.of cX10_makeMove 5 none (by decide) rfl rfl (Nat.le_of_ble_eq_true rfl) ?_
  intro p e s m below meth c A Q C hret
  have hin10 : ∀ w ∈ wsX100, w ∈ wy_X10_makeMove := fun w h => List.mem_cons_of_mem _ (inG10 w h)
  unfold m_X10_makeMove at hm
  have h := hm
  refine kv_lv [0, 1, 2] (lv2 := [(0, .ref h0), (1, .int p0), (2, .int p1)]) rfl ?_
  refine kv_sipush C 512 dX10_makeMove_0 (by decide) ?_
  refine kv_iload_n C 1 dX10_makeMove_3 rfl rfl ?_
  refine kv_imul C dX10_makeMove_4 ?_
  refine kv_iload_n C 2 dX10_makeMove_5 rfl rfl ?_
  refine kv_iadd C dX10_makeMove_6 ?_
  obtain ⟨x3_1, ex3_1, h⟩ := ol_e h
  refine kv_top ex3_1 ?_
  refine kv_istore_n C (lv2 := [(0, .ref h0), (3, .int x3_1)]) [1, 0] dX10_makeMove_7 rfl (by decide) rfl rfl ?_
  refine kv_aload_n C 0 dX10_makeMove_8 rfl rfl ?_
  refine kv_aload_n C 0 dX10_makeMove_9 rfl rfl ?_
  refine kv_get C (Cn := RX10) (T := TX10) (N := 31) 0 15 hin10 rfl rfl (by decide) (C.ts _ (List.mem_cons_of_mem _ lf_RX10_30)) rfl rfl dX10_makeMove_10 ?_
  refine kv_iload_n C 1 dX10_makeMove_13 rfl rfl ?_
  obtain ⟨g_2, h⟩ := oin_e h
  refine kv_iald C 5 0 rfl rfl g_2 dX10_makeMove_14 ?_
  refine kv_aload_n C 0 dX10_makeMove_15 rfl rfl ?_
  refine kv_get C (Cn := RX10) (T := TX10) (N := 31) 0 16 hin10 rfl rfl (by decide) (C.ts _ (List.mem_cons_of_mem _ lf_RX10_33)) rfl rfl dX10_makeMove_16 ?_
  refine kv_iload_n C 1 dX10_makeMove_19 rfl rfl ?_
  obtain ⟨g_3, h⟩ := oin_e h
  refine kv_iald C 6 0 rfl rfl g_3 dX10_makeMove_20 ?_
  refine kv_aload_n C 0 dX10_makeMove_21 rfl rfl ?_
  refine kv_get C (Cn := RX10) (T := TX10) (N := 31) 0 17 hin10 rfl rfl (by decide) (C.ts _ (List.mem_cons_of_mem _ lf_RX10_36)) rfl rfl dX10_makeMove_22 ?_
  refine kv_iload_n C 1 dX10_makeMove_25 rfl rfl ?_
  obtain ⟨g_4, h⟩ := oin_e h
  refine kv_iald C 7 0 rfl rfl g_4 dX10_makeMove_26 ?_
  obtain ⟨⟨r_5, v_side_6, v_rights_7, v_passed_8, v_halves_9, v_number_10, v_top_11, v_changed_12, a_board_13, a_before_14, a_changedSquare_15, a_changedMan_16⟩, hm_17, h⟩ := ob_e h
  replace h : _ = _ := h
  refine kv_callWi C [.int (a_froms x3_1.toNatClampNeg), .int (a_tos x3_1.toNatClampNeg), .int (a_turns x3_1.toNatClampNeg)] 0 (c_X10_make l D h0 q cI v_code v_side v_rights v_passed v_halves v_number v_top v_typedCount v_readAt v_place v_writtenCount v_chosenFrom v_chosenTo v_chosenTurn v_changed v_readSide v_readRights v_readPassed v_readHalves v_readNumber a_board a_before a_typed a_written a_froms a_tos a_turns a_counts a_changedSquare a_changedMan a_readBoard (a_froms x3_1.toNatClampNeg) (a_tos x3_1.toNatClampNeg) (a_turns x3_1.toNatClampNeg) r_5 v_side_6 v_rights_7 v_passed_8 v_halves_9 v_number_10 v_top_11 v_changed_12 a_board_13 a_before_14 a_changedSquare_15 a_changedMan_16 hm_17) (cv_X10_make C.ts lm_RX10_176 ⟨Nat.le_of_ble_eq_true rfl, Nat.le_of_ble_eq_true rfl⟩) rfl rfl rfl rfl (Nat.le_of_ble_eq_true rfl) dX10_makeMove_27 ⟨Nat.zero_le _, Nat.zero_le _⟩ ?_
  refine kv_istore C (lv2 := []) [] dX10_makeMove_30 (by decide) rfl rfl ?_
  cases h
  exact hret _ _ dX10_makeMove_32
def m_X10_valueOne_b77 (v_side : Int32) (v_rights : Int32) (v_passed : Int32) (v_halves : Int32) (v_number : Int32) (v_top : Int32) (v_changed : Int32) (a_board : Nat → Int32) (a_before : Nat → Int32) (a_froms : Nat → Int32) (a_tos : Nat → Int32) (a_turns : Nat → Int32) (a_counts : Nat → Int32) (a_changedSquare : Nat → Int32) (a_changedMan : Nat → Int32) (x2 : Int32) : Option (Int32 × Int32 × Int32 × Int32 × Int32 × Int32 × Int32 × Int32 × (Nat → Int32) × (Nat → Int32) × (Nat → Int32) × (Nat → Int32) × (Nat → Int32) × (Nat → Int32) × (Nat → Int32) × (Nat → Int32)) := some (x2, v_side, v_rights, v_passed, v_halves, v_number, v_top, v_changed, a_board, a_before, a_froms, a_tos, a_turns, a_counts, a_changedSquare, a_changedMan)
def m_X10_valueOne_b70 (k25 : Int32 → Int32 → Int32 → Int32 → Int32 → Int32 → Int32 → (Nat → Int32) → (Nat → Int32) → (Nat → Int32) → (Nat → Int32) → (Nat → Int32) → (Nat → Int32) → (Nat → Int32) → (Nat → Int32) → Int32 → Int32 → Int32 → Option (Int32 × Int32 × Int32 × Int32 × Int32 × Int32 × Int32 × Int32 × (Nat → Int32) × (Nat → Int32) × (Nat → Int32) × (Nat → Int32) × (Nat → Int32) × (Nat → Int32) × (Nat → Int32) × (Nat → Int32))) (v_side : Int32) (v_rights : Int32) (v_passed : Int32) (v_halves : Int32) (v_number : Int32) (v_top : Int32) (v_changed : Int32) (a_board : Nat → Int32) (a_before : Nat → Int32) (a_froms : Nat → Int32) (a_tos : Nat → Int32) (a_turns : Nat → Int32) (a_counts : Nat → Int32) (a_changedSquare : Nat → Int32) (a_changedMan : Nat → Int32) (x1 : Int32) (x3 : Int32) (t0 : Int32) : Option (Int32 × Int32 × Int32 × Int32 × Int32 × Int32 × Int32 × Int32 × (Nat → Int32) × (Nat → Int32) × (Nat → Int32) × (Nat → Int32) × (Nat → Int32) × (Nat → Int32) × (Nat → Int32) × (Nat → Int32)) := ol (x3 + 1) fun x3_1 => k25 v_side v_rights v_passed v_halves v_number v_top v_changed a_board a_before a_froms a_tos a_turns a_counts a_changedSquare a_changedMan x1 t0 x3_1
def m_X10_valueOne_b25 (k25 : Int32 → Int32 → Int32 → Int32 → Int32 → Int32 → Int32 → (Nat → Int32) → (Nat → Int32) → (Nat → Int32) → (Nat → Int32) → (Nat → Int32) → (Nat → Int32) → (Nat → Int32) → (Nat → Int32) → Int32 → Int32 → Int32 → Option (Int32 × Int32 × Int32 × Int32 × Int32 × Int32 × Int32 × Int32 × (Nat → Int32) × (Nat → Int32) × (Nat → Int32) × (Nat → Int32) × (Nat → Int32) × (Nat → Int32) × (Nat → Int32) × (Nat → Int32))) (v_side : Int32) (v_rights : Int32) (v_passed : Int32) (v_halves : Int32) (v_number : Int32) (v_top : Int32) (v_changed : Int32) (a_board : Nat → Int32) (a_before : Nat → Int32) (a_froms : Nat → Int32) (a_tos : Nat → Int32) (a_turns : Nat → Int32) (a_counts : Nat → Int32) (a_changedSquare : Nat → Int32) (a_changedMan : Nat → Int32) (x1 : Int32) (x2 : Int32) (x3 : Int32) : Option (Int32 × Int32 × Int32 × Int32 × Int32 × Int32 × Int32 × Int32 × (Nat → Int32) × (Nat → Int32) × (Nat → Int32) × (Nat → Int32) × (Nat → Int32) × (Nat → Int32) × (Nat → Int32) × (Nat → Int32)) := if (a_counts (Int32.toNatClampNeg 1)) ≤ x3 then m_X10_valueOne_b77 v_side v_rights v_passed v_halves v_number v_top v_changed a_board a_before a_froms a_tos a_turns a_counts a_changedSquare a_changedMan x2 else if x1 = 1 then ob (m_X10_makeMove v_side v_rights v_passed v_halves v_number v_top v_changed a_board a_before a_froms a_tos a_turns a_changedSquare a_changedMan 1 x3) fun (v_side_4, v_rights_5, v_passed_6, v_halves_7, v_number_8, v_top_9, v_changed_10, a_board_11, a_before_12, a_changedSquare_13, a_changedMan_14) => ob (m_X10_worthNow v_side_4 a_board_11 ) fun r_17 => ol (0 - r_17) fun x4_19 => ob (m_X10_pop v_side_4 v_rights_5 v_passed_6 v_halves_7 v_number_8 v_top_9 a_board_11 a_before_12 ) fun (v_side_20, v_rights_21, v_passed_22, v_halves_23, v_number_24, v_top_25, a_board_26) => if x4_19 ≤ x2 then m_X10_valueOne_b70 k25 v_side_20 v_rights_21 v_passed_22 v_halves_23 v_number_24 v_top_25 v_changed_10 a_board_26 a_before_12 a_froms a_tos a_turns a_counts a_changedSquare_13 a_changedMan_14 x1 x3 x2 else m_X10_valueOne_b70 k25 v_side_20 v_rights_21 v_passed_22 v_halves_23 v_number_24 v_top_25 v_changed_10 a_board_26 a_before_12 a_froms a_tos a_turns a_counts a_changedSquare_13 a_changedMan_14 x1 x3 x4_19 else m_X10_valueOne_b77 v_side v_rights v_passed v_halves v_number v_top v_changed a_board a_before a_froms a_tos a_turns a_counts a_changedSquare a_changedMan x2
def m_X10_valueOne_l25 (n : Nat) : Int32 → Int32 → Int32 → Int32 → Int32 → Int32 → Int32 → (Nat → Int32) → (Nat → Int32) → (Nat → Int32) → (Nat → Int32) → (Nat → Int32) → (Nat → Int32) → (Nat → Int32) → (Nat → Int32) → Int32 → Int32 → Int32 → Option (Int32 × Int32 × Int32 × Int32 × Int32 × Int32 × Int32 × Int32 × (Nat → Int32) × (Nat → Int32) × (Nat → Int32) × (Nat → Int32) × (Nat → Int32) × (Nat → Int32) × (Nat → Int32) × (Nat → Int32)) := fz (fun _ _ _ _ _ _ _ _ _ _ _ _ _ _ _ _ _ _ => none) (fun k25 v_side v_rights v_passed v_halves v_number v_top v_changed a_board a_before a_froms a_tos a_turns a_counts a_changedSquare a_changedMan x1 x2 x3 => m_X10_valueOne_b25 k25 v_side v_rights v_passed v_halves v_number v_top v_changed a_board a_before a_froms a_tos a_turns a_counts a_changedSquare a_changedMan x1 x2 x3) n
def m_X10_valueOne_b22 (v_side : Int32) (v_rights : Int32) (v_passed : Int32) (v_halves : Int32) (v_number : Int32) (v_top : Int32) (v_changed : Int32) (a_board : Nat → Int32) (a_before : Nat → Int32) (a_froms : Nat → Int32) (a_tos : Nat → Int32) (a_turns : Nat → Int32) (a_counts : Nat → Int32) (a_changedSquare : Nat → Int32) (a_changedMan : Nat → Int32) (x1 : Int32) (t0 : Int32) : Option (Int32 × Int32 × Int32 × Int32 × Int32 × Int32 × Int32 × Int32 × (Nat → Int32) × (Nat → Int32) × (Nat → Int32) × (Nat → Int32) × (Nat → Int32) × (Nat → Int32) × (Nat → Int32) × (Nat → Int32)) := m_X10_valueOne_l25 kF v_side v_rights v_passed v_halves v_number v_top v_changed a_board a_before a_froms a_tos a_turns a_counts a_changedSquare a_changedMan x1 t0 0
def m_X10_valueOne (v_side : Int32) (v_rights : Int32) (v_passed : Int32) (v_halves : Int32) (v_number : Int32) (v_top : Int32) (v_changed : Int32) (a_board : Nat → Int32) (a_before : Nat → Int32) (a_froms : Nat → Int32) (a_tos : Nat → Int32) (a_turns : Nat → Int32) (a_counts : Nat → Int32) (a_changedSquare : Nat → Int32) (a_changedMan : Nat → Int32) : Option (Int32 × Int32 × Int32 × Int32 × Int32 × Int32 × Int32 × Int32 × (Nat → Int32) × (Nat → Int32) × (Nat → Int32) × (Nat → Int32) × (Nat → Int32) × (Nat → Int32) × (Nat → Int32) × (Nat → Int32)) := ob (m_X10_find v_side v_rights v_passed v_changed a_board a_froms a_tos a_turns a_counts a_changedSquare a_changedMan 1) fun (v_changed_30, a_board_31, a_froms_32, a_tos_33, a_turns_34, a_counts_35, a_changedSquare_36, a_changedMan_37) => ob (m_X10_ended v_side v_halves a_board_31 a_counts_35 1) fun r_40 => if r_40 = 1 then m_X10_valueOne_b22 v_side v_rights v_passed v_halves v_number v_top v_changed_30 a_board_31 a_before a_froms_32 a_tos_33 a_turns_34 a_counts_35 a_changedSquare_36 a_changedMan_37 r_40 (-100000) else m_X10_valueOne_b22 v_side v_rights v_passed v_halves v_number v_top v_changed_30 a_board_31 a_before a_froms_32 a_tos_33 a_turns_34 a_counts_35 a_changedSquare_36 a_changedMan_37 r_40 r_40
abbrev rm_X10_valueOne : Room := { frames := 9, cells := 0, slots := 0, locals := 224 }
abbrev wy_X10_valueOne : List Cond := .code yX10_valueOne cX10_valueOne 5 (some .int) :: gT
theorem cv_X10_valueOne {R : Room} {s : State} {args : Array Value} {own : String} {index : Nat} {w0 : Cond} (hts : ∀ w ∈ w0 :: gT, w.before args s = true) (hl : Cond.methodLink own index yX10_valueOne ∈ gT) (hR : 9 + 1 ≤ R.frames ∧ 8 + (5 + 11) + 224 ≤ R.locals) : CallW R s args own RX10 index yX10_valueOne cX10_valueOne 5 (some .int) wy_X10_valueOne rm_X10_valueOne 0 0 0 :=
  cwV 0 hts (gT_call w0 (pre := [.methodLink own index yX10_valueOne, .instanceMethod yX10_valueOne, .selects RX10 yX10_valueOne yX10_valueOne, .initialized RX10]) (gT_lc hl (gT_lc ly_yX10_valueOne (gT_lc lx_yX10_valueOne (gT_l1 li_RX10)))) lc_yX10_valueOne) rfl rfl rfl (by decide +kernel) hR
set_option maxRecDepth 100000 in
set_option maxHeartbeats 4000000 in
theorem c_X10_valueOne (l : Launch) (D : va_G) (h0 : Nat) (q : Nat → Nat) (cI : ClassId) (v_code : Int32) (v_side : Int32) (v_rights : Int32) (v_passed : Int32) (v_halves : Int32) (v_number : Int32) (v_top : Int32) (v_typedCount : Int32) (v_readAt : Int32) (v_place : Int32) (v_writtenCount : Int32) (v_chosenFrom : Int32) (v_chosenTo : Int32) (v_chosenTurn : Int32) (v_changed : Int32) (v_readSide : Int32) (v_readRights : Int32) (v_readPassed : Int32) (v_readHalves : Int32) (v_readNumber : Int32) (a_board : Nat → Int32) (a_before : Nat → Int32) (a_typed : Nat → Int32) (a_written : Nat → Int32) (a_froms : Nat → Int32) (a_tos : Nat → Int32) (a_turns : Nat → Int32) (a_counts : Nat → Int32) (a_changedSquare : Nat → Int32) (a_changedMan : Nat → Int32) (a_readBoard : Nat → Int32) (rv : Int32) (v_side' : Int32) (v_rights' : Int32) (v_passed' : Int32) (v_halves' : Int32) (v_number' : Int32) (v_top' : Int32) (v_changed' : Int32) (a_board' : Nat → Int32) (a_before' : Nat → Int32) (a_froms' : Nat → Int32) (a_tos' : Nat → Int32) (a_turns' : Nat → Int32) (a_counts' : Nat → Int32) (a_changedSquare' : Nat → Int32) (a_changedMan' : Nat → Int32) (hm : m_X10_valueOne v_side v_rights v_passed v_halves v_number v_top v_changed a_board a_before a_froms a_tos a_turns a_counts a_changedSquare a_changedMan = some (rv, v_side', v_rights', v_passed', v_halves', v_number', v_top', v_changed', a_board', a_before', a_froms', a_tos', a_turns', a_counts', a_changedSquare', a_changedMan')) : kDi l yX10_valueOne wy_X10_valueOne rm_X10_valueOne D [(cI, .int)] rv (wM h0 q cI v_code v_side v_rights v_passed v_halves v_number v_top v_typedCount v_readAt v_place v_writtenCount v_chosenFrom v_chosenTo v_chosenTurn v_changed v_readSide v_readRights v_readPassed v_readHalves v_readNumber a_board a_before a_typed a_written a_froms a_tos a_turns a_counts a_changedSquare a_changedMan a_readBoard) (wM h0 q cI v_code v_side' v_rights' v_passed' v_halves' v_number' v_top' v_typedCount v_readAt v_place v_writtenCount v_chosenFrom v_chosenTo v_chosenTurn v_changed' v_readSide v_readRights v_readPassed v_readHalves v_readNumber a_board' a_before' a_typed a_written a_froms' a_tos' a_turns' a_counts' a_changedSquare' a_changedMan' a_readBoard) [.ref h0] := by
  refine kDi.of cX10_valueOne 5 (some .int) (by decide) rfl (Or.inl rfl) (Nat.le_of_ble_eq_true rfl) ?_
  intro p e s m below meth c A Q C hret
  have hin10 : ∀ w ∈ wsX100, w ∈ wy_X10_valueOne := fun w h => List.mem_cons_of_mem _ (inG10 w h)
  have j77 : ∀ (v_side : Int32) (v_rights : Int32) (v_passed : Int32) (v_halves : Int32) (v_number : Int32) (v_top : Int32) (v_changed : Int32) (a_board : Nat → Int32) (a_before : Nat → Int32) (a_froms : Nat → Int32) (a_tos : Nat → Int32) (a_turns : Nat → Int32) (a_counts : Nat → Int32) (a_changedSquare : Nat → Int32) (a_changedMan : Nat → Int32) (x2 : Int32), m_X10_valueOne_b77  v_side v_rights v_passed v_halves v_number v_top v_changed a_board a_before a_froms a_tos a_turns a_counts a_changedSquare a_changedMan x2 = some (rv, v_side', v_rights', v_passed', v_halves', v_number', v_top', v_changed', a_board', a_before', a_froms', a_tos', a_turns', a_counts', a_changedSquare', a_changedMan') → kv p l e rm_X10_valueOne s m ([.ref h0] : List Value).toArray below meth c D A 5 0 0 Q (wM h0 q cI v_code v_side v_rights v_passed v_halves v_number v_top v_typedCount v_readAt v_place v_writtenCount v_chosenFrom v_chosenTo v_chosenTurn v_changed v_readSide v_readRights v_readPassed v_readHalves v_readNumber a_board a_before a_typed a_written a_froms a_tos a_turns a_counts a_changedSquare a_changedMan a_readBoard) [(2, .int x2)] 77 [] := by
    intro v_side v_rights v_passed v_halves v_number v_top v_changed a_board a_before a_froms a_tos a_turns a_counts a_changedSquare a_changedMan x2 h
    unfold m_X10_valueOne_b77 at h
    refine kv_iload_n C 0 dX10_valueOne_77 rfl rfl ?_
    cases h
    exact hret _ _ dX10_valueOne_78 (fun q => by cases q)
  have l25 : ∀ (n25 : Nat) (v_side : Int32) (v_rights : Int32) (v_passed : Int32) (v_halves : Int32) (v_number : Int32) (v_top : Int32) (v_changed : Int32) (a_board : Nat → Int32) (a_before : Nat → Int32) (a_froms : Nat → Int32) (a_tos : Nat → Int32) (a_turns : Nat → Int32) (a_counts : Nat → Int32) (a_changedSquare : Nat → Int32) (a_changedMan : Nat → Int32) (x1 : Int32) (x2 : Int32) (x3 : Int32), m_X10_valueOne_l25   n25 v_side v_rights v_passed v_halves v_number v_top v_changed a_board a_before a_froms a_tos a_turns a_counts a_changedSquare a_changedMan x1 x2 x3 = some (rv, v_side', v_rights', v_passed', v_halves', v_number', v_top', v_changed', a_board', a_before', a_froms', a_tos', a_turns', a_counts', a_changedSquare', a_changedMan') → kv p l e rm_X10_valueOne s m ([.ref h0] : List Value).toArray below meth c D A 5 0 0 Q (wM h0 q cI v_code v_side v_rights v_passed v_halves v_number v_top v_typedCount v_readAt v_place v_writtenCount v_chosenFrom v_chosenTo v_chosenTurn v_changed v_readSide v_readRights v_readPassed v_readHalves v_readNumber a_board a_before a_typed a_written a_froms a_tos a_turns a_counts a_changedSquare a_changedMan a_readBoard) [(0, .ref h0), (1, .int x1), (2, .int x2), (3, .int x3)] 25 [] := by
    intro n25
    induction n25 with
    | zero =>
      intro v_side v_rights v_passed v_halves v_number v_top v_changed a_board a_before a_froms a_tos a_turns a_counts a_changedSquare a_changedMan x1 x2 x3 h
      exact kv_no h
    | succ n25 ih25 =>
      have j70 : ∀ (v_side : Int32) (v_rights : Int32) (v_passed : Int32) (v_halves : Int32) (v_number : Int32) (v_top : Int32) (v_changed : Int32) (a_board : Nat → Int32) (a_before : Nat → Int32) (a_froms : Nat → Int32) (a_tos : Nat → Int32) (a_turns : Nat → Int32) (a_counts : Nat → Int32) (a_changedSquare : Nat → Int32) (a_changedMan : Nat → Int32) (x1 : Int32) (x3 : Int32) (t0 : Int32), m_X10_valueOne_b70 (m_X10_valueOne_l25   n25) v_side v_rights v_passed v_halves v_number v_top v_changed a_board a_before a_froms a_tos a_turns a_counts a_changedSquare a_changedMan x1 x3 t0 = some (rv, v_side', v_rights', v_passed', v_halves', v_number', v_top', v_changed', a_board', a_before', a_froms', a_tos', a_turns', a_counts', a_changedSquare', a_changedMan') → kv p l e rm_X10_valueOne s m ([.ref h0] : List Value).toArray below meth c D A 5 0 0 Q (wM h0 q cI v_code v_side v_rights v_passed v_halves v_number v_top v_typedCount v_readAt v_place v_writtenCount v_chosenFrom v_chosenTo v_chosenTurn v_changed v_readSide v_readRights v_readPassed v_readHalves v_readNumber a_board a_before a_typed a_written a_froms a_tos a_turns a_counts a_changedSquare a_changedMan a_readBoard) [(0, .ref h0), (1, .int x1), (3, .int x3)] 70 [.int t0] := by
        intro v_side v_rights v_passed v_halves v_number v_top v_changed a_board a_before a_froms a_tos a_turns a_counts a_changedSquare a_changedMan x1 x3 t0 h
        unfold m_X10_valueOne_b70 at h
        refine kv_istore_n C (lv2 := [(0, .ref h0), (1, .int x1), (2, .int t0), (3, .int x3)]) [1, 2, 0, 3] dX10_valueOne_70 rfl (by decide) rfl rfl ?_
        obtain ⟨x3_1, ex3_1, h⟩ := ol_e h
        refine kv_iinc C (v := x3_1) (lv2 := [(0, .ref h0), (1, .int x1), (2, .int t0), (3, .int x3_1)]) 3 [1, 2, 3, 0] dX10_valueOne_71 rfl ex3_1.symm (by decide) rfl rfl ?_
        refine kv_goto C 25 dX10_valueOne_74 (by decide) ?_
        exact kv_lv [0, 1, 2, 3] (lv2 := [(0, .ref h0), (1, .int x1), (2, .int t0), (3, .int x3_1)]) rfl (ih25 v_side v_rights v_passed v_halves v_number v_top v_changed a_board a_before a_froms a_tos a_turns a_counts a_changedSquare a_changedMan x1 t0 x3_1 h)
      intro v_side v_rights v_passed v_halves v_number v_top v_changed a_board a_before a_froms a_tos a_turns a_counts a_changedSquare a_changedMan x1 x2 x3 h
      replace h : m_X10_valueOne_b25  (m_X10_valueOne_l25   n25) v_side v_rights v_passed v_halves v_number v_top v_changed a_board a_before a_froms a_tos a_turns a_counts a_changedSquare a_changedMan x1 x2 x3 = some (rv, v_side', v_rights', v_passed', v_halves', v_number', v_top', v_changed', a_board', a_before', a_froms', a_tos', a_turns', a_counts', a_changedSquare', a_changedMan') := h
      unfold m_X10_valueOne_b25 at h
      refine kv_iload_n C 3 dX10_valueOne_25 rfl rfl ?_
      refine kv_aload_n C 0 dX10_valueOne_26 rfl rfl ?_
      refine kv_get C (Cn := RX10) (T := TX10) (N := 31) 0 18 hin10 rfl rfl (by decide) (C.ts _ (List.mem_cons_of_mem _ lf_RX10_39)) rfl rfl dX10_valueOne_27 ?_
      refine kv_iconst C 1 dX10_valueOne_30 (by decide) ?_
      refine kv_iald C 8 0 rfl rfl (by unfold vp_in; decide) dX10_valueOne_31 ?_
      refine kv_icmp_ge C 77 dX10_valueOne_32 (by decide) (fun c_2 => ?_) (fun c_2 => ?_)
      · have h := oi_t h c_2
        exact kv_lv [2] (lv2 := [(2, .int x2)]) rfl (j77 v_side v_rights v_passed v_halves v_number v_top v_changed a_board a_before a_froms a_tos a_turns a_counts a_changedSquare a_changedMan x2 h)
      · have h := oi_f h c_2
        refine kv_iload_n C 1 dX10_valueOne_35 rfl rfl ?_
        refine kv_iconst C 1 dX10_valueOne_36 (by decide) ?_
        refine kv_icmp_ne C 77 dX10_valueOne_37 (by decide) (fun c_3 => ?_) (fun c_3 => ?_)
        · have h := oi_f h c_3
          exact kv_lv [2] (lv2 := [(2, .int x2)]) rfl (j77 v_side v_rights v_passed v_halves v_number v_top v_changed a_board a_before a_froms a_tos a_turns a_counts a_changedSquare a_changedMan x2 h)
        · have h := oi_t h c_3
          refine kv_aload_n C 0 dX10_valueOne_40 rfl rfl ?_
          refine kv_iconst C 1 dX10_valueOne_41 (by decide) ?_
          refine kv_iload_n C 3 dX10_valueOne_42 rfl rfl ?_
          obtain ⟨⟨v_side_4, v_rights_5, v_passed_6, v_halves_7, v_number_8, v_top_9, v_changed_10, a_board_11, a_before_12, a_changedSquare_13, a_changedMan_14⟩, hm_15, h⟩ := ob_e h
          replace h : _ = _ := h
          refine kv_callWv C [.int 1, .int x3] 0 (c_X10_makeMove l D h0 q cI v_code v_side v_rights v_passed v_halves v_number v_top v_typedCount v_readAt v_place v_writtenCount v_chosenFrom v_chosenTo v_chosenTurn v_changed v_readSide v_readRights v_readPassed v_readHalves v_readNumber a_board a_before a_typed a_written a_froms a_tos a_turns a_counts a_changedSquare a_changedMan a_readBoard 1 x3 v_side_4 v_rights_5 v_passed_6 v_halves_7 v_number_8 v_top_9 v_changed_10 a_board_11 a_before_12 a_changedSquare_13 a_changedMan_14 hm_15) (cv_X10_makeMove C.ts lm_RX10_183 ⟨Nat.le_of_ble_eq_true rfl, Nat.le_of_ble_eq_true rfl⟩) rfl rfl rfl rfl (Nat.le_of_ble_eq_true rfl) dX10_valueOne_43 ⟨Nat.zero_le _, Nat.zero_le _⟩ ?_
          refine kv_iconst C 0 dX10_valueOne_46 (by decide) ?_
          refine kv_aload_n C 0 dX10_valueOne_47 rfl rfl ?_
          obtain ⟨r_17, hm_18, h⟩ := ob_e h
          refine kv_callWi C [] 0 (c_X10_worthNow l D h0 q cI v_code v_side_4 v_rights_5 v_passed_6 v_halves_7 v_number_8 v_top_9 v_typedCount v_readAt v_place v_writtenCount v_chosenFrom v_chosenTo v_chosenTurn v_changed_10 v_readSide v_readRights v_readPassed v_readHalves v_readNumber a_board_11 a_before_12 a_typed a_written a_froms a_tos a_turns a_counts a_changedSquare_13 a_changedMan_14 a_readBoard  r_17 hm_18) (cv_X10_worthNow C.ts lm_RX10_172 ⟨Nat.le_of_ble_eq_true rfl, Nat.le_of_ble_eq_true rfl⟩) rfl rfl rfl rfl (Nat.le_of_ble_eq_true rfl) dX10_valueOne_48 ⟨Nat.zero_le _, Nat.zero_le _⟩ ?_
          refine kv_isub C dX10_valueOne_51 ?_
          obtain ⟨x4_19, ex4_19, h⟩ := ol_e h
          refine kv_top ex4_19 ?_
          refine kv_istore C (lv2 := [(0, .ref h0), (1, .int x1), (2, .int x2), (3, .int x3), (4, .int x4_19)]) [1, 2, 3, 4, 0] dX10_valueOne_52 (by decide) rfl rfl ?_
          refine kv_aload_n C 0 dX10_valueOne_54 rfl rfl ?_
          obtain ⟨⟨v_side_20, v_rights_21, v_passed_22, v_halves_23, v_number_24, v_top_25, a_board_26⟩, hm_27, h⟩ := ob_e h
          replace h : _ = _ := h
          refine kv_callWv C [] 0 (c_X10_pop l D h0 q cI v_code v_side_4 v_rights_5 v_passed_6 v_halves_7 v_number_8 v_top_9 v_typedCount v_readAt v_place v_writtenCount v_chosenFrom v_chosenTo v_chosenTurn v_changed_10 v_readSide v_readRights v_readPassed v_readHalves v_readNumber a_board_11 a_before_12 a_typed a_written a_froms a_tos a_turns a_counts a_changedSquare_13 a_changedMan_14 a_readBoard  v_side_20 v_rights_21 v_passed_22 v_halves_23 v_number_24 v_top_25 a_board_26 hm_27) (cv_X10_pop C.ts lm_RX10_186 ⟨Nat.le_of_ble_eq_true rfl, Nat.le_of_ble_eq_true rfl⟩) rfl rfl rfl rfl (Nat.le_of_ble_eq_true rfl) dX10_valueOne_55 ⟨Nat.zero_le _, Nat.zero_le _⟩ ?_
          refine kv_iload C 4 dX10_valueOne_58 rfl ?_
          refine kv_iload_n C 2 dX10_valueOne_60 rfl rfl ?_
          refine kv_icmp_le C 69 dX10_valueOne_61 (by decide) (fun c_29 => ?_) (fun c_29 => ?_)
          · have h := oi_t h c_29
            refine kv_iload_n C 2 dX10_valueOne_69 rfl rfl ?_
            exact kv_lv [0, 1, 3] (lv2 := [(0, .ref h0), (1, .int x1), (3, .int x3)]) rfl (j70 v_side_20 v_rights_21 v_passed_22 v_halves_23 v_number_24 v_top_25 v_changed_10 a_board_26 a_before_12 a_froms a_tos a_turns a_counts a_changedSquare_13 a_changedMan_14 x1 x3 x2 h)
          · have h := oi_f h c_29
            refine kv_iload C 4 dX10_valueOne_64 rfl ?_
            refine kv_goto C 70 dX10_valueOne_66 (by decide) ?_
            exact kv_lv [0, 1, 3] (lv2 := [(0, .ref h0), (1, .int x1), (3, .int x3)]) rfl (j70 v_side_20 v_rights_21 v_passed_22 v_halves_23 v_number_24 v_top_25 v_changed_10 a_board_26 a_before_12 a_froms a_tos a_turns a_counts a_changedSquare_13 a_changedMan_14 x1 x3 x4_19 h)
  have j22 : ∀ (v_side : Int32) (v_rights : Int32) (v_passed : Int32) (v_halves : Int32) (v_number : Int32) (v_top : Int32) (v_changed : Int32) (a_board : Nat → Int32) (a_before : Nat → Int32) (a_froms : Nat → Int32) (a_tos : Nat → Int32) (a_turns : Nat → Int32) (a_counts : Nat → Int32) (a_changedSquare : Nat → Int32) (a_changedMan : Nat → Int32) (x1 : Int32) (t0 : Int32), m_X10_valueOne_b22  v_side v_rights v_passed v_halves v_number v_top v_changed a_board a_before a_froms a_tos a_turns a_counts a_changedSquare a_changedMan x1 t0 = some (rv, v_side', v_rights', v_passed', v_halves', v_number', v_top', v_changed', a_board', a_before', a_froms', a_tos', a_turns', a_counts', a_changedSquare', a_changedMan') → kv p l e rm_X10_valueOne s m ([.ref h0] : List Value).toArray below meth c D A 5 0 0 Q (wM h0 q cI v_code v_side v_rights v_passed v_halves v_number v_top v_typedCount v_readAt v_place v_writtenCount v_chosenFrom v_chosenTo v_chosenTurn v_changed v_readSide v_readRights v_readPassed v_readHalves v_readNumber a_board a_before a_typed a_written a_froms a_tos a_turns a_counts a_changedSquare a_changedMan a_readBoard) [(0, .ref h0), (1, .int x1)] 22 [.int t0] := by
    intro v_side v_rights v_passed v_halves v_number v_top v_changed a_board a_before a_froms a_tos a_turns a_counts a_changedSquare a_changedMan x1 t0 h
    unfold m_X10_valueOne_b22 at h
    refine kv_istore_n C (lv2 := [(0, .ref h0), (1, .int x1), (2, .int t0)]) [1, 2, 0] dX10_valueOne_22 rfl (by decide) rfl rfl ?_
    refine kv_iconst C 0 dX10_valueOne_23 (by decide) ?_
    refine kv_istore_n C (lv2 := [(0, .ref h0), (1, .int x1), (2, .int t0), (3, .int 0)]) [1, 2, 3, 0] dX10_valueOne_24 rfl (by decide) rfl rfl ?_
    exact kv_lv [0, 1, 2, 3] (lv2 := [(0, .ref h0), (1, .int x1), (2, .int t0), (3, .int 0)]) rfl (l25 kF v_side v_rights v_passed v_halves v_number v_top v_changed a_board a_before a_froms a_tos a_turns a_counts a_changedSquare a_changedMan x1 t0 0 h)
  unfold m_X10_valueOne at hm
  have h := hm
  refine kv_lv [0] (lv2 := [(0, .ref h0)]) rfl ?_
  refine kv_aload_n C 0 dX10_valueOne_0 rfl rfl ?_
  refine kv_iconst C 1 dX10_valueOne_1 (by decide) ?_
  obtain ⟨⟨v_changed_30, a_board_31, a_froms_32, a_tos_33, a_turns_34, a_counts_35, a_changedSquare_36, a_changedMan_37⟩, hm_38, h⟩ := ob_e h
  replace h : _ = _ := h
  refine kv_callWv C [.int 1] 0 (c_X10_find l D h0 q cI v_code v_side v_rights v_passed v_halves v_number v_top v_typedCount v_readAt v_place v_writtenCount v_chosenFrom v_chosenTo v_chosenTurn v_changed v_readSide v_readRights v_readPassed v_readHalves v_readNumber a_board a_before a_typed a_written a_froms a_tos a_turns a_counts a_changedSquare a_changedMan a_readBoard 1 v_changed_30 a_board_31 a_froms_32 a_tos_33 a_turns_34 a_counts_35 a_changedSquare_36 a_changedMan_37 hm_38) (cv_X10_find C.ts lm_RX10_158 ⟨Nat.le_of_ble_eq_true rfl, Nat.le_of_ble_eq_true rfl⟩) rfl rfl rfl rfl (Nat.le_of_ble_eq_true rfl) dX10_valueOne_2 ⟨Nat.zero_le _, Nat.zero_le _⟩ ?_
  refine kv_aload_n C 0 dX10_valueOne_5 rfl rfl ?_
  refine kv_iconst C 1 dX10_valueOne_6 (by decide) ?_
  obtain ⟨r_40, hm_41, h⟩ := ob_e h
  refine kv_callWi C [.int 1] 0 (c_X10_ended l D h0 q cI v_code v_side v_rights v_passed v_halves v_number v_top v_typedCount v_readAt v_place v_writtenCount v_chosenFrom v_chosenTo v_chosenTurn v_changed_30 v_readSide v_readRights v_readPassed v_readHalves v_readNumber a_board_31 a_before a_typed a_written a_froms_32 a_tos_33 a_turns_34 a_counts_35 a_changedSquare_36 a_changedMan_37 a_readBoard 1 r_40 hm_41) (cv_X10_ended C.ts lm_RX10_179 ⟨Nat.le_of_ble_eq_true rfl, Nat.le_of_ble_eq_true rfl⟩) rfl rfl rfl rfl (Nat.le_of_ble_eq_true rfl) dX10_valueOne_7 ⟨Nat.zero_le _, Nat.zero_le _⟩ ?_
  refine kv_istore_n C (lv2 := [(0, .ref h0), (1, .int r_40)]) [1, 0] dX10_valueOne_10 rfl (by decide) rfl rfl ?_
  refine kv_iload_n C 1 dX10_valueOne_11 rfl rfl ?_
  refine kv_iconst C 1 dX10_valueOne_12 (by decide) ?_
  refine kv_icmp_ne C 21 dX10_valueOne_13 (by decide) (fun c_42 => ?_) (fun c_42 => ?_)
  · have h := oi_f h c_42
    refine kv_iload_n C 1 dX10_valueOne_21 rfl rfl ?_
    exact kv_lv [0, 1] (lv2 := [(0, .ref h0), (1, .int r_40)]) rfl (j22 v_side v_rights v_passed v_halves v_number v_top v_changed_30 a_board_31 a_before a_froms_32 a_tos_33 a_turns_34 a_counts_35 a_changedSquare_36 a_changedMan_37 r_40 r_40 h)
  · have h := oi_t h c_42
    refine kv_ldc C (C.ts _ (List.mem_cons_of_mem _ lk_RX10_182)) dX10_valueOne_16 ?_
    refine kv_goto C 22 dX10_valueOne_18 (by decide) ?_
    exact kv_lv [0, 1] (lv2 := [(0, .ref h0), (1, .int r_40)]) rfl (j22 v_side v_rights v_passed v_halves v_number v_top v_changed_30 a_board_31 a_before a_froms_32 a_tos_33 a_turns_34 a_counts_35 a_changedSquare_36 a_changedMan_37 r_40 (-100000) h)
def m_X10_valueTwo_b77 (v_side : Int32) (v_rights : Int32) (v_passed : Int32) (v_halves : Int32) (v_number : Int32) (v_top : Int32) (v_changed : Int32) (a_board : Nat → Int32) (a_before : Nat → Int32) (a_froms : Nat → Int32) (a_tos : Nat → Int32) (a_turns : Nat → Int32) (a_counts : Nat → Int32) (a_changedSquare : Nat → Int32) (a_changedMan : Nat → Int32) (x2 : Int32) : Option (Int32 × Int32 × Int32 × Int32 × Int32 × Int32 × Int32 × Int32 × (Nat → Int32) × (Nat → Int32) × (Nat → Int32) × (Nat → Int32) × (Nat → Int32) × (Nat → Int32) × (Nat → Int32) × (Nat → Int32)) := some (x2, v_side, v_rights, v_passed, v_halves, v_number, v_top, v_changed, a_board, a_before, a_froms, a_tos, a_turns, a_counts, a_changedSquare, a_changedMan)
def m_X10_valueTwo_b70 (k25 : Int32 → Int32 → Int32 → Int32 → Int32 → Int32 → Int32 → (Nat → Int32) → (Nat → Int32) → (Nat → Int32) → (Nat → Int32) → (Nat → Int32) → (Nat → Int32) → (Nat → Int32) → (Nat → Int32) → Int32 → Int32 → Int32 → Option (Int32 × Int32 × Int32 × Int32 × Int32 × Int32 × Int32 × Int32 × (Nat → Int32) × (Nat → Int32) × (Nat → Int32) × (Nat → Int32) × (Nat → Int32) × (Nat → Int32) × (Nat → Int32) × (Nat → Int32))) (v_side : Int32) (v_rights : Int32) (v_passed : Int32) (v_halves : Int32) (v_number : Int32) (v_top : Int32) (v_changed : Int32) (a_board : Nat → Int32) (a_before : Nat → Int32) (a_froms : Nat → Int32) (a_tos : Nat → Int32) (a_turns : Nat → Int32) (a_counts : Nat → Int32) (a_changedSquare : Nat → Int32) (a_changedMan : Nat → Int32) (x1 : Int32) (x3 : Int32) (t0 : Int32) : Option (Int32 × Int32 × Int32 × Int32 × Int32 × Int32 × Int32 × Int32 × (Nat → Int32) × (Nat → Int32) × (Nat → Int32) × (Nat → Int32) × (Nat → Int32) × (Nat → Int32) × (Nat → Int32) × (Nat → Int32)) := ol (x3 + 1) fun x3_1 => k25 v_side v_rights v_passed v_halves v_number v_top v_changed a_board a_before a_froms a_tos a_turns a_counts a_changedSquare a_changedMan x1 t0 x3_1
def m_X10_valueTwo_b25 (k25 : Int32 → Int32 → Int32 → Int32 → Int32 → Int32 → Int32 → (Nat → Int32) → (Nat → Int32) → (Nat → Int32) → (Nat → Int32) → (Nat → Int32) → (Nat → Int32) → (Nat → Int32) → (Nat → Int32) → Int32 → Int32 → Int32 → Option (Int32 × Int32 × Int32 × Int32 × Int32 × Int32 × Int32 × Int32 × (Nat → Int32) × (Nat → Int32) × (Nat → Int32) × (Nat → Int32) × (Nat → Int32) × (Nat → Int32) × (Nat → Int32) × (Nat → Int32))) (v_side : Int32) (v_rights : Int32) (v_passed : Int32) (v_halves : Int32) (v_number : Int32) (v_top : Int32) (v_changed : Int32) (a_board : Nat → Int32) (a_before : Nat → Int32) (a_froms : Nat → Int32) (a_tos : Nat → Int32) (a_turns : Nat → Int32) (a_counts : Nat → Int32) (a_changedSquare : Nat → Int32) (a_changedMan : Nat → Int32) (x1 : Int32) (x2 : Int32) (x3 : Int32) : Option (Int32 × Int32 × Int32 × Int32 × Int32 × Int32 × Int32 × Int32 × (Nat → Int32) × (Nat → Int32) × (Nat → Int32) × (Nat → Int32) × (Nat → Int32) × (Nat → Int32) × (Nat → Int32) × (Nat → Int32)) := if (a_counts (Int32.toNatClampNeg 2)) ≤ x3 then m_X10_valueTwo_b77 v_side v_rights v_passed v_halves v_number v_top v_changed a_board a_before a_froms a_tos a_turns a_counts a_changedSquare a_changedMan x2 else if x1 = 1 then ob (m_X10_makeMove v_side v_rights v_passed v_halves v_number v_top v_changed a_board a_before a_froms a_tos a_turns a_changedSquare a_changedMan 2 x3) fun (v_side_4, v_rights_5, v_passed_6, v_halves_7, v_number_8, v_top_9, v_changed_10, a_board_11, a_before_12, a_changedSquare_13, a_changedMan_14) => ob (m_X10_valueOne v_side_4 v_rights_5 v_passed_6 v_halves_7 v_number_8 v_top_9 v_changed_10 a_board_11 a_before_12 a_froms a_tos a_turns a_counts a_changedSquare_13 a_changedMan_14 ) fun (r_17, v_side_18, v_rights_19, v_passed_20, v_halves_21, v_number_22, v_top_23, v_changed_24, a_board_25, a_before_26, a_froms_27, a_tos_28, a_turns_29, a_counts_30, a_changedSquare_31, a_changedMan_32) => ol (0 - r_17) fun x4_35 => ob (m_X10_pop v_side_18 v_rights_19 v_passed_20 v_halves_21 v_number_22 v_top_23 a_board_25 a_before_26 ) fun (v_side_36, v_rights_37, v_passed_38, v_halves_39, v_number_40, v_top_41, a_board_42) => if x4_35 ≤ x2 then m_X10_valueTwo_b70 k25 v_side_36 v_rights_37 v_passed_38 v_halves_39 v_number_40 v_top_41 v_changed_24 a_board_42 a_before_26 a_froms_27 a_tos_28 a_turns_29 a_counts_30 a_changedSquare_31 a_changedMan_32 x1 x3 x2 else m_X10_valueTwo_b70 k25 v_side_36 v_rights_37 v_passed_38 v_halves_39 v_number_40 v_top_41 v_changed_24 a_board_42 a_before_26 a_froms_27 a_tos_28 a_turns_29 a_counts_30 a_changedSquare_31 a_changedMan_32 x1 x3 x4_35 else m_X10_valueTwo_b77 v_side v_rights v_passed v_halves v_number v_top v_changed a_board a_before a_froms a_tos a_turns a_counts a_changedSquare a_changedMan x2
def m_X10_valueTwo_l25 (n : Nat) : Int32 → Int32 → Int32 → Int32 → Int32 → Int32 → Int32 → (Nat → Int32) → (Nat → Int32) → (Nat → Int32) → (Nat → Int32) → (Nat → Int32) → (Nat → Int32) → (Nat → Int32) → (Nat → Int32) → Int32 → Int32 → Int32 → Option (Int32 × Int32 × Int32 × Int32 × Int32 × Int32 × Int32 × Int32 × (Nat → Int32) × (Nat → Int32) × (Nat → Int32) × (Nat → Int32) × (Nat → Int32) × (Nat → Int32) × (Nat → Int32) × (Nat → Int32)) := fz (fun _ _ _ _ _ _ _ _ _ _ _ _ _ _ _ _ _ _ => none) (fun k25 v_side v_rights v_passed v_halves v_number v_top v_changed a_board a_before a_froms a_tos a_turns a_counts a_changedSquare a_changedMan x1 x2 x3 => m_X10_valueTwo_b25 k25 v_side v_rights v_passed v_halves v_number v_top v_changed a_board a_before a_froms a_tos a_turns a_counts a_changedSquare a_changedMan x1 x2 x3) n
def m_X10_valueTwo_b22 (v_side : Int32) (v_rights : Int32) (v_passed : Int32) (v_halves : Int32) (v_number : Int32) (v_top : Int32) (v_changed : Int32) (a_board : Nat → Int32) (a_before : Nat → Int32) (a_froms : Nat → Int32) (a_tos : Nat → Int32) (a_turns : Nat → Int32) (a_counts : Nat → Int32) (a_changedSquare : Nat → Int32) (a_changedMan : Nat → Int32) (x1 : Int32) (t0 : Int32) : Option (Int32 × Int32 × Int32 × Int32 × Int32 × Int32 × Int32 × Int32 × (Nat → Int32) × (Nat → Int32) × (Nat → Int32) × (Nat → Int32) × (Nat → Int32) × (Nat → Int32) × (Nat → Int32) × (Nat → Int32)) := m_X10_valueTwo_l25 kF v_side v_rights v_passed v_halves v_number v_top v_changed a_board a_before a_froms a_tos a_turns a_counts a_changedSquare a_changedMan x1 t0 0
def m_X10_valueTwo (v_side : Int32) (v_rights : Int32) (v_passed : Int32) (v_halves : Int32) (v_number : Int32) (v_top : Int32) (v_changed : Int32) (a_board : Nat → Int32) (a_before : Nat → Int32) (a_froms : Nat → Int32) (a_tos : Nat → Int32) (a_turns : Nat → Int32) (a_counts : Nat → Int32) (a_changedSquare : Nat → Int32) (a_changedMan : Nat → Int32) : Option (Int32 × Int32 × Int32 × Int32 × Int32 × Int32 × Int32 × Int32 × (Nat → Int32) × (Nat → Int32) × (Nat → Int32) × (Nat → Int32) × (Nat → Int32) × (Nat → Int32) × (Nat → Int32) × (Nat → Int32)) := ob (m_X10_find v_side v_rights v_passed v_changed a_board a_froms a_tos a_turns a_counts a_changedSquare a_changedMan 2) fun (v_changed_46, a_board_47, a_froms_48, a_tos_49, a_turns_50, a_counts_51, a_changedSquare_52, a_changedMan_53) => ob (m_X10_ended v_side v_halves a_board_47 a_counts_51 2) fun r_56 => if r_56 = 1 then m_X10_valueTwo_b22 v_side v_rights v_passed v_halves v_number v_top v_changed_46 a_board_47 a_before a_froms_48 a_tos_49 a_turns_50 a_counts_51 a_changedSquare_52 a_changedMan_53 r_56 (-100000) else m_X10_valueTwo_b22 v_side v_rights v_passed v_halves v_number v_top v_changed_46 a_board_47 a_before a_froms_48 a_tos_49 a_turns_50 a_counts_51 a_changedSquare_52 a_changedMan_53 r_56 r_56
abbrev rm_X10_valueTwo : Room := { frames := 10, cells := 0, slots := 0, locals := 248 }
abbrev wy_X10_valueTwo : List Cond := .code yX10_valueTwo cX10_valueTwo 5 (some .int) :: gT
theorem cv_X10_valueTwo {R : Room} {s : State} {args : Array Value} {own : String} {index : Nat} {w0 : Cond} (hts : ∀ w ∈ w0 :: gT, w.before args s = true) (hl : Cond.methodLink own index yX10_valueTwo ∈ gT) (hR : 10 + 1 ≤ R.frames ∧ 8 + (5 + 11) + 248 ≤ R.locals) : CallW R s args own RX10 index yX10_valueTwo cX10_valueTwo 5 (some .int) wy_X10_valueTwo rm_X10_valueTwo 0 0 0 :=
  cwV 0 hts (gT_call w0 (pre := [.methodLink own index yX10_valueTwo, .instanceMethod yX10_valueTwo, .selects RX10 yX10_valueTwo yX10_valueTwo, .initialized RX10]) (gT_lc hl (gT_lc ly_yX10_valueTwo (gT_lc lx_yX10_valueTwo (gT_l1 li_RX10)))) lc_yX10_valueTwo) rfl rfl rfl (by decide +kernel) hR
set_option maxRecDepth 100000 in
set_option maxHeartbeats 4000000 in
theorem c_X10_valueTwo (l : Launch) (D : va_G) (h0 : Nat) (q : Nat → Nat) (cI : ClassId) (v_code : Int32) (v_side : Int32) (v_rights : Int32) (v_passed : Int32) (v_halves : Int32) (v_number : Int32) (v_top : Int32) (v_typedCount : Int32) (v_readAt : Int32) (v_place : Int32) (v_writtenCount : Int32) (v_chosenFrom : Int32) (v_chosenTo : Int32) (v_chosenTurn : Int32) (v_changed : Int32) (v_readSide : Int32) (v_readRights : Int32) (v_readPassed : Int32) (v_readHalves : Int32) (v_readNumber : Int32) (a_board : Nat → Int32) (a_before : Nat → Int32) (a_typed : Nat → Int32) (a_written : Nat → Int32) (a_froms : Nat → Int32) (a_tos : Nat → Int32) (a_turns : Nat → Int32) (a_counts : Nat → Int32) (a_changedSquare : Nat → Int32) (a_changedMan : Nat → Int32) (a_readBoard : Nat → Int32) (rv : Int32) (v_side' : Int32) (v_rights' : Int32) (v_passed' : Int32) (v_halves' : Int32) (v_number' : Int32) (v_top' : Int32) (v_changed' : Int32) (a_board' : Nat → Int32) (a_before' : Nat → Int32) (a_froms' : Nat → Int32) (a_tos' : Nat → Int32) (a_turns' : Nat → Int32) (a_counts' : Nat → Int32) (a_changedSquare' : Nat → Int32) (a_changedMan' : Nat → Int32) (hm : m_X10_valueTwo v_side v_rights v_passed v_halves v_number v_top v_changed a_board a_before a_froms a_tos a_turns a_counts a_changedSquare a_changedMan = some (rv, v_side', v_rights', v_passed', v_halves', v_number', v_top', v_changed', a_board', a_before', a_froms', a_tos', a_turns', a_counts', a_changedSquare', a_changedMan')) : kDi l yX10_valueTwo wy_X10_valueTwo rm_X10_valueTwo D [(cI, .int)] rv (wM h0 q cI v_code v_side v_rights v_passed v_halves v_number v_top v_typedCount v_readAt v_place v_writtenCount v_chosenFrom v_chosenTo v_chosenTurn v_changed v_readSide v_readRights v_readPassed v_readHalves v_readNumber a_board a_before a_typed a_written a_froms a_tos a_turns a_counts a_changedSquare a_changedMan a_readBoard) (wM h0 q cI v_code v_side' v_rights' v_passed' v_halves' v_number' v_top' v_typedCount v_readAt v_place v_writtenCount v_chosenFrom v_chosenTo v_chosenTurn v_changed' v_readSide v_readRights v_readPassed v_readHalves v_readNumber a_board' a_before' a_typed a_written a_froms' a_tos' a_turns' a_counts' a_changedSquare' a_changedMan' a_readBoard) [.ref h0] := by
  refine kDi.of cX10_valueTwo 5 (some .int) (by decide) rfl (Or.inl rfl) (Nat.le_of_ble_eq_true rfl) ?_
  intro p e s m below meth c A Q C hret
  have hin10 : ∀ w ∈ wsX100, w ∈ wy_X10_valueTwo := fun w h => List.mem_cons_of_mem _ (inG10 w h)
  have j77 : ∀ (v_side : Int32) (v_rights : Int32) (v_passed : Int32) (v_halves : Int32) (v_number : Int32) (v_top : Int32) (v_changed : Int32) (a_board : Nat → Int32) (a_before : Nat → Int32) (a_froms : Nat → Int32) (a_tos : Nat → Int32) (a_turns : Nat → Int32) (a_counts : Nat → Int32) (a_changedSquare : Nat → Int32) (a_changedMan : Nat → Int32) (x2 : Int32), m_X10_valueTwo_b77  v_side v_rights v_passed v_halves v_number v_top v_changed a_board a_before a_froms a_tos a_turns a_counts a_changedSquare a_changedMan x2 = some (rv, v_side', v_rights', v_passed', v_halves', v_number', v_top', v_changed', a_board', a_before', a_froms', a_tos', a_turns', a_counts', a_changedSquare', a_changedMan') → kv p l e rm_X10_valueTwo s m ([.ref h0] : List Value).toArray below meth c D A 5 0 0 Q (wM h0 q cI v_code v_side v_rights v_passed v_halves v_number v_top v_typedCount v_readAt v_place v_writtenCount v_chosenFrom v_chosenTo v_chosenTurn v_changed v_readSide v_readRights v_readPassed v_readHalves v_readNumber a_board a_before a_typed a_written a_froms a_tos a_turns a_counts a_changedSquare a_changedMan a_readBoard) [(2, .int x2)] 77 [] := by
    intro v_side v_rights v_passed v_halves v_number v_top v_changed a_board a_before a_froms a_tos a_turns a_counts a_changedSquare a_changedMan x2 h
    unfold m_X10_valueTwo_b77 at h
    refine kv_iload_n C 0 dX10_valueTwo_77 rfl rfl ?_
    cases h
    exact hret _ _ dX10_valueTwo_78 (fun q => by cases q)
  have l25 : ∀ (n25 : Nat) (v_side : Int32) (v_rights : Int32) (v_passed : Int32) (v_halves : Int32) (v_number : Int32) (v_top : Int32) (v_changed : Int32) (a_board : Nat → Int32) (a_before : Nat → Int32) (a_froms : Nat → Int32) (a_tos : Nat → Int32) (a_turns : Nat → Int32) (a_counts : Nat → Int32) (a_changedSquare : Nat → Int32) (a_changedMan : Nat → Int32) (x1 : Int32) (x2 : Int32) (x3 : Int32), m_X10_valueTwo_l25   n25 v_side v_rights v_passed v_halves v_number v_top v_changed a_board a_before a_froms a_tos a_turns a_counts a_changedSquare a_changedMan x1 x2 x3 = some (rv, v_side', v_rights', v_passed', v_halves', v_number', v_top', v_changed', a_board', a_before', a_froms', a_tos', a_turns', a_counts', a_changedSquare', a_changedMan') → kv p l e rm_X10_valueTwo s m ([.ref h0] : List Value).toArray below meth c D A 5 0 0 Q (wM h0 q cI v_code v_side v_rights v_passed v_halves v_number v_top v_typedCount v_readAt v_place v_writtenCount v_chosenFrom v_chosenTo v_chosenTurn v_changed v_readSide v_readRights v_readPassed v_readHalves v_readNumber a_board a_before a_typed a_written a_froms a_tos a_turns a_counts a_changedSquare a_changedMan a_readBoard) [(0, .ref h0), (1, .int x1), (2, .int x2), (3, .int x3)] 25 [] := by
    intro n25
    induction n25 with
    | zero =>
      intro v_side v_rights v_passed v_halves v_number v_top v_changed a_board a_before a_froms a_tos a_turns a_counts a_changedSquare a_changedMan x1 x2 x3 h
      exact kv_no h
    | succ n25 ih25 =>
      have j70 : ∀ (v_side : Int32) (v_rights : Int32) (v_passed : Int32) (v_halves : Int32) (v_number : Int32) (v_top : Int32) (v_changed : Int32) (a_board : Nat → Int32) (a_before : Nat → Int32) (a_froms : Nat → Int32) (a_tos : Nat → Int32) (a_turns : Nat → Int32) (a_counts : Nat → Int32) (a_changedSquare : Nat → Int32) (a_changedMan : Nat → Int32) (x1 : Int32) (x3 : Int32) (t0 : Int32), m_X10_valueTwo_b70 (m_X10_valueTwo_l25   n25) v_side v_rights v_passed v_halves v_number v_top v_changed a_board a_before a_froms a_tos a_turns a_counts a_changedSquare a_changedMan x1 x3 t0 = some (rv, v_side', v_rights', v_passed', v_halves', v_number', v_top', v_changed', a_board', a_before', a_froms', a_tos', a_turns', a_counts', a_changedSquare', a_changedMan') → kv p l e rm_X10_valueTwo s m ([.ref h0] : List Value).toArray below meth c D A 5 0 0 Q (wM h0 q cI v_code v_side v_rights v_passed v_halves v_number v_top v_typedCount v_readAt v_place v_writtenCount v_chosenFrom v_chosenTo v_chosenTurn v_changed v_readSide v_readRights v_readPassed v_readHalves v_readNumber a_board a_before a_typed a_written a_froms a_tos a_turns a_counts a_changedSquare a_changedMan a_readBoard) [(0, .ref h0), (1, .int x1), (3, .int x3)] 70 [.int t0] := by
        intro v_side v_rights v_passed v_halves v_number v_top v_changed a_board a_before a_froms a_tos a_turns a_counts a_changedSquare a_changedMan x1 x3 t0 h
        unfold m_X10_valueTwo_b70 at h
        refine kv_istore_n C (lv2 := [(0, .ref h0), (1, .int x1), (2, .int t0), (3, .int x3)]) [1, 2, 0, 3] dX10_valueTwo_70 rfl (by decide) rfl rfl ?_
        obtain ⟨x3_1, ex3_1, h⟩ := ol_e h
        refine kv_iinc C (v := x3_1) (lv2 := [(0, .ref h0), (1, .int x1), (2, .int t0), (3, .int x3_1)]) 3 [1, 2, 3, 0] dX10_valueTwo_71 rfl ex3_1.symm (by decide) rfl rfl ?_
        refine kv_goto C 25 dX10_valueTwo_74 (by decide) ?_
        exact kv_lv [0, 1, 2, 3] (lv2 := [(0, .ref h0), (1, .int x1), (2, .int t0), (3, .int x3_1)]) rfl (ih25 v_side v_rights v_passed v_halves v_number v_top v_changed a_board a_before a_froms a_tos a_turns a_counts a_changedSquare a_changedMan x1 t0 x3_1 h)
      intro v_side v_rights v_passed v_halves v_number v_top v_changed a_board a_before a_froms a_tos a_turns a_counts a_changedSquare a_changedMan x1 x2 x3 h
      replace h : m_X10_valueTwo_b25  (m_X10_valueTwo_l25   n25) v_side v_rights v_passed v_halves v_number v_top v_changed a_board a_before a_froms a_tos a_turns a_counts a_changedSquare a_changedMan x1 x2 x3 = some (rv, v_side', v_rights', v_passed', v_halves', v_number', v_top', v_changed', a_board', a_before', a_froms', a_tos', a_turns', a_counts', a_changedSquare', a_changedMan') := h
      unfold m_X10_valueTwo_b25 at h
      refine kv_iload_n C 3 dX10_valueTwo_25 rfl rfl ?_
      refine kv_aload_n C 0 dX10_valueTwo_26 rfl rfl ?_
      refine kv_get C (Cn := RX10) (T := TX10) (N := 31) 0 18 hin10 rfl rfl (by decide) (C.ts _ (List.mem_cons_of_mem _ lf_RX10_39)) rfl rfl dX10_valueTwo_27 ?_
      refine kv_iconst C 2 dX10_valueTwo_30 (by decide) ?_
      refine kv_iald C 8 0 rfl rfl (by unfold vp_in; decide) dX10_valueTwo_31 ?_
      refine kv_icmp_ge C 77 dX10_valueTwo_32 (by decide) (fun c_2 => ?_) (fun c_2 => ?_)
      · have h := oi_t h c_2
        exact kv_lv [2] (lv2 := [(2, .int x2)]) rfl (j77 v_side v_rights v_passed v_halves v_number v_top v_changed a_board a_before a_froms a_tos a_turns a_counts a_changedSquare a_changedMan x2 h)
      · have h := oi_f h c_2
        refine kv_iload_n C 1 dX10_valueTwo_35 rfl rfl ?_
        refine kv_iconst C 1 dX10_valueTwo_36 (by decide) ?_
        refine kv_icmp_ne C 77 dX10_valueTwo_37 (by decide) (fun c_3 => ?_) (fun c_3 => ?_)
        · have h := oi_f h c_3
          exact kv_lv [2] (lv2 := [(2, .int x2)]) rfl (j77 v_side v_rights v_passed v_halves v_number v_top v_changed a_board a_before a_froms a_tos a_turns a_counts a_changedSquare a_changedMan x2 h)
        · have h := oi_t h c_3
          refine kv_aload_n C 0 dX10_valueTwo_40 rfl rfl ?_
          refine kv_iconst C 2 dX10_valueTwo_41 (by decide) ?_
          refine kv_iload_n C 3 dX10_valueTwo_42 rfl rfl ?_
          obtain ⟨⟨v_side_4, v_rights_5, v_passed_6, v_halves_7, v_number_8, v_top_9, v_changed_10, a_board_11, a_before_12, a_changedSquare_13, a_changedMan_14⟩, hm_15, h⟩ := ob_e h
          replace h : _ = _ := h
          refine kv_callWv C [.int 2, .int x3] 0 (c_X10_makeMove l D h0 q cI v_code v_side v_rights v_passed v_halves v_number v_top v_typedCount v_readAt v_place v_writtenCount v_chosenFrom v_chosenTo v_chosenTurn v_changed v_readSide v_readRights v_readPassed v_readHalves v_readNumber a_board a_before a_typed a_written a_froms a_tos a_turns a_counts a_changedSquare a_changedMan a_readBoard 2 x3 v_side_4 v_rights_5 v_passed_6 v_halves_7 v_number_8 v_top_9 v_changed_10 a_board_11 a_before_12 a_changedSquare_13 a_changedMan_14 hm_15) (cv_X10_makeMove C.ts lm_RX10_183 ⟨Nat.le_of_ble_eq_true rfl, Nat.le_of_ble_eq_true rfl⟩) rfl rfl rfl rfl (Nat.le_of_ble_eq_true rfl) dX10_valueTwo_43 ⟨Nat.zero_le _, Nat.zero_le _⟩ ?_
          refine kv_iconst C 0 dX10_valueTwo_46 (by decide) ?_
          refine kv_aload_n C 0 dX10_valueTwo_47 rfl rfl ?_
          obtain ⟨⟨r_17, v_side_18, v_rights_19, v_passed_20, v_halves_21, v_number_22, v_top_23, v_changed_24, a_board_25, a_before_26, a_froms_27, a_tos_28, a_turns_29, a_counts_30, a_changedSquare_31, a_changedMan_32⟩, hm_33, h⟩ := ob_e h
          replace h : _ = _ := h
          refine kv_callWi C [] 0 (c_X10_valueOne l D h0 q cI v_code v_side_4 v_rights_5 v_passed_6 v_halves_7 v_number_8 v_top_9 v_typedCount v_readAt v_place v_writtenCount v_chosenFrom v_chosenTo v_chosenTurn v_changed_10 v_readSide v_readRights v_readPassed v_readHalves v_readNumber a_board_11 a_before_12 a_typed a_written a_froms a_tos a_turns a_counts a_changedSquare_13 a_changedMan_14 a_readBoard  r_17 v_side_18 v_rights_19 v_passed_20 v_halves_21 v_number_22 v_top_23 v_changed_24 a_board_25 a_before_26 a_froms_27 a_tos_28 a_turns_29 a_counts_30 a_changedSquare_31 a_changedMan_32 hm_33) (cv_X10_valueOne C.ts lm_RX10_189 ⟨Nat.le_of_ble_eq_true rfl, Nat.le_of_ble_eq_true rfl⟩) rfl rfl rfl rfl (Nat.le_of_ble_eq_true rfl) dX10_valueTwo_48 ⟨Nat.zero_le _, Nat.zero_le _⟩ ?_
          refine kv_isub C dX10_valueTwo_51 ?_
          obtain ⟨x4_35, ex4_35, h⟩ := ol_e h
          refine kv_top ex4_35 ?_
          refine kv_istore C (lv2 := [(0, .ref h0), (1, .int x1), (2, .int x2), (3, .int x3), (4, .int x4_35)]) [1, 2, 3, 4, 0] dX10_valueTwo_52 (by decide) rfl rfl ?_
          refine kv_aload_n C 0 dX10_valueTwo_54 rfl rfl ?_
          obtain ⟨⟨v_side_36, v_rights_37, v_passed_38, v_halves_39, v_number_40, v_top_41, a_board_42⟩, hm_43, h⟩ := ob_e h
          replace h : _ = _ := h
          refine kv_callWv C [] 0 (c_X10_pop l D h0 q cI v_code v_side_18 v_rights_19 v_passed_20 v_halves_21 v_number_22 v_top_23 v_typedCount v_readAt v_place v_writtenCount v_chosenFrom v_chosenTo v_chosenTurn v_changed_24 v_readSide v_readRights v_readPassed v_readHalves v_readNumber a_board_25 a_before_26 a_typed a_written a_froms_27 a_tos_28 a_turns_29 a_counts_30 a_changedSquare_31 a_changedMan_32 a_readBoard  v_side_36 v_rights_37 v_passed_38 v_halves_39 v_number_40 v_top_41 a_board_42 hm_43) (cv_X10_pop C.ts lm_RX10_186 ⟨Nat.le_of_ble_eq_true rfl, Nat.le_of_ble_eq_true rfl⟩) rfl rfl rfl rfl (Nat.le_of_ble_eq_true rfl) dX10_valueTwo_55 ⟨Nat.zero_le _, Nat.zero_le _⟩ ?_
          refine kv_iload C 4 dX10_valueTwo_58 rfl ?_
          refine kv_iload_n C 2 dX10_valueTwo_60 rfl rfl ?_
          refine kv_icmp_le C 69 dX10_valueTwo_61 (by decide) (fun c_45 => ?_) (fun c_45 => ?_)
          · have h := oi_t h c_45
            refine kv_iload_n C 2 dX10_valueTwo_69 rfl rfl ?_
            exact kv_lv [0, 1, 3] (lv2 := [(0, .ref h0), (1, .int x1), (3, .int x3)]) rfl (j70 v_side_36 v_rights_37 v_passed_38 v_halves_39 v_number_40 v_top_41 v_changed_24 a_board_42 a_before_26 a_froms_27 a_tos_28 a_turns_29 a_counts_30 a_changedSquare_31 a_changedMan_32 x1 x3 x2 h)
          · have h := oi_f h c_45
            refine kv_iload C 4 dX10_valueTwo_64 rfl ?_
            refine kv_goto C 70 dX10_valueTwo_66 (by decide) ?_
            exact kv_lv [0, 1, 3] (lv2 := [(0, .ref h0), (1, .int x1), (3, .int x3)]) rfl (j70 v_side_36 v_rights_37 v_passed_38 v_halves_39 v_number_40 v_top_41 v_changed_24 a_board_42 a_before_26 a_froms_27 a_tos_28 a_turns_29 a_counts_30 a_changedSquare_31 a_changedMan_32 x1 x3 x4_35 h)
  have j22 : ∀ (v_side : Int32) (v_rights : Int32) (v_passed : Int32) (v_halves : Int32) (v_number : Int32) (v_top : Int32) (v_changed : Int32) (a_board : Nat → Int32) (a_before : Nat → Int32) (a_froms : Nat → Int32) (a_tos : Nat → Int32) (a_turns : Nat → Int32) (a_counts : Nat → Int32) (a_changedSquare : Nat → Int32) (a_changedMan : Nat → Int32) (x1 : Int32) (t0 : Int32), m_X10_valueTwo_b22  v_side v_rights v_passed v_halves v_number v_top v_changed a_board a_before a_froms a_tos a_turns a_counts a_changedSquare a_changedMan x1 t0 = some (rv, v_side', v_rights', v_passed', v_halves', v_number', v_top', v_changed', a_board', a_before', a_froms', a_tos', a_turns', a_counts', a_changedSquare', a_changedMan') → kv p l e rm_X10_valueTwo s m ([.ref h0] : List Value).toArray below meth c D A 5 0 0 Q (wM h0 q cI v_code v_side v_rights v_passed v_halves v_number v_top v_typedCount v_readAt v_place v_writtenCount v_chosenFrom v_chosenTo v_chosenTurn v_changed v_readSide v_readRights v_readPassed v_readHalves v_readNumber a_board a_before a_typed a_written a_froms a_tos a_turns a_counts a_changedSquare a_changedMan a_readBoard) [(0, .ref h0), (1, .int x1)] 22 [.int t0] := by
    intro v_side v_rights v_passed v_halves v_number v_top v_changed a_board a_before a_froms a_tos a_turns a_counts a_changedSquare a_changedMan x1 t0 h
    unfold m_X10_valueTwo_b22 at h
    refine kv_istore_n C (lv2 := [(0, .ref h0), (1, .int x1), (2, .int t0)]) [1, 2, 0] dX10_valueTwo_22 rfl (by decide) rfl rfl ?_
    refine kv_iconst C 0 dX10_valueTwo_23 (by decide) ?_
    refine kv_istore_n C (lv2 := [(0, .ref h0), (1, .int x1), (2, .int t0), (3, .int 0)]) [1, 2, 3, 0] dX10_valueTwo_24 rfl (by decide) rfl rfl ?_
    exact kv_lv [0, 1, 2, 3] (lv2 := [(0, .ref h0), (1, .int x1), (2, .int t0), (3, .int 0)]) rfl (l25 kF v_side v_rights v_passed v_halves v_number v_top v_changed a_board a_before a_froms a_tos a_turns a_counts a_changedSquare a_changedMan x1 t0 0 h)
  unfold m_X10_valueTwo at hm
  have h := hm
  refine kv_lv [0] (lv2 := [(0, .ref h0)]) rfl ?_
  refine kv_aload_n C 0 dX10_valueTwo_0 rfl rfl ?_
  refine kv_iconst C 2 dX10_valueTwo_1 (by decide) ?_
  obtain ⟨⟨v_changed_46, a_board_47, a_froms_48, a_tos_49, a_turns_50, a_counts_51, a_changedSquare_52, a_changedMan_53⟩, hm_54, h⟩ := ob_e h
  replace h : _ = _ := h
  refine kv_callWv C [.int 2] 0 (c_X10_find l D h0 q cI v_code v_side v_rights v_passed v_halves v_number v_top v_typedCount v_readAt v_place v_writtenCount v_chosenFrom v_chosenTo v_chosenTurn v_changed v_readSide v_readRights v_readPassed v_readHalves v_readNumber a_board a_before a_typed a_written a_froms a_tos a_turns a_counts a_changedSquare a_changedMan a_readBoard 2 v_changed_46 a_board_47 a_froms_48 a_tos_49 a_turns_50 a_counts_51 a_changedSquare_52 a_changedMan_53 hm_54) (cv_X10_find C.ts lm_RX10_158 ⟨Nat.le_of_ble_eq_true rfl, Nat.le_of_ble_eq_true rfl⟩) rfl rfl rfl rfl (Nat.le_of_ble_eq_true rfl) dX10_valueTwo_2 ⟨Nat.zero_le _, Nat.zero_le _⟩ ?_
  refine kv_aload_n C 0 dX10_valueTwo_5 rfl rfl ?_
  refine kv_iconst C 2 dX10_valueTwo_6 (by decide) ?_
  obtain ⟨r_56, hm_57, h⟩ := ob_e h
  refine kv_callWi C [.int 2] 0 (c_X10_ended l D h0 q cI v_code v_side v_rights v_passed v_halves v_number v_top v_typedCount v_readAt v_place v_writtenCount v_chosenFrom v_chosenTo v_chosenTurn v_changed_46 v_readSide v_readRights v_readPassed v_readHalves v_readNumber a_board_47 a_before a_typed a_written a_froms_48 a_tos_49 a_turns_50 a_counts_51 a_changedSquare_52 a_changedMan_53 a_readBoard 2 r_56 hm_57) (cv_X10_ended C.ts lm_RX10_179 ⟨Nat.le_of_ble_eq_true rfl, Nat.le_of_ble_eq_true rfl⟩) rfl rfl rfl rfl (Nat.le_of_ble_eq_true rfl) dX10_valueTwo_7 ⟨Nat.zero_le _, Nat.zero_le _⟩ ?_
  refine kv_istore_n C (lv2 := [(0, .ref h0), (1, .int r_56)]) [1, 0] dX10_valueTwo_10 rfl (by decide) rfl rfl ?_
  refine kv_iload_n C 1 dX10_valueTwo_11 rfl rfl ?_
  refine kv_iconst C 1 dX10_valueTwo_12 (by decide) ?_
  refine kv_icmp_ne C 21 dX10_valueTwo_13 (by decide) (fun c_58 => ?_) (fun c_58 => ?_)
  · have h := oi_f h c_58
    refine kv_iload_n C 1 dX10_valueTwo_21 rfl rfl ?_
    exact kv_lv [0, 1] (lv2 := [(0, .ref h0), (1, .int r_56)]) rfl (j22 v_side v_rights v_passed v_halves v_number v_top v_changed_46 a_board_47 a_before a_froms_48 a_tos_49 a_turns_50 a_counts_51 a_changedSquare_52 a_changedMan_53 r_56 r_56 h)
  · have h := oi_t h c_58
    refine kv_ldc C (C.ts _ (List.mem_cons_of_mem _ lk_RX10_182)) dX10_valueTwo_16 ?_
    refine kv_goto C 22 dX10_valueTwo_18 (by decide) ?_
    exact kv_lv [0, 1] (lv2 := [(0, .ref h0), (1, .int r_56)]) rfl (j22 v_side v_rights v_passed v_halves v_number v_top v_changed_46 a_board_47 a_before a_froms_48 a_tos_49 a_turns_50 a_counts_51 a_changedSquare_52 a_changedMan_53 r_56 (-100000) h)
def m_X10_behind_b34 (v_side : Int32) (v_rights : Int32) (v_passed : Int32) (v_halves : Int32) (v_number : Int32) (v_top : Int32) (v_changed : Int32) (a_board : Nat → Int32) (a_before : Nat → Int32) (a_froms : Nat → Int32) (a_tos : Nat → Int32) (a_turns : Nat → Int32) (a_counts : Nat → Int32) (a_changedSquare : Nat → Int32) (a_changedMan : Nat → Int32) (t0 : Int32) : Option (Int32 × Int32 × Int32 × Int32 × Int32 × Int32 × Int32 × Int32 × (Nat → Int32) × (Nat → Int32) × (Nat → Int32) × (Nat → Int32) × (Nat → Int32) × (Nat → Int32) × (Nat → Int32) × (Nat → Int32)) := ob (m_X10_pop v_side v_rights v_passed v_halves v_number v_top a_board a_before ) fun (v_side_1, v_rights_2, v_passed_3, v_halves_4, v_number_5, v_top_6, a_board_7) => some (t0, v_side_1, v_rights_2, v_passed_3, v_halves_4, v_number_5, v_top_6, v_changed, a_board_7, a_before, a_froms, a_tos, a_turns, a_counts, a_changedSquare, a_changedMan)
def m_X10_behind (v_side : Int32) (v_rights : Int32) (v_passed : Int32) (v_halves : Int32) (v_number : Int32) (v_top : Int32) (v_changed : Int32) (a_board : Nat → Int32) (a_before : Nat → Int32) (a_froms : Nat → Int32) (a_tos : Nat → Int32) (a_turns : Nat → Int32) (a_counts : Nat → Int32) (a_changedSquare : Nat → Int32) (a_changedMan : Nat → Int32) (p0 : Int32) (p1 : Int32) : Option (Int32 × Int32 × Int32 × Int32 × Int32 × Int32 × Int32 × Int32 × (Nat → Int32) × (Nat → Int32) × (Nat → Int32) × (Nat → Int32) × (Nat → Int32) × (Nat → Int32) × (Nat → Int32) × (Nat → Int32)) := ob (m_X10_makeMove v_side v_rights v_passed v_halves v_number v_top v_changed a_board a_before a_froms a_tos a_turns a_changedSquare a_changedMan p0 p1) fun (v_side_10, v_rights_11, v_passed_12, v_halves_13, v_number_14, v_top_15, v_changed_16, a_board_17, a_before_18, a_changedSquare_19, a_changedMan_20) => if p0 = 1 then ob (m_X10_worthNow v_side_10 a_board_17 ) fun r_61 => m_X10_behind_b34 v_side_10 v_rights_11 v_passed_12 v_halves_13 v_number_14 v_top_15 v_changed_16 a_board_17 a_before_18 a_froms a_tos a_turns a_counts a_changedSquare_19 a_changedMan_20 r_61 else if p0 = 2 then ob (m_X10_valueOne v_side_10 v_rights_11 v_passed_12 v_halves_13 v_number_14 v_top_15 v_changed_16 a_board_17 a_before_18 a_froms a_tos a_turns a_counts a_changedSquare_19 a_changedMan_20 ) fun (r_43, v_side_44, v_rights_45, v_passed_46, v_halves_47, v_number_48, v_top_49, v_changed_50, a_board_51, a_before_52, a_froms_53, a_tos_54, a_turns_55, a_counts_56, a_changedSquare_57, a_changedMan_58) => m_X10_behind_b34 v_side_44 v_rights_45 v_passed_46 v_halves_47 v_number_48 v_top_49 v_changed_50 a_board_51 a_before_52 a_froms_53 a_tos_54 a_turns_55 a_counts_56 a_changedSquare_57 a_changedMan_58 r_43 else ob (m_X10_valueTwo v_side_10 v_rights_11 v_passed_12 v_halves_13 v_number_14 v_top_15 v_changed_16 a_board_17 a_before_18 a_froms a_tos a_turns a_counts a_changedSquare_19 a_changedMan_20 ) fun (r_25, v_side_26, v_rights_27, v_passed_28, v_halves_29, v_number_30, v_top_31, v_changed_32, a_board_33, a_before_34, a_froms_35, a_tos_36, a_turns_37, a_counts_38, a_changedSquare_39, a_changedMan_40) => m_X10_behind_b34 v_side_26 v_rights_27 v_passed_28 v_halves_29 v_number_30 v_top_31 v_changed_32 a_board_33 a_before_34 a_froms_35 a_tos_36 a_turns_37 a_counts_38 a_changedSquare_39 a_changedMan_40 r_25
abbrev rm_X10_behind : Room := { frames := 11, cells := 0, slots := 0, locals := 272 }
abbrev wy_X10_behind : List Cond := .code yX10_behind cX10_behind 4 (some .int) :: gT
theorem cv_X10_behind {R : Room} {s : State} {args : Array Value} {own : String} {index : Nat} {w0 : Cond} (hts : ∀ w ∈ w0 :: gT, w.before args s = true) (hl : Cond.methodLink own index yX10_behind ∈ gT) (hR : 11 + 1 ≤ R.frames ∧ 8 + (4 + 11) + 272 ≤ R.locals) : CallW R s args own RX10 index yX10_behind cX10_behind 4 (some .int) wy_X10_behind rm_X10_behind 0 0 2 :=
  cwV 2 hts (gT_call w0 (pre := [.methodLink own index yX10_behind, .instanceMethod yX10_behind, .selects RX10 yX10_behind yX10_behind, .initialized RX10]) (gT_lc hl (gT_lc ly_yX10_behind (gT_lc lx_yX10_behind (gT_l1 li_RX10)))) lc_yX10_behind) rfl rfl rfl (by decide +kernel) hR
set_option maxRecDepth 100000 in
set_option maxHeartbeats 4000000 in
theorem c_X10_behind (l : Launch) (D : va_G) (h0 : Nat) (q : Nat → Nat) (cI : ClassId) (v_code : Int32) (v_side : Int32) (v_rights : Int32) (v_passed : Int32) (v_halves : Int32) (v_number : Int32) (v_top : Int32) (v_typedCount : Int32) (v_readAt : Int32) (v_place : Int32) (v_writtenCount : Int32) (v_chosenFrom : Int32) (v_chosenTo : Int32) (v_chosenTurn : Int32) (v_changed : Int32) (v_readSide : Int32) (v_readRights : Int32) (v_readPassed : Int32) (v_readHalves : Int32) (v_readNumber : Int32) (a_board : Nat → Int32) (a_before : Nat → Int32) (a_typed : Nat → Int32) (a_written : Nat → Int32) (a_froms : Nat → Int32) (a_tos : Nat → Int32) (a_turns : Nat → Int32) (a_counts : Nat → Int32) (a_changedSquare : Nat → Int32) (a_changedMan : Nat → Int32) (a_readBoard : Nat → Int32) (p0 : Int32) (p1 : Int32) (rv : Int32) (v_side' : Int32) (v_rights' : Int32) (v_passed' : Int32) (v_halves' : Int32) (v_number' : Int32) (v_top' : Int32) (v_changed' : Int32) (a_board' : Nat → Int32) (a_before' : Nat → Int32) (a_froms' : Nat → Int32) (a_tos' : Nat → Int32) (a_turns' : Nat → Int32) (a_counts' : Nat → Int32) (a_changedSquare' : Nat → Int32) (a_changedMan' : Nat → Int32) (hm : m_X10_behind v_side v_rights v_passed v_halves v_number v_top v_changed a_board a_before a_froms a_tos a_turns a_counts a_changedSquare a_changedMan p0 p1 = some (rv, v_side', v_rights', v_passed', v_halves', v_number', v_top', v_changed', a_board', a_before', a_froms', a_tos', a_turns', a_counts', a_changedSquare', a_changedMan')) : kDi l yX10_behind wy_X10_behind rm_X10_behind D [(cI, .int)] rv (wM h0 q cI v_code v_side v_rights v_passed v_halves v_number v_top v_typedCount v_readAt v_place v_writtenCount v_chosenFrom v_chosenTo v_chosenTurn v_changed v_readSide v_readRights v_readPassed v_readHalves v_readNumber a_board a_before a_typed a_written a_froms a_tos a_turns a_counts a_changedSquare a_changedMan a_readBoard) (wM h0 q cI v_code v_side' v_rights' v_passed' v_halves' v_number' v_top' v_typedCount v_readAt v_place v_writtenCount v_chosenFrom v_chosenTo v_chosenTurn v_changed' v_readSide v_readRights v_readPassed v_readHalves v_readNumber a_board' a_before' a_typed a_written a_froms' a_tos' a_turns' a_counts' a_changedSquare' a_changedMan' a_readBoard) [.ref h0, .int p0, .int p1] := by
  refine kDi.of cX10_behind 4 (some .int) (by decide) rfl (Or.inl rfl) (Nat.le_of_ble_eq_true rfl) ?_
  intro p e s m below meth c A Q C hret
  have hin10 : ∀ w ∈ wsX100, w ∈ wy_X10_behind := fun w h => List.mem_cons_of_mem _ (inG10 w h)
  have j34 : ∀ (v_side : Int32) (v_rights : Int32) (v_passed : Int32) (v_halves : Int32) (v_number : Int32) (v_top : Int32) (v_changed : Int32) (a_board : Nat → Int32) (a_before : Nat → Int32) (a_froms : Nat → Int32) (a_tos : Nat → Int32) (a_turns : Nat → Int32) (a_counts : Nat → Int32) (a_changedSquare : Nat → Int32) (a_changedMan : Nat → Int32) (t0 : Int32), m_X10_behind_b34  v_side v_rights v_passed v_halves v_number v_top v_changed a_board a_before a_froms a_tos a_turns a_counts a_changedSquare a_changedMan t0 = some (rv, v_side', v_rights', v_passed', v_halves', v_number', v_top', v_changed', a_board', a_before', a_froms', a_tos', a_turns', a_counts', a_changedSquare', a_changedMan') → kv p l e rm_X10_behind s m ([.ref h0, .int p0, .int p1] : List Value).toArray below meth c D A 4 0 0 Q (wM h0 q cI v_code v_side v_rights v_passed v_halves v_number v_top v_typedCount v_readAt v_place v_writtenCount v_chosenFrom v_chosenTo v_chosenTurn v_changed v_readSide v_readRights v_readPassed v_readHalves v_readNumber a_board a_before a_typed a_written a_froms a_tos a_turns a_counts a_changedSquare a_changedMan a_readBoard) [(0, .ref h0)] 34 [.int t0] := by
    intro v_side v_rights v_passed v_halves v_number v_top v_changed a_board a_before a_froms a_tos a_turns a_counts a_changedSquare a_changedMan t0 h
    unfold m_X10_behind_b34 at h
    refine kv_istore_n C (lv2 := [(0, .ref h0), (3, .int t0)]) [1, 0] dX10_behind_34 rfl (by decide) rfl rfl ?_
    refine kv_aload_n C 0 dX10_behind_35 rfl rfl ?_
    obtain ⟨⟨v_side_1, v_rights_2, v_passed_3, v_halves_4, v_number_5, v_top_6, a_board_7⟩, hm_8, h⟩ := ob_e h
    replace h : _ = _ := h
    refine kv_callWv C [] 0 (c_X10_pop l D h0 q cI v_code v_side v_rights v_passed v_halves v_number v_top v_typedCount v_readAt v_place v_writtenCount v_chosenFrom v_chosenTo v_chosenTurn v_changed v_readSide v_readRights v_readPassed v_readHalves v_readNumber a_board a_before a_typed a_written a_froms a_tos a_turns a_counts a_changedSquare a_changedMan a_readBoard  v_side_1 v_rights_2 v_passed_3 v_halves_4 v_number_5 v_top_6 a_board_7 hm_8) (cv_X10_pop C.ts lm_RX10_186 ⟨Nat.le_of_ble_eq_true rfl, Nat.le_of_ble_eq_true rfl⟩) rfl rfl rfl rfl (Nat.le_of_ble_eq_true rfl) dX10_behind_36 ⟨Nat.zero_le _, Nat.zero_le _⟩ ?_
    refine kv_iload_n C 1 dX10_behind_39 rfl rfl ?_
    cases h
    exact hret _ _ dX10_behind_40 (fun q => by cases q)
  unfold m_X10_behind at hm
  have h := hm
  refine kv_lv [0, 1, 2] (lv2 := [(0, .ref h0), (1, .int p0), (2, .int p1)]) rfl ?_
  refine kv_aload_n C 0 dX10_behind_0 rfl rfl ?_
  refine kv_iload_n C 1 dX10_behind_1 rfl rfl ?_
  refine kv_iload_n C 2 dX10_behind_2 rfl rfl ?_
  obtain ⟨⟨v_side_10, v_rights_11, v_passed_12, v_halves_13, v_number_14, v_top_15, v_changed_16, a_board_17, a_before_18, a_changedSquare_19, a_changedMan_20⟩, hm_21, h⟩ := ob_e h
  replace h : _ = _ := h
  refine kv_callWv C [.int p0, .int p1] 0 (c_X10_makeMove l D h0 q cI v_code v_side v_rights v_passed v_halves v_number v_top v_typedCount v_readAt v_place v_writtenCount v_chosenFrom v_chosenTo v_chosenTurn v_changed v_readSide v_readRights v_readPassed v_readHalves v_readNumber a_board a_before a_typed a_written a_froms a_tos a_turns a_counts a_changedSquare a_changedMan a_readBoard p0 p1 v_side_10 v_rights_11 v_passed_12 v_halves_13 v_number_14 v_top_15 v_changed_16 a_board_17 a_before_18 a_changedSquare_19 a_changedMan_20 hm_21) (cv_X10_makeMove C.ts lm_RX10_183 ⟨Nat.le_of_ble_eq_true rfl, Nat.le_of_ble_eq_true rfl⟩) rfl rfl rfl rfl (Nat.le_of_ble_eq_true rfl) dX10_behind_3 ⟨Nat.zero_le _, Nat.zero_le _⟩ ?_
  refine kv_iload_n C 1 dX10_behind_6 rfl rfl ?_
  refine kv_iconst C 1 dX10_behind_7 (by decide) ?_
  refine kv_icmp_ne C 18 dX10_behind_8 (by decide) (fun c_23 => ?_) (fun c_23 => ?_)
  · have h := oi_f h c_23
    refine kv_iload_n C 1 dX10_behind_18 rfl rfl ?_
    refine kv_iconst C 2 dX10_behind_19 (by decide) ?_
    refine kv_icmp_ne C 30 dX10_behind_20 (by decide) (fun c_24 => ?_) (fun c_24 => ?_)
    · have h := oi_f h c_24
      refine kv_aload_n C 0 dX10_behind_30 rfl rfl ?_
      obtain ⟨⟨r_25, v_side_26, v_rights_27, v_passed_28, v_halves_29, v_number_30, v_top_31, v_changed_32, a_board_33, a_before_34, a_froms_35, a_tos_36, a_turns_37, a_counts_38, a_changedSquare_39, a_changedMan_40⟩, hm_41, h⟩ := ob_e h
      replace h : _ = _ := h
      refine kv_callWi C [] 0 (c_X10_valueTwo l D h0 q cI v_code v_side_10 v_rights_11 v_passed_12 v_halves_13 v_number_14 v_top_15 v_typedCount v_readAt v_place v_writtenCount v_chosenFrom v_chosenTo v_chosenTurn v_changed_16 v_readSide v_readRights v_readPassed v_readHalves v_readNumber a_board_17 a_before_18 a_typed a_written a_froms a_tos a_turns a_counts a_changedSquare_19 a_changedMan_20 a_readBoard  r_25 v_side_26 v_rights_27 v_passed_28 v_halves_29 v_number_30 v_top_31 v_changed_32 a_board_33 a_before_34 a_froms_35 a_tos_36 a_turns_37 a_counts_38 a_changedSquare_39 a_changedMan_40 hm_41) (cv_X10_valueTwo C.ts lm_RX10_192 ⟨Nat.le_of_ble_eq_true rfl, Nat.le_of_ble_eq_true rfl⟩) rfl rfl rfl rfl (Nat.le_of_ble_eq_true rfl) dX10_behind_31 ⟨Nat.zero_le _, Nat.zero_le _⟩ ?_
      exact kv_lv [0] (lv2 := [(0, .ref h0)]) rfl (j34 v_side_26 v_rights_27 v_passed_28 v_halves_29 v_number_30 v_top_31 v_changed_32 a_board_33 a_before_34 a_froms_35 a_tos_36 a_turns_37 a_counts_38 a_changedSquare_39 a_changedMan_40 r_25 h)
    · have h := oi_t h c_24
      refine kv_aload_n C 0 dX10_behind_23 rfl rfl ?_
      obtain ⟨⟨r_43, v_side_44, v_rights_45, v_passed_46, v_halves_47, v_number_48, v_top_49, v_changed_50, a_board_51, a_before_52, a_froms_53, a_tos_54, a_turns_55, a_counts_56, a_changedSquare_57, a_changedMan_58⟩, hm_59, h⟩ := ob_e h
      replace h : _ = _ := h
      refine kv_callWi C [] 0 (c_X10_valueOne l D h0 q cI v_code v_side_10 v_rights_11 v_passed_12 v_halves_13 v_number_14 v_top_15 v_typedCount v_readAt v_place v_writtenCount v_chosenFrom v_chosenTo v_chosenTurn v_changed_16 v_readSide v_readRights v_readPassed v_readHalves v_readNumber a_board_17 a_before_18 a_typed a_written a_froms a_tos a_turns a_counts a_changedSquare_19 a_changedMan_20 a_readBoard  r_43 v_side_44 v_rights_45 v_passed_46 v_halves_47 v_number_48 v_top_49 v_changed_50 a_board_51 a_before_52 a_froms_53 a_tos_54 a_turns_55 a_counts_56 a_changedSquare_57 a_changedMan_58 hm_59) (cv_X10_valueOne C.ts lm_RX10_189 ⟨Nat.le_of_ble_eq_true rfl, Nat.le_of_ble_eq_true rfl⟩) rfl rfl rfl rfl (Nat.le_of_ble_eq_true rfl) dX10_behind_24 ⟨Nat.zero_le _, Nat.zero_le _⟩ ?_
      refine kv_goto C 34 dX10_behind_27 (by decide) ?_
      exact kv_lv [0] (lv2 := [(0, .ref h0)]) rfl (j34 v_side_44 v_rights_45 v_passed_46 v_halves_47 v_number_48 v_top_49 v_changed_50 a_board_51 a_before_52 a_froms_53 a_tos_54 a_turns_55 a_counts_56 a_changedSquare_57 a_changedMan_58 r_43 h)
  · have h := oi_t h c_23
    refine kv_aload_n C 0 dX10_behind_11 rfl rfl ?_
    obtain ⟨r_61, hm_62, h⟩ := ob_e h
    refine kv_callWi C [] 0 (c_X10_worthNow l D h0 q cI v_code v_side_10 v_rights_11 v_passed_12 v_halves_13 v_number_14 v_top_15 v_typedCount v_readAt v_place v_writtenCount v_chosenFrom v_chosenTo v_chosenTurn v_changed_16 v_readSide v_readRights v_readPassed v_readHalves v_readNumber a_board_17 a_before_18 a_typed a_written a_froms a_tos a_turns a_counts a_changedSquare_19 a_changedMan_20 a_readBoard  r_61 hm_62) (cv_X10_worthNow C.ts lm_RX10_172 ⟨Nat.le_of_ble_eq_true rfl, Nat.le_of_ble_eq_true rfl⟩) rfl rfl rfl rfl (Nat.le_of_ble_eq_true rfl) dX10_behind_12 ⟨Nat.zero_le _, Nat.zero_le _⟩ ?_
    refine kv_goto C 34 dX10_behind_15 (by decide) ?_
    exact kv_lv [0] (lv2 := [(0, .ref h0)]) rfl (j34 v_side_10 v_rights_11 v_passed_12 v_halves_13 v_number_14 v_top_15 v_changed_16 a_board_17 a_before_18 a_froms a_tos a_turns a_counts a_changedSquare_19 a_changedMan_20 r_61 h)
def m_X10_search_b152 (v_code : Int32) (v_side : Int32) (v_rights : Int32) (v_passed : Int32) (v_halves : Int32) (v_number : Int32) (v_top : Int32) (v_chosenFrom : Int32) (v_chosenTo : Int32) (v_chosenTurn : Int32) (v_changed : Int32) (a_board : Nat → Int32) (a_before : Nat → Int32) (a_froms : Nat → Int32) (a_tos : Nat → Int32) (a_turns : Nat → Int32) (a_counts : Nat → Int32) (a_changedSquare : Nat → Int32) (a_changedMan : Nat → Int32) (t0 : Int32) : Option (Int32 × Int32 × Int32 × Int32 × Int32 × Int32 × Int32 × Int32 × Int32 × Int32 × Int32 × Int32 × (Nat → Int32) × (Nat → Int32) × (Nat → Int32) × (Nat → Int32) × (Nat → Int32) × (Nat → Int32) × (Nat → Int32) × (Nat → Int32)) := some (t0, v_code, v_side, v_rights, v_passed, v_halves, v_number, v_top, v_chosenFrom, v_chosenTo, v_chosenTurn, v_changed, a_board, a_before, a_froms, a_tos, a_turns, a_counts, a_changedSquare, a_changedMan)
def m_X10_search_b128 (k53 : Int32 → Int32 → Int32 → Int32 → Int32 → Int32 → Int32 → Int32 → Int32 → Int32 → Int32 → (Nat → Int32) → (Nat → Int32) → (Nat → Int32) → (Nat → Int32) → (Nat → Int32) → (Nat → Int32) → (Nat → Int32) → (Nat → Int32) → Int32 → Int32 → Int32 → Option (Int32 × Int32 × Int32 × Int32 × Int32 × Int32 × Int32 × Int32 × Int32 × Int32 × Int32 × Int32 × (Nat → Int32) × (Nat → Int32) × (Nat → Int32) × (Nat → Int32) × (Nat → Int32) × (Nat → Int32) × (Nat → Int32) × (Nat → Int32))) (v_code : Int32) (v_side : Int32) (v_rights : Int32) (v_passed : Int32) (v_halves : Int32) (v_number : Int32) (v_top : Int32) (v_chosenFrom : Int32) (v_chosenTo : Int32) (v_chosenTurn : Int32) (v_changed : Int32) (a_board : Nat → Int32) (a_before : Nat → Int32) (a_froms : Nat → Int32) (a_tos : Nat → Int32) (a_turns : Nat → Int32) (a_counts : Nat → Int32) (a_changedSquare : Nat → Int32) (a_changedMan : Nat → Int32) (x1 : Int32) (x2 : Int32) (x3 : Int32) : Option (Int32 × Int32 × Int32 × Int32 × Int32 × Int32 × Int32 × Int32 × Int32 × Int32 × Int32 × Int32 × (Nat → Int32) × (Nat → Int32) × (Nat → Int32) × (Nat → Int32) × (Nat → Int32) × (Nat → Int32) × (Nat → Int32) × (Nat → Int32)) := ol (x3 + 1) fun x3_1 => k53 v_code v_side v_rights v_passed v_halves v_number v_top v_chosenFrom v_chosenTo v_chosenTurn v_changed a_board a_before a_froms a_tos a_turns a_counts a_changedSquare a_changedMan x1 x2 x3_1
def m_X10_search_b53 (k53 : Int32 → Int32 → Int32 → Int32 → Int32 → Int32 → Int32 → Int32 → Int32 → Int32 → Int32 → (Nat → Int32) → (Nat → Int32) → (Nat → Int32) → (Nat → Int32) → (Nat → Int32) → (Nat → Int32) → (Nat → Int32) → (Nat → Int32) → Int32 → Int32 → Int32 → Option (Int32 × Int32 × Int32 × Int32 × Int32 × Int32 × Int32 × Int32 × Int32 × Int32 × Int32 × Int32 × (Nat → Int32) × (Nat → Int32) × (Nat → Int32) × (Nat → Int32) × (Nat → Int32) × (Nat → Int32) × (Nat → Int32) × (Nat → Int32))) (v_code : Int32) (v_side : Int32) (v_rights : Int32) (v_passed : Int32) (v_halves : Int32) (v_number : Int32) (v_top : Int32) (v_chosenFrom : Int32) (v_chosenTo : Int32) (v_chosenTurn : Int32) (v_changed : Int32) (a_board : Nat → Int32) (a_before : Nat → Int32) (a_froms : Nat → Int32) (a_tos : Nat → Int32) (a_turns : Nat → Int32) (a_counts : Nat → Int32) (a_changedSquare : Nat → Int32) (a_changedMan : Nat → Int32) (x1 : Int32) (x2 : Int32) (x3 : Int32) : Option (Int32 × Int32 × Int32 × Int32 × Int32 × Int32 × Int32 × Int32 × Int32 × Int32 × Int32 × Int32 × (Nat → Int32) × (Nat → Int32) × (Nat → Int32) × (Nat → Int32) × (Nat → Int32) × (Nat → Int32) × (Nat → Int32) × (Nat → Int32)) := oin (x1) 5 (if (a_counts x1.toNatClampNeg) ≤ x3 then ob (m_X10_ended v_side v_halves a_board a_counts x1) fun r_4 => if r_4 = 1 then m_X10_search_b152 v_code v_side v_rights v_passed v_halves v_number v_top v_chosenFrom v_chosenTo v_chosenTurn v_changed a_board a_before a_froms a_tos a_turns a_counts a_changedSquare a_changedMan (0 - x2) else m_X10_search_b152 v_code v_side v_rights v_passed v_halves v_number v_top v_chosenFrom v_chosenTo v_chosenTurn v_changed a_board a_before a_froms a_tos a_turns a_counts a_changedSquare a_changedMan r_4 else ob (m_X10_behind v_side v_rights v_passed v_halves v_number v_top v_changed a_board a_before a_froms a_tos a_turns a_counts a_changedSquare a_changedMan x1 x3) fun (r_7, v_side_8, v_rights_9, v_passed_10, v_halves_11, v_number_12, v_top_13, v_changed_14, a_board_15, a_before_16, a_froms_17, a_tos_18, a_turns_19, a_counts_20, a_changedSquare_21, a_changedMan_22) => if x2 ≤ r_7 then m_X10_search_b128 k53 v_code v_side_8 v_rights_9 v_passed_10 v_halves_11 v_number_12 v_top_13 v_chosenFrom v_chosenTo v_chosenTurn v_changed_14 a_board_15 a_before_16 a_froms_17 a_tos_18 a_turns_19 a_counts_20 a_changedSquare_21 a_changedMan_22 x1 x2 x3 else oin ((512 * x1) + x3) 2560 (ol (a_froms_17 ((512 * x1) + x3).toNatClampNeg) fun y_27 => oin ((512 * x1) + x3) 2560 (ol (a_tos_18 ((512 * x1) + x3).toNatClampNeg) fun y_29 => oin ((512 * x1) + x3) 2560 (ol (a_turns_19 ((512 * x1) + x3).toNatClampNeg) fun y_31 => m_X10_search_b128 k53 v_code v_side_8 v_rights_9 v_passed_10 v_halves_11 v_number_12 v_top_13 y_27 y_29 y_31 v_changed_14 a_board_15 a_before_16 a_froms_17 a_tos_18 a_turns_19 a_counts_20 a_changedSquare_21 a_changedMan_22 x1 r_7 x3))))
def m_X10_search_l53 (n : Nat) : Int32 → Int32 → Int32 → Int32 → Int32 → Int32 → Int32 → Int32 → Int32 → Int32 → Int32 → (Nat → Int32) → (Nat → Int32) → (Nat → Int32) → (Nat → Int32) → (Nat → Int32) → (Nat → Int32) → (Nat → Int32) → (Nat → Int32) → Int32 → Int32 → Int32 → Option (Int32 × Int32 × Int32 × Int32 × Int32 × Int32 × Int32 × Int32 × Int32 × Int32 × Int32 × Int32 × (Nat → Int32) × (Nat → Int32) × (Nat → Int32) × (Nat → Int32) × (Nat → Int32) × (Nat → Int32) × (Nat → Int32) × (Nat → Int32)) := fz (fun _ _ _ _ _ _ _ _ _ _ _ _ _ _ _ _ _ _ _ _ _ _ => none) (fun k53 v_code v_side v_rights v_passed v_halves v_number v_top v_chosenFrom v_chosenTo v_chosenTurn v_changed a_board a_before a_froms a_tos a_turns a_counts a_changedSquare a_changedMan x1 x2 x3 => m_X10_search_b53 k53 v_code v_side v_rights v_passed v_halves v_number v_top v_chosenFrom v_chosenTo v_chosenTurn v_changed a_board a_before a_froms a_tos a_turns a_counts a_changedSquare a_changedMan x1 x2 x3) n
def m_X10_search_b16 (v_code : Int32) (v_side : Int32) (v_rights : Int32) (v_passed : Int32) (v_halves : Int32) (v_number : Int32) (v_top : Int32) (v_chosenFrom : Int32) (v_chosenTo : Int32) (v_chosenTurn : Int32) (v_changed : Int32) (a_board : Nat → Int32) (a_before : Nat → Int32) (a_froms : Nat → Int32) (a_tos : Nat → Int32) (a_turns : Nat → Int32) (a_counts : Nat → Int32) (a_changedSquare : Nat → Int32) (a_changedMan : Nat → Int32) (x1 : Int32) (t1 : Int32) : Option (Int32 × Int32 × Int32 × Int32 × Int32 × Int32 × Int32 × Int32 × Int32 × Int32 × Int32 × Int32 × (Nat → Int32) × (Nat → Int32) × (Nat → Int32) × (Nat → Int32) × (Nat → Int32) × (Nat → Int32) × (Nat → Int32) × (Nat → Int32)) := if t1 ≤ 0 then ob (m_X10_find v_side v_rights v_passed v_changed a_board a_froms a_tos a_turns a_counts a_changedSquare a_changedMan x1) fun (v_changed_33, a_board_34, a_froms_35, a_tos_36, a_turns_37, a_counts_38, a_changedSquare_39, a_changedMan_40) => m_X10_search_l53 kF t1 v_side v_rights v_passed v_halves v_number v_top (-1) (-1) (-1) v_changed_33 a_board_34 a_before a_froms_35 a_tos_36 a_turns_37 a_counts_38 a_changedSquare_39 a_changedMan_40 x1 100000 0 else some (0, t1, v_side, v_rights, v_passed, v_halves, v_number, v_top, v_chosenFrom, v_chosenTo, v_chosenTurn, v_changed, a_board, a_before, a_froms, a_tos, a_turns, a_counts, a_changedSquare, a_changedMan)
def m_X10_search_b11 (v_code : Int32) (v_side : Int32) (v_rights : Int32) (v_passed : Int32) (v_halves : Int32) (v_number : Int32) (v_top : Int32) (v_chosenFrom : Int32) (v_chosenTo : Int32) (v_chosenTurn : Int32) (v_changed : Int32) (a_board : Nat → Int32) (a_before : Nat → Int32) (a_froms : Nat → Int32) (a_tos : Nat → Int32) (a_turns : Nat → Int32) (a_counts : Nat → Int32) (a_changedSquare : Nat → Int32) (a_changedMan : Nat → Int32) (x1 : Int32) : Option (Int32 × Int32 × Int32 × Int32 × Int32 × Int32 × Int32 × Int32 × Int32 × Int32 × Int32 × Int32 × (Nat → Int32) × (Nat → Int32) × (Nat → Int32) × (Nat → Int32) × (Nat → Int32) × (Nat → Int32) × (Nat → Int32) × (Nat → Int32)) := m_X10_search_b16 v_code v_side v_rights v_passed v_halves v_number v_top v_chosenFrom v_chosenTo v_chosenTurn v_changed a_board a_before a_froms a_tos a_turns a_counts a_changedSquare a_changedMan x1 1
def m_X10_search (v_code : Int32) (v_side : Int32) (v_rights : Int32) (v_passed : Int32) (v_halves : Int32) (v_number : Int32) (v_top : Int32) (v_chosenFrom : Int32) (v_chosenTo : Int32) (v_chosenTurn : Int32) (v_changed : Int32) (a_board : Nat → Int32) (a_before : Nat → Int32) (a_froms : Nat → Int32) (a_tos : Nat → Int32) (a_turns : Nat → Int32) (a_counts : Nat → Int32) (a_changedSquare : Nat → Int32) (a_changedMan : Nat → Int32) (p0 : Int32) : Option (Int32 × Int32 × Int32 × Int32 × Int32 × Int32 × Int32 × Int32 × Int32 × Int32 × Int32 × Int32 × (Nat → Int32) × (Nat → Int32) × (Nat → Int32) × (Nat → Int32) × (Nat → Int32) × (Nat → Int32) × (Nat → Int32) × (Nat → Int32)) := if p0 < 1 then m_X10_search_b11 v_code v_side v_rights v_passed v_halves v_number v_top v_chosenFrom v_chosenTo v_chosenTurn v_changed a_board a_before a_froms a_tos a_turns a_counts a_changedSquare a_changedMan p0 else if p0 ≤ 3 then m_X10_search_b16 v_code v_side v_rights v_passed v_halves v_number v_top v_chosenFrom v_chosenTo v_chosenTurn v_changed a_board a_before a_froms a_tos a_turns a_counts a_changedSquare a_changedMan p0 0 else m_X10_search_b11 v_code v_side v_rights v_passed v_halves v_number v_top v_chosenFrom v_chosenTo v_chosenTurn v_changed a_board a_before a_froms a_tos a_turns a_counts a_changedSquare a_changedMan p0
abbrev rm_X10_search : Room := { frames := 12, cells := 0, slots := 0, locals := 295 }
abbrev wy_X10_search : List Cond := .code yX10_search cX10_search 5 (some .int) :: gT
theorem cv_X10_search {R : Room} {s : State} {args : Array Value} {own : String} {index : Nat} {w0 : Cond} (hts : ∀ w ∈ w0 :: gT, w.before args s = true) (hl : Cond.methodLink own index yX10_search ∈ gT) (hR : 12 + 1 ≤ R.frames ∧ 8 + (5 + 11) + 295 ≤ R.locals) : CallW R s args own RX10 index yX10_search cX10_search 5 (some .int) wy_X10_search rm_X10_search 0 0 1 :=
  cwV 1 hts (gT_call w0 (pre := [.methodLink own index yX10_search, .instanceMethod yX10_search, .selects RX10 yX10_search yX10_search, .initialized RX10]) (gT_lc hl (gT_lc ly_yX10_search (gT_lc lx_yX10_search (gT_l1 li_RX10)))) lc_yX10_search) rfl rfl rfl (by decide +kernel) hR
set_option maxRecDepth 100000 in
set_option maxHeartbeats 4000000 in
theorem c_X10_search (l : Launch) (D : va_G) (h0 : Nat) (q : Nat → Nat) (cI : ClassId) (v_code : Int32) (v_side : Int32) (v_rights : Int32) (v_passed : Int32) (v_halves : Int32) (v_number : Int32) (v_top : Int32) (v_typedCount : Int32) (v_readAt : Int32) (v_place : Int32) (v_writtenCount : Int32) (v_chosenFrom : Int32) (v_chosenTo : Int32) (v_chosenTurn : Int32) (v_changed : Int32) (v_readSide : Int32) (v_readRights : Int32) (v_readPassed : Int32) (v_readHalves : Int32) (v_readNumber : Int32) (a_board : Nat → Int32) (a_before : Nat → Int32) (a_typed : Nat → Int32) (a_written : Nat → Int32) (a_froms : Nat → Int32) (a_tos : Nat → Int32) (a_turns : Nat → Int32) (a_counts : Nat → Int32) (a_changedSquare : Nat → Int32) (a_changedMan : Nat → Int32) (a_readBoard : Nat → Int32) (p0 : Int32) (rv : Int32) (v_code' : Int32) (v_side' : Int32) (v_rights' : Int32) (v_passed' : Int32) (v_halves' : Int32) (v_number' : Int32) (v_top' : Int32) (v_chosenFrom' : Int32) (v_chosenTo' : Int32) (v_chosenTurn' : Int32) (v_changed' : Int32) (a_board' : Nat → Int32) (a_before' : Nat → Int32) (a_froms' : Nat → Int32) (a_tos' : Nat → Int32) (a_turns' : Nat → Int32) (a_counts' : Nat → Int32) (a_changedSquare' : Nat → Int32) (a_changedMan' : Nat → Int32) (hm : m_X10_search v_code v_side v_rights v_passed v_halves v_number v_top v_chosenFrom v_chosenTo v_chosenTurn v_changed a_board a_before a_froms a_tos a_turns a_counts a_changedSquare a_changedMan p0 = some (rv, v_code', v_side', v_rights', v_passed', v_halves', v_number', v_top', v_chosenFrom', v_chosenTo', v_chosenTurn', v_changed', a_board', a_before', a_froms', a_tos', a_turns', a_counts', a_changedSquare', a_changedMan')) : kDi l yX10_search wy_X10_search rm_X10_search D [(cI, .int)] rv (wM h0 q cI v_code v_side v_rights v_passed v_halves v_number v_top v_typedCount v_readAt v_place v_writtenCount v_chosenFrom v_chosenTo v_chosenTurn v_changed v_readSide v_readRights v_readPassed v_readHalves v_readNumber a_board a_before a_typed a_written a_froms a_tos a_turns a_counts a_changedSquare a_changedMan a_readBoard) (wM h0 q cI v_code' v_side' v_rights' v_passed' v_halves' v_number' v_top' v_typedCount v_readAt v_place v_writtenCount v_chosenFrom' v_chosenTo' v_chosenTurn' v_changed' v_readSide v_readRights v_readPassed v_readHalves v_readNumber a_board' a_before' a_typed a_written a_froms' a_tos' a_turns' a_counts' a_changedSquare' a_changedMan' a_readBoard) [.ref h0, .int p0] := by
  refine kDi.of cX10_search 5 (some .int) (by decide) rfl (Or.inl rfl) (Nat.le_of_ble_eq_true rfl) ?_
  intro p e s m below meth c A Q C hret
  have hin10 : ∀ w ∈ wsX100, w ∈ wy_X10_search := fun w h => List.mem_cons_of_mem _ (inG10 w h)
  have j152 : ∀ (v_code : Int32) (v_side : Int32) (v_rights : Int32) (v_passed : Int32) (v_halves : Int32) (v_number : Int32) (v_top : Int32) (v_chosenFrom : Int32) (v_chosenTo : Int32) (v_chosenTurn : Int32) (v_changed : Int32) (a_board : Nat → Int32) (a_before : Nat → Int32) (a_froms : Nat → Int32) (a_tos : Nat → Int32) (a_turns : Nat → Int32) (a_counts : Nat → Int32) (a_changedSquare : Nat → Int32) (a_changedMan : Nat → Int32) (t0 : Int32), m_X10_search_b152  v_code v_side v_rights v_passed v_halves v_number v_top v_chosenFrom v_chosenTo v_chosenTurn v_changed a_board a_before a_froms a_tos a_turns a_counts a_changedSquare a_changedMan t0 = some (rv, v_code', v_side', v_rights', v_passed', v_halves', v_number', v_top', v_chosenFrom', v_chosenTo', v_chosenTurn', v_changed', a_board', a_before', a_froms', a_tos', a_turns', a_counts', a_changedSquare', a_changedMan') → kv p l e rm_X10_search s m ([.ref h0, .int p0] : List Value).toArray below meth c D A 5 0 0 Q (wM h0 q cI v_code v_side v_rights v_passed v_halves v_number v_top v_typedCount v_readAt v_place v_writtenCount v_chosenFrom v_chosenTo v_chosenTurn v_changed v_readSide v_readRights v_readPassed v_readHalves v_readNumber a_board a_before a_typed a_written a_froms a_tos a_turns a_counts a_changedSquare a_changedMan a_readBoard) [] 152 [.int t0] := by
    intro v_code v_side v_rights v_passed v_halves v_number v_top v_chosenFrom v_chosenTo v_chosenTurn v_changed a_board a_before a_froms a_tos a_turns a_counts a_changedSquare a_changedMan t0 h
    unfold m_X10_search_b152 at h
    cases h
    exact hret _ _ dX10_search_152 (fun q => by cases q)
  have l53 : ∀ (n53 : Nat) (v_code : Int32) (v_side : Int32) (v_rights : Int32) (v_passed : Int32) (v_halves : Int32) (v_number : Int32) (v_top : Int32) (v_chosenFrom : Int32) (v_chosenTo : Int32) (v_chosenTurn : Int32) (v_changed : Int32) (a_board : Nat → Int32) (a_before : Nat → Int32) (a_froms : Nat → Int32) (a_tos : Nat → Int32) (a_turns : Nat → Int32) (a_counts : Nat → Int32) (a_changedSquare : Nat → Int32) (a_changedMan : Nat → Int32) (x1 : Int32) (x2 : Int32) (x3 : Int32), m_X10_search_l53   n53 v_code v_side v_rights v_passed v_halves v_number v_top v_chosenFrom v_chosenTo v_chosenTurn v_changed a_board a_before a_froms a_tos a_turns a_counts a_changedSquare a_changedMan x1 x2 x3 = some (rv, v_code', v_side', v_rights', v_passed', v_halves', v_number', v_top', v_chosenFrom', v_chosenTo', v_chosenTurn', v_changed', a_board', a_before', a_froms', a_tos', a_turns', a_counts', a_changedSquare', a_changedMan') → kv p l e rm_X10_search s m ([.ref h0, .int p0] : List Value).toArray below meth c D A 5 0 0 Q (wM h0 q cI v_code v_side v_rights v_passed v_halves v_number v_top v_typedCount v_readAt v_place v_writtenCount v_chosenFrom v_chosenTo v_chosenTurn v_changed v_readSide v_readRights v_readPassed v_readHalves v_readNumber a_board a_before a_typed a_written a_froms a_tos a_turns a_counts a_changedSquare a_changedMan a_readBoard) [(0, .ref h0), (1, .int x1), (2, .int x2), (3, .int x3)] 53 [] := by
    intro n53
    induction n53 with
    | zero =>
      intro v_code v_side v_rights v_passed v_halves v_number v_top v_chosenFrom v_chosenTo v_chosenTurn v_changed a_board a_before a_froms a_tos a_turns a_counts a_changedSquare a_changedMan x1 x2 x3 h
      exact kv_no h
    | succ n53 ih53 =>
      have j128 : ∀ (v_code : Int32) (v_side : Int32) (v_rights : Int32) (v_passed : Int32) (v_halves : Int32) (v_number : Int32) (v_top : Int32) (v_chosenFrom : Int32) (v_chosenTo : Int32) (v_chosenTurn : Int32) (v_changed : Int32) (a_board : Nat → Int32) (a_before : Nat → Int32) (a_froms : Nat → Int32) (a_tos : Nat → Int32) (a_turns : Nat → Int32) (a_counts : Nat → Int32) (a_changedSquare : Nat → Int32) (a_changedMan : Nat → Int32) (x1 : Int32) (x2 : Int32) (x3 : Int32), m_X10_search_b128 (m_X10_search_l53   n53) v_code v_side v_rights v_passed v_halves v_number v_top v_chosenFrom v_chosenTo v_chosenTurn v_changed a_board a_before a_froms a_tos a_turns a_counts a_changedSquare a_changedMan x1 x2 x3 = some (rv, v_code', v_side', v_rights', v_passed', v_halves', v_number', v_top', v_chosenFrom', v_chosenTo', v_chosenTurn', v_changed', a_board', a_before', a_froms', a_tos', a_turns', a_counts', a_changedSquare', a_changedMan') → kv p l e rm_X10_search s m ([.ref h0, .int p0] : List Value).toArray below meth c D A 5 0 0 Q (wM h0 q cI v_code v_side v_rights v_passed v_halves v_number v_top v_typedCount v_readAt v_place v_writtenCount v_chosenFrom v_chosenTo v_chosenTurn v_changed v_readSide v_readRights v_readPassed v_readHalves v_readNumber a_board a_before a_typed a_written a_froms a_tos a_turns a_counts a_changedSquare a_changedMan a_readBoard) [(0, .ref h0), (1, .int x1), (2, .int x2), (3, .int x3)] 128 [] := by
        intro v_code v_side v_rights v_passed v_halves v_number v_top v_chosenFrom v_chosenTo v_chosenTurn v_changed a_board a_before a_froms a_tos a_turns a_counts a_changedSquare a_changedMan x1 x2 x3 h
        unfold m_X10_search_b128 at h
        obtain ⟨x3_1, ex3_1, h⟩ := ol_e h
        refine kv_iinc C (v := x3_1) (lv2 := [(0, .ref h0), (1, .int x1), (2, .int x2), (3, .int x3_1)]) 3 [1, 2, 3, 0] dX10_search_128 rfl ex3_1.symm (by decide) rfl rfl ?_
        refine kv_goto C 53 dX10_search_131 (by decide) ?_
        exact kv_lv [0, 1, 2, 3] (lv2 := [(0, .ref h0), (1, .int x1), (2, .int x2), (3, .int x3_1)]) rfl (ih53 v_code v_side v_rights v_passed v_halves v_number v_top v_chosenFrom v_chosenTo v_chosenTurn v_changed a_board a_before a_froms a_tos a_turns a_counts a_changedSquare a_changedMan x1 x2 x3_1 h)
      intro v_code v_side v_rights v_passed v_halves v_number v_top v_chosenFrom v_chosenTo v_chosenTurn v_changed a_board a_before a_froms a_tos a_turns a_counts a_changedSquare a_changedMan x1 x2 x3 h
      replace h : m_X10_search_b53  (m_X10_search_l53   n53) v_code v_side v_rights v_passed v_halves v_number v_top v_chosenFrom v_chosenTo v_chosenTurn v_changed a_board a_before a_froms a_tos a_turns a_counts a_changedSquare a_changedMan x1 x2 x3 = some (rv, v_code', v_side', v_rights', v_passed', v_halves', v_number', v_top', v_chosenFrom', v_chosenTo', v_chosenTurn', v_changed', a_board', a_before', a_froms', a_tos', a_turns', a_counts', a_changedSquare', a_changedMan') := h
      unfold m_X10_search_b53 at h
      refine kv_iload_n C 3 dX10_search_53 rfl rfl ?_
      refine kv_aload_n C 0 dX10_search_54 rfl rfl ?_
      refine kv_get C (Cn := RX10) (T := TX10) (N := 31) 0 18 hin10 rfl rfl (by decide) (C.ts _ (List.mem_cons_of_mem _ lf_RX10_39)) rfl rfl dX10_search_55 ?_
      refine kv_iload_n C 1 dX10_search_58 rfl rfl ?_
      obtain ⟨g_2, h⟩ := oin_e h
      refine kv_iald C 8 0 rfl rfl g_2 dX10_search_59 ?_
      refine kv_icmp_ge C 134 dX10_search_60 (by decide) (fun c_3 => ?_) (fun c_3 => ?_)
      · have h := oi_t h c_3
        refine kv_aload_n C 0 dX10_search_134 rfl rfl ?_
        refine kv_iload_n C 1 dX10_search_135 rfl rfl ?_
        obtain ⟨r_4, hm_5, h⟩ := ob_e h
        refine kv_callWi C [.int x1] 0 (c_X10_ended l D h0 q cI v_code v_side v_rights v_passed v_halves v_number v_top v_typedCount v_readAt v_place v_writtenCount v_chosenFrom v_chosenTo v_chosenTurn v_changed v_readSide v_readRights v_readPassed v_readHalves v_readNumber a_board a_before a_typed a_written a_froms a_tos a_turns a_counts a_changedSquare a_changedMan a_readBoard x1 r_4 hm_5) (cv_X10_ended C.ts lm_RX10_179 ⟨Nat.le_of_ble_eq_true rfl, Nat.le_of_ble_eq_true rfl⟩) rfl rfl rfl rfl (Nat.le_of_ble_eq_true rfl) dX10_search_136 ⟨Nat.zero_le _, Nat.zero_le _⟩ ?_
        refine kv_istore_n C (lv2 := [(2, .int x2), (3, .int r_4)]) [3, 0] dX10_search_139 rfl (by decide) rfl rfl ?_
        refine kv_iload_n C 1 dX10_search_140 rfl rfl ?_
        refine kv_iconst C 1 dX10_search_141 (by decide) ?_
        refine kv_icmp_ne C 151 dX10_search_142 (by decide) (fun c_6 => ?_) (fun c_6 => ?_)
        · have h := oi_f h c_6
          refine kv_iload_n C 1 dX10_search_151 rfl rfl ?_
          exact kv_lv [] (lv2 := []) rfl (j152 v_code v_side v_rights v_passed v_halves v_number v_top v_chosenFrom v_chosenTo v_chosenTurn v_changed a_board a_before a_froms a_tos a_turns a_counts a_changedSquare a_changedMan r_4 h)
        · have h := oi_t h c_6
          refine kv_iconst C 0 dX10_search_145 (by decide) ?_
          refine kv_iload_n C 0 dX10_search_146 rfl rfl ?_
          refine kv_isub C dX10_search_147 ?_
          refine kv_goto C 152 dX10_search_148 (by decide) ?_
          exact kv_lv [] (lv2 := []) rfl (j152 v_code v_side v_rights v_passed v_halves v_number v_top v_chosenFrom v_chosenTo v_chosenTurn v_changed a_board a_before a_froms a_tos a_turns a_counts a_changedSquare a_changedMan (0 - x2) h)
      · have h := oi_f h c_3
        refine kv_aload_n C 0 dX10_search_63 rfl rfl ?_
        refine kv_iload_n C 1 dX10_search_64 rfl rfl ?_
        refine kv_iload_n C 3 dX10_search_65 rfl rfl ?_
        obtain ⟨⟨r_7, v_side_8, v_rights_9, v_passed_10, v_halves_11, v_number_12, v_top_13, v_changed_14, a_board_15, a_before_16, a_froms_17, a_tos_18, a_turns_19, a_counts_20, a_changedSquare_21, a_changedMan_22⟩, hm_23, h⟩ := ob_e h
        replace h : _ = _ := h
        refine kv_callWi C [.int x1, .int x3] 0 (c_X10_behind l D h0 q cI v_code v_side v_rights v_passed v_halves v_number v_top v_typedCount v_readAt v_place v_writtenCount v_chosenFrom v_chosenTo v_chosenTurn v_changed v_readSide v_readRights v_readPassed v_readHalves v_readNumber a_board a_before a_typed a_written a_froms a_tos a_turns a_counts a_changedSquare a_changedMan a_readBoard x1 x3 r_7 v_side_8 v_rights_9 v_passed_10 v_halves_11 v_number_12 v_top_13 v_changed_14 a_board_15 a_before_16 a_froms_17 a_tos_18 a_turns_19 a_counts_20 a_changedSquare_21 a_changedMan_22 hm_23) (cv_X10_behind C.ts lm_RX10_196 ⟨Nat.le_of_ble_eq_true rfl, Nat.le_of_ble_eq_true rfl⟩) rfl rfl rfl rfl (Nat.le_of_ble_eq_true rfl) dX10_search_66 ⟨Nat.zero_le _, Nat.zero_le _⟩ ?_
        refine kv_istore C (lv2 := [(0, .ref h0), (1, .int x1), (2, .int x2), (3, .int x3), (4, .int r_7)]) [1, 2, 3, 4, 0] dX10_search_69 (by decide) rfl rfl ?_
        refine kv_iload C 4 dX10_search_71 rfl ?_
        refine kv_iload_n C 2 dX10_search_73 rfl rfl ?_
        refine kv_icmp_ge C 128 dX10_search_74 (by decide) (fun c_25 => ?_) (fun c_25 => ?_)
        · have h := oi_t h c_25
          exact kv_lv [0, 1, 2, 3] (lv2 := [(0, .ref h0), (1, .int x1), (2, .int x2), (3, .int x3)]) rfl (j128 v_code v_side_8 v_rights_9 v_passed_10 v_halves_11 v_number_12 v_top_13 v_chosenFrom v_chosenTo v_chosenTurn v_changed_14 a_board_15 a_before_16 a_froms_17 a_tos_18 a_turns_19 a_counts_20 a_changedSquare_21 a_changedMan_22 x1 x2 x3 h)
        · have h := oi_f h c_25
          refine kv_iload C 4 dX10_search_77 rfl ?_
          refine kv_istore_n C (lv2 := [(0, .ref h0), (1, .int x1), (2, .int r_7), (3, .int x3)]) [1, 2, 0, 3] dX10_search_79 rfl (by decide) rfl rfl ?_
          refine kv_aload_n C 0 dX10_search_80 rfl rfl ?_
          refine kv_aload_n C 0 dX10_search_81 rfl rfl ?_
          refine kv_get C (Cn := RX10) (T := TX10) (N := 31) 0 15 hin10 rfl rfl (by decide) (C.ts _ (List.mem_cons_of_mem _ lf_RX10_30)) rfl rfl dX10_search_82 ?_
          refine kv_sipush C 512 dX10_search_85 (by decide) ?_
          refine kv_iload_n C 1 dX10_search_88 rfl rfl ?_
          refine kv_imul C dX10_search_89 ?_
          refine kv_iload_n C 3 dX10_search_90 rfl rfl ?_
          refine kv_iadd C dX10_search_91 ?_
          obtain ⟨g_26, h⟩ := oin_e h
          refine kv_iald C 5 0 rfl rfl g_26 dX10_search_92 ?_
          obtain ⟨y_27, ey_27, h⟩ := ol_e h
          refine kv_top ey_27 ?_
          refine kv_put C (Cn := RX10) (T := TX10) (N := 31) (ty := .int) (ws1 := (wM h0 q cI v_code v_side_8 v_rights_9 v_passed_10 v_halves_11 v_number_12 v_top_13 v_typedCount v_readAt v_place v_writtenCount y_27 v_chosenTo v_chosenTurn v_changed_14 v_readSide v_readRights v_readPassed v_readHalves v_readNumber a_board_15 a_before_16 a_typed a_written a_froms_17 a_tos_18 a_turns_19 a_counts_20 a_changedSquare_21 a_changedMan_22 a_readBoard)) 0 19 hin10 tyX10 tyX10_ok nmX10 rfl rfl (by decide) (C.ts _ (List.mem_cons_of_mem _ lf_RX10_42)) rfl rfl (by decide +kernel) rfl rfl (Nat.le_of_ble_eq_true rfl) rfl dX10_search_93 ?_
          refine kv_aload_n C 0 dX10_search_96 rfl rfl ?_
          refine kv_aload_n C 0 dX10_search_97 rfl rfl ?_
          refine kv_get C (Cn := RX10) (T := TX10) (N := 31) 0 16 hin10 rfl rfl (by decide) (C.ts _ (List.mem_cons_of_mem _ lf_RX10_33)) rfl rfl dX10_search_98 ?_
          refine kv_sipush C 512 dX10_search_101 (by decide) ?_
          refine kv_iload_n C 1 dX10_search_104 rfl rfl ?_
          refine kv_imul C dX10_search_105 ?_
          refine kv_iload_n C 3 dX10_search_106 rfl rfl ?_
          refine kv_iadd C dX10_search_107 ?_
          obtain ⟨g_28, h⟩ := oin_e h
          refine kv_iald C 6 0 rfl rfl g_28 dX10_search_108 ?_
          obtain ⟨y_29, ey_29, h⟩ := ol_e h
          refine kv_top ey_29 ?_
          refine kv_put C (Cn := RX10) (T := TX10) (N := 31) (ty := .int) (ws1 := (wM h0 q cI v_code v_side_8 v_rights_9 v_passed_10 v_halves_11 v_number_12 v_top_13 v_typedCount v_readAt v_place v_writtenCount y_27 y_29 v_chosenTurn v_changed_14 v_readSide v_readRights v_readPassed v_readHalves v_readNumber a_board_15 a_before_16 a_typed a_written a_froms_17 a_tos_18 a_turns_19 a_counts_20 a_changedSquare_21 a_changedMan_22 a_readBoard)) 0 20 hin10 tyX10 tyX10_ok nmX10 rfl rfl (by decide) (C.ts _ (List.mem_cons_of_mem _ lf_RX10_45)) rfl rfl (by decide +kernel) rfl rfl (Nat.le_of_ble_eq_true rfl) rfl dX10_search_109 ?_
          refine kv_aload_n C 0 dX10_search_112 rfl rfl ?_
          refine kv_aload_n C 0 dX10_search_113 rfl rfl ?_
          refine kv_get C (Cn := RX10) (T := TX10) (N := 31) 0 17 hin10 rfl rfl (by decide) (C.ts _ (List.mem_cons_of_mem _ lf_RX10_36)) rfl rfl dX10_search_114 ?_
          refine kv_sipush C 512 dX10_search_117 (by decide) ?_
          refine kv_iload_n C 1 dX10_search_120 rfl rfl ?_
          refine kv_imul C dX10_search_121 ?_
          refine kv_iload_n C 3 dX10_search_122 rfl rfl ?_
          refine kv_iadd C dX10_search_123 ?_
          obtain ⟨g_30, h⟩ := oin_e h
          refine kv_iald C 7 0 rfl rfl g_30 dX10_search_124 ?_
          obtain ⟨y_31, ey_31, h⟩ := ol_e h
          refine kv_top ey_31 ?_
          refine kv_put C (Cn := RX10) (T := TX10) (N := 31) (ty := .int) (ws1 := (wM h0 q cI v_code v_side_8 v_rights_9 v_passed_10 v_halves_11 v_number_12 v_top_13 v_typedCount v_readAt v_place v_writtenCount y_27 y_29 y_31 v_changed_14 v_readSide v_readRights v_readPassed v_readHalves v_readNumber a_board_15 a_before_16 a_typed a_written a_froms_17 a_tos_18 a_turns_19 a_counts_20 a_changedSquare_21 a_changedMan_22 a_readBoard)) 0 21 hin10 tyX10 tyX10_ok nmX10 rfl rfl (by decide) (C.ts _ (List.mem_cons_of_mem _ lf_RX10_48)) rfl rfl (by decide +kernel) rfl rfl (Nat.le_of_ble_eq_true rfl) rfl dX10_search_125 ?_
          exact kv_lv [0, 1, 2, 3] (lv2 := [(0, .ref h0), (1, .int x1), (2, .int r_7), (3, .int x3)]) rfl (j128 v_code v_side_8 v_rights_9 v_passed_10 v_halves_11 v_number_12 v_top_13 y_27 y_29 y_31 v_changed_14 a_board_15 a_before_16 a_froms_17 a_tos_18 a_turns_19 a_counts_20 a_changedSquare_21 a_changedMan_22 x1 r_7 x3 h)
  have j16 : ∀ (v_code : Int32) (v_side : Int32) (v_rights : Int32) (v_passed : Int32) (v_halves : Int32) (v_number : Int32) (v_top : Int32) (v_chosenFrom : Int32) (v_chosenTo : Int32) (v_chosenTurn : Int32) (v_changed : Int32) (a_board : Nat → Int32) (a_before : Nat → Int32) (a_froms : Nat → Int32) (a_tos : Nat → Int32) (a_turns : Nat → Int32) (a_counts : Nat → Int32) (a_changedSquare : Nat → Int32) (a_changedMan : Nat → Int32) (x1 : Int32) (t1 : Int32), m_X10_search_b16  v_code v_side v_rights v_passed v_halves v_number v_top v_chosenFrom v_chosenTo v_chosenTurn v_changed a_board a_before a_froms a_tos a_turns a_counts a_changedSquare a_changedMan x1 t1 = some (rv, v_code', v_side', v_rights', v_passed', v_halves', v_number', v_top', v_chosenFrom', v_chosenTo', v_chosenTurn', v_changed', a_board', a_before', a_froms', a_tos', a_turns', a_counts', a_changedSquare', a_changedMan') → kv p l e rm_X10_search s m ([.ref h0, .int p0] : List Value).toArray below meth c D A 5 0 0 Q (wM h0 q cI v_code v_side v_rights v_passed v_halves v_number v_top v_typedCount v_readAt v_place v_writtenCount v_chosenFrom v_chosenTo v_chosenTurn v_changed v_readSide v_readRights v_readPassed v_readHalves v_readNumber a_board a_before a_typed a_written a_froms a_tos a_turns a_counts a_changedSquare a_changedMan a_readBoard) [(0, .ref h0), (1, .int x1)] 16 [.int t1, .ref h0] := by
    intro v_code v_side v_rights v_passed v_halves v_number v_top v_chosenFrom v_chosenTo v_chosenTurn v_changed a_board a_before a_froms a_tos a_turns a_counts a_changedSquare a_changedMan x1 t1 h
    unfold m_X10_search_b16 at h
    refine kv_put C (Cn := RX10) (T := TX10) (N := 31) (ty := .int) (ws1 := (wM h0 q cI t1 v_side v_rights v_passed v_halves v_number v_top v_typedCount v_readAt v_place v_writtenCount v_chosenFrom v_chosenTo v_chosenTurn v_changed v_readSide v_readRights v_readPassed v_readHalves v_readNumber a_board a_before a_typed a_written a_froms a_tos a_turns a_counts a_changedSquare a_changedMan a_readBoard)) 0 0 hin10 tyX10 tyX10_ok nmX10 rfl rfl (by decide) (C.ts _ (List.mem_cons_of_mem _ lf_RX10_66)) rfl rfl (by decide +kernel) rfl rfl (Nat.le_of_ble_eq_true rfl) rfl dX10_search_16 ?_
    refine kv_aload_n C 0 dX10_search_19 rfl rfl ?_
    refine kv_get C (Cn := RX10) (T := TX10) (N := 31) 0 0 hin10 rfl rfl (by decide) (C.ts _ (List.mem_cons_of_mem _ lf_RX10_66)) rfl rfl dX10_search_20 ?_
    refine kv_if_le C 28 dX10_search_23 (by decide) (fun c_32 => ?_) (fun c_32 => ?_)
    · have h := oi_t h c_32
      refine kv_aload_n C 0 dX10_search_28 rfl rfl ?_
      refine kv_iconst C (-1) dX10_search_29 (by decide) ?_
      refine kv_put C (Cn := RX10) (T := TX10) (N := 31) (ty := .int) (ws1 := (wM h0 q cI t1 v_side v_rights v_passed v_halves v_number v_top v_typedCount v_readAt v_place v_writtenCount (-1) v_chosenTo v_chosenTurn v_changed v_readSide v_readRights v_readPassed v_readHalves v_readNumber a_board a_before a_typed a_written a_froms a_tos a_turns a_counts a_changedSquare a_changedMan a_readBoard)) 0 19 hin10 tyX10 tyX10_ok nmX10 rfl rfl (by decide) (C.ts _ (List.mem_cons_of_mem _ lf_RX10_42)) rfl rfl (by decide +kernel) rfl rfl (Nat.le_of_ble_eq_true rfl) rfl dX10_search_30 ?_
      refine kv_aload_n C 0 dX10_search_33 rfl rfl ?_
      refine kv_iconst C (-1) dX10_search_34 (by decide) ?_
      refine kv_put C (Cn := RX10) (T := TX10) (N := 31) (ty := .int) (ws1 := (wM h0 q cI t1 v_side v_rights v_passed v_halves v_number v_top v_typedCount v_readAt v_place v_writtenCount (-1) (-1) v_chosenTurn v_changed v_readSide v_readRights v_readPassed v_readHalves v_readNumber a_board a_before a_typed a_written a_froms a_tos a_turns a_counts a_changedSquare a_changedMan a_readBoard)) 0 20 hin10 tyX10 tyX10_ok nmX10 rfl rfl (by decide) (C.ts _ (List.mem_cons_of_mem _ lf_RX10_45)) rfl rfl (by decide +kernel) rfl rfl (Nat.le_of_ble_eq_true rfl) rfl dX10_search_35 ?_
      refine kv_aload_n C 0 dX10_search_38 rfl rfl ?_
      refine kv_iconst C (-1) dX10_search_39 (by decide) ?_
      refine kv_put C (Cn := RX10) (T := TX10) (N := 31) (ty := .int) (ws1 := (wM h0 q cI t1 v_side v_rights v_passed v_halves v_number v_top v_typedCount v_readAt v_place v_writtenCount (-1) (-1) (-1) v_changed v_readSide v_readRights v_readPassed v_readHalves v_readNumber a_board a_before a_typed a_written a_froms a_tos a_turns a_counts a_changedSquare a_changedMan a_readBoard)) 0 21 hin10 tyX10 tyX10_ok nmX10 rfl rfl (by decide) (C.ts _ (List.mem_cons_of_mem _ lf_RX10_48)) rfl rfl (by decide +kernel) rfl rfl (Nat.le_of_ble_eq_true rfl) rfl dX10_search_40 ?_
      refine kv_aload_n C 0 dX10_search_43 rfl rfl ?_
      refine kv_iload_n C 1 dX10_search_44 rfl rfl ?_
      obtain ⟨⟨v_changed_33, a_board_34, a_froms_35, a_tos_36, a_turns_37, a_counts_38, a_changedSquare_39, a_changedMan_40⟩, hm_41, h⟩ := ob_e h
      replace h : _ = _ := h
      refine kv_callWv C [.int x1] 0 (c_X10_find l D h0 q cI t1 v_side v_rights v_passed v_halves v_number v_top v_typedCount v_readAt v_place v_writtenCount (-1) (-1) (-1) v_changed v_readSide v_readRights v_readPassed v_readHalves v_readNumber a_board a_before a_typed a_written a_froms a_tos a_turns a_counts a_changedSquare a_changedMan a_readBoard x1 v_changed_33 a_board_34 a_froms_35 a_tos_36 a_turns_37 a_counts_38 a_changedSquare_39 a_changedMan_40 hm_41) (cv_X10_find C.ts lm_RX10_158 ⟨Nat.le_of_ble_eq_true rfl, Nat.le_of_ble_eq_true rfl⟩) rfl rfl rfl rfl (Nat.le_of_ble_eq_true rfl) dX10_search_45 ⟨Nat.zero_le _, Nat.zero_le _⟩ ?_
      refine kv_ldc C (C.ts _ (List.mem_cons_of_mem _ lk_RX10_195)) dX10_search_48 ?_
      refine kv_istore_n C (lv2 := [(0, .ref h0), (1, .int x1), (2, .int 100000)]) [1, 2, 0] dX10_search_50 rfl (by decide) rfl rfl ?_
      refine kv_iconst C 0 dX10_search_51 (by decide) ?_
      refine kv_istore_n C (lv2 := [(0, .ref h0), (1, .int x1), (2, .int 100000), (3, .int 0)]) [1, 2, 3, 0] dX10_search_52 rfl (by decide) rfl rfl ?_
      exact kv_lv [0, 1, 2, 3] (lv2 := [(0, .ref h0), (1, .int x1), (2, .int 100000), (3, .int 0)]) rfl (l53 kF t1 v_side v_rights v_passed v_halves v_number v_top (-1) (-1) (-1) v_changed_33 a_board_34 a_before a_froms_35 a_tos_36 a_turns_37 a_counts_38 a_changedSquare_39 a_changedMan_40 x1 100000 0 h)
    · have h := oi_f h c_32
      refine kv_iconst C 0 dX10_search_26 (by decide) ?_
      cases h
      exact hret _ _ dX10_search_27 (fun q => by cases q)
  have j11 : ∀ (v_code : Int32) (v_side : Int32) (v_rights : Int32) (v_passed : Int32) (v_halves : Int32) (v_number : Int32) (v_top : Int32) (v_chosenFrom : Int32) (v_chosenTo : Int32) (v_chosenTurn : Int32) (v_changed : Int32) (a_board : Nat → Int32) (a_before : Nat → Int32) (a_froms : Nat → Int32) (a_tos : Nat → Int32) (a_turns : Nat → Int32) (a_counts : Nat → Int32) (a_changedSquare : Nat → Int32) (a_changedMan : Nat → Int32) (x1 : Int32), m_X10_search_b11  v_code v_side v_rights v_passed v_halves v_number v_top v_chosenFrom v_chosenTo v_chosenTurn v_changed a_board a_before a_froms a_tos a_turns a_counts a_changedSquare a_changedMan x1 = some (rv, v_code', v_side', v_rights', v_passed', v_halves', v_number', v_top', v_chosenFrom', v_chosenTo', v_chosenTurn', v_changed', a_board', a_before', a_froms', a_tos', a_turns', a_counts', a_changedSquare', a_changedMan') → kv p l e rm_X10_search s m ([.ref h0, .int p0] : List Value).toArray below meth c D A 5 0 0 Q (wM h0 q cI v_code v_side v_rights v_passed v_halves v_number v_top v_typedCount v_readAt v_place v_writtenCount v_chosenFrom v_chosenTo v_chosenTurn v_changed v_readSide v_readRights v_readPassed v_readHalves v_readNumber a_board a_before a_typed a_written a_froms a_tos a_turns a_counts a_changedSquare a_changedMan a_readBoard) [(0, .ref h0), (1, .int x1)] 11 [.ref h0] := by
    intro v_code v_side v_rights v_passed v_halves v_number v_top v_chosenFrom v_chosenTo v_chosenTurn v_changed a_board a_before a_froms a_tos a_turns a_counts a_changedSquare a_changedMan x1 h
    unfold m_X10_search_b11 at h
    refine kv_iconst C 1 dX10_search_11 (by decide) ?_
    refine kv_goto C 16 dX10_search_12 (by decide) ?_
    exact kv_lv [0, 1] (lv2 := [(0, .ref h0), (1, .int x1)]) rfl (j16 v_code v_side v_rights v_passed v_halves v_number v_top v_chosenFrom v_chosenTo v_chosenTurn v_changed a_board a_before a_froms a_tos a_turns a_counts a_changedSquare a_changedMan x1 1 h)
  unfold m_X10_search at hm
  have h := hm
  refine kv_lv [0, 1] (lv2 := [(0, .ref h0), (1, .int p0)]) rfl ?_
  refine kv_aload_n C 0 dX10_search_0 rfl rfl ?_
  refine kv_iload_n C 1 dX10_search_1 rfl rfl ?_
  refine kv_iconst C 1 dX10_search_2 (by decide) ?_
  refine kv_icmp_lt C 11 dX10_search_3 (by decide) (fun c_43 => ?_) (fun c_43 => ?_)
  · have h := oi_t h c_43
    exact kv_lv [0, 1] (lv2 := [(0, .ref h0), (1, .int p0)]) rfl (j11 v_code v_side v_rights v_passed v_halves v_number v_top v_chosenFrom v_chosenTo v_chosenTurn v_changed a_board a_before a_froms a_tos a_turns a_counts a_changedSquare a_changedMan p0 h)
  · have h := oi_f h c_43
    refine kv_iload_n C 1 dX10_search_6 rfl rfl ?_
    refine kv_iconst C 3 dX10_search_7 (by decide) ?_
    refine kv_icmp_le C 15 dX10_search_8 (by decide) (fun c_44 => ?_) (fun c_44 => ?_)
    · have h := oi_t h c_44
      refine kv_iconst C 0 dX10_search_15 (by decide) ?_
      exact kv_lv [0, 1] (lv2 := [(0, .ref h0), (1, .int p0)]) rfl (j16 v_code v_side v_rights v_passed v_halves v_number v_top v_chosenFrom v_chosenTo v_chosenTurn v_changed a_board a_before a_froms a_tos a_turns a_counts a_changedSquare a_changedMan p0 0 h)
    · have h := oi_f h c_44
      exact kv_lv [0, 1] (lv2 := [(0, .ref h0), (1, .int p0)]) rfl (j11 v_code v_side v_rights v_passed v_halves v_number v_top v_chosenFrom v_chosenTo v_chosenTurn v_changed a_board a_before a_froms a_tos a_turns a_counts a_changedSquare a_changedMan p0 h)
