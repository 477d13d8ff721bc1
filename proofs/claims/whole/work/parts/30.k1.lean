/-! The class: J9_abs_0f7a4, J9_max_7cf53, J9_min_7cf53, J13_bitCount_95d88, X9_isSquare, X9_isPart, X9_fromOf, X9_toOf, X9_becomesOf, X9_part, X9_moveOf, X9_leastOf, X9_upOf, X3_at, X3_goesAlong, X7_worthOf, X4_rightsIn, X4_passedIn, X4_isByRight, X4_cornerOf, X4_keptBy, X5_byteOf, X5_canBeTyped -/
abbrev wLi (ql : Nat → Nat) (cJ : ClassId) (a_rays : Nat → Int64) (a_knights : Nat → Int64) (a_kings : Nat → Int64) (a_pawns : Nat → Int64) : va_W := [((ql 0), .inr (2, [.ref (ql 1), .ref (ql 2), .ref (ql 3), .ref (ql 4)])), ((ql 1), .inl (cJ, 512, .inr (.inl a_rays))), ((ql 2), .inl (cJ, 64, .inr (.inl a_knights))), ((ql 3), .inl (cJ, 64, .inr (.inl a_kings))), ((ql 4), .inl (cJ, 128, .inr (.inl a_pawns)))]
abbrev wWo (qw : Nat → Nat) (cI : ClassId) (a_table : Nat → Int32) : va_W := [((qw 0), .inr (6, [.ref (qw 1)])), ((qw 1), .inl (cI, 448, .inl a_table))]
abbrev wBo (qb : Nat → Nat) (ql : Nat → Nat) (qw : Nat → Nat) (cI : ClassId) (cJ : ClassId) (v_mover : Int32) (v_rights : Int32) (v_passed : Int32) (v_halves : Int32) (v_number : Int32) (v_balance : Int32) (a_men : Nat → Int32) (a_kinds : Nat → Int64) (a_sides : Nat → Int64) (a_rays : Nat → Int64) (a_knights : Nat → Int64) (a_kings : Nat → Int64) (a_pawns : Nat → Int64) (a_table : Nat → Int32) : va_W := [((qb 0), .inr (0, [.ref (ql 0), .ref (qw 0), .ref (qb 1), .ref (qb 2), .ref (qb 3), .int v_mover, .int v_rights, .int v_passed, .int v_halves, .int v_number, .int v_balance])), ((qb 1), .inl (cI, 64, .inl a_men)), ((qb 2), .inl (cJ, 7, .inr (.inl a_kinds))), ((qb 3), .inl (cJ, 2, .inr (.inl a_sides))), ((ql 0), .inr (2, [.ref (ql 1), .ref (ql 2), .ref (ql 3), .ref (ql 4)])), ((ql 1), .inl (cJ, 512, .inr (.inl a_rays))), ((ql 2), .inl (cJ, 64, .inr (.inl a_knights))), ((ql 3), .inl (cJ, 64, .inr (.inl a_kings))), ((ql 4), .inl (cJ, 128, .inr (.inl a_pawns))), ((qw 0), .inr (6, [.ref (qw 1)])), ((qw 1), .inl (cI, 448, .inl a_table))]
abbrev wLa (qa : Nat → Nat) (qb : Nat → Nat) (ql : Nat → Nat) (qw : Nat → Nat) (cI : ClassId) (cJ : ClassId) (v_standing : Int32) (v_own : Int64) (v_all : Int64) (v_king : Int32) (v_saving : Int64) (v_pinned : Int64) (v_passers : Int64) (a_stands : Nat → Int32) (a_goals : Nat → Int64) (v_mover : Int32) (v_rights : Int32) (v_passed : Int32) (v_halves : Int32) (v_number : Int32) (v_balance : Int32) (a_men : Nat → Int32) (a_kinds : Nat → Int64) (a_sides : Nat → Int64) (a_rays : Nat → Int64) (a_knights : Nat → Int64) (a_kings : Nat → Int64) (a_pawns : Nat → Int64) (a_table : Nat → Int32) : va_W := [((qa 0), .inr (1, [.ref (qb 0), .ref (ql 0), .ref (qa 1), .ref (qa 2), .int v_standing, .long v_own, .long v_all, .int v_king, .long v_saving, .long v_pinned, .long v_passers])), ((qa 1), .inl (cI, 16, .inl a_stands)), ((qa 2), .inl (cJ, 16, .inr (.inl a_goals))), ((qb 0), .inr (0, [.ref (ql 0), .ref (qw 0), .ref (qb 1), .ref (qb 2), .ref (qb 3), .int v_mover, .int v_rights, .int v_passed, .int v_halves, .int v_number, .int v_balance])), ((qb 1), .inl (cI, 64, .inl a_men)), ((qb 2), .inl (cJ, 7, .inr (.inl a_kinds))), ((qb 3), .inl (cJ, 2, .inr (.inl a_sides))), ((ql 0), .inr (2, [.ref (ql 1), .ref (ql 2), .ref (ql 3), .ref (ql 4)])), ((ql 1), .inl (cJ, 512, .inr (.inl a_rays))), ((ql 2), .inl (cJ, 64, .inr (.inl a_knights))), ((ql 3), .inl (cJ, 64, .inr (.inl a_kings))), ((ql 4), .inl (cJ, 128, .inr (.inl a_pawns))), ((qw 0), .inr (6, [.ref (qw 1)])), ((qw 1), .inl (cI, 448, .inl a_table))]
abbrev wLaR (qa : Nat → Nat) (qb : Nat → Nat) (ql : Nat → Nat) (hz : Nat) (qw : Nat → Nat) (cI : ClassId) (cJ : ClassId) (v_standing : Int32) (v_own : Int64) (v_all : Int64) (v_king : Int32) (v_saving : Int64) (v_pinned : Int64) (v_passers : Int64) (a_stands : Nat → Int32) (a_goals : Nat → Int64) (a_zrow : Nat → Int32) (v_mover : Int32) (v_rights : Int32) (v_passed : Int32) (v_halves : Int32) (v_number : Int32) (v_balance : Int32) (a_men : Nat → Int32) (a_kinds : Nat → Int64) (a_sides : Nat → Int64) (a_rays : Nat → Int64) (a_knights : Nat → Int64) (a_kings : Nat → Int64) (a_pawns : Nat → Int64) (a_table : Nat → Int32) : va_W := [((qa 0), .inr (1, [.ref (qb 0), .ref (ql 0), .ref (qa 1), .ref (qa 2), .int v_standing, .long v_own, .long v_all, .int v_king, .long v_saving, .long v_pinned, .long v_passers])), ((qa 1), .inl (cI, 16, .inl a_stands)), ((qa 2), .inl (cJ, 16, .inr (.inl a_goals))), (hz, .inl (cI, 432, .inl a_zrow)), ((qb 0), .inr (0, [.ref (ql 0), .ref (qw 0), .ref (qb 1), .ref (qb 2), .ref (qb 3), .int v_mover, .int v_rights, .int v_passed, .int v_halves, .int v_number, .int v_balance])), ((qb 1), .inl (cI, 64, .inl a_men)), ((qb 2), .inl (cJ, 7, .inr (.inl a_kinds))), ((qb 3), .inl (cJ, 2, .inr (.inl a_sides))), ((ql 0), .inr (2, [.ref (ql 1), .ref (ql 2), .ref (ql 3), .ref (ql 4)])), ((ql 1), .inl (cJ, 512, .inr (.inl a_rays))), ((ql 2), .inl (cJ, 64, .inr (.inl a_knights))), ((ql 3), .inl (cJ, 64, .inr (.inl a_kings))), ((ql 4), .inl (cJ, 128, .inr (.inl a_pawns))), ((qw 0), .inr (6, [.ref (qw 1)])), ((qw 1), .inl (cI, 448, .inl a_table))]
abbrev wPa (qp : Nat → Nat) (qb : Nat → Nat) (ql : Nat → Nat) (qw : Nat → Nat) (cI : ClassId) (cJ : ClassId) (v_made : Int32) (a_moved : Nat → Int32) (a_pbefore : Nat → Int32) (a_earlier : Nat → Int32) (v_mover : Int32) (v_rights : Int32) (v_passed : Int32) (v_halves : Int32) (v_number : Int32) (v_balance : Int32) (a_men : Nat → Int32) (a_kinds : Nat → Int64) (a_sides : Nat → Int64) (a_rays : Nat → Int64) (a_knights : Nat → Int64) (a_kings : Nat → Int64) (a_pawns : Nat → Int64) (a_table : Nat → Int32) : va_W := [((qp 0), .inr (3, [.ref (qb 0), .ref (qp 1), .ref (qp 2), .ref (qp 3), .int v_made])), ((qp 1), .inl (cI, 1027, .inl a_moved)), ((qp 2), .inl (cI, 1027, .inl a_pbefore)), ((qp 3), .inl (cI, 64, .inl a_earlier)), ((qb 0), .inr (0, [.ref (ql 0), .ref (qw 0), .ref (qb 1), .ref (qb 2), .ref (qb 3), .int v_mover, .int v_rights, .int v_passed, .int v_halves, .int v_number, .int v_balance])), ((qb 1), .inl (cI, 64, .inl a_men)), ((qb 2), .inl (cJ, 7, .inr (.inl a_kinds))), ((qb 3), .inl (cJ, 2, .inr (.inl a_sides))), ((ql 0), .inr (2, [.ref (ql 1), .ref (ql 2), .ref (ql 3), .ref (ql 4)])), ((ql 1), .inl (cJ, 512, .inr (.inl a_rays))), ((ql 2), .inl (cJ, 64, .inr (.inl a_knights))), ((ql 3), .inl (cJ, 64, .inr (.inl a_kings))), ((ql 4), .inl (cJ, 128, .inr (.inl a_pawns))), ((qw 0), .inr (6, [.ref (qw 1)])), ((qw 1), .inl (cI, 448, .inl a_table))]
abbrev wSe (qs : Nat → Nat) (qb : Nat → Nat) (qa : Nat → Nat) (qp : Nat → Nat) (ql : Nat → Nat) (qw : Nat → Nat) (cI : ClassId) (cJ : ClassId) (cR : ClassId) (v_schoice : Int32) (a_row1 : Nat → Int32) (a_row2 : Nat → Int32) (a_row3 : Nat → Int32) (v_standing : Int32) (v_own : Int64) (v_all : Int64) (v_king : Int32) (v_saving : Int64) (v_pinned : Int64) (v_passers : Int64) (a_stands : Nat → Int32) (a_goals : Nat → Int64) (v_made : Int32) (a_moved : Nat → Int32) (a_pbefore : Nat → Int32) (a_earlier : Nat → Int32) (v_mover : Int32) (v_rights : Int32) (v_passed : Int32) (v_halves : Int32) (v_number : Int32) (v_balance : Int32) (a_men : Nat → Int32) (a_kinds : Nat → Int64) (a_sides : Nat → Int64) (a_rays : Nat → Int64) (a_knights : Nat → Int64) (a_kings : Nat → Int64) (a_pawns : Nat → Int64) (a_table : Nat → Int32) : va_W := [((qs 0), .inr (5, [.ref (qb 0), .ref (qa 0), .ref (qp 0), .ref (qs 1), .int v_schoice])), ((qs 1), .inl (cR, 3, .inr (.inr (.inr (.inr (fun i => if i < 3 then some (qs (2 + i)) else none)))))), ((qs 2), .inl (cI, 432, .inl a_row1)), ((qs 3), .inl (cI, 432, .inl a_row2)), ((qs 4), .inl (cI, 432, .inl a_row3)), ((qa 0), .inr (1, [.ref (qb 0), .ref (ql 0), .ref (qa 1), .ref (qa 2), .int v_standing, .long v_own, .long v_all, .int v_king, .long v_saving, .long v_pinned, .long v_passers])), ((qa 1), .inl (cI, 16, .inl a_stands)), ((qa 2), .inl (cJ, 16, .inr (.inl a_goals))), ((qp 0), .inr (3, [.ref (qb 0), .ref (qp 1), .ref (qp 2), .ref (qp 3), .int v_made])), ((qp 1), .inl (cI, 1027, .inl a_moved)), ((qp 2), .inl (cI, 1027, .inl a_pbefore)), ((qp 3), .inl (cI, 64, .inl a_earlier)), ((qb 0), .inr (0, [.ref (ql 0), .ref (qw 0), .ref (qb 1), .ref (qb 2), .ref (qb 3), .int v_mover, .int v_rights, .int v_passed, .int v_halves, .int v_number, .int v_balance])), ((qb 1), .inl (cI, 64, .inl a_men)), ((qb 2), .inl (cJ, 7, .inr (.inl a_kinds))), ((qb 3), .inl (cJ, 2, .inr (.inl a_sides))), ((ql 0), .inr (2, [.ref (ql 1), .ref (ql 2), .ref (ql 3), .ref (ql 4)])), ((ql 1), .inl (cJ, 512, .inr (.inl a_rays))), ((ql 2), .inl (cJ, 64, .inr (.inl a_knights))), ((ql 3), .inl (cJ, 64, .inr (.inl a_kings))), ((ql 4), .inl (cJ, 128, .inr (.inl a_pawns))), ((qw 0), .inr (6, [.ref (qw 1)])), ((qw 1), .inl (cI, 448, .inl a_table))]
abbrev wSeR (qs : Nat → Nat) (qb : Nat → Nat) (qa : Nat → Nat) (qp : Nat → Nat) (hz : Nat) (ql : Nat → Nat) (qw : Nat → Nat) (cI : ClassId) (cJ : ClassId) (cR : ClassId) (v_schoice : Int32) (a_row1 : Nat → Int32) (a_row2 : Nat → Int32) (a_row3 : Nat → Int32) (a_zrow : Nat → Int32) (v_standing : Int32) (v_own : Int64) (v_all : Int64) (v_king : Int32) (v_saving : Int64) (v_pinned : Int64) (v_passers : Int64) (a_stands : Nat → Int32) (a_goals : Nat → Int64) (v_made : Int32) (a_moved : Nat → Int32) (a_pbefore : Nat → Int32) (a_earlier : Nat → Int32) (v_mover : Int32) (v_rights : Int32) (v_passed : Int32) (v_halves : Int32) (v_number : Int32) (v_balance : Int32) (a_men : Nat → Int32) (a_kinds : Nat → Int64) (a_sides : Nat → Int64) (a_rays : Nat → Int64) (a_knights : Nat → Int64) (a_kings : Nat → Int64) (a_pawns : Nat → Int64) (a_table : Nat → Int32) : va_W := [((qs 0), .inr (5, [.ref (qb 0), .ref (qa 0), .ref (qp 0), .ref (qs 1), .int v_schoice])), ((qs 1), .inl (cR, 3, .inr (.inr (.inr (.inr (fun i => if i < 3 then some (qs (2 + i)) else none)))))), ((qs 2), .inl (cI, 432, .inl a_row1)), ((qs 3), .inl (cI, 432, .inl a_row2)), ((qs 4), .inl (cI, 432, .inl a_row3)), (hz, .inl (cI, 432, .inl a_zrow)), ((qa 0), .inr (1, [.ref (qb 0), .ref (ql 0), .ref (qa 1), .ref (qa 2), .int v_standing, .long v_own, .long v_all, .int v_king, .long v_saving, .long v_pinned, .long v_passers])), ((qa 1), .inl (cI, 16, .inl a_stands)), ((qa 2), .inl (cJ, 16, .inr (.inl a_goals))), ((qp 0), .inr (3, [.ref (qb 0), .ref (qp 1), .ref (qp 2), .ref (qp 3), .int v_made])), ((qp 1), .inl (cI, 1027, .inl a_moved)), ((qp 2), .inl (cI, 1027, .inl a_pbefore)), ((qp 3), .inl (cI, 64, .inl a_earlier)), ((qb 0), .inr (0, [.ref (ql 0), .ref (qw 0), .ref (qb 1), .ref (qb 2), .ref (qb 3), .int v_mover, .int v_rights, .int v_passed, .int v_halves, .int v_number, .int v_balance])), ((qb 1), .inl (cI, 64, .inl a_men)), ((qb 2), .inl (cJ, 7, .inr (.inl a_kinds))), ((qb 3), .inl (cJ, 2, .inr (.inl a_sides))), ((ql 0), .inr (2, [.ref (ql 1), .ref (ql 2), .ref (ql 3), .ref (ql 4)])), ((ql 1), .inl (cJ, 512, .inr (.inl a_rays))), ((ql 2), .inl (cJ, 64, .inr (.inl a_knights))), ((ql 3), .inl (cJ, 64, .inr (.inl a_kings))), ((ql 4), .inl (cJ, 128, .inr (.inl a_pawns))), ((qw 0), .inr (6, [.ref (qw 1)])), ((qw 1), .inl (cI, 448, .inl a_table))]
abbrev wRe (qr : Nat → Nat) (qd : Nat → Nat) (ql : Nat → Nat) (qw : Nat → Nat) (cI : ClassId) (cJ : ClassId) (cC : ClassId) (v_wrongAt : Int32) (v_length : Int32) (v_at : Int32) (a_chars : Nat → Int32) (v_mover : Int32) (v_rights : Int32) (v_passed : Int32) (v_halves : Int32) (v_number : Int32) (v_balance : Int32) (a_men : Nat → Int32) (a_kinds : Nat → Int64) (a_sides : Nat → Int64) (a_rays : Nat → Int64) (a_knights : Nat → Int64) (a_kings : Nat → Int64) (a_pawns : Nat → Int64) (a_table : Nat → Int32) : va_W := [((qr 0), .inr (4, [.ref (qd 0), .int v_wrongAt, .ref (qr 1), .int v_length, .int v_at])), ((qr 1), .inl (cC, 128, .inl a_chars)), ((qd 0), .inr (0, [.ref (ql 0), .ref (qw 0), .ref (qd 1), .ref (qd 2), .ref (qd 3), .int v_mover, .int v_rights, .int v_passed, .int v_halves, .int v_number, .int v_balance])), ((qd 1), .inl (cI, 64, .inl a_men)), ((qd 2), .inl (cJ, 7, .inr (.inl a_kinds))), ((qd 3), .inl (cJ, 2, .inr (.inl a_sides))), ((ql 0), .inr (2, [.ref (ql 1), .ref (ql 2), .ref (ql 3), .ref (ql 4)])), ((ql 1), .inl (cJ, 512, .inr (.inl a_rays))), ((ql 2), .inl (cJ, 64, .inr (.inl a_knights))), ((ql 3), .inl (cJ, 64, .inr (.inl a_kings))), ((ql 4), .inl (cJ, 128, .inr (.inl a_pawns))), ((qw 0), .inr (6, [.ref (qw 1)])), ((qw 1), .inl (cI, 448, .inl a_table))]
abbrev wWr (qy : Nat → Nat) (cC : ClassId) (v_wlength : Int32) (a_wchars : Nat → Int32) : va_W := [((qy 0), .inr (7, [.ref (qy 1), .int v_wlength])), ((qy 1), .inl (cC, 128, .inl a_wchars))]
abbrev wWrB (qy : Nat → Nat) (qb : Nat → Nat) (ql : Nat → Nat) (qw : Nat → Nat) (cI : ClassId) (cJ : ClassId) (cC : ClassId) (v_wlength : Int32) (a_wchars : Nat → Int32) (v_mover : Int32) (v_rights : Int32) (v_passed : Int32) (v_halves : Int32) (v_number : Int32) (v_balance : Int32) (a_men : Nat → Int32) (a_kinds : Nat → Int64) (a_sides : Nat → Int64) (a_rays : Nat → Int64) (a_knights : Nat → Int64) (a_kings : Nat → Int64) (a_pawns : Nat → Int64) (a_table : Nat → Int32) : va_W := [((qy 0), .inr (7, [.ref (qy 1), .int v_wlength])), ((qy 1), .inl (cC, 128, .inl a_wchars)), ((qb 0), .inr (0, [.ref (ql 0), .ref (qw 0), .ref (qb 1), .ref (qb 2), .ref (qb 3), .int v_mover, .int v_rights, .int v_passed, .int v_halves, .int v_number, .int v_balance])), ((qb 1), .inl (cI, 64, .inl a_men)), ((qb 2), .inl (cJ, 7, .inr (.inl a_kinds))), ((qb 3), .inl (cJ, 2, .inr (.inl a_sides))), ((ql 0), .inr (2, [.ref (ql 1), .ref (ql 2), .ref (ql 3), .ref (ql 4)])), ((ql 1), .inl (cJ, 512, .inr (.inl a_rays))), ((ql 2), .inl (cJ, 64, .inr (.inl a_knights))), ((ql 3), .inl (cJ, 64, .inr (.inl a_kings))), ((ql 4), .inl (cJ, 128, .inr (.inl a_pawns))), ((qw 0), .inr (6, [.ref (qw 1)])), ((qw 1), .inl (cI, 448, .inl a_table))]
abbrev wBoBo (qb : Nat → Nat) (ql : Nat → Nat) (qw : Nat → Nat) (qd : Nat → Nat) (cI : ClassId) (cJ : ClassId) (v_mover : Int32) (v_rights : Int32) (v_passed : Int32) (v_halves : Int32) (v_number : Int32) (v_balance : Int32) (a_men : Nat → Int32) (a_kinds : Nat → Int64) (a_sides : Nat → Int64) (d_mover : Int32) (d_rights : Int32) (d_passed : Int32) (d_halves : Int32) (d_number : Int32) (d_balance : Int32) (da_men : Nat → Int32) (da_kinds : Nat → Int64) (da_sides : Nat → Int64) (a_rays : Nat → Int64) (a_knights : Nat → Int64) (a_kings : Nat → Int64) (a_pawns : Nat → Int64) (a_table : Nat → Int32) : va_W := [((qb 0), .inr (0, [.ref (ql 0), .ref (qw 0), .ref (qb 1), .ref (qb 2), .ref (qb 3), .int v_mover, .int v_rights, .int v_passed, .int v_halves, .int v_number, .int v_balance])), ((qb 1), .inl (cI, 64, .inl a_men)), ((qb 2), .inl (cJ, 7, .inr (.inl a_kinds))), ((qb 3), .inl (cJ, 2, .inr (.inl a_sides))), ((qd 0), .inr (0, [.ref (ql 0), .ref (qw 0), .ref (qd 1), .ref (qd 2), .ref (qd 3), .int d_mover, .int d_rights, .int d_passed, .int d_halves, .int d_number, .int d_balance])), ((qd 1), .inl (cI, 64, .inl da_men)), ((qd 2), .inl (cJ, 7, .inr (.inl da_kinds))), ((qd 3), .inl (cJ, 2, .inr (.inl da_sides))), ((ql 0), .inr (2, [.ref (ql 1), .ref (ql 2), .ref (ql 3), .ref (ql 4)])), ((ql 1), .inl (cJ, 512, .inr (.inl a_rays))), ((ql 2), .inl (cJ, 64, .inr (.inl a_knights))), ((ql 3), .inl (cJ, 64, .inr (.inl a_kings))), ((ql 4), .inl (cJ, 128, .inr (.inl a_pawns))), ((qw 0), .inr (6, [.ref (qw 1)])), ((qw 1), .inl (cI, 448, .inl a_table))]
abbrev wKB (qx : Nat → Nat) (qb : Nat → Nat) (qa : Nat → Nat) (qp : Nat → Nat) (qs : Nat → Nat) (qr : Nat → Nat) (qy : Nat → Nat) (ql : Nat → Nat) (qd : Nat → Nat) (qw : Nat → Nat) (cI : ClassId) (cJ : ClassId) (cC : ClassId) (cR : ClassId) (v_listed : Int32) (v_choice : Int32) (a_legal : Nat → Int32) (v_schoice : Int32) (a_row1 : Nat → Int32) (a_row2 : Nat → Int32) (a_row3 : Nat → Int32) (v_standing : Int32) (v_own : Int64) (v_all : Int64) (v_king : Int32) (v_saving : Int64) (v_pinned : Int64) (v_passers : Int64) (a_stands : Nat → Int32) (a_goals : Nat → Int64) (v_made : Int32) (a_moved : Nat → Int32) (a_pbefore : Nat → Int32) (a_earlier : Nat → Int32) (v_wrongAt : Int32) (v_length : Int32) (v_at : Int32) (a_chars : Nat → Int32) (v_wlength : Int32) (a_wchars : Nat → Int32) (v_mover : Int32) (v_rights : Int32) (v_passed : Int32) (v_halves : Int32) (v_number : Int32) (v_balance : Int32) (a_men : Nat → Int32) (a_kinds : Nat → Int64) (a_sides : Nat → Int64) (d_mover : Int32) (d_rights : Int32) (d_passed : Int32) (d_halves : Int32) (d_number : Int32) (d_balance : Int32) (da_men : Nat → Int32) (da_kinds : Nat → Int64) (da_sides : Nat → Int64) (a_rays : Nat → Int64) (a_knights : Nat → Int64) (a_kings : Nat → Int64) (a_pawns : Nat → Int64) (a_table : Nat → Int32) : va_W := [((qx 0), .inr (8, [.ref (qb 0), .ref (qa 0), .ref (qp 0), .ref (qs 0), .ref (qr 0), .ref (qy 0), .ref (qx 1), .int v_listed, .int v_choice])), ((qx 1), .inl (cI, 432, .inl a_legal)), ((qs 0), .inr (5, [.ref (qb 0), .ref (qa 0), .ref (qp 0), .ref (qs 1), .int v_schoice])), ((qs 1), .inl (cR, 3, .inr (.inr (.inr (.inr (fun i => if i < 3 then some (qs (2 + i)) else none)))))), ((qs 2), .inl (cI, 432, .inl a_row1)), ((qs 3), .inl (cI, 432, .inl a_row2)), ((qs 4), .inl (cI, 432, .inl a_row3)), ((qa 0), .inr (1, [.ref (qb 0), .ref (ql 0), .ref (qa 1), .ref (qa 2), .int v_standing, .long v_own, .long v_all, .int v_king, .long v_saving, .long v_pinned, .long v_passers])), ((qa 1), .inl (cI, 16, .inl a_stands)), ((qa 2), .inl (cJ, 16, .inr (.inl a_goals))), ((qp 0), .inr (3, [.ref (qb 0), .ref (qp 1), .ref (qp 2), .ref (qp 3), .int v_made])), ((qp 1), .inl (cI, 1027, .inl a_moved)), ((qp 2), .inl (cI, 1027, .inl a_pbefore)), ((qp 3), .inl (cI, 64, .inl a_earlier)), ((qr 0), .inr (4, [.ref (qd 0), .int v_wrongAt, .ref (qr 1), .int v_length, .int v_at])), ((qr 1), .inl (cC, 128, .inl a_chars)), ((qy 0), .inr (7, [.ref (qy 1), .int v_wlength])), ((qy 1), .inl (cC, 128, .inl a_wchars)), ((qb 0), .inr (0, [.ref (ql 0), .ref (qw 0), .ref (qb 1), .ref (qb 2), .ref (qb 3), .int v_mover, .int v_rights, .int v_passed, .int v_halves, .int v_number, .int v_balance])), ((qb 1), .inl (cI, 64, .inl a_men)), ((qb 2), .inl (cJ, 7, .inr (.inl a_kinds))), ((qb 3), .inl (cJ, 2, .inr (.inl a_sides))), ((qd 0), .inr (0, [.ref (ql 0), .ref (qw 0), .ref (qd 1), .ref (qd 2), .ref (qd 3), .int d_mover, .int d_rights, .int d_passed, .int d_halves, .int d_number, .int d_balance])), ((qd 1), .inl (cI, 64, .inl da_men)), ((qd 2), .inl (cJ, 7, .inr (.inl da_kinds))), ((qd 3), .inl (cJ, 2, .inr (.inl da_sides))), ((ql 0), .inr (2, [.ref (ql 1), .ref (ql 2), .ref (ql 3), .ref (ql 4)])), ((ql 1), .inl (cJ, 512, .inr (.inl a_rays))), ((ql 2), .inl (cJ, 64, .inr (.inl a_knights))), ((ql 3), .inl (cJ, 64, .inr (.inl a_kings))), ((ql 4), .inl (cJ, 128, .inr (.inl a_pawns))), ((qw 0), .inr (6, [.ref (qw 1)])), ((qw 1), .inl (cI, 448, .inl a_table))]
def m_J9_abs_0f7a4_b10 (t0 : Int32) : Option (Int32) := some t0
def m_J9_abs_0f7a4 (p0 : Int32) : Option (Int32) := if 0 ≤ p0 then m_J9_abs_0f7a4_b10 p0 else m_J9_abs_0f7a4_b10 (-p0)
abbrev rm_J9_abs_0f7a4 : Room := { frames := 0, cells := 0, slots := 0, locals := 0 }
abbrev wy_J9_abs_0f7a4 : List Cond := .code yJ9_abs_0f7a4 cJ9_abs_0f7a4 1 (some .int) :: gT
theorem cs_J9_abs_0f7a4 {R : Room} {s : State} {args : Array Value} {own : String} {index : Nat} {w0 : Cond} (hts : ∀ w ∈ w0 :: gT, w.before args s = true) (hl : Cond.methodLink own index yJ9_abs_0f7a4 ∈ gT) (hR : 0 + 1 ≤ R.frames ∧ 8 + (1 + 11) + 0 ≤ R.locals) : CallB R s args own index yJ9_abs_0f7a4 cJ9_abs_0f7a4 1 (some .int) wy_J9_abs_0f7a4 rm_J9_abs_0f7a4 0 0 1 ∧ (Cond.static yJ9_abs_0f7a4).before args s = true :=
  va_cwS 1 hts (gT_call w0 (pre := [.methodLink own index yJ9_abs_0f7a4, .static yJ9_abs_0f7a4, .initialized yJ9_abs_0f7a4.cls]) (gT_lc hl (gT_lc ls_yJ9_abs_0f7a4 (gT_l1 li_RJ9))) lc_yJ9_abs_0f7a4) rfl rfl rfl (by decide +kernel) hR
set_option maxRecDepth 100000 in
set_option maxHeartbeats 4000000 in
theorem c_J9_abs_0f7a4 (l : Launch) (D : va_G) (p0 : Int32) (rv : Int32) (hm : m_J9_abs_0f7a4 p0 = some rv) : kDi l yJ9_abs_0f7a4 wy_J9_abs_0f7a4 rm_J9_abs_0f7a4 D [] rv [] [] [.int p0] := by
  refine kDi.ofF cJ9_abs_0f7a4 1 (some .int) (by decide +kernel) rfl (Or.inl rfl) (Nat.le_of_ble_eq_true rfl) ?_
  intro p e s m below meth c A Q C hret
  have j10 : ∀ (t0 : Int32), m_J9_abs_0f7a4_b10   t0 = some rv → kv p l e rm_J9_abs_0f7a4 s m ([.int p0] : List Value).toArray below meth c D A 1 0 0 Q [] [] 10 [.int t0] := by
    intro t0 h
    unfold m_J9_abs_0f7a4_b10 at h
    cases h
    exact hret _ _ dJ9_abs_0f7a4_10 (fun q => by cases q)
  unfold m_J9_abs_0f7a4 at hm
  have h := hm
  refine kv_lv [0] (lv2 := [(0, .int p0)]) rfl ?_
  refine kv_iload_n C 0 dJ9_abs_0f7a4_0 rfl rfl ?_
  refine kv_if_ge C 9 dJ9_abs_0f7a4_1 (by decide) (fun c_1 => ?_) (fun c_1 => ?_)
  · have h := oi_t h c_1
    refine kv_iload_n C 0 dJ9_abs_0f7a4_9 rfl rfl ?_
    exact kv_lv [] (lv2 := []) rfl (j10 p0 h)
  · have h := oi_f h c_1
    refine kv_iload_n C 0 dJ9_abs_0f7a4_4 rfl rfl ?_
    refine kv_ineg C dJ9_abs_0f7a4_5 ?_
    refine kv_goto C 10 dJ9_abs_0f7a4_6 (by decide) ?_
    exact kv_lv [] (lv2 := []) rfl (j10 (-p0) h)
def m_J9_max_7cf53_b10 (t0 : Int32) : Option (Int32) := some t0
def m_J9_max_7cf53 (p0 : Int32) (p1 : Int32) : Option (Int32) := if p0 < p1 then m_J9_max_7cf53_b10 p1 else m_J9_max_7cf53_b10 p0
abbrev rm_J9_max_7cf53 : Room := { frames := 0, cells := 0, slots := 0, locals := 0 }
abbrev wy_J9_max_7cf53 : List Cond := .code yJ9_max_7cf53 cJ9_max_7cf53 2 (some .int) :: gT
theorem cs_J9_max_7cf53 {R : Room} {s : State} {args : Array Value} {own : String} {index : Nat} {w0 : Cond} (hts : ∀ w ∈ w0 :: gT, w.before args s = true) (hl : Cond.methodLink own index yJ9_max_7cf53 ∈ gT) (hR : 0 + 1 ≤ R.frames ∧ 8 + (2 + 11) + 0 ≤ R.locals) : CallB R s args own index yJ9_max_7cf53 cJ9_max_7cf53 2 (some .int) wy_J9_max_7cf53 rm_J9_max_7cf53 0 0 2 ∧ (Cond.static yJ9_max_7cf53).before args s = true :=
  va_cwS 2 hts (gT_call w0 (pre := [.methodLink own index yJ9_max_7cf53, .static yJ9_max_7cf53, .initialized yJ9_max_7cf53.cls]) (gT_lc hl (gT_lc ls_yJ9_max_7cf53 (gT_l1 li_RJ9))) lc_yJ9_max_7cf53) rfl rfl rfl (by decide +kernel) hR
set_option maxRecDepth 100000 in
set_option maxHeartbeats 4000000 in
theorem c_J9_max_7cf53 (l : Launch) (D : va_G) (p0 : Int32) (p1 : Int32) (rv : Int32) (hm : m_J9_max_7cf53 p0 p1 = some rv) : kDi l yJ9_max_7cf53 wy_J9_max_7cf53 rm_J9_max_7cf53 D [] rv [] [] [.int p0, .int p1] := by
  refine kDi.ofF cJ9_max_7cf53 2 (some .int) (by decide +kernel) rfl (Or.inl rfl) (Nat.le_of_ble_eq_true rfl) ?_
  intro p e s m below meth c A Q C hret
  have j10 : ∀ (t0 : Int32), m_J9_max_7cf53_b10   t0 = some rv → kv p l e rm_J9_max_7cf53 s m ([.int p0, .int p1] : List Value).toArray below meth c D A 2 0 0 Q [] [] 10 [.int t0] := by
    intro t0 h
    unfold m_J9_max_7cf53_b10 at h
    cases h
    exact hret _ _ dJ9_max_7cf53_10 (fun q => by cases q)
  unfold m_J9_max_7cf53 at hm
  have h := hm
  refine kv_lv [0, 1] (lv2 := [(0, .int p0), (1, .int p1)]) rfl ?_
  refine kv_iload_n C 0 dJ9_max_7cf53_0 rfl rfl ?_
  refine kv_iload_n C 1 dJ9_max_7cf53_1 rfl rfl ?_
  refine kv_icmp_lt C 9 dJ9_max_7cf53_2 (by decide) (fun c_1 => ?_) (fun c_1 => ?_)
  · have h := oi_t h c_1
    refine kv_iload_n C 1 dJ9_max_7cf53_9 rfl rfl ?_
    exact kv_lv [] (lv2 := []) rfl (j10 p1 h)
  · have h := oi_f h c_1
    refine kv_iload_n C 0 dJ9_max_7cf53_5 rfl rfl ?_
    refine kv_goto C 10 dJ9_max_7cf53_6 (by decide) ?_
    exact kv_lv [] (lv2 := []) rfl (j10 p0 h)
def m_J9_min_7cf53_b10 (t0 : Int32) : Option (Int32) := some t0
def m_J9_min_7cf53 (p0 : Int32) (p1 : Int32) : Option (Int32) := if p1 < p0 then m_J9_min_7cf53_b10 p1 else m_J9_min_7cf53_b10 p0
abbrev rm_J9_min_7cf53 : Room := { frames := 0, cells := 0, slots := 0, locals := 0 }
abbrev wy_J9_min_7cf53 : List Cond := .code yJ9_min_7cf53 cJ9_min_7cf53 2 (some .int) :: gT
theorem cs_J9_min_7cf53 {R : Room} {s : State} {args : Array Value} {own : String} {index : Nat} {w0 : Cond} (hts : ∀ w ∈ w0 :: gT, w.before args s = true) (hl : Cond.methodLink own index yJ9_min_7cf53 ∈ gT) (hR : 0 + 1 ≤ R.frames ∧ 8 + (2 + 11) + 0 ≤ R.locals) : CallB R s args own index yJ9_min_7cf53 cJ9_min_7cf53 2 (some .int) wy_J9_min_7cf53 rm_J9_min_7cf53 0 0 2 ∧ (Cond.static yJ9_min_7cf53).before args s = true :=
  va_cwS 2 hts (gT_call w0 (pre := [.methodLink own index yJ9_min_7cf53, .static yJ9_min_7cf53, .initialized yJ9_min_7cf53.cls]) (gT_lc hl (gT_lc ls_yJ9_min_7cf53 (gT_l1 li_RJ9))) lc_yJ9_min_7cf53) rfl rfl rfl (by decide +kernel) hR
set_option maxRecDepth 100000 in
set_option maxHeartbeats 4000000 in
theorem c_J9_min_7cf53 (l : Launch) (D : va_G) (p0 : Int32) (p1 : Int32) (rv : Int32) (hm : m_J9_min_7cf53 p0 p1 = some rv) : kDi l yJ9_min_7cf53 wy_J9_min_7cf53 rm_J9_min_7cf53 D [] rv [] [] [.int p0, .int p1] := by
  refine kDi.ofF cJ9_min_7cf53 2 (some .int) (by decide +kernel) rfl (Or.inl rfl) (Nat.le_of_ble_eq_true rfl) ?_
  intro p e s m below meth c A Q C hret
  have j10 : ∀ (t0 : Int32), m_J9_min_7cf53_b10   t0 = some rv → kv p l e rm_J9_min_7cf53 s m ([.int p0, .int p1] : List Value).toArray below meth c D A 2 0 0 Q [] [] 10 [.int t0] := by
    intro t0 h
    unfold m_J9_min_7cf53_b10 at h
    cases h
    exact hret _ _ dJ9_min_7cf53_10 (fun q => by cases q)
  unfold m_J9_min_7cf53 at hm
  have h := hm
  refine kv_lv [0, 1] (lv2 := [(0, .int p0), (1, .int p1)]) rfl ?_
  refine kv_iload_n C 0 dJ9_min_7cf53_0 rfl rfl ?_
  refine kv_iload_n C 1 dJ9_min_7cf53_1 rfl rfl ?_
  refine kv_icmp_gt C 9 dJ9_min_7cf53_2 (by decide) (fun c_1 => ?_) (fun c_1 => ?_)
  · have h := oi_t h c_1
    refine kv_iload_n C 1 dJ9_min_7cf53_9 rfl rfl ?_
    exact kv_lv [] (lv2 := []) rfl (j10 p1 h)
  · have h := oi_f h c_1
    refine kv_iload_n C 0 dJ9_min_7cf53_5 rfl rfl ?_
    refine kv_goto C 10 dJ9_min_7cf53_6 (by decide) ?_
    exact kv_lv [] (lv2 := []) rfl (j10 p0 h)
def m_J13_bitCount_95d88 (p0 : Int64) : Option (Int32) := ol (p0 - (((p0.toUInt64 >>> ((1 : Int32).toInt64.toUInt64 &&& Int64.toUInt64 63)).toInt64) &&& 6148914691236517205)) fun x0_1 => ol ((x0_1 &&& 3689348814741910323) + (((x0_1.toUInt64 >>> ((2 : Int32).toInt64.toUInt64 &&& Int64.toUInt64 63)).toInt64) &&& 3689348814741910323)) fun x0_2 => ol ((x0_2 + ((x0_2.toUInt64 >>> ((4 : Int32).toInt64.toUInt64 &&& Int64.toUInt64 63)).toInt64)) &&& 1085102592571150095) fun x0_3 => ol (x0_3 + ((x0_3.toUInt64 >>> ((8 : Int32).toInt64.toUInt64 &&& Int64.toUInt64 63)).toInt64)) fun x0_4 => ol (x0_4 + ((x0_4.toUInt64 >>> ((16 : Int32).toInt64.toUInt64 &&& Int64.toUInt64 63)).toInt64)) fun x0_5 => ol (x0_5 + ((x0_5.toUInt64 >>> ((32 : Int32).toInt64.toUInt64 &&& Int64.toUInt64 63)).toInt64)) fun x0_6 => some (x0_6.toInt32 &&& 127)
abbrev rm_J13_bitCount_95d88 : Room := { frames := 0, cells := 0, slots := 0, locals := 0 }
abbrev wy_J13_bitCount_95d88 : List Cond := .code yJ13_bitCount_95d88 cJ13_bitCount_95d88 2 (some .int) :: gT
theorem cs_J13_bitCount_95d88 {R : Room} {s : State} {args : Array Value} {own : String} {index : Nat} {w0 : Cond} (hts : ∀ w ∈ w0 :: gT, w.before args s = true) (hl : Cond.methodLink own index yJ13_bitCount_95d88 ∈ gT) (hR : 0 + 1 ≤ R.frames ∧ 8 + (2 + 11) + 0 ≤ R.locals) : CallB R s args own index yJ13_bitCount_95d88 cJ13_bitCount_95d88 2 (some .int) wy_J13_bitCount_95d88 rm_J13_bitCount_95d88 0 0 1 ∧ (Cond.static yJ13_bitCount_95d88).before args s = true :=
  va_cwS 1 hts (gT_call w0 (pre := [.methodLink own index yJ13_bitCount_95d88, .static yJ13_bitCount_95d88, .initialized yJ13_bitCount_95d88.cls]) (gT_lc hl (gT_lc ls_yJ13_bitCount_95d88 (gT_l1 li_RJ13))) lc_yJ13_bitCount_95d88) rfl rfl rfl (by decide +kernel) hR
set_option maxRecDepth 100000 in
set_option maxHeartbeats 4000000 in
theorem c_J13_bitCount_95d88 (l : Launch) (D : va_G) (p0 : Int64) (rv : Int32) (hm : m_J13_bitCount_95d88 p0 = some rv) : kDi l yJ13_bitCount_95d88 wy_J13_bitCount_95d88 rm_J13_bitCount_95d88 D [] rv [] [] [.long p0] := by
  refine kDi.ofF cJ13_bitCount_95d88 2 (some .int) (by decide +kernel) rfl (Or.inl rfl) (Nat.le_of_ble_eq_true rfl) ?_
  intro p e s m below meth c A Q C hret
  unfold m_J13_bitCount_95d88 at hm
  have h := hm
  refine kv_lv [0] (lv2 := [(0, .long p0)]) rfl ?_
  refine kv_lload_n C 0 dJ13_bitCount_95d88_0 rfl rfl ?_
  refine kv_lload_n C 0 dJ13_bitCount_95d88_1 rfl rfl ?_
  refine kv_iconst C 1 dJ13_bitCount_95d88_2 (by decide) ?_
  refine kv_lushr C dJ13_bitCount_95d88_3 ?_
  refine kv_ldc2 C (C.ts _ (List.mem_cons_of_mem _ lkl_RJ13_314)) dJ13_bitCount_95d88_4 ?_
  refine kv_land C dJ13_bitCount_95d88_7 ?_
  refine kv_lsub C dJ13_bitCount_95d88_8 ?_
  obtain ⟨x0_1, ex0_1, h⟩ := ol_e h
  refine kv_topl ex0_1 ?_
  refine kv_lstore_n C (lv2 := [(0, .long x0_1)]) [0] dJ13_bitCount_95d88_9 rfl (by decide) rfl rfl ?_
  refine kv_lload_n C 0 dJ13_bitCount_95d88_10 rfl rfl ?_
  refine kv_ldc2 C (C.ts _ (List.mem_cons_of_mem _ lkl_RJ13_316)) dJ13_bitCount_95d88_11 ?_
  refine kv_land C dJ13_bitCount_95d88_14 ?_
  refine kv_lload_n C 0 dJ13_bitCount_95d88_15 rfl rfl ?_
  refine kv_iconst C 2 dJ13_bitCount_95d88_16 (by decide) ?_
  refine kv_lushr C dJ13_bitCount_95d88_17 ?_
  refine kv_ldc2 C (C.ts _ (List.mem_cons_of_mem _ lkl_RJ13_316)) dJ13_bitCount_95d88_18 ?_
  refine kv_land C dJ13_bitCount_95d88_21 ?_
  refine kv_ladd C dJ13_bitCount_95d88_22 ?_
  obtain ⟨x0_2, ex0_2, h⟩ := ol_e h
  refine kv_topl ex0_2 ?_
  refine kv_lstore_n C (lv2 := [(0, .long x0_2)]) [0] dJ13_bitCount_95d88_23 rfl (by decide) rfl rfl ?_
  refine kv_lload_n C 0 dJ13_bitCount_95d88_24 rfl rfl ?_
  refine kv_lload_n C 0 dJ13_bitCount_95d88_25 rfl rfl ?_
  refine kv_iconst C 4 dJ13_bitCount_95d88_26 (by decide) ?_
  refine kv_lushr C dJ13_bitCount_95d88_27 ?_
  refine kv_ladd C dJ13_bitCount_95d88_28 ?_
  refine kv_ldc2 C (C.ts _ (List.mem_cons_of_mem _ lkl_RJ13_318)) dJ13_bitCount_95d88_29 ?_
  refine kv_land C dJ13_bitCount_95d88_32 ?_
  obtain ⟨x0_3, ex0_3, h⟩ := ol_e h
  refine kv_topl ex0_3 ?_
  refine kv_lstore_n C (lv2 := [(0, .long x0_3)]) [0] dJ13_bitCount_95d88_33 rfl (by decide) rfl rfl ?_
  refine kv_lload_n C 0 dJ13_bitCount_95d88_34 rfl rfl ?_
  refine kv_lload_n C 0 dJ13_bitCount_95d88_35 rfl rfl ?_
  refine kv_bipush C 8 dJ13_bitCount_95d88_36 (by decide) ?_
  refine kv_lushr C dJ13_bitCount_95d88_38 ?_
  refine kv_ladd C dJ13_bitCount_95d88_39 ?_
  obtain ⟨x0_4, ex0_4, h⟩ := ol_e h
  refine kv_topl ex0_4 ?_
  refine kv_lstore_n C (lv2 := [(0, .long x0_4)]) [0] dJ13_bitCount_95d88_40 rfl (by decide) rfl rfl ?_
  refine kv_lload_n C 0 dJ13_bitCount_95d88_41 rfl rfl ?_
  refine kv_lload_n C 0 dJ13_bitCount_95d88_42 rfl rfl ?_
  refine kv_bipush C 16 dJ13_bitCount_95d88_43 (by decide) ?_
  refine kv_lushr C dJ13_bitCount_95d88_45 ?_
  refine kv_ladd C dJ13_bitCount_95d88_46 ?_
  obtain ⟨x0_5, ex0_5, h⟩ := ol_e h
  refine kv_topl ex0_5 ?_
  refine kv_lstore_n C (lv2 := [(0, .long x0_5)]) [0] dJ13_bitCount_95d88_47 rfl (by decide) rfl rfl ?_
  refine kv_lload_n C 0 dJ13_bitCount_95d88_48 rfl rfl ?_
  refine kv_lload_n C 0 dJ13_bitCount_95d88_49 rfl rfl ?_
  refine kv_bipush C 32 dJ13_bitCount_95d88_50 (by decide) ?_
  refine kv_lushr C dJ13_bitCount_95d88_52 ?_
  refine kv_ladd C dJ13_bitCount_95d88_53 ?_
  obtain ⟨x0_6, ex0_6, h⟩ := ol_e h
  refine kv_topl ex0_6 ?_
  refine kv_lstore_n C (lv2 := [(0, .long x0_6)]) [0] dJ13_bitCount_95d88_54 rfl (by decide) rfl rfl ?_
  refine kv_lload_n C 0 dJ13_bitCount_95d88_55 rfl rfl ?_
  refine kv_l2i C dJ13_bitCount_95d88_56 ?_
  refine kv_bipush C 127 dJ13_bitCount_95d88_57 (by decide) ?_
  refine kv_iand C dJ13_bitCount_95d88_59 ?_
  cases h
  exact hret _ _ dJ13_bitCount_95d88_60 (fun q => by cases q)
def m_X9_isSquare_b15 (t0 : Int32) : Option (Int32) := obl (t0) (some t0)
def m_X9_isSquare_b14 : Option (Int32) := m_X9_isSquare_b15 0
def m_X9_isSquare (p0 : Int32) : Option (Int32) := if p0 < 0 then m_X9_isSquare_b14 else if 64 ≤ p0 then m_X9_isSquare_b14 else m_X9_isSquare_b15 1
abbrev rm_X9_isSquare : Room := { frames := 0, cells := 0, slots := 0, locals := 0 }
abbrev wy_X9_isSquare : List Cond := .code yX9_isSquare cX9_isSquare 1 (some .boolean) :: gT
theorem cs_X9_isSquare {R : Room} {s : State} {args : Array Value} {own : String} {index : Nat} {w0 : Cond} (hts : ∀ w ∈ w0 :: gT, w.before args s = true) (hl : Cond.methodLink own index yX9_isSquare ∈ gT) (hR : 0 + 1 ≤ R.frames ∧ 8 + (1 + 11) + 0 ≤ R.locals) : CallB R s args own index yX9_isSquare cX9_isSquare 1 (some .boolean) wy_X9_isSquare rm_X9_isSquare 0 0 1 ∧ (Cond.static yX9_isSquare).before args s = true :=
  va_cwS 1 hts (gT_call w0 (pre := [.methodLink own index yX9_isSquare, .static yX9_isSquare, .initialized yX9_isSquare.cls]) (gT_lc hl (gT_lc ls_yX9_isSquare (gT_l1 li_RX9))) lc_yX9_isSquare) rfl rfl rfl (by decide +kernel) hR
set_option maxRecDepth 100000 in
set_option maxHeartbeats 4000000 in
theorem c_X9_isSquare (l : Launch) (D : va_G) (p0 : Int32) (rv : Int32) (hm : m_X9_isSquare p0 = some rv) : kDi l yX9_isSquare wy_X9_isSquare rm_X9_isSquare D [] rv [] [] [.int p0] := by
  refine kDi.of cX9_isSquare 1 (some .boolean) (by decide) rfl (Or.inr rfl) (Nat.le_of_ble_eq_true rfl) ?_
  intro p e s m below meth c A Q C hret
  have j15 : ∀ (t0 : Int32), m_X9_isSquare_b15   t0 = some rv → kv p l e rm_X9_isSquare s m ([.int p0] : List Value).toArray below meth c D A 1 0 0 Q [] [] 15 [.int t0] := by
    intro t0 h
    unfold m_X9_isSquare_b15 at h
    obtain ⟨g_1, h⟩ := obl_e h
    cases h
    exact hret _ _ dX9_isSquare_15 (fun _ => g_1)
  have j14 : m_X9_isSquare_b14    = some rv → kv p l e rm_X9_isSquare s m ([.int p0] : List Value).toArray below meth c D A 1 0 0 Q [] [] 14 [] := by
    intro  h
    unfold m_X9_isSquare_b14 at h
    refine kv_iconst C 0 dX9_isSquare_14 (by decide) ?_
    exact kv_lv [] (lv2 := []) rfl (j15 0 h)
  unfold m_X9_isSquare at hm
  have h := hm
  refine kv_lv [0] (lv2 := [(0, .int p0)]) rfl ?_
  refine kv_iload_n C 0 dX9_isSquare_0 rfl rfl ?_
  refine kv_if_lt C 14 dX9_isSquare_1 (by decide) (fun c_2 => ?_) (fun c_2 => ?_)
  · have h := oi_t h c_2
    exact kv_lv [] (lv2 := []) rfl (j14  h)
  · have h := oi_f h c_2
    refine kv_iload_n C 0 dX9_isSquare_4 rfl rfl ?_
    refine kv_bipush C 64 dX9_isSquare_5 (by decide) ?_
    refine kv_icmp_ge C 14 dX9_isSquare_7 (by decide) (fun c_3 => ?_) (fun c_3 => ?_)
    · have h := oi_t h c_3
      exact kv_lv [] (lv2 := []) rfl (j14  h)
    · have h := oi_f h c_3
      refine kv_iconst C 1 dX9_isSquare_10 (by decide) ?_
      refine kv_goto C 15 dX9_isSquare_11 (by decide) ?_
      exact kv_lv [] (lv2 := []) rfl (j15 1 h)
def m_X9_isPart_b14 (t0 : Int32) : Option (Int32) := obl (t0) (some t0)
def m_X9_isPart_b13 : Option (Int32) := m_X9_isPart_b14 0
def m_X9_isPart (p0 : Int32) : Option (Int32) := if p0 < 0 then m_X9_isPart_b13 else if 2 < p0 then m_X9_isPart_b13 else m_X9_isPart_b14 1
abbrev rm_X9_isPart : Room := { frames := 0, cells := 0, slots := 0, locals := 0 }
abbrev wy_X9_isPart : List Cond := .code yX9_isPart cX9_isPart 1 (some .boolean) :: gT
theorem cs_X9_isPart {R : Room} {s : State} {args : Array Value} {own : String} {index : Nat} {w0 : Cond} (hts : ∀ w ∈ w0 :: gT, w.before args s = true) (hl : Cond.methodLink own index yX9_isPart ∈ gT) (hR : 0 + 1 ≤ R.frames ∧ 8 + (1 + 11) + 0 ≤ R.locals) : CallB R s args own index yX9_isPart cX9_isPart 1 (some .boolean) wy_X9_isPart rm_X9_isPart 0 0 1 ∧ (Cond.static yX9_isPart).before args s = true :=
  va_cwS 1 hts (gT_call w0 (pre := [.methodLink own index yX9_isPart, .static yX9_isPart, .initialized yX9_isPart.cls]) (gT_lc hl (gT_lc ls_yX9_isPart (gT_l1 li_RX9))) lc_yX9_isPart) rfl rfl rfl (by decide +kernel) hR
set_option maxRecDepth 100000 in
set_option maxHeartbeats 4000000 in
theorem c_X9_isPart (l : Launch) (D : va_G) (p0 : Int32) (rv : Int32) (hm : m_X9_isPart p0 = some rv) : kDi l yX9_isPart wy_X9_isPart rm_X9_isPart D [] rv [] [] [.int p0] := by
  refine kDi.of cX9_isPart 1 (some .boolean) (by decide) rfl (Or.inr rfl) (Nat.le_of_ble_eq_true rfl) ?_
  intro p e s m below meth c A Q C hret
  have j14 : ∀ (t0 : Int32), m_X9_isPart_b14   t0 = some rv → kv p l e rm_X9_isPart s m ([.int p0] : List Value).toArray below meth c D A 1 0 0 Q [] [] 14 [.int t0] := by
    intro t0 h
    unfold m_X9_isPart_b14 at h
    obtain ⟨g_1, h⟩ := obl_e h
    cases h
    exact hret _ _ dX9_isPart_14 (fun _ => g_1)
  have j13 : m_X9_isPart_b13    = some rv → kv p l e rm_X9_isPart s m ([.int p0] : List Value).toArray below meth c D A 1 0 0 Q [] [] 13 [] := by
    intro  h
    unfold m_X9_isPart_b13 at h
    refine kv_iconst C 0 dX9_isPart_13 (by decide) ?_
    exact kv_lv [] (lv2 := []) rfl (j14 0 h)
  unfold m_X9_isPart at hm
  have h := hm
  refine kv_lv [0] (lv2 := [(0, .int p0)]) rfl ?_
  refine kv_iload_n C 0 dX9_isPart_0 rfl rfl ?_
  refine kv_if_lt C 13 dX9_isPart_1 (by decide) (fun c_2 => ?_) (fun c_2 => ?_)
  · have h := oi_t h c_2
    exact kv_lv [] (lv2 := []) rfl (j13  h)
  · have h := oi_f h c_2
    refine kv_iload_n C 0 dX9_isPart_4 rfl rfl ?_
    refine kv_iconst C 2 dX9_isPart_5 (by decide) ?_
    refine kv_icmp_gt C 13 dX9_isPart_6 (by decide) (fun c_3 => ?_) (fun c_3 => ?_)
    · have h := oi_t h c_3
      exact kv_lv [] (lv2 := []) rfl (j13  h)
    · have h := oi_f h c_3
      refine kv_iconst C 1 dX9_isPart_9 (by decide) ?_
      refine kv_goto C 14 dX9_isPart_10 (by decide) ?_
      exact kv_lv [] (lv2 := []) rfl (j14 1 h)
def m_X9_fromOf (p0 : Int32) : Option (Int32) := some (p0 &&& 63)
abbrev rm_X9_fromOf : Room := { frames := 0, cells := 0, slots := 0, locals := 0 }
abbrev wy_X9_fromOf : List Cond := .code yX9_fromOf cX9_fromOf 1 (some .int) :: gT
theorem cs_X9_fromOf {R : Room} {s : State} {args : Array Value} {own : String} {index : Nat} {w0 : Cond} (hts : ∀ w ∈ w0 :: gT, w.before args s = true) (hl : Cond.methodLink own index yX9_fromOf ∈ gT) (hR : 0 + 1 ≤ R.frames ∧ 8 + (1 + 11) + 0 ≤ R.locals) : CallB R s args own index yX9_fromOf cX9_fromOf 1 (some .int) wy_X9_fromOf rm_X9_fromOf 0 0 1 ∧ (Cond.static yX9_fromOf).before args s = true :=
  va_cwS 1 hts (gT_call w0 (pre := [.methodLink own index yX9_fromOf, .static yX9_fromOf, .initialized yX9_fromOf.cls]) (gT_lc hl (gT_lc ls_yX9_fromOf (gT_l1 li_RX9))) lc_yX9_fromOf) rfl rfl rfl (by decide +kernel) hR
theorem cn_X9_fromOf {R : Room} {s : State} {args : Array Value} {own : String} {index : Nat} {w0 : Cond} (hts : ∀ w ∈ w0 :: gT, w.before args s = true) {host : String} (hl : va_Nw (.methodLinkNest own index yX9_fromOf host) s) (hR : 0 + 1 ≤ R.frames ∧ 8 + (1 + 11) + 0 ≤ R.locals) : va_CN R s args own index yX9_fromOf host cX9_fromOf 1 (some .int) wy_X9_fromOf rm_X9_fromOf 0 0 1 ∧ (Cond.static yX9_fromOf).before args s = true ∧ True :=
  ⟨va_cnB 1 hts (gT_call w0 (pre := []) (fun _ h => by cases h) lc_yX9_fromOf) rfl rfl rfl hl (hts _ (List.mem_cons_of_mem _ li_RX9)) (by decide +kernel) hR, hts _ (List.mem_cons_of_mem _ ls_yX9_fromOf), trivial⟩
set_option maxRecDepth 100000 in
set_option maxHeartbeats 4000000 in
theorem c_X9_fromOf (l : Launch) (D : va_G) (p0 : Int32) (rv : Int32) (hm : m_X9_fromOf p0 = some rv) : kDi l yX9_fromOf wy_X9_fromOf rm_X9_fromOf D [] rv [] [] [.int p0] := by
  refine kDi.of cX9_fromOf 1 (some .int) (by decide) rfl (Or.inl rfl) (Nat.le_of_ble_eq_true rfl) ?_
  intro p e s m below meth c A Q C hret
  unfold m_X9_fromOf at hm
  have h := hm
  refine kv_lv [0] (lv2 := [(0, .int p0)]) rfl ?_
  refine kv_iload_n C 0 dX9_fromOf_0 rfl rfl ?_
  refine kv_bipush C 63 dX9_fromOf_1 (by decide) ?_
  refine kv_iand C dX9_fromOf_3 ?_
  cases h
  exact hret _ _ dX9_fromOf_4 (fun q => by cases q)
def m_X9_toOf (p0 : Int32) : Option (Int32) := some ((p0 >>> ((6 : Int32) &&& 31)) &&& 63)
abbrev rm_X9_toOf : Room := { frames := 0, cells := 0, slots := 0, locals := 0 }
abbrev wy_X9_toOf : List Cond := .code yX9_toOf cX9_toOf 1 (some .int) :: gT
theorem cs_X9_toOf {R : Room} {s : State} {args : Array Value} {own : String} {index : Nat} {w0 : Cond} (hts : ∀ w ∈ w0 :: gT, w.before args s = true) (hl : Cond.methodLink own index yX9_toOf ∈ gT) (hR : 0 + 1 ≤ R.frames ∧ 8 + (1 + 11) + 0 ≤ R.locals) : CallB R s args own index yX9_toOf cX9_toOf 1 (some .int) wy_X9_toOf rm_X9_toOf 0 0 1 ∧ (Cond.static yX9_toOf).before args s = true :=
  va_cwS 1 hts (gT_call w0 (pre := [.methodLink own index yX9_toOf, .static yX9_toOf, .initialized yX9_toOf.cls]) (gT_lc hl (gT_lc ls_yX9_toOf (gT_l1 li_RX9))) lc_yX9_toOf) rfl rfl rfl (by decide +kernel) hR
theorem cn_X9_toOf {R : Room} {s : State} {args : Array Value} {own : String} {index : Nat} {w0 : Cond} (hts : ∀ w ∈ w0 :: gT, w.before args s = true) {host : String} (hl : va_Nw (.methodLinkNest own index yX9_toOf host) s) (hR : 0 + 1 ≤ R.frames ∧ 8 + (1 + 11) + 0 ≤ R.locals) : va_CN R s args own index yX9_toOf host cX9_toOf 1 (some .int) wy_X9_toOf rm_X9_toOf 0 0 1 ∧ (Cond.static yX9_toOf).before args s = true ∧ True :=
  ⟨va_cnB 1 hts (gT_call w0 (pre := []) (fun _ h => by cases h) lc_yX9_toOf) rfl rfl rfl hl (hts _ (List.mem_cons_of_mem _ li_RX9)) (by decide +kernel) hR, hts _ (List.mem_cons_of_mem _ ls_yX9_toOf), trivial⟩
set_option maxRecDepth 100000 in
set_option maxHeartbeats 4000000 in
theorem c_X9_toOf (l : Launch) (D : va_G) (p0 : Int32) (rv : Int32) (hm : m_X9_toOf p0 = some rv) : kDi l yX9_toOf wy_X9_toOf rm_X9_toOf D [] rv [] [] [.int p0] := by
  refine kDi.of cX9_toOf 1 (some .int) (by decide) rfl (Or.inl rfl) (Nat.le_of_ble_eq_true rfl) ?_
  intro p e s m below meth c A Q C hret
  unfold m_X9_toOf at hm
  have h := hm
  refine kv_lv [0] (lv2 := [(0, .int p0)]) rfl ?_
  refine kv_iload_n C 0 dX9_toOf_0 rfl rfl ?_
  refine kv_bipush C 6 dX9_toOf_1 (by decide) ?_
  refine kv_ishr C dX9_toOf_3 ?_
  refine kv_bipush C 63 dX9_toOf_4 (by decide) ?_
  refine kv_iand C dX9_toOf_6 ?_
  cases h
  exact hret _ _ dX9_toOf_7 (fun q => by cases q)
def m_X9_becomesOf (p0 : Int32) : Option (Int32) := some (p0 >>> ((12 : Int32) &&& 31))
abbrev rm_X9_becomesOf : Room := { frames := 0, cells := 0, slots := 0, locals := 0 }
abbrev wy_X9_becomesOf : List Cond := .code yX9_becomesOf cX9_becomesOf 1 (some .int) :: gT
theorem cs_X9_becomesOf {R : Room} {s : State} {args : Array Value} {own : String} {index : Nat} {w0 : Cond} (hts : ∀ w ∈ w0 :: gT, w.before args s = true) (hl : Cond.methodLink own index yX9_becomesOf ∈ gT) (hR : 0 + 1 ≤ R.frames ∧ 8 + (1 + 11) + 0 ≤ R.locals) : CallB R s args own index yX9_becomesOf cX9_becomesOf 1 (some .int) wy_X9_becomesOf rm_X9_becomesOf 0 0 1 ∧ (Cond.static yX9_becomesOf).before args s = true :=
  va_cwS 1 hts (gT_call w0 (pre := [.methodLink own index yX9_becomesOf, .static yX9_becomesOf, .initialized yX9_becomesOf.cls]) (gT_lc hl (gT_lc ls_yX9_becomesOf (gT_l1 li_RX9))) lc_yX9_becomesOf) rfl rfl rfl (by decide +kernel) hR
theorem cn_X9_becomesOf {R : Room} {s : State} {args : Array Value} {own : String} {index : Nat} {w0 : Cond} (hts : ∀ w ∈ w0 :: gT, w.before args s = true) {host : String} (hl : va_Nw (.methodLinkNest own index yX9_becomesOf host) s) (hR : 0 + 1 ≤ R.frames ∧ 8 + (1 + 11) + 0 ≤ R.locals) : va_CN R s args own index yX9_becomesOf host cX9_becomesOf 1 (some .int) wy_X9_becomesOf rm_X9_becomesOf 0 0 1 ∧ (Cond.static yX9_becomesOf).before args s = true ∧ True :=
  ⟨va_cnB 1 hts (gT_call w0 (pre := []) (fun _ h => by cases h) lc_yX9_becomesOf) rfl rfl rfl hl (hts _ (List.mem_cons_of_mem _ li_RX9)) (by decide +kernel) hR, hts _ (List.mem_cons_of_mem _ ls_yX9_becomesOf), trivial⟩
set_option maxRecDepth 100000 in
set_option maxHeartbeats 4000000 in
theorem c_X9_becomesOf (l : Launch) (D : va_G) (p0 : Int32) (rv : Int32) (hm : m_X9_becomesOf p0 = some rv) : kDi l yX9_becomesOf wy_X9_becomesOf rm_X9_becomesOf D [] rv [] [] [.int p0] := by
  refine kDi.of cX9_becomesOf 1 (some .int) (by decide) rfl (Or.inl rfl) (Nat.le_of_ble_eq_true rfl) ?_
  intro p e s m below meth c A Q C hret
  unfold m_X9_becomesOf at hm
  have h := hm
  refine kv_lv [0] (lv2 := [(0, .int p0)]) rfl ?_
  refine kv_iload_n C 0 dX9_becomesOf_0 rfl rfl ?_
  refine kv_bipush C 12 dX9_becomesOf_1 (by decide) ?_
  refine kv_ishr C dX9_becomesOf_3 ?_
  cases h
  exact hret _ _ dX9_becomesOf_4 (fun q => by cases q)
def m_X9_part_b25 (t0 : Int32) : Option (Int32) := some t0
def m_X9_part (p0 : Int32) (p1 : Int32) : Option (Int32) := if p1 = 0 then ob (m_X9_fromOf p0) fun r_7 => some r_7 else if p1 = 1 then ob (m_X9_toOf p0) fun r_5 => m_X9_part_b25 r_5 else ob (m_X9_becomesOf p0) fun r_3 => m_X9_part_b25 r_3
abbrev rm_X9_part : Room := { frames := 1, cells := 0, slots := 0, locals := 20 }
abbrev wy_X9_part : List Cond := .code yX9_part cX9_part 2 (some .int) :: gT
theorem cs_X9_part {R : Room} {s : State} {args : Array Value} {own : String} {index : Nat} {w0 : Cond} (hts : ∀ w ∈ w0 :: gT, w.before args s = true) (hl : Cond.methodLink own index yX9_part ∈ gT) (hR : 1 + 1 ≤ R.frames ∧ 8 + (2 + 11) + 20 ≤ R.locals) : CallB R s args own index yX9_part cX9_part 2 (some .int) wy_X9_part rm_X9_part 0 0 2 ∧ (Cond.static yX9_part).before args s = true :=
  va_cwS 2 hts (gT_call w0 (pre := [.methodLink own index yX9_part, .static yX9_part, .initialized yX9_part.cls]) (gT_lc hl (gT_lc ls_yX9_part (gT_l1 li_RX9))) lc_yX9_part) rfl rfl rfl (by decide +kernel) hR
set_option maxRecDepth 100000 in
set_option maxHeartbeats 4000000 in
theorem c_X9_part (l : Launch) (D : va_G) (p0 : Int32) (p1 : Int32) (rv : Int32) (hm : m_X9_part p0 p1 = some rv) : kDi l yX9_part wy_X9_part rm_X9_part D [] rv [] [] [.int p0, .int p1] := by
  refine kDi.of cX9_part 2 (some .int) (by decide) rfl (Or.inl rfl) (Nat.le_of_ble_eq_true rfl) ?_
  intro p e s m below meth c A Q C hret
  have j25 : ∀ (t0 : Int32), m_X9_part_b25   t0 = some rv → kv p l e rm_X9_part s m ([.int p0, .int p1] : List Value).toArray below meth c D A 2 0 0 Q [] [] 25 [.int t0] := by
    intro t0 h
    unfold m_X9_part_b25 at h
    cases h
    exact hret _ _ dX9_part_25 (fun q => by cases q)
  unfold m_X9_part at hm
  have h := hm
  refine kv_lv [0, 1] (lv2 := [(0, .int p0), (1, .int p1)]) rfl ?_
  refine kv_iload_n C 1 dX9_part_0 rfl rfl ?_
  refine kv_if_ne C 9 dX9_part_1 (by decide) (fun c_1 => ?_) (fun c_1 => ?_)
  · have h := oi_f h c_1
    refine kv_iload_n C 1 dX9_part_9 rfl rfl ?_
    refine kv_iconst C 1 dX9_part_10 (by decide) ?_
    refine kv_icmp_ne C 21 dX9_part_11 (by decide) (fun c_2 => ?_) (fun c_2 => ?_)
    · have h := oi_f h c_2
      refine kv_iload_n C 0 dX9_part_21 rfl rfl ?_
      obtain ⟨r_3, hm_4, h⟩ := ob_e h
      refine kv_callS0i C [.int p0] (c_X9_becomesOf l D p0 r_3 hm_4) (cs_X9_becomesOf C.ts lm_RX9_226 ⟨Nat.le_of_ble_eq_true rfl, Nat.le_of_ble_eq_true rfl⟩) rfl rfl (Nat.le_of_ble_eq_true rfl) dX9_part_22 ⟨Nat.zero_le _, Nat.zero_le _⟩ ?_
      exact kv_lv [] (lv2 := []) rfl (j25 r_3 h)
    · have h := oi_t h c_2
      refine kv_iload_n C 0 dX9_part_14 rfl rfl ?_
      obtain ⟨r_5, hm_6, h⟩ := ob_e h
      refine kv_callS0i C [.int p0] (c_X9_toOf l D p0 r_5 hm_6) (cs_X9_toOf C.ts lm_RX9_223 ⟨Nat.le_of_ble_eq_true rfl, Nat.le_of_ble_eq_true rfl⟩) rfl rfl (Nat.le_of_ble_eq_true rfl) dX9_part_15 ⟨Nat.zero_le _, Nat.zero_le _⟩ ?_
      refine kv_goto C 25 dX9_part_18 (by decide) ?_
      exact kv_lv [] (lv2 := []) rfl (j25 r_5 h)
  · have h := oi_t h c_1
    refine kv_iload_n C 0 dX9_part_4 rfl rfl ?_
    obtain ⟨r_7, hm_8, h⟩ := ob_e h
    refine kv_callS0i C [.int p0] (c_X9_fromOf l D p0 r_7 hm_8) (cs_X9_fromOf C.ts lm_RX9_220 ⟨Nat.le_of_ble_eq_true rfl, Nat.le_of_ble_eq_true rfl⟩) rfl rfl (Nat.le_of_ble_eq_true rfl) dX9_part_5 ⟨Nat.zero_le _, Nat.zero_le _⟩ ?_
    cases h
    exact hret _ _ dX9_part_8 (fun q => by cases q)
def m_X9_moveOf (p0 : Int32) (p1 : Int32) (p2 : Int32) : Option (Int32) := some ((p0 ||| (p1 <<< ((6 : Int32) &&& 31))) ||| (p2 <<< ((12 : Int32) &&& 31)))
abbrev rm_X9_moveOf : Room := { frames := 0, cells := 0, slots := 0, locals := 0 }
abbrev wy_X9_moveOf : List Cond := .code yX9_moveOf cX9_moveOf 3 (some .int) :: gT
theorem cs_X9_moveOf {R : Room} {s : State} {args : Array Value} {own : String} {index : Nat} {w0 : Cond} (hts : ∀ w ∈ w0 :: gT, w.before args s = true) (hl : Cond.methodLink own index yX9_moveOf ∈ gT) (hR : 0 + 1 ≤ R.frames ∧ 8 + (3 + 11) + 0 ≤ R.locals) : CallB R s args own index yX9_moveOf cX9_moveOf 3 (some .int) wy_X9_moveOf rm_X9_moveOf 0 0 3 ∧ (Cond.static yX9_moveOf).before args s = true :=
  va_cwS 3 hts (gT_call w0 (pre := [.methodLink own index yX9_moveOf, .static yX9_moveOf, .initialized yX9_moveOf.cls]) (gT_lc hl (gT_lc ls_yX9_moveOf (gT_l1 li_RX9))) lc_yX9_moveOf) rfl rfl rfl (by decide +kernel) hR
theorem cn_X9_moveOf {R : Room} {s : State} {args : Array Value} {own : String} {index : Nat} {w0 : Cond} (hts : ∀ w ∈ w0 :: gT, w.before args s = true) {host : String} (hl : va_Nw (.methodLinkNest own index yX9_moveOf host) s) (hR : 0 + 1 ≤ R.frames ∧ 8 + (3 + 11) + 0 ≤ R.locals) : va_CN R s args own index yX9_moveOf host cX9_moveOf 3 (some .int) wy_X9_moveOf rm_X9_moveOf 0 0 3 ∧ (Cond.static yX9_moveOf).before args s = true ∧ True :=
  ⟨va_cnB 3 hts (gT_call w0 (pre := []) (fun _ h => by cases h) lc_yX9_moveOf) rfl rfl rfl hl (hts _ (List.mem_cons_of_mem _ li_RX9)) (by decide +kernel) hR, hts _ (List.mem_cons_of_mem _ ls_yX9_moveOf), trivial⟩
set_option maxRecDepth 100000 in
set_option maxHeartbeats 4000000 in
theorem c_X9_moveOf (l : Launch) (D : va_G) (p0 : Int32) (p1 : Int32) (p2 : Int32) (rv : Int32) (hm : m_X9_moveOf p0 p1 p2 = some rv) : kDi l yX9_moveOf wy_X9_moveOf rm_X9_moveOf D [] rv [] [] [.int p0, .int p1, .int p2] := by
  refine kDi.of cX9_moveOf 3 (some .int) (by decide) rfl (Or.inl rfl) (Nat.le_of_ble_eq_true rfl) ?_
  intro p e s m below meth c A Q C hret
  unfold m_X9_moveOf at hm
  have h := hm
  refine kv_lv [0, 1, 2] (lv2 := [(0, .int p0), (1, .int p1), (2, .int p2)]) rfl ?_
  refine kv_iload_n C 0 dX9_moveOf_0 rfl rfl ?_
  refine kv_iload_n C 1 dX9_moveOf_1 rfl rfl ?_
  refine kv_bipush C 6 dX9_moveOf_2 (by decide) ?_
  refine kv_ishl C dX9_moveOf_4 ?_
  refine kv_ior C dX9_moveOf_5 ?_
  refine kv_iload_n C 2 dX9_moveOf_6 rfl rfl ?_
  refine kv_bipush C 12 dX9_moveOf_7 (by decide) ?_
  refine kv_ishl C dX9_moveOf_9 ?_
  refine kv_ior C dX9_moveOf_10 ?_
  cases h
  exact hret _ _ dX9_moveOf_11 (fun q => by cases q)
def m_X9_leastOf (p0 : Int64) : Option (Int32) := ob (m_J13_bitCount_95d88 ((p0 &&& (-p0)) - 1)) fun r_1 => some r_1
abbrev rm_X9_leastOf : Room := { frames := 1, cells := 0, slots := 0, locals := 21 }
abbrev wy_X9_leastOf : List Cond := .code yX9_leastOf cX9_leastOf 2 (some .int) :: gT
theorem cs_X9_leastOf {R : Room} {s : State} {args : Array Value} {own : String} {index : Nat} {w0 : Cond} (hts : ∀ w ∈ w0 :: gT, w.before args s = true) (hl : Cond.methodLink own index yX9_leastOf ∈ gT) (hR : 1 + 1 ≤ R.frames ∧ 8 + (2 + 11) + 21 ≤ R.locals) : CallB R s args own index yX9_leastOf cX9_leastOf 2 (some .int) wy_X9_leastOf rm_X9_leastOf 0 0 1 ∧ (Cond.static yX9_leastOf).before args s = true :=
  va_cwS 1 hts (gT_call w0 (pre := [.methodLink own index yX9_leastOf, .static yX9_leastOf, .initialized yX9_leastOf.cls]) (gT_lc hl (gT_lc ls_yX9_leastOf (gT_l1 li_RX9))) lc_yX9_leastOf) rfl rfl rfl (by decide +kernel) hR
theorem cn_X9_leastOf {R : Room} {s : State} {args : Array Value} {own : String} {index : Nat} {w0 : Cond} (hts : ∀ w ∈ w0 :: gT, w.before args s = true) {host : String} (hl : va_Nw (.methodLinkNest own index yX9_leastOf host) s) (hR : 1 + 1 ≤ R.frames ∧ 8 + (2 + 11) + 21 ≤ R.locals) : va_CN R s args own index yX9_leastOf host cX9_leastOf 2 (some .int) wy_X9_leastOf rm_X9_leastOf 0 0 1 ∧ (Cond.static yX9_leastOf).before args s = true ∧ True :=
  ⟨va_cnB 1 hts (gT_call w0 (pre := []) (fun _ h => by cases h) lc_yX9_leastOf) rfl rfl rfl hl (hts _ (List.mem_cons_of_mem _ li_RX9)) (by decide +kernel) hR, hts _ (List.mem_cons_of_mem _ ls_yX9_leastOf), trivial⟩
set_option maxRecDepth 100000 in
set_option maxHeartbeats 4000000 in
theorem c_X9_leastOf (l : Launch) (D : va_G) (p0 : Int64) (rv : Int32) (hm : m_X9_leastOf p0 = some rv) : kDi l yX9_leastOf wy_X9_leastOf rm_X9_leastOf D [] rv [] [] [.long p0] := by
  refine kDi.of cX9_leastOf 2 (some .int) (by decide) rfl (Or.inl rfl) (Nat.le_of_ble_eq_true rfl) ?_
  intro p e s m below meth c A Q C hret
  unfold m_X9_leastOf at hm
  have h := hm
  refine kv_lv [0] (lv2 := [(0, .long p0)]) rfl ?_
  refine kv_lload_n C 0 dX9_leastOf_0 rfl rfl ?_
  refine kv_lload_n C 0 dX9_leastOf_1 rfl rfl ?_
  refine kv_lneg C dX9_leastOf_2 ?_
  refine kv_land C dX9_leastOf_3 ?_
  refine kv_lconst C 1 dX9_leastOf_4 (by decide) ?_
  refine kv_lsub C dX9_leastOf_5 ?_
  obtain ⟨r_1, hm_2, h⟩ := ob_e h
  refine kv_callS0i C [.long ((p0 &&& (-p0)) - 1)] (c_J13_bitCount_95d88 l D ((p0 &&& (-p0)) - 1) r_1 hm_2) (cs_J13_bitCount_95d88 C.ts lm_RX9_229 ⟨Nat.le_of_ble_eq_true rfl, Nat.le_of_ble_eq_true rfl⟩) rfl rfl (Nat.le_of_ble_eq_true rfl) dX9_leastOf_6 ⟨Nat.zero_le _, Nat.zero_le _⟩ ?_
  cases h
  exact hret _ _ dX9_leastOf_9 (fun q => by cases q)
def m_X9_upOf_b11 (t0 : Int32) : Option (Int32) := some t0
def m_X9_upOf (p0 : Int32) : Option (Int32) := if p0 = 0 then m_X9_upOf_b11 8 else m_X9_upOf_b11 (-8)
abbrev rm_X9_upOf : Room := { frames := 0, cells := 0, slots := 0, locals := 0 }
abbrev wy_X9_upOf : List Cond := .code yX9_upOf cX9_upOf 1 (some .int) :: gT
theorem cs_X9_upOf {R : Room} {s : State} {args : Array Value} {own : String} {index : Nat} {w0 : Cond} (hts : ∀ w ∈ w0 :: gT, w.before args s = true) (hl : Cond.methodLink own index yX9_upOf ∈ gT) (hR : 0 + 1 ≤ R.frames ∧ 8 + (1 + 11) + 0 ≤ R.locals) : CallB R s args own index yX9_upOf cX9_upOf 1 (some .int) wy_X9_upOf rm_X9_upOf 0 0 1 ∧ (Cond.static yX9_upOf).before args s = true :=
  va_cwS 1 hts (gT_call w0 (pre := [.methodLink own index yX9_upOf, .static yX9_upOf, .initialized yX9_upOf.cls]) (gT_lc hl (gT_lc ls_yX9_upOf (gT_l1 li_RX9))) lc_yX9_upOf) rfl rfl rfl (by decide +kernel) hR
theorem cn_X9_upOf {R : Room} {s : State} {args : Array Value} {own : String} {index : Nat} {w0 : Cond} (hts : ∀ w ∈ w0 :: gT, w.before args s = true) {host : String} (hl : va_Nw (.methodLinkNest own index yX9_upOf host) s) (hR : 0 + 1 ≤ R.frames ∧ 8 + (1 + 11) + 0 ≤ R.locals) : va_CN R s args own index yX9_upOf host cX9_upOf 1 (some .int) wy_X9_upOf rm_X9_upOf 0 0 1 ∧ (Cond.static yX9_upOf).before args s = true ∧ True :=
  ⟨va_cnB 1 hts (gT_call w0 (pre := []) (fun _ h => by cases h) lc_yX9_upOf) rfl rfl rfl hl (hts _ (List.mem_cons_of_mem _ li_RX9)) (by decide +kernel) hR, hts _ (List.mem_cons_of_mem _ ls_yX9_upOf), trivial⟩
set_option maxRecDepth 100000 in
set_option maxHeartbeats 4000000 in
theorem c_X9_upOf (l : Launch) (D : va_G) (p0 : Int32) (rv : Int32) (hm : m_X9_upOf p0 = some rv) : kDi l yX9_upOf wy_X9_upOf rm_X9_upOf D [] rv [] [] [.int p0] := by
  refine kDi.of cX9_upOf 1 (some .int) (by decide) rfl (Or.inl rfl) (Nat.le_of_ble_eq_true rfl) ?_
  intro p e s m below meth c A Q C hret
  have j11 : ∀ (t0 : Int32), m_X9_upOf_b11   t0 = some rv → kv p l e rm_X9_upOf s m ([.int p0] : List Value).toArray below meth c D A 1 0 0 Q [] [] 11 [.int t0] := by
    intro t0 h
    unfold m_X9_upOf_b11 at h
    cases h
    exact hret _ _ dX9_upOf_11 (fun q => by cases q)
  unfold m_X9_upOf at hm
  have h := hm
  refine kv_lv [0] (lv2 := [(0, .int p0)]) rfl ?_
  refine kv_iload_n C 0 dX9_upOf_0 rfl rfl ?_
  refine kv_if_ne C 9 dX9_upOf_1 (by decide) (fun c_1 => ?_) (fun c_1 => ?_)
  · have h := oi_f h c_1
    refine kv_bipush C (-8) dX9_upOf_9 (by decide) ?_
    exact kv_lv [] (lv2 := []) rfl (j11 (-8) h)
  · have h := oi_t h c_1
    refine kv_bipush C 8 dX9_upOf_4 (by decide) ?_
    refine kv_goto C 11 dX9_upOf_6 (by decide) ?_
    exact kv_lv [] (lv2 := []) rfl (j11 8 h)
def m_X3_at_b42 (t0 : Int64) : Option (Int64) := some t0
def m_X3_at_b25 (x0 : Int32) (x1 : Int32) (t0 : Int32) : Option (Int64) := if t0 = 0 then m_X3_at_b42 0 else m_X3_at_b42 ((1 : Int64) <<< ((((8 : Int32) * x0) + x1).toInt64 &&& 63))
def m_X3_at_b24 (x0 : Int32) (x1 : Int32) : Option (Int64) := m_X3_at_b25 x0 x1 0
def m_X3_at (p0 : Int32) (p1 : Int32) : Option (Int64) := if p0 < 0 then m_X3_at_b24 p0 p1 else if 8 ≤ p0 then m_X3_at_b24 p0 p1 else if p1 < 0 then m_X3_at_b24 p0 p1 else if 8 ≤ p1 then m_X3_at_b24 p0 p1 else m_X3_at_b25 p0 p1 1
abbrev rm_X3_at : Room := { frames := 0, cells := 0, slots := 0, locals := 0 }
abbrev wy_X3_at : List Cond := .code yX3_at cX3_at 3 (some .long) :: gT
theorem cs_X3_at {R : Room} {s : State} {args : Array Value} {own : String} {index : Nat} {w0 : Cond} (hts : ∀ w ∈ w0 :: gT, w.before args s = true) (hl : Cond.methodLink own index yX3_at ∈ gT) (hR : 0 + 1 ≤ R.frames ∧ 8 + (3 + 11) + 0 ≤ R.locals) : CallB R s args own index yX3_at cX3_at 3 (some .long) wy_X3_at rm_X3_at 0 0 2 ∧ (Cond.static yX3_at).before args s = true :=
  va_cwS 2 hts (gT_call w0 (pre := [.methodLink own index yX3_at, .static yX3_at, .initialized yX3_at.cls]) (gT_lc hl (gT_lc ls_yX3_at (gT_l1 li_RX3))) lc_yX3_at) rfl rfl rfl (by decide +kernel) hR
set_option maxRecDepth 100000 in
set_option maxHeartbeats 4000000 in
theorem c_X3_at (l : Launch) (D : va_G) (p0 : Int32) (p1 : Int32) (rv : Int64) (hm : m_X3_at p0 p1 = some rv) : kDl l yX3_at wy_X3_at rm_X3_at D [] rv [] [] [.int p0, .int p1] := by
  refine kDl.of cX3_at 3 (some .long) (by decide) rfl rfl (Nat.le_of_ble_eq_true rfl) ?_
  intro p e s m below meth c A Q C hret
  have j42 : ∀ (t0 : Int64), m_X3_at_b42   t0 = some rv → kv p l e rm_X3_at s m ([.int p0, .int p1] : List Value).toArray below meth c D A 3 0 0 Q [] [] 42 [.long t0] := by
    intro t0 h
    unfold m_X3_at_b42 at h
    cases h
    exact hret _ _ dX3_at_42
  have j25 : ∀ (x0 : Int32) (x1 : Int32) (t0 : Int32), m_X3_at_b25   x0 x1 t0 = some rv → kv p l e rm_X3_at s m ([.int p0, .int p1] : List Value).toArray below meth c D A 3 0 0 Q [] [(0, .int x0), (1, .int x1)] 25 [.int t0] := by
    intro x0 x1 t0 h
    unfold m_X3_at_b25 at h
    refine kv_istore_n C (lv2 := [(0, .int x0), (1, .int x1), (2, .int t0)]) [1, 2, 0] dX3_at_25 rfl (by decide) rfl rfl ?_
    refine kv_iload_n C 2 dX3_at_26 rfl rfl ?_
    refine kv_if_eq C 41 dX3_at_27 (by decide) (fun c_1 => ?_) (fun c_1 => ?_)
    · have h := oi_t h c_1
      refine kv_lconst C 0 dX3_at_41 (by decide) ?_
      exact kv_lv [] (lv2 := []) rfl (j42 0 h)
    · have h := oi_f h c_1
      refine kv_lconst C 1 dX3_at_30 (by decide) ?_
      refine kv_bipush C 8 dX3_at_31 (by decide) ?_
      refine kv_iload_n C 0 dX3_at_33 rfl rfl ?_
      refine kv_imul C dX3_at_34 ?_
      refine kv_iload_n C 1 dX3_at_35 rfl rfl ?_
      refine kv_iadd C dX3_at_36 ?_
      refine kv_lshl C dX3_at_37 ?_
      refine kv_goto C 42 dX3_at_38 (by decide) ?_
      exact kv_lv [] (lv2 := []) rfl (j42 ((1 : Int64) <<< ((((8 : Int32) * x0) + x1).toInt64 &&& 63)) h)
  have j24 : ∀ (x0 : Int32) (x1 : Int32), m_X3_at_b24   x0 x1 = some rv → kv p l e rm_X3_at s m ([.int p0, .int p1] : List Value).toArray below meth c D A 3 0 0 Q [] [(0, .int x0), (1, .int x1)] 24 [] := by
    intro x0 x1 h
    unfold m_X3_at_b24 at h
    refine kv_iconst C 0 dX3_at_24 (by decide) ?_
    exact kv_lv [0, 1] (lv2 := [(0, .int x0), (1, .int x1)]) rfl (j25 x0 x1 0 h)
  unfold m_X3_at at hm
  have h := hm
  refine kv_lv [0, 1] (lv2 := [(0, .int p0), (1, .int p1)]) rfl ?_
  refine kv_iload_n C 0 dX3_at_0 rfl rfl ?_
  refine kv_if_lt C 24 dX3_at_1 (by decide) (fun c_2 => ?_) (fun c_2 => ?_)
  · have h := oi_t h c_2
    exact kv_lv [0, 1] (lv2 := [(0, .int p0), (1, .int p1)]) rfl (j24 p0 p1 h)
  · have h := oi_f h c_2
    refine kv_iload_n C 0 dX3_at_4 rfl rfl ?_
    refine kv_bipush C 8 dX3_at_5 (by decide) ?_
    refine kv_icmp_ge C 24 dX3_at_7 (by decide) (fun c_3 => ?_) (fun c_3 => ?_)
    · have h := oi_t h c_3
      exact kv_lv [0, 1] (lv2 := [(0, .int p0), (1, .int p1)]) rfl (j24 p0 p1 h)
    · have h := oi_f h c_3
      refine kv_iload_n C 1 dX3_at_10 rfl rfl ?_
      refine kv_if_lt C 24 dX3_at_11 (by decide) (fun c_4 => ?_) (fun c_4 => ?_)
      · have h := oi_t h c_4
        exact kv_lv [0, 1] (lv2 := [(0, .int p0), (1, .int p1)]) rfl (j24 p0 p1 h)
      · have h := oi_f h c_4
        refine kv_iload_n C 1 dX3_at_14 rfl rfl ?_
        refine kv_bipush C 8 dX3_at_15 (by decide) ?_
        refine kv_icmp_ge C 24 dX3_at_17 (by decide) (fun c_5 => ?_) (fun c_5 => ?_)
        · have h := oi_t h c_5
          exact kv_lv [0, 1] (lv2 := [(0, .int p0), (1, .int p1)]) rfl (j24 p0 p1 h)
        · have h := oi_f h c_5
          refine kv_iconst C 1 dX3_at_20 (by decide) ?_
          refine kv_goto C 25 dX3_at_21 (by decide) ?_
          exact kv_lv [0, 1] (lv2 := [(0, .int p0), (1, .int p1)]) rfl (j25 p0 p1 1 h)
def m_X3_goesAlong_b25 (t0 : Int32) : Option (Int32) := obl (t0) (some t0)
def m_X3_goesAlong_b20 : Option (Int32) := m_X3_goesAlong_b25 1
def m_X3_goesAlong_b17 (t0 : Int32) (t1 : Int32) : Option (Int32) := if t0 = t1 then m_X3_goesAlong_b20 else m_X3_goesAlong_b25 0
def m_X3_goesAlong (p0 : Int32) (p1 : Int32) : Option (Int32) := if p0 = 5 then m_X3_goesAlong_b20 else if (p1 &&& 2) = 0 then m_X3_goesAlong_b17 p0 4 else m_X3_goesAlong_b17 p0 3
abbrev rm_X3_goesAlong : Room := { frames := 0, cells := 0, slots := 0, locals := 0 }
abbrev wy_X3_goesAlong : List Cond := .code yX3_goesAlong cX3_goesAlong 2 (some .boolean) :: gT
theorem cs_X3_goesAlong {R : Room} {s : State} {args : Array Value} {own : String} {index : Nat} {w0 : Cond} (hts : ∀ w ∈ w0 :: gT, w.before args s = true) (hl : Cond.methodLink own index yX3_goesAlong ∈ gT) (hR : 0 + 1 ≤ R.frames ∧ 8 + (2 + 11) + 0 ≤ R.locals) : CallB R s args own index yX3_goesAlong cX3_goesAlong 2 (some .boolean) wy_X3_goesAlong rm_X3_goesAlong 0 0 2 ∧ (Cond.static yX3_goesAlong).before args s = true :=
  va_cwS 2 hts (gT_call w0 (pre := [.methodLink own index yX3_goesAlong, .static yX3_goesAlong, .initialized yX3_goesAlong.cls]) (gT_lc hl (gT_lc ls_yX3_goesAlong (gT_l1 li_RX3))) lc_yX3_goesAlong) rfl rfl rfl (by decide +kernel) hR
set_option maxRecDepth 100000 in
set_option maxHeartbeats 4000000 in
theorem c_X3_goesAlong (l : Launch) (D : va_G) (p0 : Int32) (p1 : Int32) (rv : Int32) (hm : m_X3_goesAlong p0 p1 = some rv) : kDi l yX3_goesAlong wy_X3_goesAlong rm_X3_goesAlong D [] rv [] [] [.int p0, .int p1] := by
  refine kDi.of cX3_goesAlong 2 (some .boolean) (by decide) rfl (Or.inr rfl) (Nat.le_of_ble_eq_true rfl) ?_
  intro p e s m below meth c A Q C hret
  have j25 : ∀ (t0 : Int32), m_X3_goesAlong_b25   t0 = some rv → kv p l e rm_X3_goesAlong s m ([.int p0, .int p1] : List Value).toArray below meth c D A 2 0 0 Q [] [] 25 [.int t0] := by
    intro t0 h
    unfold m_X3_goesAlong_b25 at h
    obtain ⟨g_1, h⟩ := obl_e h
    cases h
    exact hret _ _ dX3_goesAlong_25 (fun _ => g_1)
  have j20 : m_X3_goesAlong_b20    = some rv → kv p l e rm_X3_goesAlong s m ([.int p0, .int p1] : List Value).toArray below meth c D A 2 0 0 Q [] [] 20 [] := by
    intro  h
    unfold m_X3_goesAlong_b20 at h
    refine kv_iconst C 1 dX3_goesAlong_20 (by decide) ?_
    refine kv_goto C 25 dX3_goesAlong_21 (by decide) ?_
    exact kv_lv [] (lv2 := []) rfl (j25 1 h)
  have j17 : ∀ (t0 : Int32) (t1 : Int32), m_X3_goesAlong_b17   t0 t1 = some rv → kv p l e rm_X3_goesAlong s m ([.int p0, .int p1] : List Value).toArray below meth c D A 2 0 0 Q [] [] 17 [.int t1, .int t0] := by
    intro t0 t1 h
    unfold m_X3_goesAlong_b17 at h
    refine kv_icmp_ne C 24 dX3_goesAlong_17 (by decide) (fun c_2 => ?_) (fun c_2 => ?_)
    · have h := oi_f h c_2
      refine kv_iconst C 0 dX3_goesAlong_24 (by decide) ?_
      exact kv_lv [] (lv2 := []) rfl (j25 0 h)
    · have h := oi_t h c_2
      exact kv_lv [] (lv2 := []) rfl (j20  h)
  unfold m_X3_goesAlong at hm
  have h := hm
  refine kv_lv [0, 1] (lv2 := [(0, .int p0), (1, .int p1)]) rfl ?_
  refine kv_iload_n C 0 dX3_goesAlong_0 rfl rfl ?_
  refine kv_iconst C 5 dX3_goesAlong_1 (by decide) ?_
  refine kv_icmp_eq C 20 dX3_goesAlong_2 (by decide) (fun c_3 => ?_) (fun c_3 => ?_)
  · have h := oi_t h c_3
    exact kv_lv [] (lv2 := []) rfl (j20  h)
  · have h := oi_f h c_3
    refine kv_iload_n C 0 dX3_goesAlong_5 rfl rfl ?_
    refine kv_iload_n C 1 dX3_goesAlong_6 rfl rfl ?_
    refine kv_iconst C 2 dX3_goesAlong_7 (by decide) ?_
    refine kv_iand C dX3_goesAlong_8 ?_
    refine kv_if_eq C 16 dX3_goesAlong_9 (by decide) (fun c_4 => ?_) (fun c_4 => ?_)
    · have h := oi_t h c_4
      refine kv_iconst C 4 dX3_goesAlong_16 (by decide) ?_
      exact kv_lv [] (lv2 := []) rfl (j17 p0 4 h)
    · have h := oi_f h c_4
      refine kv_iconst C 3 dX3_goesAlong_12 (by decide) ?_
      refine kv_goto C 17 dX3_goesAlong_13 (by decide) ?_
      exact kv_lv [] (lv2 := []) rfl (j17 p0 3 h)
def m_X7_worthOf_b101 (t0 : Int32) : Option (Int32) := some t0
def m_X7_worthOf (p0 : Int32) (p1 : Int32) (p2 : Int32) : Option (Int32) := ob (m_J9_min_7cf53 p2 ((7 : Int32) - p2)) fun r_1 => ob (m_J9_min_7cf53 p1 ((7 : Int32) - p1)) fun r_3 => ol (r_1 + r_3) fun x4_5 => if p0 = 1 then some (((100 : Int32) + ((4 : Int32) * p1)) + ((2 : Int32) * r_1)) else if p0 = 2 then some ((320 : Int32) + ((6 : Int32) * x4_5)) else if p0 = 3 then some ((330 : Int32) + ((4 : Int32) * x4_5)) else if p0 = 4 then if p1 = 6 then m_X7_worthOf_b101 520 else m_X7_worthOf_b101 500 else if p0 = 5 then some ((900 : Int32) + ((2 : Int32) * x4_5)) else some (((-3) : Int32) * x4_5)
abbrev rm_X7_worthOf : Room := { frames := 1, cells := 0, slots := 0, locals := 21 }
abbrev wy_X7_worthOf : List Cond := .code yX7_worthOf cX7_worthOf 5 (some .int) :: gT
theorem cs_X7_worthOf {R : Room} {s : State} {args : Array Value} {own : String} {index : Nat} {w0 : Cond} (hts : ∀ w ∈ w0 :: gT, w.before args s = true) (hl : Cond.methodLink own index yX7_worthOf ∈ gT) (hR : 1 + 1 ≤ R.frames ∧ 8 + (5 + 11) + 21 ≤ R.locals) : CallB R s args own index yX7_worthOf cX7_worthOf 5 (some .int) wy_X7_worthOf rm_X7_worthOf 0 0 3 ∧ (Cond.static yX7_worthOf).before args s = true :=
  va_cwS 3 hts (gT_call w0 (pre := [.methodLink own index yX7_worthOf, .static yX7_worthOf, .initialized yX7_worthOf.cls]) (gT_lc hl (gT_lc ls_yX7_worthOf (gT_l1 li_RX7))) lc_yX7_worthOf) rfl rfl rfl (by decide +kernel) hR
set_option maxRecDepth 100000 in
set_option maxHeartbeats 4000000 in
theorem c_X7_worthOf (l : Launch) (D : va_G) (p0 : Int32) (p1 : Int32) (p2 : Int32) (rv : Int32) (hm : m_X7_worthOf p0 p1 p2 = some rv) : kDi l yX7_worthOf wy_X7_worthOf rm_X7_worthOf D [] rv [] [] [.int p0, .int p1, .int p2] := by
  refine kDi.of cX7_worthOf 5 (some .int) (by decide) rfl (Or.inl rfl) (Nat.le_of_ble_eq_true rfl) ?_
  intro p e s m below meth c A Q C hret
  have j101 : ∀ (t0 : Int32), m_X7_worthOf_b101   t0 = some rv → kv p l e rm_X7_worthOf s m ([.int p0, .int p1, .int p2] : List Value).toArray below meth c D A 5 0 0 Q [] [] 101 [.int t0] := by
    intro t0 h
    unfold m_X7_worthOf_b101 at h
    cases h
    exact hret _ _ dX7_worthOf_101 (fun q => by cases q)
  unfold m_X7_worthOf at hm
  have h := hm
  refine kv_lv [0, 1, 2] (lv2 := [(0, .int p0), (1, .int p1), (2, .int p2)]) rfl ?_
  refine kv_iload_n C 2 dX7_worthOf_0 rfl rfl ?_
  refine kv_bipush C 7 dX7_worthOf_1 (by decide) ?_
  refine kv_iload_n C 2 dX7_worthOf_3 rfl rfl ?_
  refine kv_isub C dX7_worthOf_4 ?_
  obtain ⟨r_1, hm_2, h⟩ := ob_e h
  refine kv_callS0i C [.int p2, .int ((7 : Int32) - p2)] (c_J9_min_7cf53 l D p2 ((7 : Int32) - p2) r_1 hm_2) (cs_J9_min_7cf53 C.ts lm_RX7_19 ⟨Nat.le_of_ble_eq_true rfl, Nat.le_of_ble_eq_true rfl⟩) rfl rfl (Nat.le_of_ble_eq_true rfl) dX7_worthOf_5 ⟨Nat.zero_le _, Nat.zero_le _⟩ ?_
  refine kv_istore_n C (lv2 := [(0, .int p0), (1, .int p1), (3, .int r_1)]) [1, 2, 0] dX7_worthOf_8 rfl (by decide) rfl rfl ?_
  refine kv_iload_n C 2 dX7_worthOf_9 rfl rfl ?_
  refine kv_iload_n C 1 dX7_worthOf_10 rfl rfl ?_
  refine kv_bipush C 7 dX7_worthOf_11 (by decide) ?_
  refine kv_iload_n C 1 dX7_worthOf_13 rfl rfl ?_
  refine kv_isub C dX7_worthOf_14 ?_
  obtain ⟨r_3, hm_4, h⟩ := ob_e h
  refine kv_callS0i C [.int p1, .int ((7 : Int32) - p1)] (c_J9_min_7cf53 l D p1 ((7 : Int32) - p1) r_3 hm_4) (cs_J9_min_7cf53 C.ts lm_RX7_19 ⟨Nat.le_of_ble_eq_true rfl, Nat.le_of_ble_eq_true rfl⟩) rfl rfl (Nat.le_of_ble_eq_true rfl) dX7_worthOf_15 ⟨Nat.zero_le _, Nat.zero_le _⟩ ?_
  refine kv_iadd C dX7_worthOf_18 ?_
  obtain ⟨x4_5, ex4_5, h⟩ := ol_e h
  refine kv_top ex4_5 ?_
  refine kv_istore C (lv2 := [(0, .int p0), (1, .int p1), (3, .int r_1), (4, .int x4_5)]) [1, 2, 3, 0] dX7_worthOf_19 (by decide) rfl rfl ?_
  refine kv_iload_n C 0 dX7_worthOf_21 rfl rfl ?_
  by_cases c_6 : p0 = 1
  · have h := oi_t h c_6
    refine kv_tableIn C 1 56 dX7_worthOf_22 c_6 (by decide) (by decide) rfl (by decide) ?_
    refine kv_bipush C 100 dX7_worthOf_56 (by decide) ?_
    refine kv_iconst C 4 dX7_worthOf_58 (by decide) ?_
    refine kv_iload_n C 1 dX7_worthOf_59 rfl rfl ?_
    refine kv_imul C dX7_worthOf_60 ?_
    refine kv_iadd C dX7_worthOf_61 ?_
    refine kv_iconst C 2 dX7_worthOf_62 (by decide) ?_
    refine kv_iload_n C 2 dX7_worthOf_63 rfl rfl ?_
    refine kv_imul C dX7_worthOf_64 ?_
    refine kv_iadd C dX7_worthOf_65 ?_
    cases h
    exact hret _ _ dX7_worthOf_66 (fun q => by cases q)
  have h := oi_f h c_6
  by_cases c_7 : p0 = 2
  · have h := oi_t h c_7
    refine kv_tableIn C 2 67 dX7_worthOf_22 c_7 (by decide) (by decide) rfl (by decide) ?_
    refine kv_sipush C 320 dX7_worthOf_67 (by decide) ?_
    refine kv_bipush C 6 dX7_worthOf_70 (by decide) ?_
    refine kv_iload C 3 dX7_worthOf_72 rfl ?_
    refine kv_imul C dX7_worthOf_74 ?_
    refine kv_iadd C dX7_worthOf_75 ?_
    cases h
    exact hret _ _ dX7_worthOf_76 (fun q => by cases q)
  have h := oi_f h c_7
  by_cases c_8 : p0 = 3
  · have h := oi_t h c_8
    refine kv_tableIn C 3 77 dX7_worthOf_22 c_8 (by decide) (by decide) rfl (by decide) ?_
    refine kv_sipush C 330 dX7_worthOf_77 (by decide) ?_
    refine kv_iconst C 4 dX7_worthOf_80 (by decide) ?_
    refine kv_iload C 3 dX7_worthOf_81 rfl ?_
    refine kv_imul C dX7_worthOf_83 ?_
    refine kv_iadd C dX7_worthOf_84 ?_
    cases h
    exact hret _ _ dX7_worthOf_85 (fun q => by cases q)
  have h := oi_f h c_8
  by_cases c_9 : p0 = 4
  · have h := oi_t h c_9
    refine kv_tableIn C 4 86 dX7_worthOf_22 c_9 (by decide) (by decide) rfl (by decide) ?_
    refine kv_iload_n C 1 dX7_worthOf_86 rfl rfl ?_
    refine kv_bipush C 6 dX7_worthOf_87 (by decide) ?_
    refine kv_icmp_ne C 98 dX7_worthOf_89 (by decide) (fun c_10 => ?_) (fun c_10 => ?_)
    · have h := oi_f h c_10
      refine kv_sipush C 500 dX7_worthOf_98 (by decide) ?_
      exact kv_lv [] (lv2 := []) rfl (j101 500 h)
    · have h := oi_t h c_10
      refine kv_sipush C 520 dX7_worthOf_92 (by decide) ?_
      refine kv_goto C 101 dX7_worthOf_95 (by decide) ?_
      exact kv_lv [] (lv2 := []) rfl (j101 520 h)
  have h := oi_f h c_9
  by_cases c_11 : p0 = 5
  · have h := oi_t h c_11
    refine kv_tableIn C 5 102 dX7_worthOf_22 c_11 (by decide) (by decide) rfl (by decide) ?_
    refine kv_sipush C 900 dX7_worthOf_102 (by decide) ?_
    refine kv_iconst C 2 dX7_worthOf_105 (by decide) ?_
    refine kv_iload C 3 dX7_worthOf_106 rfl ?_
    refine kv_imul C dX7_worthOf_108 ?_
    refine kv_iadd C dX7_worthOf_109 ?_
    cases h
    exact hret _ _ dX7_worthOf_110 (fun q => by cases q)
  have h := oi_f h c_11
  have qc_6 := kv_ne c_6
  have qc_7 := kv_ne c_7
  have qc_8 := kv_ne c_8
  have qc_9 := kv_ne c_9
  have qc_11 := kv_ne c_11
  refine kv_tableOut C 111 dX7_worthOf_22 (by simp at qc_6 qc_7 qc_8 qc_9 qc_11; omega) (by decide) ?_
  refine kv_bipush C (-3) dX7_worthOf_111 (by decide) ?_
  refine kv_iload C 3 dX7_worthOf_113 rfl ?_
  refine kv_imul C dX7_worthOf_115 ?_
  cases h
  exact hret _ _ dX7_worthOf_116 (fun q => by cases q)
def m_X4_rightsIn (p0 : Int32) : Option (Int32) := some ((p0 >>> ((3 : Int32) &&& 31)) &&& 15)
abbrev rm_X4_rightsIn : Room := { frames := 0, cells := 0, slots := 0, locals := 0 }
abbrev wy_X4_rightsIn : List Cond := .code yX4_rightsIn cX4_rightsIn 1 (some .int) :: gT
theorem cs_X4_rightsIn {R : Room} {s : State} {args : Array Value} {own : String} {index : Nat} {w0 : Cond} (hts : ∀ w ∈ w0 :: gT, w.before args s = true) (hl : Cond.methodLink own index yX4_rightsIn ∈ gT) (hR : 0 + 1 ≤ R.frames ∧ 8 + (1 + 11) + 0 ≤ R.locals) : CallB R s args own index yX4_rightsIn cX4_rightsIn 1 (some .int) wy_X4_rightsIn rm_X4_rightsIn 0 0 1 ∧ (Cond.static yX4_rightsIn).before args s = true :=
  va_cwS 1 hts (gT_call w0 (pre := [.methodLink own index yX4_rightsIn, .static yX4_rightsIn, .initialized yX4_rightsIn.cls]) (gT_lc hl (gT_lc ls_yX4_rightsIn (gT_l1 li_RX4))) lc_yX4_rightsIn) rfl rfl rfl (by decide +kernel) hR
set_option maxRecDepth 100000 in
set_option maxHeartbeats 4000000 in
theorem c_X4_rightsIn (l : Launch) (D : va_G) (p0 : Int32) (rv : Int32) (hm : m_X4_rightsIn p0 = some rv) : kDi l yX4_rightsIn wy_X4_rightsIn rm_X4_rightsIn D [] rv [] [] [.int p0] := by
  refine kDi.of cX4_rightsIn 1 (some .int) (by decide) rfl (Or.inl rfl) (Nat.le_of_ble_eq_true rfl) ?_
  intro p e s m below meth c A Q C hret
  unfold m_X4_rightsIn at hm
  have h := hm
  refine kv_lv [0] (lv2 := [(0, .int p0)]) rfl ?_
  refine kv_iload_n C 0 dX4_rightsIn_0 rfl rfl ?_
  refine kv_iconst C 3 dX4_rightsIn_1 (by decide) ?_
  refine kv_ishr C dX4_rightsIn_2 ?_
  refine kv_bipush C 15 dX4_rightsIn_3 (by decide) ?_
  refine kv_iand C dX4_rightsIn_5 ?_
  cases h
  exact hret _ _ dX4_rightsIn_6 (fun q => by cases q)
def m_X4_passedIn (p0 : Int32) : Option (Int32) := some (((p0 >>> ((7 : Int32) &&& 31)) &&& 127) - 1)
abbrev rm_X4_passedIn : Room := { frames := 0, cells := 0, slots := 0, locals := 0 }
abbrev wy_X4_passedIn : List Cond := .code yX4_passedIn cX4_passedIn 1 (some .int) :: gT
theorem cs_X4_passedIn {R : Room} {s : State} {args : Array Value} {own : String} {index : Nat} {w0 : Cond} (hts : ∀ w ∈ w0 :: gT, w.before args s = true) (hl : Cond.methodLink own index yX4_passedIn ∈ gT) (hR : 0 + 1 ≤ R.frames ∧ 8 + (1 + 11) + 0 ≤ R.locals) : CallB R s args own index yX4_passedIn cX4_passedIn 1 (some .int) wy_X4_passedIn rm_X4_passedIn 0 0 1 ∧ (Cond.static yX4_passedIn).before args s = true :=
  va_cwS 1 hts (gT_call w0 (pre := [.methodLink own index yX4_passedIn, .static yX4_passedIn, .initialized yX4_passedIn.cls]) (gT_lc hl (gT_lc ls_yX4_passedIn (gT_l1 li_RX4))) lc_yX4_passedIn) rfl rfl rfl (by decide +kernel) hR
set_option maxRecDepth 100000 in
set_option maxHeartbeats 4000000 in
theorem c_X4_passedIn (l : Launch) (D : va_G) (p0 : Int32) (rv : Int32) (hm : m_X4_passedIn p0 = some rv) : kDi l yX4_passedIn wy_X4_passedIn rm_X4_passedIn D [] rv [] [] [.int p0] := by
  refine kDi.of cX4_passedIn 1 (some .int) (by decide) rfl (Or.inl rfl) (Nat.le_of_ble_eq_true rfl) ?_
  intro p e s m below meth c A Q C hret
  unfold m_X4_passedIn at hm
  have h := hm
  refine kv_lv [0] (lv2 := [(0, .int p0)]) rfl ?_
  refine kv_iload_n C 0 dX4_passedIn_0 rfl rfl ?_
  refine kv_bipush C 7 dX4_passedIn_1 (by decide) ?_
  refine kv_ishr C dX4_passedIn_3 ?_
  refine kv_bipush C 127 dX4_passedIn_4 (by decide) ?_
  refine kv_iand C dX4_passedIn_6 ?_
  refine kv_iconst C 1 dX4_passedIn_7 (by decide) ?_
  refine kv_isub C dX4_passedIn_8 ?_
  cases h
  exact hret _ _ dX4_passedIn_9 (fun q => by cases q)
def m_X4_isByRight_b15 (t0 : Int32) : Option (Int32) := obl (t0) (some t0)
def m_X4_isByRight (p0 : Int32) (p1 : Int32) : Option (Int32) := ob (m_J9_abs_0f7a4 (p0 - p1)) fun r_2 => if r_2 = 2 then m_X4_isByRight_b15 1 else m_X4_isByRight_b15 0
abbrev rm_X4_isByRight : Room := { frames := 1, cells := 0, slots := 0, locals := 20 }
abbrev wy_X4_isByRight : List Cond := .code yX4_isByRight cX4_isByRight 2 (some .boolean) :: gT
theorem cs_X4_isByRight {R : Room} {s : State} {args : Array Value} {own : String} {index : Nat} {w0 : Cond} (hts : ∀ w ∈ w0 :: gT, w.before args s = true) (hl : Cond.methodLink own index yX4_isByRight ∈ gT) (hR : 1 + 1 ≤ R.frames ∧ 8 + (2 + 11) + 20 ≤ R.locals) : CallB R s args own index yX4_isByRight cX4_isByRight 2 (some .boolean) wy_X4_isByRight rm_X4_isByRight 0 0 2 ∧ (Cond.static yX4_isByRight).before args s = true :=
  va_cwS 2 hts (gT_call w0 (pre := [.methodLink own index yX4_isByRight, .static yX4_isByRight, .initialized yX4_isByRight.cls]) (gT_lc hl (gT_lc ls_yX4_isByRight (gT_l1 li_RX4))) lc_yX4_isByRight) rfl rfl rfl (by decide +kernel) hR
set_option maxRecDepth 100000 in
set_option maxHeartbeats 4000000 in
theorem c_X4_isByRight (l : Launch) (D : va_G) (p0 : Int32) (p1 : Int32) (rv : Int32) (hm : m_X4_isByRight p0 p1 = some rv) : kDi l yX4_isByRight wy_X4_isByRight rm_X4_isByRight D [] rv [] [] [.int p0, .int p1] := by
  refine kDi.of cX4_isByRight 2 (some .boolean) (by decide) rfl (Or.inr rfl) (Nat.le_of_ble_eq_true rfl) ?_
  intro p e s m below meth c A Q C hret
  have j15 : ∀ (t0 : Int32), m_X4_isByRight_b15   t0 = some rv → kv p l e rm_X4_isByRight s m ([.int p0, .int p1] : List Value).toArray below meth c D A 2 0 0 Q [] [] 15 [.int t0] := by
    intro t0 h
    unfold m_X4_isByRight_b15 at h
    obtain ⟨g_1, h⟩ := obl_e h
    cases h
    exact hret _ _ dX4_isByRight_15 (fun _ => g_1)
  unfold m_X4_isByRight at hm
  have h := hm
  refine kv_lv [0, 1] (lv2 := [(0, .int p0), (1, .int p1)]) rfl ?_
  refine kv_iload_n C 0 dX4_isByRight_0 rfl rfl ?_
  refine kv_iload_n C 1 dX4_isByRight_1 rfl rfl ?_
  refine kv_isub C dX4_isByRight_2 ?_
  obtain ⟨r_2, hm_3, h⟩ := ob_e h
  refine kv_callS0i C [.int (p0 - p1)] (c_J9_abs_0f7a4 l D (p0 - p1) r_2 hm_3) (cs_J9_abs_0f7a4 C.ts lm_RX4_44 ⟨Nat.le_of_ble_eq_true rfl, Nat.le_of_ble_eq_true rfl⟩) rfl rfl (Nat.le_of_ble_eq_true rfl) dX4_isByRight_3 ⟨Nat.zero_le _, Nat.zero_le _⟩ ?_
  refine kv_iconst C 2 dX4_isByRight_6 (by decide) ?_
  refine kv_icmp_ne C 14 dX4_isByRight_7 (by decide) (fun c_4 => ?_) (fun c_4 => ?_)
  · have h := oi_f h c_4
    refine kv_iconst C 0 dX4_isByRight_14 (by decide) ?_
    exact kv_lv [] (lv2 := []) rfl (j15 0 h)
  · have h := oi_t h c_4
    refine kv_iconst C 1 dX4_isByRight_10 (by decide) ?_
    refine kv_goto C 15 dX4_isByRight_11 (by decide) ?_
    exact kv_lv [] (lv2 := []) rfl (j15 1 h)
def m_X4_cornerOf_b14 (t0 : Int32) : Option (Int32) := some t0
def m_X4_cornerOf (p0 : Int32) (p1 : Int32) : Option (Int32) := if p1 ≤ p0 then m_X4_cornerOf_b14 (p1 - 2) else m_X4_cornerOf_b14 (p1 + 1)
abbrev rm_X4_cornerOf : Room := { frames := 0, cells := 0, slots := 0, locals := 0 }
abbrev wy_X4_cornerOf : List Cond := .code yX4_cornerOf cX4_cornerOf 2 (some .int) :: gT
theorem cs_X4_cornerOf {R : Room} {s : State} {args : Array Value} {own : String} {index : Nat} {w0 : Cond} (hts : ∀ w ∈ w0 :: gT, w.before args s = true) (hl : Cond.methodLink own index yX4_cornerOf ∈ gT) (hR : 0 + 1 ≤ R.frames ∧ 8 + (2 + 11) + 0 ≤ R.locals) : CallB R s args own index yX4_cornerOf cX4_cornerOf 2 (some .int) wy_X4_cornerOf rm_X4_cornerOf 0 0 2 ∧ (Cond.static yX4_cornerOf).before args s = true :=
  va_cwS 2 hts (gT_call w0 (pre := [.methodLink own index yX4_cornerOf, .static yX4_cornerOf, .initialized yX4_cornerOf.cls]) (gT_lc hl (gT_lc ls_yX4_cornerOf (gT_l1 li_RX4))) lc_yX4_cornerOf) rfl rfl rfl (by decide +kernel) hR
set_option maxRecDepth 100000 in
set_option maxHeartbeats 4000000 in
theorem c_X4_cornerOf (l : Launch) (D : va_G) (p0 : Int32) (p1 : Int32) (rv : Int32) (hm : m_X4_cornerOf p0 p1 = some rv) : kDi l yX4_cornerOf wy_X4_cornerOf rm_X4_cornerOf D [] rv [] [] [.int p0, .int p1] := by
  refine kDi.of cX4_cornerOf 2 (some .int) (by decide) rfl (Or.inl rfl) (Nat.le_of_ble_eq_true rfl) ?_
  intro p e s m below meth c A Q C hret
  have j14 : ∀ (t0 : Int32), m_X4_cornerOf_b14   t0 = some rv → kv p l e rm_X4_cornerOf s m ([.int p0, .int p1] : List Value).toArray below meth c D A 2 0 0 Q [] [] 14 [.int t0] := by
    intro t0 h
    unfold m_X4_cornerOf_b14 at h
    cases h
    exact hret _ _ dX4_cornerOf_14 (fun q => by cases q)
  unfold m_X4_cornerOf at hm
  have h := hm
  refine kv_lv [0, 1] (lv2 := [(0, .int p0), (1, .int p1)]) rfl ?_
  refine kv_iload_n C 1 dX4_cornerOf_0 rfl rfl ?_
  refine kv_iload_n C 0 dX4_cornerOf_1 rfl rfl ?_
  refine kv_icmp_le C 11 dX4_cornerOf_2 (by decide) (fun c_1 => ?_) (fun c_1 => ?_)
  · have h := oi_t h c_1
    refine kv_iload_n C 1 dX4_cornerOf_11 rfl rfl ?_
    refine kv_iconst C 2 dX4_cornerOf_12 (by decide) ?_
    refine kv_isub C dX4_cornerOf_13 ?_
    exact kv_lv [] (lv2 := []) rfl (j14 (p1 - 2) h)
  · have h := oi_f h c_1
    refine kv_iload_n C 1 dX4_cornerOf_5 rfl rfl ?_
    refine kv_iconst C 1 dX4_cornerOf_6 (by decide) ?_
    refine kv_iadd C dX4_cornerOf_7 ?_
    refine kv_goto C 14 dX4_cornerOf_8 (by decide) ?_
    exact kv_lv [] (lv2 := []) rfl (j14 (p1 + 1) h)
def m_X4_keptBy (p0 : Int32) : Option (Int32) := if p0 = 0 then some 13 else if p0 = 4 then some 12 else if p0 = 7 then some 14 else if p0 = 56 then some 7 else if p0 = 60 then some 3 else if p0 = 63 then some 11 else some 15
abbrev rm_X4_keptBy : Room := { frames := 0, cells := 0, slots := 0, locals := 0 }
abbrev wy_X4_keptBy : List Cond := .code yX4_keptBy cX4_keptBy 1 (some .int) :: gT
theorem cs_X4_keptBy {R : Room} {s : State} {args : Array Value} {own : String} {index : Nat} {w0 : Cond} (hts : ∀ w ∈ w0 :: gT, w.before args s = true) (hl : Cond.methodLink own index yX4_keptBy ∈ gT) (hR : 0 + 1 ≤ R.frames ∧ 8 + (1 + 11) + 0 ≤ R.locals) : CallB R s args own index yX4_keptBy cX4_keptBy 1 (some .int) wy_X4_keptBy rm_X4_keptBy 0 0 1 ∧ (Cond.static yX4_keptBy).before args s = true :=
  va_cwS 1 hts (gT_call w0 (pre := [.methodLink own index yX4_keptBy, .static yX4_keptBy, .initialized yX4_keptBy.cls]) (gT_lc hl (gT_lc ls_yX4_keptBy (gT_l1 li_RX4))) lc_yX4_keptBy) rfl rfl rfl (by decide +kernel) hR
set_option maxRecDepth 100000 in
set_option maxHeartbeats 4000000 in
theorem c_X4_keptBy (l : Launch) (D : va_G) (p0 : Int32) (rv : Int32) (hm : m_X4_keptBy p0 = some rv) : kDi l yX4_keptBy wy_X4_keptBy rm_X4_keptBy D [] rv [] [] [.int p0] := by
  refine kDi.of cX4_keptBy 1 (some .int) (by decide) rfl (Or.inl rfl) (Nat.le_of_ble_eq_true rfl) ?_
  intro p e s m below meth c A Q C hret
  unfold m_X4_keptBy at hm
  have h := hm
  refine kv_lv [0] (lv2 := [(0, .int p0)]) rfl ?_
  refine kv_iload_n C 0 dX4_keptBy_0 rfl rfl ?_
  by_cases c_1 : p0 = 0
  · have h := oi_t h c_1
    refine kv_lookupIn C 0 60 dX4_keptBy_1 c_1 (by decide) rfl (by decide) ?_
    refine kv_bipush C 13 dX4_keptBy_60 (by decide) ?_
    cases h
    exact hret _ _ dX4_keptBy_62 (fun q => by cases q)
  have h := oi_f h c_1
  by_cases c_2 : p0 = 4
  · have h := oi_t h c_2
    refine kv_lookupIn C 4 63 dX4_keptBy_1 c_2 (by decide) rfl (by decide) ?_
    refine kv_bipush C 12 dX4_keptBy_63 (by decide) ?_
    cases h
    exact hret _ _ dX4_keptBy_65 (fun q => by cases q)
  have h := oi_f h c_2
  by_cases c_3 : p0 = 7
  · have h := oi_t h c_3
    refine kv_lookupIn C 7 66 dX4_keptBy_1 c_3 (by decide) rfl (by decide) ?_
    refine kv_bipush C 14 dX4_keptBy_66 (by decide) ?_
    cases h
    exact hret _ _ dX4_keptBy_68 (fun q => by cases q)
  have h := oi_f h c_3
  by_cases c_4 : p0 = 56
  · have h := oi_t h c_4
    refine kv_lookupIn C 56 69 dX4_keptBy_1 c_4 (by decide) rfl (by decide) ?_
    refine kv_bipush C 7 dX4_keptBy_69 (by decide) ?_
    cases h
    exact hret _ _ dX4_keptBy_71 (fun q => by cases q)
  have h := oi_f h c_4
  by_cases c_5 : p0 = 60
  · have h := oi_t h c_5
    refine kv_lookupIn C 60 72 dX4_keptBy_1 c_5 (by decide) rfl (by decide) ?_
    refine kv_iconst C 3 dX4_keptBy_72 (by decide) ?_
    cases h
    exact hret _ _ dX4_keptBy_73 (fun q => by cases q)
  have h := oi_f h c_5
  by_cases c_6 : p0 = 63
  · have h := oi_t h c_6
    refine kv_lookupIn C 63 74 dX4_keptBy_1 c_6 (by decide) rfl (by decide) ?_
    refine kv_bipush C 11 dX4_keptBy_74 (by decide) ?_
    cases h
    exact hret _ _ dX4_keptBy_76 (fun q => by cases q)
  have h := oi_f h c_6
  have qc_1 := (kv_ne c_1).symm
  have qc_2 := (kv_ne c_2).symm
  have qc_3 := (kv_ne c_3).symm
  have qc_4 := (kv_ne c_4).symm
  have qc_5 := (kv_ne c_5).symm
  have qc_6 := (kv_ne c_6).symm
  refine kv_lookupOut C 77 dX4_keptBy_1 (by decide) (by simp at qc_1 qc_2 qc_3 qc_4 qc_5 qc_6; simp [Op.lookupswitch.offset, qc_1, qc_2, qc_3, qc_4, qc_5, qc_6]) (by decide) ?_
  refine kv_bipush C 15 dX4_keptBy_77 (by decide) ?_
  cases h
  exact hret _ _ dX4_keptBy_79 (fun q => by cases q)
def m_X5_byteOf (p0 : Int64) (p1 : Int32) : Option (Int32) := some ((((p0.toUInt64 >>> (((8 : Int32) * p1).toInt64.toUInt64 &&& Int64.toUInt64 63)).toInt64) &&& 255).toInt32)
abbrev rm_X5_byteOf : Room := { frames := 0, cells := 0, slots := 0, locals := 0 }
abbrev wy_X5_byteOf : List Cond := .code yX5_byteOf cX5_byteOf 3 (some .int) :: gT
theorem cs_X5_byteOf {R : Room} {s : State} {args : Array Value} {own : String} {index : Nat} {w0 : Cond} (hts : ∀ w ∈ w0 :: gT, w.before args s = true) (hl : Cond.methodLink own index yX5_byteOf ∈ gT) (hR : 0 + 1 ≤ R.frames ∧ 8 + (3 + 11) + 0 ≤ R.locals) : CallB R s args own index yX5_byteOf cX5_byteOf 3 (some .int) wy_X5_byteOf rm_X5_byteOf 0 0 2 ∧ (Cond.static yX5_byteOf).before args s = true :=
  va_cwS 2 hts (gT_call w0 (pre := [.methodLink own index yX5_byteOf, .static yX5_byteOf, .initialized yX5_byteOf.cls]) (gT_lc hl (gT_lc ls_yX5_byteOf (gT_l1 li_RX5))) lc_yX5_byteOf) rfl rfl rfl (by decide +kernel) hR
set_option maxRecDepth 100000 in
set_option maxHeartbeats 4000000 in
theorem c_X5_byteOf (l : Launch) (D : va_G) (p0 : Int64) (p1 : Int32) (rv : Int32) (hm : m_X5_byteOf p0 p1 = some rv) : kDi l yX5_byteOf wy_X5_byteOf rm_X5_byteOf D [] rv [] [] [.long p0, .int p1] := by
  refine kDi.of cX5_byteOf 3 (some .int) (by decide) rfl (Or.inl rfl) (Nat.le_of_ble_eq_true rfl) ?_
  intro p e s m below meth c A Q C hret
  unfold m_X5_byteOf at hm
  have h := hm
  refine kv_lv [0, 1] (lv2 := [(0, .long p0), (2, .int p1)]) rfl ?_
  refine kv_lload_n C 0 dX5_byteOf_0 rfl rfl ?_
  refine kv_bipush C 8 dX5_byteOf_1 (by decide) ?_
  refine kv_iload_n C 1 dX5_byteOf_3 rfl rfl ?_
  refine kv_imul C dX5_byteOf_4 ?_
  refine kv_lushr C dX5_byteOf_5 ?_
  refine kv_ldc2 C (C.ts _ (List.mem_cons_of_mem _ lkl_RX5_27)) dX5_byteOf_6 ?_
  refine kv_land C dX5_byteOf_9 ?_
  refine kv_l2i C dX5_byteOf_10 ?_
  cases h
  exact hret _ _ dX5_byteOf_11 (fun q => by cases q)
def m_X5_canBeTyped_b28 : Option (Int32) := obl (0) (some 0)
def m_X5_canBeTyped_b2 (k2 : Int64 → Int32 → Int32 → Option (Int32)) (x0 : Int64) (x2 : Int32) (x3 : Int32) : Option (Int32) := if x2 ≤ x3 then obl (1) (some 1) else ob (m_X5_byteOf x0 x3) fun r_4 => if r_4 < 32 then m_X5_canBeTyped_b28 else if r_4 ≤ 126 then ol (x3 + 1) fun x3_8 => k2 x0 x2 x3_8 else m_X5_canBeTyped_b28
def m_X5_canBeTyped_l2 (n : Nat) : Int64 → Int32 → Int32 → Option (Int32) := fz (fun _ _ _ => none) (fun k2 x0 x2 x3 => m_X5_canBeTyped_b2 k2 x0 x2 x3) n
def m_X5_canBeTyped (p0 : Int64) (p1 : Int32) : Option (Int32) := m_X5_canBeTyped_l2 kF p0 p1 0
abbrev rm_X5_canBeTyped : Room := { frames := 1, cells := 0, slots := 0, locals := 22 }
abbrev wy_X5_canBeTyped : List Cond := .code yX5_canBeTyped cX5_canBeTyped 5 (some .boolean) :: gT
theorem cs_X5_canBeTyped {R : Room} {s : State} {args : Array Value} {own : String} {index : Nat} {w0 : Cond} (hts : ∀ w ∈ w0 :: gT, w.before args s = true) (hl : Cond.methodLink own index yX5_canBeTyped ∈ gT) (hR : 1 + 1 ≤ R.frames ∧ 8 + (5 + 11) + 22 ≤ R.locals) : CallB R s args own index yX5_canBeTyped cX5_canBeTyped 5 (some .boolean) wy_X5_canBeTyped rm_X5_canBeTyped 0 0 2 ∧ (Cond.static yX5_canBeTyped).before args s = true :=
  va_cwS 2 hts (gT_call w0 (pre := [.methodLink own index yX5_canBeTyped, .static yX5_canBeTyped, .initialized yX5_canBeTyped.cls]) (gT_lc hl (gT_lc ls_yX5_canBeTyped (gT_l1 li_RX5))) lc_yX5_canBeTyped) rfl rfl rfl (by decide +kernel) hR
set_option maxRecDepth 100000 in
set_option maxHeartbeats 4000000 in
theorem c_X5_canBeTyped (l : Launch) (D : va_G) (p0 : Int64) (p1 : Int32) (rv : Int32) (hm : m_X5_canBeTyped p0 p1 = some rv) : kDi l yX5_canBeTyped wy_X5_canBeTyped rm_X5_canBeTyped D [] rv [] [] [.long p0, .int p1] := by
  refine kDi.of cX5_canBeTyped 5 (some .boolean) (by decide) rfl (Or.inr rfl) (Nat.le_of_ble_eq_true rfl) ?_
  intro p e s m below meth c A Q C hret
  have j28 : m_X5_canBeTyped_b28    = some rv → kv p l e rm_X5_canBeTyped s m ([.long p0, .int p1] : List Value).toArray below meth c D A 5 0 0 Q [] [] 28 [] := by
    intro  h
    unfold m_X5_canBeTyped_b28 at h
    refine kv_iconst C 0 dX5_canBeTyped_28 (by decide) ?_
    obtain ⟨g_1, h⟩ := obl_e h
    cases h
    exact hret _ _ dX5_canBeTyped_29 (fun _ => g_1)
  have l2 : ∀ (n2 : Nat) (x0 : Int64) (x2 : Int32) (x3 : Int32), m_X5_canBeTyped_l2   n2 x0 x2 x3 = some rv → kv p l e rm_X5_canBeTyped s m ([.long p0, .int p1] : List Value).toArray below meth c D A 5 0 0 Q [] [(0, .long x0), (2, .int x2), (3, .int x3)] 2 [] := by
    intro n2
    induction n2 with
    | zero =>
      intro x0 x2 x3 h
      exact kv_no h
    | succ n2 ih2 =>
      intro x0 x2 x3 h
      replace h : m_X5_canBeTyped_b2  (m_X5_canBeTyped_l2   n2)  x0 x2 x3 = some rv := h
      unfold m_X5_canBeTyped_b2 at h
      refine kv_iload_n C 2 dX5_canBeTyped_2 rfl rfl ?_
      refine kv_iload_n C 1 dX5_canBeTyped_3 rfl rfl ?_
      refine kv_icmp_ge C 36 dX5_canBeTyped_4 (by decide) (fun c_2 => ?_) (fun c_2 => ?_)
      · have h := oi_t h c_2
        refine kv_iconst C 1 dX5_canBeTyped_36 (by decide) ?_
        obtain ⟨g_3, h⟩ := obl_e h
        cases h
        exact hret _ _ dX5_canBeTyped_37 (fun _ => g_3)
      · have h := oi_f h c_2
        refine kv_lload_n C 0 dX5_canBeTyped_7 rfl rfl ?_
        refine kv_iload_n C 2 dX5_canBeTyped_8 rfl rfl ?_
        obtain ⟨r_4, hm_5, h⟩ := ob_e h
        refine kv_callS0i C [.long x0, .int x3] (c_X5_byteOf l D x0 x3 r_4 hm_5) (cs_X5_byteOf C.ts lm_RX5_23 ⟨Nat.le_of_ble_eq_true rfl, Nat.le_of_ble_eq_true rfl⟩) rfl rfl (Nat.le_of_ble_eq_true rfl) dX5_canBeTyped_9 ⟨Nat.zero_le _, Nat.zero_le _⟩ ?_
        refine kv_istore C (lv2 := [(0, .long x0), (2, .int x2), (3, .int x3), (4, .int r_4)]) [1, 2, 3, 0] dX5_canBeTyped_12 (by decide) rfl rfl ?_
        refine kv_iload C 3 dX5_canBeTyped_14 rfl ?_
        refine kv_bipush C 32 dX5_canBeTyped_16 (by decide) ?_
        refine kv_icmp_lt C 28 dX5_canBeTyped_18 (by decide) (fun c_6 => ?_) (fun c_6 => ?_)
        · have h := oi_t h c_6
          exact kv_lv [] (lv2 := []) rfl (j28  h)
        · have h := oi_f h c_6
          refine kv_iload C 3 dX5_canBeTyped_21 rfl ?_
          refine kv_bipush C 126 dX5_canBeTyped_23 (by decide) ?_
          refine kv_icmp_le C 30 dX5_canBeTyped_25 (by decide) (fun c_7 => ?_) (fun c_7 => ?_)
          · have h := oi_t h c_7
            obtain ⟨x3_8, ex3_8, h⟩ := ol_e h
            refine kv_iinc C (v := x3_8) (lv2 := [(0, .long x0), (2, .int x2), (3, .int x3_8)]) 2 [1, 2, 0] dX5_canBeTyped_30 rfl ex3_8.symm (by decide) rfl rfl ?_
            refine kv_goto C 2 dX5_canBeTyped_33 (by decide) ?_
            exact kv_lv [0, 1, 2] (lv2 := [(0, .long x0), (2, .int x2), (3, .int x3_8)]) rfl (ih2 x0 x2 x3_8 h)
          · have h := oi_f h c_7
            exact kv_lv [] (lv2 := []) rfl (j28  h)
  unfold m_X5_canBeTyped at hm
  have h := hm
  refine kv_lv [0, 1] (lv2 := [(0, .long p0), (2, .int p1)]) rfl ?_
  refine kv_iconst C 0 dX5_canBeTyped_0 (by decide) ?_
  refine kv_istore_n C (lv2 := [(0, .long p0), (2, .int p1), (3, .int 0)]) [1, 2, 0] dX5_canBeTyped_1 rfl (by decide) rfl rfl ?_
  exact kv_lv [0, 1, 2] (lv2 := [(0, .long p0), (2, .int p1), (3, .int 0)]) rfl (l2 kF p0 p1 0 h)
