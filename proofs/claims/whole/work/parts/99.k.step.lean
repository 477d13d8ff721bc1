/-! One call: both alike. -/
theorem law_go {sL : Nat} {xs : Nat → Int32} (a_rays a_knights a_kings a_pawns : Nat → Int64) (a_table : Nat → Int32) {t : Nat} (k23 : Int32 → Int32 → (Nat → Int32) → Int32 → (Nat → Int32) → (Nat → Int32) → (Nat → Int32) → Int32 → Int64 → Int64 → Int32 → Int64 → Int64 → Int64 → (Nat → Int32) → (Nat → Int64) → Int32 → (Nat → Int32) → (Nat → Int32) → (Nat → Int32) → Int32 → Int32 → Int32 → (Nat → Int32) → Int32 → (Nat → Int32) → Int32 → Int32 → Int32 → Int32 → Int32 → Int32 → (Nat → Int32) → (Nat → Int64) → (Nat → Int64) → Int32 → Int32 → Int32 → Int32 → Int32 → Int32 → (Nat → Int32) → (Nat → Int64) → (Nat → Int64) → (Nat → Int64) → Int32 → Int32 → Int32 → Int32 → Int32 → Int32 → Int32 → Int32 → Int32 → Int32 → Int32 → Int32 → Int32 → Int32 → Int32 → Int32 → Int32 → Int32 → Int32 → Int32 → (Nat → Int32) → (Nat → Int32) → (Nat → Int32) → (Nat → Int32) → (Nat → Int32) → (Nat → Int32) → (Nat → Int32) → (Nat → Int32) → (Nat → Int32) → (Nat → Int32) → (Nat → Int32) → Int32 → Option (Int32)) (hk : ∀ (v_listed : Int32) (v_choice : Int32) (a_legal : Nat → Int32) (v_schoice : Int32) (a_row1 : Nat → Int32) (a_row2 : Nat → Int32) (a_row3 : Nat → Int32) (v_standing : Int32) (v_own : Int64) (v_all : Int64) (v_king : Int32) (v_saving : Int64) (v_pinned : Int64) (v_passers : Int64) (a_stands : Nat → Int32) (a_goals : Nat → Int64) (v_made : Int32) (a_moved : Nat → Int32) (a_pbefore : Nat → Int32) (a_earlier : Nat → Int32) (v_wrongAt : Int32) (v_length : Int32) (v_at : Int32) (a_chars : Nat → Int32) (v_wlength : Int32) (a_wchars : Nat → Int32) (v_mover : Int32) (v_rights : Int32) (v_passed : Int32) (v_halves : Int32) (v_number : Int32) (v_balance : Int32) (a_men : Nat → Int32) (a_kinds : Nat → Int64) (a_sides : Nat → Int64) (d_mover : Int32) (d_rights : Int32) (d_passed : Int32) (d_halves : Int32) (d_number : Int32) (d_balance : Int32) (da_men : Nat → Int32) (da_kinds : Nat → Int64) (da_sides : Nat → Int64) (a_out : Nat → Int64) (mv_code : Int32) (mv_side : Int32) (mv_rights : Int32) (mv_passed : Int32) (mv_halves : Int32) (mv_number : Int32) (mv_top : Int32) (mv_typedCount : Int32) (mv_readAt : Int32) (mv_place : Int32) (mv_writtenCount : Int32) (mv_chosenFrom : Int32) (mv_chosenTo : Int32) (mv_chosenTurn : Int32) (mv_changed : Int32) (mv_readSide : Int32) (mv_readRights : Int32) (mv_readPassed : Int32) (mv_readHalves : Int32) (mv_readNumber : Int32) (ma_board : Nat → Int32) (ma_before : Nat → Int32) (ma_typed : Nat → Int32) (ma_written : Nat → Int32) (ma_froms : Nat → Int32) (ma_tos : Nat → Int32) (ma_turns : Nat → Int32) (ma_counts : Nat → Int32) (ma_changedSquare : Nat → Int32) (ma_changedMan : Nat → Int32) (ma_readBoard : Nat → Int32), IV (t + 1) v_listed v_choice a_legal v_made a_moved a_pbefore v_wrongAt v_length a_chars v_wlength a_wchars v_mover v_rights v_passed v_halves v_number v_balance a_men a_kinds a_sides da_men mv_side mv_rights mv_passed mv_halves mv_number mv_top mv_typedCount mv_place mv_writtenCount mv_chosenFrom mv_chosenTo mv_chosenTurn ma_board ma_before ma_typed ma_written ma_readBoard → k23 v_listed v_choice a_legal v_schoice a_row1 a_row2 a_row3 v_standing v_own v_all v_king v_saving v_pinned v_passers a_stands a_goals v_made a_moved a_pbefore a_earlier v_wrongAt v_length v_at a_chars v_wlength a_wchars v_mover v_rights v_passed v_halves v_number v_balance a_men a_kinds a_sides d_mover d_rights d_passed d_halves d_number d_balance da_men da_kinds da_sides a_out mv_code mv_side mv_rights mv_passed mv_halves mv_number mv_top mv_typedCount mv_readAt mv_place mv_writtenCount mv_chosenFrom mv_chosenTo mv_chosenTurn mv_changed mv_readSide mv_readRights mv_readPassed mv_readHalves mv_readNumber ma_board ma_before ma_typed ma_written ma_froms ma_tos ma_turns ma_counts ma_changedSquare ma_changedMan ma_readBoard (nI (4 * (t + 1))) = some 1) (v_listed : Int32) (v_choice : Int32) (a_legal : Nat → Int32) (v_schoice : Int32) (a_row1 : Nat → Int32) (a_row2 : Nat → Int32) (a_row3 : Nat → Int32) (v_standing : Int32) (v_own : Int64) (v_all : Int64) (v_king : Int32) (v_saving : Int64) (v_pinned : Int64) (v_passers : Int64) (a_stands : Nat → Int32) (a_goals : Nat → Int64) (v_made : Int32) (a_moved : Nat → Int32) (a_pbefore : Nat → Int32) (a_earlier : Nat → Int32) (v_wrongAt : Int32) (v_length : Int32) (v_at : Int32) (a_chars : Nat → Int32) (v_wlength : Int32) (a_wchars : Nat → Int32) (v_mover : Int32) (v_rights : Int32) (v_passed : Int32) (v_halves : Int32) (v_number : Int32) (v_balance : Int32) (a_men : Nat → Int32) (a_kinds : Nat → Int64) (a_sides : Nat → Int64) (d_mover : Int32) (d_rights : Int32) (d_passed : Int32) (d_halves : Int32) (d_number : Int32) (d_balance : Int32) (da_men : Nat → Int32) (da_kinds : Nat → Int64) (da_sides : Nat → Int64) (a_out : Nat → Int64) (mv_code : Int32) (mv_side : Int32) (mv_rights : Int32) (mv_passed : Int32) (mv_halves : Int32) (mv_number : Int32) (mv_top : Int32) (mv_typedCount : Int32) (mv_readAt : Int32) (mv_place : Int32) (mv_writtenCount : Int32) (mv_chosenFrom : Int32) (mv_chosenTo : Int32) (mv_chosenTurn : Int32) (mv_changed : Int32) (mv_readSide : Int32) (mv_readRights : Int32) (mv_readPassed : Int32) (mv_readHalves : Int32) (mv_readNumber : Int32) (ma_board : Nat → Int32) (ma_before : Nat → Int32) (ma_typed : Nat → Int32) (ma_written : Nat → Int32) (ma_froms : Nat → Int32) (ma_tos : Nat → Int32) (ma_turns : Nat → Int32) (ma_counts : Nat → Int32) (ma_changedSquare : Nat → Int32) (ma_changedMan : Nat → Int32) (ma_readBoard : Nat → Int32) (h : IV (t + 1) v_listed v_choice a_legal v_made a_moved a_pbefore v_wrongAt v_length a_chars v_wlength a_wchars v_mover v_rights v_passed v_halves v_number v_balance a_men a_kinds a_sides da_men mv_side mv_rights mv_passed mv_halves mv_number mv_top mv_typedCount mv_place mv_writtenCount mv_chosenFrom mv_chosenTo mv_chosenTurn ma_board ma_before ma_typed ma_written ma_readBoard) : m_L_law_b901 k23 sL xs v_listed v_choice a_legal v_schoice a_row1 a_row2 a_row3 v_standing v_own v_all v_king v_saving v_pinned v_passers a_stands a_goals v_made a_moved a_pbefore a_earlier v_wrongAt v_length v_at a_chars v_wlength a_wchars v_mover v_rights v_passed v_halves v_number v_balance a_men a_kinds a_sides d_mover d_rights d_passed d_halves d_number d_balance da_men da_kinds da_sides a_rays a_knights a_kings a_pawns a_table a_out mv_code mv_side mv_rights mv_passed mv_halves mv_number mv_top mv_typedCount mv_readAt mv_place mv_writtenCount mv_chosenFrom mv_chosenTo mv_chosenTurn mv_changed mv_readSide mv_readRights mv_readPassed mv_readHalves mv_readNumber ma_board ma_before ma_typed ma_written ma_froms ma_tos ma_turns ma_counts ma_changedSquare ma_changedMan ma_readBoard (nI (4 * t)) = some 1 := by
  unfold m_L_law_b901
  have e : nI (4 * t) + 4 = nI (4 * (t + 1)) := nI_add (4 * t) 4
  rw [ol_r, e]
  exact hk _ _ _ _ _ _ _ _ _ _ _ _ _ _ _ _ _ _ _ _ _ _ _ _ _ _ _ _ _ _ _ _ _ _ _ _ _ _ _ _ _ _ _ _ _ _ _ _ _ _ _ _ _ _ _ _ _ _ _ _ _ _ _ _ _ _ _ _ _ _ _ _ _ _ _ _ h
theorem law_step {sL : Nat} {xs : Nat → Int32} {a_rays a_knights a_kings a_pawns : Nat → Int64} {a_table : Nat → Int32} (hT : lnT a_rays a_knights a_kings a_pawns) (hB : tbP a_table) (hL : sL ≤ 256) {t : Nat} (ht : 4 * t + 4 ≤ sL) (k23 : Int32 → Int32 → (Nat → Int32) → Int32 → (Nat → Int32) → (Nat → Int32) → (Nat → Int32) → Int32 → Int64 → Int64 → Int32 → Int64 → Int64 → Int64 → (Nat → Int32) → (Nat → Int64) → Int32 → (Nat → Int32) → (Nat → Int32) → (Nat → Int32) → Int32 → Int32 → Int32 → (Nat → Int32) → Int32 → (Nat → Int32) → Int32 → Int32 → Int32 → Int32 → Int32 → Int32 → (Nat → Int32) → (Nat → Int64) → (Nat → Int64) → Int32 → Int32 → Int32 → Int32 → Int32 → Int32 → (Nat → Int32) → (Nat → Int64) → (Nat → Int64) → (Nat → Int64) → Int32 → Int32 → Int32 → Int32 → Int32 → Int32 → Int32 → Int32 → Int32 → Int32 → Int32 → Int32 → Int32 → Int32 → Int32 → Int32 → Int32 → Int32 → Int32 → Int32 → (Nat → Int32) → (Nat → Int32) → (Nat → Int32) → (Nat → Int32) → (Nat → Int32) → (Nat → Int32) → (Nat → Int32) → (Nat → Int32) → (Nat → Int32) → (Nat → Int32) → (Nat → Int32) → Int32 → Option (Int32)) (hk : ∀ (v_listed : Int32) (v_choice : Int32) (a_legal : Nat → Int32) (v_schoice : Int32) (a_row1 : Nat → Int32) (a_row2 : Nat → Int32) (a_row3 : Nat → Int32) (v_standing : Int32) (v_own : Int64) (v_all : Int64) (v_king : Int32) (v_saving : Int64) (v_pinned : Int64) (v_passers : Int64) (a_stands : Nat → Int32) (a_goals : Nat → Int64) (v_made : Int32) (a_moved : Nat → Int32) (a_pbefore : Nat → Int32) (a_earlier : Nat → Int32) (v_wrongAt : Int32) (v_length : Int32) (v_at : Int32) (a_chars : Nat → Int32) (v_wlength : Int32) (a_wchars : Nat → Int32) (v_mover : Int32) (v_rights : Int32) (v_passed : Int32) (v_halves : Int32) (v_number : Int32) (v_balance : Int32) (a_men : Nat → Int32) (a_kinds : Nat → Int64) (a_sides : Nat → Int64) (d_mover : Int32) (d_rights : Int32) (d_passed : Int32) (d_halves : Int32) (d_number : Int32) (d_balance : Int32) (da_men : Nat → Int32) (da_kinds : Nat → Int64) (da_sides : Nat → Int64) (a_out : Nat → Int64) (mv_code : Int32) (mv_side : Int32) (mv_rights : Int32) (mv_passed : Int32) (mv_halves : Int32) (mv_number : Int32) (mv_top : Int32) (mv_typedCount : Int32) (mv_readAt : Int32) (mv_place : Int32) (mv_writtenCount : Int32) (mv_chosenFrom : Int32) (mv_chosenTo : Int32) (mv_chosenTurn : Int32) (mv_changed : Int32) (mv_readSide : Int32) (mv_readRights : Int32) (mv_readPassed : Int32) (mv_readHalves : Int32) (mv_readNumber : Int32) (ma_board : Nat → Int32) (ma_before : Nat → Int32) (ma_typed : Nat → Int32) (ma_written : Nat → Int32) (ma_froms : Nat → Int32) (ma_tos : Nat → Int32) (ma_turns : Nat → Int32) (ma_counts : Nat → Int32) (ma_changedSquare : Nat → Int32) (ma_changedMan : Nat → Int32) (ma_readBoard : Nat → Int32), IV (t + 1) v_listed v_choice a_legal v_made a_moved a_pbefore v_wrongAt v_length a_chars v_wlength a_wchars v_mover v_rights v_passed v_halves v_number v_balance a_men a_kinds a_sides da_men mv_side mv_rights mv_passed mv_halves mv_number mv_top mv_typedCount mv_place mv_writtenCount mv_chosenFrom mv_chosenTo mv_chosenTurn ma_board ma_before ma_typed ma_written ma_readBoard → k23 v_listed v_choice a_legal v_schoice a_row1 a_row2 a_row3 v_standing v_own v_all v_king v_saving v_pinned v_passers a_stands a_goals v_made a_moved a_pbefore a_earlier v_wrongAt v_length v_at a_chars v_wlength a_wchars v_mover v_rights v_passed v_halves v_number v_balance a_men a_kinds a_sides d_mover d_rights d_passed d_halves d_number d_balance da_men da_kinds da_sides a_out mv_code mv_side mv_rights mv_passed mv_halves mv_number mv_top mv_typedCount mv_readAt mv_place mv_writtenCount mv_chosenFrom mv_chosenTo mv_chosenTurn mv_changed mv_readSide mv_readRights mv_readPassed mv_readHalves mv_readNumber ma_board ma_before ma_typed ma_written ma_froms ma_tos ma_turns ma_counts ma_changedSquare ma_changedMan ma_readBoard (nI (4 * (t + 1))) = some 1) (v_listed : Int32) (v_choice : Int32) (a_legal : Nat → Int32) (v_schoice : Int32) (a_row1 : Nat → Int32) (a_row2 : Nat → Int32) (a_row3 : Nat → Int32) (v_standing : Int32) (v_own : Int64) (v_all : Int64) (v_king : Int32) (v_saving : Int64) (v_pinned : Int64) (v_passers : Int64) (a_stands : Nat → Int32) (a_goals : Nat → Int64) (v_made : Int32) (a_moved : Nat → Int32) (a_pbefore : Nat → Int32) (a_earlier : Nat → Int32) (v_wrongAt : Int32) (v_length : Int32) (v_at : Int32) (a_chars : Nat → Int32) (v_wlength : Int32) (a_wchars : Nat → Int32) (v_mover : Int32) (v_rights : Int32) (v_passed : Int32) (v_halves : Int32) (v_number : Int32) (v_balance : Int32) (a_men : Nat → Int32) (a_kinds : Nat → Int64) (a_sides : Nat → Int64) (d_mover : Int32) (d_rights : Int32) (d_passed : Int32) (d_halves : Int32) (d_number : Int32) (d_balance : Int32) (da_men : Nat → Int32) (da_kinds : Nat → Int64) (da_sides : Nat → Int64) (a_out : Nat → Int64) (mv_code : Int32) (mv_side : Int32) (mv_rights : Int32) (mv_passed : Int32) (mv_halves : Int32) (mv_number : Int32) (mv_top : Int32) (mv_typedCount : Int32) (mv_readAt : Int32) (mv_place : Int32) (mv_writtenCount : Int32) (mv_chosenFrom : Int32) (mv_chosenTo : Int32) (mv_chosenTurn : Int32) (mv_changed : Int32) (mv_readSide : Int32) (mv_readRights : Int32) (mv_readPassed : Int32) (mv_readHalves : Int32) (mv_readNumber : Int32) (ma_board : Nat → Int32) (ma_before : Nat → Int32) (ma_typed : Nat → Int32) (ma_written : Nat → Int32) (ma_froms : Nat → Int32) (ma_tos : Nat → Int32) (ma_turns : Nat → Int32) (ma_counts : Nat → Int32) (ma_changedSquare : Nat → Int32) (ma_changedMan : Nat → Int32) (ma_readBoard : Nat → Int32) (h : IV t v_listed v_choice a_legal v_made a_moved a_pbefore v_wrongAt v_length a_chars v_wlength a_wchars v_mover v_rights v_passed v_halves v_number v_balance a_men a_kinds a_sides da_men mv_side mv_rights mv_passed mv_halves mv_number mv_top mv_typedCount mv_place mv_writtenCount mv_chosenFrom mv_chosenTo mv_chosenTurn ma_board ma_before ma_typed ma_written ma_readBoard) : m_L_law_b23 k23 sL xs v_listed v_choice a_legal v_schoice a_row1 a_row2 a_row3 v_standing v_own v_all v_king v_saving v_pinned v_passers a_stands a_goals v_made a_moved a_pbefore a_earlier v_wrongAt v_length v_at a_chars v_wlength a_wchars v_mover v_rights v_passed v_halves v_number v_balance a_men a_kinds a_sides d_mover d_rights d_passed d_halves d_number d_balance da_men da_kinds da_sides a_rays a_knights a_kings a_pawns a_table a_out mv_code mv_side mv_rights mv_passed mv_halves mv_number mv_top mv_typedCount mv_readAt mv_place mv_writtenCount mv_chosenFrom mv_chosenTo mv_chosenTurn mv_changed mv_readSide mv_readRights mv_readPassed mv_readHalves mv_readNumber ma_board ma_before ma_typed ma_written ma_froms ma_tos ma_turns ma_counts ma_changedSquare ma_changedMan ma_readBoard (nI (4 * t)) = some 1 := by
  obtain ⟨hh, top, hH, hC, hLV, hCV, hTV, hWV, hd, hrb, q1, q2, q3, q4, q5, q6, q7, q8, q9, q10, q11, q12, q13, q14, q15⟩ := h
  subst q1 q2 q3 q4 q5 q6 q7 q8 q9 q10 q11 q12 q13 q14 q15
  have htop : top < 1000 := by have := hH.1; omega
  have ht64 : t < 64 := by omega
  have hi := (hH.2.1.1 top (Nat.le_refl _)).1
  have hbd := hH.2.2.1 top (Nat.le_refl _)
  have h20 : (hh top).2.2.2.2.1 < 20000 := by omega
  have e1 : nI (4 * t) + 1 = nI (4 * t + 1) := nI_add _ 1
  have e2 : nI (4 * t) + 2 = nI (4 * t + 2) := nI_add _ 2
  have e3 : nI (4 * t) + 3 = nI (4 * t + 3) := nI_add _ 3
  have o0 : ∀ {T : Type} (e : Option T), oin (nI (4 * t)) sL e = e := fun e => oin_n (by omega) (by omega)
  have o1 : ∀ {T : Type} (e : Option T), oin (nI (4 * t + 1)) sL e = e := fun e => oin_n (by omega) (by omega)
  have o2 : ∀ {T : Type} (e : Option T), oin (nI (4 * t + 2)) sL e = e := fun e => oin_n (by omega) (by omega)
  have o3 : ∀ {T : Type} (e : Option T), oin (nI (4 * t + 3)) sL e = e := fun e => oin_n (by omega) (by omega)
  have es : nI sL - 4 = nI (sL - 4) := pk_sub (b := 4) (by omega)
  unfold m_L_law_b23
  rw [es, if_neg (show ¬ nI (sL - 4) < nI (4 * t) from nI_nlt (by omega) (by omega)), o0, ol_r, e1, e2, e3]
  generalize xs (nI (4 * t)).toNatClampNeg &&& 31 = y
  generalize xs (nI (4 * t + 1)).toNatClampNeg = x1
  generalize xs (nI (4 * t + 2)).toNatClampNeg = x2
  generalize xs (nI (4 * t + 3)).toNatClampNeg = x3
  by_cases y0 : y = 0
  · rw [if_pos y0]
    obtain ⟨ch, len, hch, ql1, ql2, ht1, ht2⟩ := hTV
    subst ql1 ql2
    rw [o1, o2, o3]
    obtain ⟨r, r2, ch', len', ar1', ar2', out', a1, a2, a3, a4, a5, a6⟩ := ty_both hch ht1 ht2 a_out mv_code ((x1.toInt64 <<< ((32 : Int32).toInt64 &&& 63)) ||| (x2.toInt64 &&& 4294967295)) x3
    rw [ob_s a1]
    try dsimp only
    rw [o1, o2, o3, ob_s a2]
    try dsimp only
    unfold m_X10_thrown
    rw [ob_s rfl, if_pos rfl]
    unfold m_L_law_b217
    by_cases r0 : r = 0
    · rw [if_pos r0, tn0, if_pos (a6 r0)]
      exact law_go _ _ _ _ _ k23 hk _ _ _ _ _ _ _ _ _ _ _ _ _ _ _ _ _ _ _ _ _ _ _ _ _ _ _ _ _ _ _ _ _ _ _ _ _ _ _ _ _ _ _ _ _ _ _ _ _ _ _ _ _ _ _ _ _ _ _ _ _ _ _ _ _ _ _ _ _ _ _ _ _ _ _ _ ⟨hh, top, HV_next hH, hC, hLV, hCV, ⟨ch', len', a3, rfl, rfl, a4, a5⟩, hWV, hd, hrb, rfl, rfl, rfl, rfl, rfl, rfl, rfl, rfl, rfl, rfl, rfl, rfl, rfl, rfl, rfl⟩
    · rw [if_neg r0]
      exact law_go _ _ _ _ _ k23 hk _ _ _ _ _ _ _ _ _ _ _ _ _ _ _ _ _ _ _ _ _ _ _ _ _ _ _ _ _ _ _ _ _ _ _ _ _ _ _ _ _ _ _ _ _ _ _ _ _ _ _ _ _ _ _ _ _ _ _ _ _ _ _ _ _ _ _ _ _ _ _ _ _ _ _ _ ⟨hh, top, HV_next hH, hC, hLV, hCV, ⟨ch', len', a3, rfl, rfl, a4, a5⟩, hWV, hd, hrb, rfl, rfl, rfl, rfl, rfl, rfl, rfl, rfl, rfl, rfl, rfl, rfl, rfl, rfl, rfl⟩
  have n0 := y0
  by_cases y1 : y = 1
  · rw [if_neg n0, if_pos y1]
    obtain ⟨ch, len, hch, ql1, ql2, ht1, ht2⟩ := hTV
    subst ql1 ql2
    obtain ⟨a', m', r', p', h', n', b', men', kinds', sides', bal2, kinds2, sides2, a1, a2, a3⟩ := x9_read hch ht1 hT hB hd hi.1 hC v_listed (nI top) v_wrongAt v_at d_mover d_rights d_passed d_halves d_number d_balance da_kinds da_sides
    obtain ⟨ra', vv, rs', rr', rp', rh', rn', bf', cs', cm', rb', b1, b2, b3⟩ := x10_read hch ht2 hrb hi.1 (top := top) (by omega) mv_code mv_readAt v_wrongAt mv_changed mv_readSide mv_readRights mv_readPassed mv_readHalves mv_readNumber ma_before ma_changedSquare ma_changedMan
    rw [ob_s a1]
    try dsimp only
    rw [ob_s b1]
    try dsimp only
    rw [if_pos rfl]
    have hT0 : TV 0 a_chars 0 ma_typed := ⟨fun _ => 32, 0, ⟨by omega, fun i h => by omega⟩, rfl, rfl, fun i h => by omega, fun i h => by omega⟩
    by_cases f0 : rdF ch len = 0
    · simp only [if_pos f0] at a3 ⊢
      obtain ⟨_, _, i3⟩ := rdF_0 hch f0
      obtain ⟨_, _, _, _, k5, k6, _⟩ := rd_le hch
      exact law_go _ _ _ _ _ k23 hk _ _ _ _ _ _ _ _ _ _ _ _ _ _ _ _ _ _ _ _ _ _ _ _ _ _ _ _ _ _ _ _ _ _ _ _ _ _ _ _ _ _ _ _ _ _ _ _ _ _ _ _ _ _ _ _ _ _ _ _ _ _ _ _ _ _ _ _ _ _ _ _ _ _ _ _ ⟨fun _ => rdN (rdZ ch len), 0, HV_new i3 k5 k6 _ _ _, a3, Or.inl rfl, hCV, hT0, hWV, a2.2, b2, rfl, rfl, rfl, rfl, rfl, rfl, rfl, rfl, rfl, rfl, rfl, rfl, rfl, rfl, rfl⟩
    · simp only [if_neg f0] at a3 ⊢
      exact law_go _ _ _ _ _ k23 hk _ _ _ _ _ _ _ _ _ _ _ _ _ _ _ _ _ _ _ _ _ _ _ _ _ _ _ _ _ _ _ _ _ _ _ _ _ _ _ _ _ _ _ _ _ _ _ _ _ _ _ _ _ _ _ _ _ _ _ _ _ _ _ _ _ _ _ _ _ _ _ _ _ _ _ _ ⟨hh, top, HV_same hH (fun _ _ => ⟨rfl, rfl⟩) b3, a3, hLV, hCV, hT0, hWV, a2.2, b2, rfl, rfl, rfl, rfl, rfl, rfl, rfl, rfl, rfl, rfl, rfl, rfl, rfl, rfl, rfl⟩
  have n1 := y1
  by_cases y2 : y = 2
  · rw [if_neg n0, if_neg n1, if_pos y2]
    unfold m_X9_place m_X10_place
    rw [ob_s rfl, ob_s rfl]
    try dsimp only
    rw [if_pos rfl]
    exact law_go _ _ _ _ _ k23 hk _ _ _ _ _ _ _ _ _ _ _ _ _ _ _ _ _ _ _ _ _ _ _ _ _ _ _ _ _ _ _ _ _ _ _ _ _ _ _ _ _ _ _ _ _ _ _ _ _ _ _ _ _ _ _ _ _ _ _ _ _ _ _ _ _ _ _ _ _ _ _ _ _ _ _ _ ⟨hh, top, HV_next hH, hC, hLV, hCV, hTV, hWV, hd, hrb, rfl, rfl, rfl, rfl, rfl, rfl, rfl, rfl, rfl, rfl, rfl, rfl, rfl, rfl, rfl⟩
  have n2 := y2
  by_cases y3 : y = 3
  · rw [if_neg n0, if_neg n1, if_neg n2, if_pos y3]
    obtain ⟨ar1, a1, a2⟩ := x8_put hi.1 hi.2.1 hi.2.2.1 hi.2.2.2.1 (by omega) (by omega) v_wlength a_wchars
    obtain ⟨ar2, b1, b2⟩ := x10_write hi.1 hi.2.1 hi.2.2.1 hi.2.2.2.1 (by omega) (by omega) mv_code mv_writtenCount ma_written
    have hw := wrS_len (hh top)
    unfold m_X9_write
    rw [ob_s a1]
    try dsimp only
    rw [ob_s rfl]
    try dsimp only
    rw [ob_s b1]
    try dsimp only
    rw [if_pos rfl]
    exact law_go _ _ _ _ _ k23 hk _ _ _ _ _ _ _ _ _ _ _ _ _ _ _ _ _ _ _ _ _ _ _ _ _ _ _ _ _ _ _ _ _ _ _ _ _ _ _ _ _ _ _ _ _ _ _ _ _ _ _ _ _ _ _ _ _ _ _ _ _ _ _ _ _ _ _ _ _ _ _ _ _ _ _ _ ⟨hh, top, HV_next hH, hC, hLV, hCV, hTV, ⟨wrS (hh top), by omega, rfl, rfl, a2, b2⟩, hd, hrb, rfl, rfl, rfl, rfl, rfl, rfl, rfl, rfl, rfl, rfl, rfl, rfl, rfl, rfl, rfl⟩
  have n3 := y3
  by_cases y4 : y = 4
  · rw [if_neg n0, if_neg n1, if_neg n2, if_neg n3, if_pos y4]
    have hWV2 := hWV
    obtain ⟨wl, hw0, hw1, hw2, hw3, hw4⟩ := hWV
    subst hw1 hw2
    rw [o1]
    obtain ⟨r, r2, out', a1, a2, a6⟩ := wr_both hw0 hw3 hw4 a_out mv_code x1
    rw [ob_s a1]
    try dsimp only
    rw [o1, ob_s a2]
    try dsimp only
    unfold m_X10_thrown
    rw [ob_s rfl, if_pos rfl]
    unfold m_L_law_b312
    by_cases r0 : r = 0
    · rw [if_pos r0, tn0, if_pos (a6 r0)]
      exact law_go _ _ _ _ _ k23 hk _ _ _ _ _ _ _ _ _ _ _ _ _ _ _ _ _ _ _ _ _ _ _ _ _ _ _ _ _ _ _ _ _ _ _ _ _ _ _ _ _ _ _ _ _ _ _ _ _ _ _ _ _ _ _ _ _ _ _ _ _ _ _ _ _ _ _ _ _ _ _ _ _ _ _ _ ⟨hh, top, HV_next hH, hC, hLV, hCV, hTV, hWV2, hd, hrb, rfl, rfl, rfl, rfl, rfl, rfl, rfl, rfl, rfl, rfl, rfl, rfl, rfl, rfl, rfl⟩
    · rw [if_neg r0]
      exact law_go _ _ _ _ _ k23 hk _ _ _ _ _ _ _ _ _ _ _ _ _ _ _ _ _ _ _ _ _ _ _ _ _ _ _ _ _ _ _ _ _ _ _ _ _ _ _ _ _ _ _ _ _ _ _ _ _ _ _ _ _ _ _ _ _ _ _ _ _ _ _ _ _ _ _ _ _ _ _ _ _ _ _ _ ⟨hh, top, HV_next hH, hC, hLV, hCV, hTV, hWV2, hd, hrb, rfl, rfl, rfl, rfl, rfl, rfl, rfl, rfl, rfl, rfl, rfl, rfl, rfl, rfl, rfl⟩
  have n4 := y4
  by_cases y5 : y = 5
  · rw [if_neg n0, if_neg n1, if_neg n2, if_neg n3, if_neg n4, if_pos y5]
    rw [o1]
    obtain ⟨r, r2, out', a1, a2, a6⟩ := man_both (hh top).1 a_out mv_code x1
    rw [ob_s a1]
    try dsimp only
    rw [o1, ob_s a2]
    try dsimp only
    unfold m_X10_thrown
    rw [ob_s rfl, if_pos rfl]
    unfold m_L_law_b368
    by_cases r0 : r = 0
    · rw [if_pos r0, tn0, if_pos (a6 r0)]
      exact law_go _ _ _ _ _ k23 hk _ _ _ _ _ _ _ _ _ _ _ _ _ _ _ _ _ _ _ _ _ _ _ _ _ _ _ _ _ _ _ _ _ _ _ _ _ _ _ _ _ _ _ _ _ _ _ _ _ _ _ _ _ _ _ _ _ _ _ _ _ _ _ _ _ _ _ _ _ _ _ _ _ _ _ _ ⟨hh, top, HV_next hH, hC, hLV, hCV, hTV, hWV, hd, hrb, rfl, rfl, rfl, rfl, rfl, rfl, rfl, rfl, rfl, rfl, rfl, rfl, rfl, rfl, rfl⟩
    · rw [if_neg r0]
      exact law_go _ _ _ _ _ k23 hk _ _ _ _ _ _ _ _ _ _ _ _ _ _ _ _ _ _ _ _ _ _ _ _ _ _ _ _ _ _ _ _ _ _ _ _ _ _ _ _ _ _ _ _ _ _ _ _ _ _ _ _ _ _ _ _ _ _ _ _ _ _ _ _ _ _ _ _ _ _ _ _ _ _ _ _ ⟨hh, top, HV_next hH, hC, hLV, hCV, hTV, hWV, hd, hrb, rfl, rfl, rfl, rfl, rfl, rfl, rfl, rfl, rfl, rfl, rfl, rfl, rfl, rfl, rfl⟩
  have n5 := y5
  by_cases y6 : y = 6
  · rw [if_neg n0, if_neg n1, if_neg n2, if_neg n3, if_neg n4, if_neg n5, if_pos y6]
    rw [o1]
    obtain ⟨r, r2, out', a1, a2, a6⟩ := about_both hi hT hC.1 a_out mv_code x1
    rw [ob_s a1]
    try dsimp only
    rw [o1, ob_s a2]
    try dsimp only
    unfold m_X10_thrown
    rw [ob_s rfl, if_pos rfl]
    unfold m_L_law_b424
    by_cases r0 : r = 0
    · rw [if_pos r0, tn0, if_pos (a6 r0)]
      exact law_go _ _ _ _ _ k23 hk _ _ _ _ _ _ _ _ _ _ _ _ _ _ _ _ _ _ _ _ _ _ _ _ _ _ _ _ _ _ _ _ _ _ _ _ _ _ _ _ _ _ _ _ _ _ _ _ _ _ _ _ _ _ _ _ _ _ _ _ _ _ _ _ _ _ _ _ _ _ _ _ _ _ _ _ ⟨hh, top, HV_next hH, hC, hLV, hCV, hTV, hWV, hd, hrb, rfl, rfl, rfl, rfl, rfl, rfl, rfl, rfl, rfl, rfl, rfl, rfl, rfl, rfl, rfl⟩
    · rw [if_neg r0]
      exact law_go _ _ _ _ _ k23 hk _ _ _ _ _ _ _ _ _ _ _ _ _ _ _ _ _ _ _ _ _ _ _ _ _ _ _ _ _ _ _ _ _ _ _ _ _ _ _ _ _ _ _ _ _ _ _ _ _ _ _ _ _ _ _ _ _ _ _ _ _ _ _ _ _ _ _ _ _ _ _ _ _ _ _ _ ⟨hh, top, HV_next hH, hC, hLV, hCV, hTV, hWV, hd, hrb, rfl, rfl, rfl, rfl, rfl, rfl, rfl, rfl, rfl, rfl, rfl, rfl, rfl, rfl, rfl⟩
  have n6 := y6
  by_cases y7 : y = 7
  · rw [if_neg n0, if_neg n1, if_neg n2, if_neg n3, if_neg n4, if_neg n5, if_neg n6, if_pos y7]
    obtain ⟨lg', v1', v4', v2', v3', v5', v6', v7', st', go', er', a1, a2⟩ := state_c htop hH.2.1 hT hC.1 hLV v_standing v_king v_own v_all v_saving v_pinned v_passers a_stands a_goals a_earlier
    obtain ⟨vv, fr', to', tu', co', cs', cm', b1⟩ := state_r htop (fun i h => (hH.2.1.1 i h).1) (hH.2.1.1 top (Nat.le_refl _)).2 hH.2.2.2 mv_code mv_changed ma_froms ma_tos ma_turns ma_counts ma_changedSquare ma_changedMan
    rw [ob_s a1]
    try dsimp only
    rw [ob_s b1]
    try dsimp only
    rw [if_pos rfl]
    exact law_go _ _ _ _ _ k23 hk _ _ _ _ _ _ _ _ _ _ _ _ _ _ _ _ _ _ _ _ _ _ _ _ _ _ _ _ _ _ _ _ _ _ _ _ _ _ _ _ _ _ _ _ _ _ _ _ _ _ _ _ _ _ _ _ _ _ _ _ _ _ _ _ _ _ _ _ _ _ _ _ _ _ _ _ ⟨hh, top, HV_next hH, hC, Or.inr ⟨rfl, a2⟩, hCV, hTV, hWV, hd, hrb, rfl, rfl, rfl, rfl, rfl, rfl, rfl, rfl, rfl, rfl, rfl, rfl, rfl, rfl, rfl⟩
  have n7 := y7
  by_cases y8 : y = 8
  · rw [if_neg n0, if_neg n1, if_neg n2, if_neg n3, if_neg n4, if_neg n5, if_neg n6, if_neg n7, if_pos y8]
    rw [o1, o2]
    obtain ⟨r, r2, out', a1, a2, a6⟩ := attacked_both hi.1 hT hC.1 a_out mv_code x1 x2
    rw [ob_s a1]
    try dsimp only
    rw [o1, o2, ob_s a2]
    try dsimp only
    unfold m_X10_thrown
    rw [ob_s rfl, if_pos rfl]
    unfold m_L_law_b506 m_L_law_b512
    by_cases r0 : r = 0
    · rw [if_pos r0, tn0]
      rcases a6 r0 with ⟨z1, z2⟩ | ⟨z1, z2⟩
      · rw [if_pos z1, z2, if_pos (lg_same 0)]
        exact law_go _ _ _ _ _ k23 hk _ _ _ _ _ _ _ _ _ _ _ _ _ _ _ _ _ _ _ _ _ _ _ _ _ _ _ _ _ _ _ _ _ _ _ _ _ _ _ _ _ _ _ _ _ _ _ _ _ _ _ _ _ _ _ _ _ _ _ _ _ _ _ _ _ _ _ _ _ _ _ _ _ _ _ _ ⟨hh, top, HV_next hH, hC, hLV, hCV, hTV, hWV, hd, hrb, rfl, rfl, rfl, rfl, rfl, rfl, rfl, rfl, rfl, rfl, rfl, rfl, rfl, rfl, rfl⟩
      · rw [if_neg z1, z2, if_pos (lg_same 1)]
        exact law_go _ _ _ _ _ k23 hk _ _ _ _ _ _ _ _ _ _ _ _ _ _ _ _ _ _ _ _ _ _ _ _ _ _ _ _ _ _ _ _ _ _ _ _ _ _ _ _ _ _ _ _ _ _ _ _ _ _ _ _ _ _ _ _ _ _ _ _ _ _ _ _ _ _ _ _ _ _ _ _ _ _ _ _ ⟨hh, top, HV_next hH, hC, hLV, hCV, hTV, hWV, hd, hrb, rfl, rfl, rfl, rfl, rfl, rfl, rfl, rfl, rfl, rfl, rfl, rfl, rfl, rfl, rfl⟩
    · rw [if_neg r0]
      exact law_go _ _ _ _ _ k23 hk _ _ _ _ _ _ _ _ _ _ _ _ _ _ _ _ _ _ _ _ _ _ _ _ _ _ _ _ _ _ _ _ _ _ _ _ _ _ _ _ _ _ _ _ _ _ _ _ _ _ _ _ _ _ _ _ _ _ _ _ _ _ _ _ _ _ _ _ _ _ _ _ _ _ _ _ ⟨hh, top, HV_next hH, hC, hLV, hCV, hTV, hWV, hd, hrb, rfl, rfl, rfl, rfl, rfl, rfl, rfl, rfl, rfl, rfl, rfl, rfl, rfl, rfl, rfl⟩
  have n8 := y8
  by_cases y9 : y = 9
  · rw [if_neg n0, if_neg n1, if_neg n2, if_neg n3, if_neg n4, if_neg n5, if_neg n6, if_neg n7, if_neg n8, if_pos y9]
    obtain ⟨lg', v1', v4', v2', v3', v5', v6', v7', st', go', a1, a2⟩ := moves_c hi hT hC.1 hLV v_standing v_king v_own v_all v_saving v_pinned v_passers a_stands a_goals
    obtain ⟨vv, fr', to', tu', co', cs', cm', b1⟩ := moves_r hi mv_code mv_changed ma_froms ma_tos ma_turns ma_counts ma_changedSquare ma_changedMan
    rw [ob_s a1]
    try dsimp only
    rw [ob_s b1]
    try dsimp only
    rw [if_pos rfl]
    exact law_go _ _ _ _ _ k23 hk _ _ _ _ _ _ _ _ _ _ _ _ _ _ _ _ _ _ _ _ _ _ _ _ _ _ _ _ _ _ _ _ _ _ _ _ _ _ _ _ _ _ _ _ _ _ _ _ _ _ _ _ _ _ _ _ _ _ _ _ _ _ _ _ _ _ _ _ _ _ _ _ _ _ _ _ ⟨hh, top, HV_next hH, hC, Or.inr ⟨rfl, a2⟩, hCV, hTV, hWV, hd, hrb, rfl, rfl, rfl, rfl, rfl, rfl, rfl, rfl, rfl, rfl, rfl, rfl, rfl, rfl, rfl⟩
  have n9 := y9
  by_cases y10 : y = 10
  · rw [if_neg n0, if_neg n1, if_neg n2, if_neg n3, if_neg n4, if_neg n5, if_neg n6, if_neg n7, if_neg n8, if_neg n9, if_pos y10]
    rw [o1, o2]
    obtain ⟨r, r2, li', lg', v1', v4', v2', v3', v5', v6', v7', st', go', out', vv, fr', to', tu', co', cs', cm', a1, a2, a6, a7⟩ := move_both hi hT hC.1 hLV v_standing v_king v_own v_all v_saving v_pinned v_passers a_stands a_goals a_out x1 x2 mv_code mv_changed ma_froms ma_tos ma_turns ma_counts ma_changedSquare ma_changedMan
    rw [ob_s a1]
    try dsimp only
    rw [o1, o2, ob_s a2]
    try dsimp only
    unfold m_X10_thrown
    rw [ob_s rfl, if_pos rfl]
    unfold m_L_law_b593
    by_cases r0 : r = 0
    · rw [if_pos r0, tn0, if_pos (a6 r0)]
      exact law_go _ _ _ _ _ k23 hk _ _ _ _ _ _ _ _ _ _ _ _ _ _ _ _ _ _ _ _ _ _ _ _ _ _ _ _ _ _ _ _ _ _ _ _ _ _ _ _ _ _ _ _ _ _ _ _ _ _ _ _ _ _ _ _ _ _ _ _ _ _ _ _ _ _ _ _ _ _ _ _ _ _ _ _ ⟨hh, top, HV_next hH, hC, a7, hCV, hTV, hWV, hd, hrb, rfl, rfl, rfl, rfl, rfl, rfl, rfl, rfl, rfl, rfl, rfl, rfl, rfl, rfl, rfl⟩
    · rw [if_neg r0]
      exact law_go _ _ _ _ _ k23 hk _ _ _ _ _ _ _ _ _ _ _ _ _ _ _ _ _ _ _ _ _ _ _ _ _ _ _ _ _ _ _ _ _ _ _ _ _ _ _ _ _ _ _ _ _ _ _ _ _ _ _ _ _ _ _ _ _ _ _ _ _ _ _ _ _ _ _ _ _ _ _ _ _ _ _ _ ⟨hh, top, HV_next hH, hC, a7, hCV, hTV, hWV, hd, hrb, rfl, rfl, rfl, rfl, rfl, rfl, rfl, rfl, rfl, rfl, rfl, rfl, rfl, rfl, rfl⟩
  have n10 := y10
  by_cases y11 : y = 11
  · rw [if_neg n0, if_neg n1, if_neg n2, if_neg n3, if_neg n4, if_neg n5, if_neg n6, if_neg n7, if_neg n8, if_neg n9, if_neg n10, if_pos y11]
    rw [o1, o2, o3]
    rcases play_both hi h20 hT hB hC hLV htop v_standing v_king v_own v_all v_saving v_pinned v_passers a_stands a_goals a_moved a_pbefore a_out x1 x2 x3 mv_code mv_changed ma_before ma_froms ma_tos ma_turns ma_counts ma_changedSquare ma_changedMan with hp | hp
    · obtain ⟨r, r2, li', lg', v1', v4', v2', v3', v5', v6', v7', st', go', out', vv, fr', to', tu', co', cs', cm', r0, a1, a2, a7⟩ := hp
      rw [ob_s a1]
      try dsimp only
      rw [o1, o2, o3, ob_s a2]
      try dsimp only
      unfold m_X10_thrown
      rw [ob_s rfl, if_pos rfl, if_neg r0]
      unfold m_L_law_b673
      exact law_go _ _ _ _ _ k23 hk _ _ _ _ _ _ _ _ _ _ _ _ _ _ _ _ _ _ _ _ _ _ _ _ _ _ _ _ _ _ _ _ _ _ _ _ _ _ _ _ _ _ _ _ _ _ _ _ _ _ _ _ _ _ _ _ _ _ _ _ _ _ _ _ _ _ _ _ _ _ _ _ _ _ _ _ ⟨hh, top, HV_next hH, hC, a7, hCV, hTV, hWV, hd, hrb, rfl, rfl, rfl, rfl, rfl, rfl, rfl, rfl, rfl, rfl, rfl, rfl, rfl, rfl, rfl⟩
    · obtain ⟨m, r2, lg', v1', v4', v2', v3', v5', v6', v7', st', go', out', bal', kinds', sides', vv, bf', fr', to', tu', co', cs', cm', hm, a1, a2, a6, a7, a8, a9⟩ := hp
      have hp : pushH hh top (mkM (hh top) m) (top + 1) = mkM (hh top) m := if_neg (by omega)
      rw [ob_s a1]
      try dsimp only
      rw [o1, o2, o3, ob_s a2]
      try dsimp only
      unfold m_X10_thrown
      rw [ob_s rfl, if_pos rfl, if_pos rfl, tn0, if_pos a6]
      unfold m_L_law_b673
      rw [← hp] at a7 ⊢
      exact law_go _ _ _ _ _ k23 hk _ _ _ _ _ _ _ _ _ _ _ _ _ _ _ _ _ _ _ _ _ _ _ _ _ _ _ _ _ _ _ _ _ _ _ _ _ _ _ _ _ _ _ _ _ _ _ _ _ _ _ _ _ _ _ _ _ _ _ _ _ _ _ _ _ _ _ _ _ _ _ _ _ _ _ _ ⟨pushH hh top (mkM (hh top) m), top + 1, HV_push (by omega) hH hm a8 a9, a7, Or.inl rfl, hCV, hTV, hWV, hd, hrb, rfl, rfl, rfl, rfl, rfl, rfl, rfl, rfl, rfl, rfl, rfl, rfl, rfl, rfl, rfl⟩
  have n11 := y11
  by_cases y12 : y = 12
  · rw [if_neg n0, if_neg n1, if_neg n2, if_neg n3, if_neg n4, if_neg n5, if_neg n6, if_neg n7, if_neg n8, if_neg n9, if_neg n10, if_neg n11, if_pos y12]
    cases top with
    | zero =>
      obtain ⟨a1, a2⟩ := back_no (z := hh 0) v_listed a_moved a_pbefore v_balance a_kinds a_sides a_table a_out mv_code ma_before
      rw [ob_s a1]
      try dsimp only
      rw [ob_s a2]
      try dsimp only
      unfold m_X10_thrown
      rw [ob_s rfl, if_pos rfl, if_neg (by decide)]
      unfold m_L_law_b717
      exact law_go _ _ _ _ _ k23 hk _ _ _ _ _ _ _ _ _ _ _ _ _ _ _ _ _ _ _ _ _ _ _ _ _ _ _ _ _ _ _ _ _ _ _ _ _ _ _ _ _ _ _ _ _ _ _ _ _ _ _ _ _ _ _ _ _ _ _ _ _ _ _ _ _ _ _ _ _ _ _ _ _ _ _ _ ⟨hh, 0, HV_next hH, hC, hLV, hCV, hTV, hWV, hd, hrb, rfl, rfl, rfl, rfl, rfl, rfl, rfl, rfl, rfl, rfl, rfl, rfl, rfl, rfl, rfl⟩
    | succ top =>
      obtain ⟨bal', kinds', sides', out', a1, a2, a6, a7⟩ := back_ok (by omega) hH.2.1 hB hC (hH.2.2.2 top (by omega)) v_listed a_out mv_code
      rw [ob_s a1]
      try dsimp only
      rw [ob_s a2]
      try dsimp only
      unfold m_X10_thrown
      rw [ob_s rfl, if_pos rfl, if_pos rfl, tn0, if_pos a6]
      unfold m_L_law_b717
      exact law_go _ _ _ _ _ k23 hk _ _ _ _ _ _ _ _ _ _ _ _ _ _ _ _ _ _ _ _ _ _ _ _ _ _ _ _ _ _ _ _ _ _ _ _ _ _ _ _ _ _ _ _ _ _ _ _ _ _ _ _ _ _ _ _ _ _ _ _ _ _ _ _ _ _ _ _ _ _ _ _ _ _ _ _ ⟨hh, top, HV_pop hH, a7, Or.inl rfl, hCV, hTV, hWV, hd, hrb, rfl, rfl, rfl, rfl, rfl, rfl, rfl, rfl, rfl, rfl, rfl, rfl, rfl, rfl, rfl⟩
  have n12 := y12
  by_cases y13 : y = 13
  · rw [if_neg n0, if_neg n1, if_neg n2, if_neg n3, if_neg n4, if_neg n5, if_neg n6, if_neg n7, if_neg n8, if_neg n9, if_neg n10, if_neg n11, if_neg n12, if_pos y13]
    rw [o1]
    obtain ⟨r, r2, row2', row3', v1', v4', v2', v3', v5', v6', v7', st', go', mv', pb', bal', kinds', sides', out', vv, bf', fr', to', tu', co', cs', cm', a1, a2, a6, a7, a8, a9⟩ := ways_both hi h20 hT hB hC htop a_row2 a_row3 v_standing v_king v_own v_all v_saving v_pinned v_passers a_stands a_goals a_moved a_pbefore a_out x1 mv_code mv_changed ma_before ma_froms ma_tos ma_turns ma_counts ma_changedSquare ma_changedMan
    rw [ob_s a1]
    try dsimp only
    rw [o1, ob_s a2]
    try dsimp only
    unfold m_X10_thrown
    rw [ob_s rfl, if_pos rfl]
    unfold m_L_law_b773
    by_cases r0 : r = 0
    · rw [if_pos r0, tn0, if_pos (a6 r0)]
      exact law_go _ _ _ _ _ k23 hk _ _ _ _ _ _ _ _ _ _ _ _ _ _ _ _ _ _ _ _ _ _ _ _ _ _ _ _ _ _ _ _ _ _ _ _ _ _ _ _ _ _ _ _ _ _ _ _ _ _ _ _ _ _ _ _ _ _ _ _ _ _ _ _ _ _ _ _ _ _ _ _ _ _ _ _ ⟨hh, top, HV_same hH a8 a9, a7, hLV, hCV, hTV, hWV, hd, hrb, rfl, rfl, rfl, rfl, rfl, rfl, rfl, rfl, rfl, rfl, rfl, rfl, rfl, rfl, rfl⟩
    · rw [if_neg r0]
      exact law_go _ _ _ _ _ k23 hk _ _ _ _ _ _ _ _ _ _ _ _ _ _ _ _ _ _ _ _ _ _ _ _ _ _ _ _ _ _ _ _ _ _ _ _ _ _ _ _ _ _ _ _ _ _ _ _ _ _ _ _ _ _ _ _ _ _ _ _ _ _ _ _ _ _ _ _ _ _ _ _ _ _ _ _ ⟨hh, top, HV_same hH a8 a9, a7, hLV, hCV, hTV, hWV, hd, hrb, rfl, rfl, rfl, rfl, rfl, rfl, rfl, rfl, rfl, rfl, rfl, rfl, rfl, rfl, rfl⟩
  have n13 := y13
  by_cases y14 : y = 14
  · rw [if_neg n0, if_neg n1, if_neg n2, if_neg n3, if_neg n4, if_neg n5, if_neg n6, if_neg n7, if_neg n8, if_neg n9, if_neg n10, if_neg n11, if_neg n12, if_neg n13, if_pos y14]
    have a1 := x0_worth hC.2 hi.2.1
    have b1 := x10_worthNow hi.1 hi.2.1
    unfold m_X9_worth m_X10_worth
    rw [ob_s a1, ob_s rfl, ob_s b1, ob_s rfl]
    try dsimp only
    rw [if_pos rfl]
    exact law_go _ _ _ _ _ k23 hk _ _ _ _ _ _ _ _ _ _ _ _ _ _ _ _ _ _ _ _ _ _ _ _ _ _ _ _ _ _ _ _ _ _ _ _ _ _ _ _ _ _ _ _ _ _ _ _ _ _ _ _ _ _ _ _ _ _ _ _ _ _ _ _ _ _ _ _ _ _ _ _ _ _ _ _ ⟨hh, top, HV_next hH, hC, hLV, hCV, hTV, hWV, hd, hrb, rfl, rfl, rfl, rfl, rfl, rfl, rfl, rfl, rfl, rfl, rfl, rfl, rfl, rfl, rfl⟩
  have n14 := y14
  by_cases y15 : y = 15
  · rw [if_neg n0, if_neg n1, if_neg n2, if_neg n3, if_neg n4, if_neg n5, if_neg n6, if_neg n7, if_neg n8, if_neg n9, if_neg n10, if_neg n11, if_neg n12, if_neg n13, if_neg n14, if_pos y15]
    rw [o1]
    obtain ⟨r, r2, li', ch', c1', c2', c3', sc', lg', row1', row2', v1', v4', v2', v3', v5', v6', v7', st', go', mv', pb', bal', kinds', sides', out', vv, bf', fr', to', tu', co', cs', cm', a1, a2, a6, a10, a11, a7, a8, a9⟩ := search_both hi h20 hT hB hC hLV hCV htop v_schoice a_row1 a_row2 v_standing v_king v_own v_all v_saving v_pinned v_passers a_stands a_goals a_moved a_pbefore a_out x1 mv_code mv_changed ma_before ma_froms ma_tos ma_turns ma_counts ma_changedSquare ma_changedMan
    rw [ob_s a1]
    try dsimp only
    rw [o1, ob_s a2]
    try dsimp only
    unfold m_X10_thrown
    rw [ob_s rfl, if_pos rfl]
    unfold m_L_law_b842
    by_cases r0 : r = 0
    · rw [if_pos r0, tn0, if_pos (a6 r0)]
      exact law_go _ _ _ _ _ k23 hk _ _ _ _ _ _ _ _ _ _ _ _ _ _ _ _ _ _ _ _ _ _ _ _ _ _ _ _ _ _ _ _ _ _ _ _ _ _ _ _ _ _ _ _ _ _ _ _ _ _ _ _ _ _ _ _ _ _ _ _ _ _ _ _ _ _ _ _ _ _ _ _ _ _ _ _ ⟨hh, top, HV_same hH a8 a9, a7, a10, a11, hTV, hWV, hd, hrb, rfl, rfl, rfl, rfl, rfl, rfl, rfl, rfl, rfl, rfl, rfl, rfl, rfl, rfl, rfl⟩
    · rw [if_neg r0]
      exact law_go _ _ _ _ _ k23 hk _ _ _ _ _ _ _ _ _ _ _ _ _ _ _ _ _ _ _ _ _ _ _ _ _ _ _ _ _ _ _ _ _ _ _ _ _ _ _ _ _ _ _ _ _ _ _ _ _ _ _ _ _ _ _ _ _ _ _ _ _ _ _ _ _ _ _ _ _ _ _ _ _ _ _ _ ⟨hh, top, HV_same hH a8 a9, a7, a10, a11, hTV, hWV, hd, hrb, rfl, rfl, rfl, rfl, rfl, rfl, rfl, rfl, rfl, rfl, rfl, rfl, rfl, rfl, rfl⟩
  have n15 := y15
  by_cases y16 : y = 16
  · rw [if_neg n0, if_neg n1, if_neg n2, if_neg n3, if_neg n4, if_neg n5, if_neg n6, if_neg n7, if_neg n8, if_neg n9, if_neg n10, if_neg n11, if_neg n12, if_neg n13, if_neg n14, if_neg n15, if_pos y16]
    rw [o1]
    obtain ⟨r, r2, out', a1, a2, a6⟩ := chosen_both hCV a_out mv_code x1
    rw [ob_s a1]
    try dsimp only
    rw [o1, ob_s a2]
    try dsimp only
    unfold m_X10_thrown
    rw [ob_s rfl, if_pos rfl]
    unfold m_L_law_b898
    by_cases r0 : r = 0
    · rw [if_pos r0, tn0, if_pos (a6 r0)]
      exact law_go _ _ _ _ _ k23 hk _ _ _ _ _ _ _ _ _ _ _ _ _ _ _ _ _ _ _ _ _ _ _ _ _ _ _ _ _ _ _ _ _ _ _ _ _ _ _ _ _ _ _ _ _ _ _ _ _ _ _ _ _ _ _ _ _ _ _ _ _ _ _ _ _ _ _ _ _ _ _ _ _ _ _ _ ⟨hh, top, HV_next hH, hC, hLV, hCV, hTV, hWV, hd, hrb, rfl, rfl, rfl, rfl, rfl, rfl, rfl, rfl, rfl, rfl, rfl, rfl, rfl, rfl, rfl⟩
    · rw [if_neg r0]
      exact law_go _ _ _ _ _ k23 hk _ _ _ _ _ _ _ _ _ _ _ _ _ _ _ _ _ _ _ _ _ _ _ _ _ _ _ _ _ _ _ _ _ _ _ _ _ _ _ _ _ _ _ _ _ _ _ _ _ _ _ _ _ _ _ _ _ _ _ _ _ _ _ _ _ _ _ _ _ _ _ _ _ _ _ _ ⟨hh, top, HV_next hH, hC, hLV, hCV, hTV, hWV, hd, hrb, rfl, rfl, rfl, rfl, rfl, rfl, rfl, rfl, rfl, rfl, rfl, rfl, rfl, rfl, rfl⟩
  have n16 := y16
  rw [if_neg n0, if_neg n1, if_neg n2, if_neg n3, if_neg n4, if_neg n5, if_neg n6, if_neg n7, if_neg n8, if_neg n9, if_neg n10, if_neg n11, if_neg n12, if_neg n13, if_neg n14, if_neg n15, if_neg n16]
  exact law_go _ _ _ _ _ k23 hk _ _ _ _ _ _ _ _ _ _ _ _ _ _ _ _ _ _ _ _ _ _ _ _ _ _ _ _ _ _ _ _ _ _ _ _ _ _ _ _ _ _ _ _ _ _ _ _ _ _ _ _ _ _ _ _ _ _ _ _ _ _ _ _ _ _ _ _ _ _ _ _ _ _ _ _ ⟨hh, top, HV_next hH, hC, hLV, hCV, hTV, hWV, hd, hrb, rfl, rfl, rfl, rfl, rfl, rfl, rfl, rfl, rfl, rfl, rfl, rfl, rfl, rfl, rfl⟩
