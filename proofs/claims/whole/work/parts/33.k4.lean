/-! The class: X4_forget, X4_remember, X4_make, X4_takeBack, X4_unlikeAt, X4_isThrice -/
def m_X4_forget (v_made : Int32) : Option (Int32) := some 0
abbrev rm_X4_forget : Room := { frames := 0, cells := 0, slots := 0, locals := 0 }
abbrev wy_X4_forget : List Cond := .code yX4_forget cX4_forget 1 none :: gT
theorem cv_X4_forget {R : Room} {s : State} {args : Array Value} {own : String} {index : Nat} {w0 : Cond} (hts : ∀ w ∈ w0 :: gT, w.before args s = true) (hl : Cond.methodLink own index yX4_forget ∈ gT) (hR : 0 + 1 ≤ R.frames ∧ 8 + (1 + 11) + 0 ≤ R.locals) : CallW R s args own RX4 index yX4_forget cX4_forget 1 none wy_X4_forget rm_X4_forget 0 0 0 :=
  cwV 0 hts (gT_call w0 (pre := [.methodLink own index yX4_forget, .instanceMethod yX4_forget, .selects RX4 yX4_forget yX4_forget, .initialized RX4]) (gT_lc hl (gT_lc ly_yX4_forget (gT_lc lx_yX4_forget (gT_l1 li_RX4)))) lc_yX4_forget) rfl rfl rfl (by decide +kernel) hR
set_option maxRecDepth 100000 in
set_option maxHeartbeats 4000000 in
theorem c_X4_forget (l : Launch) (D : va_G) (qp : Nat → Nat) (qb : Nat → Nat) (ql : Nat → Nat) (qw : Nat → Nat) (cI : ClassId) (cJ : ClassId) (tq : Nat → Nat) (v_made : Int32) (a_moved : Nat → Int32) (a_pbefore : Nat → Int32) (a_earlier : Nat → Int32) (v_mover : Int32) (v_rights : Int32) (v_passed : Int32) (v_halves : Int32) (v_number : Int32) (v_balance : Int32) (a_men : Nat → Int32) (a_kinds : Nat → Int64) (a_sides : Nat → Int64) (a_rays : Nat → Int64) (a_knights : Nat → Int64) (a_kings : Nat → Int64) (a_pawns : Nat → Int64) (a_table : Nat → Int32) (v_made' : Int32) (hm : m_X4_forget v_made = some v_made') : kEv l yX4_forget wy_X4_forget rm_X4_forget D [(cI, .int), (cJ, .long)] tq (wPa qp qb ql qw cI cJ v_made a_moved a_pbefore a_earlier v_mover v_rights v_passed v_halves v_number v_balance a_men a_kinds a_sides a_rays a_knights a_kings a_pawns a_table) (wPa qp qb ql qw cI cJ v_made' a_moved a_pbefore a_earlier v_mover v_rights v_passed v_halves v_number v_balance a_men a_kinds a_sides a_rays a_knights a_kings a_pawns a_table) [.ref (qp 0)] := by
  refine kEv.of cX4_forget 1 none (by decide) rfl rfl (Nat.le_of_ble_eq_true rfl) ?_
  intro p e s m below meth c A Q C hJ hret
  have hin0 : ∀ w ∈ wsX00, w ∈ wy_X4_forget := fun w h => List.mem_cons_of_mem _ (inG0 w h)
  have hin3 : ∀ w ∈ wsX30, w ∈ wy_X4_forget := fun w h => List.mem_cons_of_mem _ (inG3 w h)
  have hin4 : ∀ w ∈ wsX40, w ∈ wy_X4_forget := fun w h => List.mem_cons_of_mem _ (inG4 w h)
  have hin7 : ∀ w ∈ wsX70, w ∈ wy_X4_forget := fun w h => List.mem_cons_of_mem _ (inG7 w h)
  unfold m_X4_forget at hm
  have h := hm
  refine kv_lv [0] (lv2 := [(0, .ref (qp 0))]) rfl ?_
  refine kv_aload_n C 0 dX4_forget_0 rfl rfl ?_
  refine kv_iconst C 0 dX4_forget_1 (by decide) ?_
  refine kv_put C (Cn := RX4) (T := TX4) (N := 5) (ty := .int) (ws1 := (wPa qp qb ql qw cI cJ 0 a_moved a_pbefore a_earlier v_mover v_rights v_passed v_halves v_number v_balance a_men a_kinds a_sides a_rays a_knights a_kings a_pawns a_table)) 0 4 hin4 tyX4 tyX4_ok nmX4 rfl rfl (by decide) (C.ts _ (List.mem_cons_of_mem _ lf_RX4_25)) rfl rfl (by decide +kernel) rfl rfl (Nat.le_of_ble_eq_true rfl) rfl dX4_forget_2 ?_
  cases h
  exact hret _ _ dX4_forget_5
def m_X4_remember (v_made : Int32) (a_moved : Nat → Int32) (a_pbefore : Nat → Int32) (v_rights : Int32) (v_passed : Int32) (v_halves : Int32) (p0 : Int32) (p1 : Int32) : Option (Int32 × (Nat → Int32) × (Nat → Int32)) := oin (v_made) 1027 (ol (upd a_moved (v_made.toNatClampNeg) p0) fun a_moved_2 => ol (((p1 ||| (v_rights <<< ((3 : Int32) &&& 31))) ||| ((v_passed + 1) <<< ((7 : Int32) &&& 31))) ||| (v_halves <<< ((14 : Int32) &&& 31))) fun y_3 => oin (v_made) 1027 (ol (upd a_pbefore (v_made.toNatClampNeg) y_3) fun a_pbefore_5 => ol (v_made + 1) fun y_6 => some (y_6, a_moved_2, a_pbefore_5)))
abbrev rm_X4_remember : Room := { frames := 0, cells := 0, slots := 0, locals := 0 }
abbrev wy_X4_remember : List Cond := .code yX4_remember cX4_remember 3 none :: gT
theorem cv_X4_remember {R : Room} {s : State} {args : Array Value} {own : String} {index : Nat} {w0 : Cond} (hts : ∀ w ∈ w0 :: gT, w.before args s = true) (hl : Cond.methodLink own index yX4_remember ∈ gT) (hR : 0 + 1 ≤ R.frames ∧ 8 + (3 + 11) + 0 ≤ R.locals) : CallW R s args own RX4 index yX4_remember cX4_remember 3 none wy_X4_remember rm_X4_remember 0 0 2 :=
  cwV 2 hts (gT_call w0 (pre := [.methodLink own index yX4_remember, .instanceMethod yX4_remember, .selects RX4 yX4_remember yX4_remember, .initialized RX4]) (gT_lc hl (gT_lc ly_yX4_remember (gT_lc lx_yX4_remember (gT_l1 li_RX4)))) lc_yX4_remember) rfl rfl rfl (by decide +kernel) hR
set_option maxRecDepth 100000 in
set_option maxHeartbeats 4000000 in
theorem c_X4_remember (l : Launch) (D : va_G) (qp : Nat → Nat) (qb : Nat → Nat) (ql : Nat → Nat) (qw : Nat → Nat) (cI : ClassId) (cJ : ClassId) (tq : Nat → Nat) (v_made : Int32) (a_moved : Nat → Int32) (a_pbefore : Nat → Int32) (a_earlier : Nat → Int32) (v_mover : Int32) (v_rights : Int32) (v_passed : Int32) (v_halves : Int32) (v_number : Int32) (v_balance : Int32) (a_men : Nat → Int32) (a_kinds : Nat → Int64) (a_sides : Nat → Int64) (a_rays : Nat → Int64) (a_knights : Nat → Int64) (a_kings : Nat → Int64) (a_pawns : Nat → Int64) (a_table : Nat → Int32) (p0 : Int32) (p1 : Int32) (v_made' : Int32) (a_moved' : Nat → Int32) (a_pbefore' : Nat → Int32) (hm : m_X4_remember v_made a_moved a_pbefore v_rights v_passed v_halves p0 p1 = some (v_made', a_moved', a_pbefore')) : kEv l yX4_remember wy_X4_remember rm_X4_remember D [(cI, .int), (cJ, .long)] tq (wPa qp qb ql qw cI cJ v_made a_moved a_pbefore a_earlier v_mover v_rights v_passed v_halves v_number v_balance a_men a_kinds a_sides a_rays a_knights a_kings a_pawns a_table) (wPa qp qb ql qw cI cJ v_made' a_moved' a_pbefore' a_earlier v_mover v_rights v_passed v_halves v_number v_balance a_men a_kinds a_sides a_rays a_knights a_kings a_pawns a_table) [.ref (qp 0), .int p0, .int p1] := by
  refine kEv.of cX4_remember 3 none (by decide) rfl rfl (Nat.le_of_ble_eq_true rfl) ?_
  intro p e s m below meth c A Q C hJ hret
  have hin0 : ∀ w ∈ wsX00, w ∈ wy_X4_remember := fun w h => List.mem_cons_of_mem _ (inG0 w h)
  have hin3 : ∀ w ∈ wsX30, w ∈ wy_X4_remember := fun w h => List.mem_cons_of_mem _ (inG3 w h)
  have hin4 : ∀ w ∈ wsX40, w ∈ wy_X4_remember := fun w h => List.mem_cons_of_mem _ (inG4 w h)
  have hin7 : ∀ w ∈ wsX70, w ∈ wy_X4_remember := fun w h => List.mem_cons_of_mem _ (inG7 w h)
  unfold m_X4_remember at hm
  have h := hm
  refine kv_lv [0, 1, 2] (lv2 := [(0, .ref (qp 0)), (1, .int p0), (2, .int p1)]) rfl ?_
  refine kv_aload_n C 0 dX4_remember_0 rfl rfl ?_
  refine kv_get C (Cn := RX4) (T := TX4) (N := 5) 0 1 hin4 rfl rfl (by decide) (C.ts _ (List.mem_cons_of_mem _ lf_RX4_15)) rfl rfl dX4_remember_1 ?_
  refine kv_aload_n C 0 dX4_remember_4 rfl rfl ?_
  refine kv_get C (Cn := RX4) (T := TX4) (N := 5) 0 4 hin4 rfl rfl (by decide) (C.ts _ (List.mem_cons_of_mem _ lf_RX4_25)) rfl rfl dX4_remember_5 ?_
  refine kv_iload_n C 1 dX4_remember_8 rfl rfl ?_
  obtain ⟨g_1, h⟩ := oin_e h
  obtain ⟨a_moved_2, ea_moved_2, h⟩ := ol_e h
  refine kv_iast2 C (ws1 := (wPa qp qb ql qw cI cJ v_made a_moved_2 a_pbefore a_earlier v_mover v_rights v_passed v_halves v_number v_balance a_men a_kinds a_sides a_rays a_knights a_kings a_pawns a_table)) 1 0 rfl rfl g_1 ea_moved_2 rfl dX4_remember_9 ?_
  refine kv_aload_n C 0 dX4_remember_10 rfl rfl ?_
  refine kv_get C (Cn := RX4) (T := TX4) (N := 5) 0 2 hin4 rfl rfl (by decide) (C.ts _ (List.mem_cons_of_mem _ lf_RX4_19)) rfl rfl dX4_remember_11 ?_
  refine kv_aload_n C 0 dX4_remember_14 rfl rfl ?_
  refine kv_get C (Cn := RX4) (T := TX4) (N := 5) 0 4 hin4 rfl rfl (by decide) (C.ts _ (List.mem_cons_of_mem _ lf_RX4_25)) rfl rfl dX4_remember_15 ?_
  refine kv_iload_n C 2 dX4_remember_18 rfl rfl ?_
  refine kv_aload_n C 0 dX4_remember_19 rfl rfl ?_
  refine kv_get C (Cn := RX4) (T := TX4) (N := 5) 0 0 hin4 rfl rfl (by decide) (C.ts _ (List.mem_cons_of_mem _ lf_RX4_9)) rfl rfl dX4_remember_20 ?_
  refine kv_get C (Cn := RX0) (T := TX0) (N := 11) 4 6 hin0 rfl rfl (by decide) (C.ts _ (List.mem_cons_of_mem _ lf_RX4_70)) rfl rfl dX4_remember_23 ?_
  refine kv_iconst C 3 dX4_remember_26 (by decide) ?_
  refine kv_ishl C dX4_remember_27 ?_
  refine kv_ior C dX4_remember_28 ?_
  refine kv_aload_n C 0 dX4_remember_29 rfl rfl ?_
  refine kv_get C (Cn := RX4) (T := TX4) (N := 5) 0 0 hin4 rfl rfl (by decide) (C.ts _ (List.mem_cons_of_mem _ lf_RX4_9)) rfl rfl dX4_remember_30 ?_
  refine kv_get C (Cn := RX0) (T := TX0) (N := 11) 4 7 hin0 rfl rfl (by decide) (C.ts _ (List.mem_cons_of_mem _ lf_RX4_85)) rfl rfl dX4_remember_33 ?_
  refine kv_iconst C 1 dX4_remember_36 (by decide) ?_
  refine kv_iadd C dX4_remember_37 ?_
  refine kv_bipush C 7 dX4_remember_38 (by decide) ?_
  refine kv_ishl C dX4_remember_40 ?_
  refine kv_ior C dX4_remember_41 ?_
  refine kv_aload_n C 0 dX4_remember_42 rfl rfl ?_
  refine kv_get C (Cn := RX4) (T := TX4) (N := 5) 0 0 hin4 rfl rfl (by decide) (C.ts _ (List.mem_cons_of_mem _ lf_RX4_9)) rfl rfl dX4_remember_43 ?_
  refine kv_get C (Cn := RX0) (T := TX0) (N := 11) 4 8 hin0 rfl rfl (by decide) (C.ts _ (List.mem_cons_of_mem _ lf_RX4_76)) rfl rfl dX4_remember_46 ?_
  refine kv_bipush C 14 dX4_remember_49 (by decide) ?_
  refine kv_ishl C dX4_remember_51 ?_
  refine kv_ior C dX4_remember_52 ?_
  obtain ⟨y_3, ey_3, h⟩ := ol_e h
  refine kv_top ey_3 ?_
  obtain ⟨g_4, h⟩ := oin_e h
  obtain ⟨a_pbefore_5, ea_pbefore_5, h⟩ := ol_e h
  refine kv_iast2 C (ws1 := (wPa qp qb ql qw cI cJ v_made a_moved_2 a_pbefore_5 a_earlier v_mover v_rights v_passed v_halves v_number v_balance a_men a_kinds a_sides a_rays a_knights a_kings a_pawns a_table)) 2 0 rfl rfl g_4 ea_pbefore_5 rfl dX4_remember_53 ?_
  refine kv_aload_n C 0 dX4_remember_54 rfl rfl ?_
  refine kv_dup C dX4_remember_55 rfl ?_
  refine kv_get C (Cn := RX4) (T := TX4) (N := 5) 0 4 hin4 rfl rfl (by decide) (C.ts _ (List.mem_cons_of_mem _ lf_RX4_25)) rfl rfl dX4_remember_56 ?_
  refine kv_iconst C 1 dX4_remember_59 (by decide) ?_
  refine kv_iadd C dX4_remember_60 ?_
  obtain ⟨y_6, ey_6, h⟩ := ol_e h
  refine kv_top ey_6 ?_
  refine kv_put C (Cn := RX4) (T := TX4) (N := 5) (ty := .int) (ws1 := (wPa qp qb ql qw cI cJ y_6 a_moved_2 a_pbefore_5 a_earlier v_mover v_rights v_passed v_halves v_number v_balance a_men a_kinds a_sides a_rays a_knights a_kings a_pawns a_table)) 0 4 hin4 tyX4 tyX4_ok nmX4 rfl rfl (by decide) (C.ts _ (List.mem_cons_of_mem _ lf_RX4_25)) rfl rfl (by decide +kernel) rfl rfl (Nat.le_of_ble_eq_true rfl) rfl dX4_remember_61 ?_
  cases h
  exact hret _ _ dX4_remember_64
def m_X4_make_b294 (v_made : Int32) (a_moved : Nat → Int32) (a_pbefore : Nat → Int32) (v_mover : Int32) (v_rights : Int32) (v_passed : Int32) (v_halves : Int32) (v_number : Int32) (v_balance : Int32) (a_men : Nat → Int32) (a_kinds : Nat → Int64) (a_sides : Nat → Int64) (a_rays : Nat → Int64) (a_knights : Nat → Int64) (a_kings : Nat → Int64) (a_pawns : Nat → Int64) (a_table : Nat → Int32) (x5 : Int32) : Option (Int32 × Int32 × (Nat → Int32) × (Nat → Int32) × Int32 × Int32 × Int32 × Int32 × Int32 × Int32 × (Nat → Int32) × (Nat → Int64) × (Nat → Int64)) := some (x5, v_made, a_moved, a_pbefore, v_mover, v_rights, v_passed, v_halves, v_number, v_balance, a_men, a_kinds, a_sides)
def m_X4_make_b291 (v_made : Int32) (a_moved : Nat → Int32) (a_pbefore : Nat → Int32) (v_mover : Int32) (v_rights : Int32) (v_passed : Int32) (v_halves : Int32) (v_number : Int32) (v_balance : Int32) (a_men : Nat → Int32) (a_kinds : Nat → Int64) (a_sides : Nat → Int64) (a_rays : Nat → Int64) (a_knights : Nat → Int64) (a_kings : Nat → Int64) (a_pawns : Nat → Int64) (a_table : Nat → Int32) (x5 : Int32) (t1 : Int32) : Option (Int32 × Int32 × (Nat → Int32) × (Nat → Int32) × Int32 × Int32 × Int32 × Int32 × Int32 × Int32 × (Nat → Int32) × (Nat → Int64) × (Nat → Int64)) := m_X4_make_b294 v_made a_moved a_pbefore v_mover v_rights t1 v_halves v_number v_balance a_men a_kinds a_sides a_rays a_knights a_kings a_pawns a_table x5
def m_X4_make_b189 (v_made : Int32) (a_moved : Nat → Int32) (a_pbefore : Nat → Int32) (v_mover : Int32) (v_rights : Int32) (v_passed : Int32) (v_halves : Int32) (v_number : Int32) (v_balance : Int32) (a_men : Nat → Int32) (a_kinds : Nat → Int64) (a_sides : Nat → Int64) (a_rays : Nat → Int64) (a_knights : Nat → Int64) (a_kings : Nat → Int64) (a_pawns : Nat → Int64) (a_table : Nat → Int32) (x2 : Int32) (x3 : Int32) (x5 : Int32) (x7 : Int32) (t1 : Int32) : Option (Int32 × Int32 × (Nat → Int32) × (Nat → Int32) × Int32 × Int32 × Int32 × Int32 × Int32 × Int32 × (Nat → Int32) × (Nat → Int64) × (Nat → Int64)) := ol (v_number + v_mover) fun y_1 => ol ((1 : Int32) - v_mover) fun y_2 => if x7 = 1 then ob (m_J9_abs_0f7a4 (x2 - x3)) fun r_4 => if r_4 = 16 then ol ((x2 + x3) / 2) fun y_7 => ob (m_X0_passers y_2 y_7 a_kinds a_sides a_rays a_knights a_kings a_pawns ) fun r_8 => if (lg_cmp r_8 0) = 0 then m_X4_make_b291 v_made a_moved a_pbefore y_2 v_rights y_7 t1 y_1 v_balance a_men a_kinds a_sides a_rays a_knights a_kings a_pawns a_table x5 (-1) else m_X4_make_b291 v_made a_moved a_pbefore y_2 v_rights y_7 t1 y_1 v_balance a_men a_kinds a_sides a_rays a_knights a_kings a_pawns a_table x5 y_7 else m_X4_make_b294 v_made a_moved a_pbefore y_2 v_rights (-1) t1 y_1 v_balance a_men a_kinds a_sides a_rays a_knights a_kings a_pawns a_table x5 else m_X4_make_b294 v_made a_moved a_pbefore y_2 v_rights (-1) t1 y_1 v_balance a_men a_kinds a_sides a_rays a_knights a_kings a_pawns a_table x5
def m_X4_make_b176 (v_made : Int32) (a_moved : Nat → Int32) (a_pbefore : Nat → Int32) (v_mover : Int32) (v_rights : Int32) (v_passed : Int32) (v_halves : Int32) (v_number : Int32) (v_balance : Int32) (a_men : Nat → Int32) (a_kinds : Nat → Int64) (a_sides : Nat → Int64) (a_rays : Nat → Int64) (a_knights : Nat → Int64) (a_kings : Nat → Int64) (a_pawns : Nat → Int64) (a_table : Nat → Int32) (x2 : Int32) (x3 : Int32) (x5 : Int32) (x7 : Int32) : Option (Int32 × Int32 × (Nat → Int32) × (Nat → Int32) × Int32 × Int32 × Int32 × Int32 × Int32 × Int32 × (Nat → Int32) × (Nat → Int64) × (Nat → Int64)) := m_X4_make_b189 v_made a_moved a_pbefore v_mover v_rights v_passed v_halves v_number v_balance a_men a_kinds a_sides a_rays a_knights a_kings a_pawns a_table x2 x3 x5 x7 0
def m_X4_make_b140 (v_made : Int32) (a_moved : Nat → Int32) (a_pbefore : Nat → Int32) (v_mover : Int32) (v_rights : Int32) (v_passed : Int32) (v_halves : Int32) (v_number : Int32) (v_balance : Int32) (a_men : Nat → Int32) (a_kinds : Nat → Int64) (a_sides : Nat → Int64) (a_rays : Nat → Int64) (a_knights : Nat → Int64) (a_kings : Nat → Int64) (a_pawns : Nat → Int64) (a_table : Nat → Int32) (x2 : Int32) (x3 : Int32) (x5 : Int32) (x7 : Int32) : Option (Int32 × Int32 × (Nat → Int32) × (Nat → Int32) × Int32 × Int32 × Int32 × Int32 × Int32 × Int32 × (Nat → Int32) × (Nat → Int64) × (Nat → Int64)) := ob (m_X4_keptBy x2) fun r_11 => ob (m_X4_keptBy x3) fun r_13 => ol (v_rights &&& (r_11 &&& r_13)) fun y_15 => if x7 = 1 then m_X4_make_b176 v_made a_moved a_pbefore v_mover y_15 v_passed v_halves v_number v_balance a_men a_kinds a_sides a_rays a_knights a_kings a_pawns a_table x2 x3 x5 x7 else if x5 = 0 then m_X4_make_b189 v_made a_moved a_pbefore v_mover y_15 v_passed v_halves v_number v_balance a_men a_kinds a_sides a_rays a_knights a_kings a_pawns a_table x2 x3 x5 x7 (v_halves + 1) else m_X4_make_b176 v_made a_moved a_pbefore v_mover y_15 v_passed v_halves v_number v_balance a_men a_kinds a_sides a_rays a_knights a_kings a_pawns a_table x2 x3 x5 x7
def m_X4_make_b98 (v_made : Int32) (a_moved : Nat → Int32) (a_pbefore : Nat → Int32) (v_mover : Int32) (v_rights : Int32) (v_passed : Int32) (v_halves : Int32) (v_number : Int32) (v_balance : Int32) (a_men : Nat → Int32) (a_kinds : Nat → Int64) (a_sides : Nat → Int64) (a_rays : Nat → Int64) (a_knights : Nat → Int64) (a_kings : Nat → Int64) (a_pawns : Nat → Int64) (a_table : Nat → Int32) (x2 : Int32) (x3 : Int32) (x5 : Int32) (x7 : Int32) (t1 : Int32) (t2 : Int32) : Option (Int32 × Int32 × (Nat → Int32) × (Nat → Int32) × Int32 × Int32 × Int32 × Int32 × Int32 × Int32 × (Nat → Int32) × (Nat → Int64) × (Nat → Int64)) := ob (m_X0_put v_balance a_men a_kinds a_sides a_table t1 t2) fun (v_balance_18, a_men_19, a_kinds_20, a_sides_21) => if x7 = 6 then ob (m_X4_isByRight x2 x3) fun r_24 => if r_24 = 0 then m_X4_make_b140 v_made a_moved a_pbefore v_mover v_rights v_passed v_halves v_number v_balance_18 a_men_19 a_kinds_20 a_sides_21 a_rays a_knights a_kings a_pawns a_table x2 x3 x5 x7 else ob (m_X4_cornerOf x2 x3) fun r_27 => ob (m_X0_lift v_balance_18 a_men_19 a_kinds_20 a_sides_21 a_table r_27) fun (r_29, v_balance_30, a_men_31, a_kinds_32, a_sides_33) => ob (m_X0_put v_balance_30 a_men_31 a_kinds_32 a_sides_33 a_table ((x2 + x3) / 2) r_29) fun (v_balance_35, a_men_36, a_kinds_37, a_sides_38) => m_X4_make_b140 v_made a_moved a_pbefore v_mover v_rights v_passed v_halves v_number v_balance_35 a_men_36 a_kinds_37 a_sides_38 a_rays a_knights a_kings a_pawns a_table x2 x3 x5 x7 else m_X4_make_b140 v_made a_moved a_pbefore v_mover v_rights v_passed v_halves v_number v_balance_18 a_men_19 a_kinds_20 a_sides_21 a_rays a_knights a_kings a_pawns a_table x2 x3 x5 x7
def m_X4_make_b57 (v_made : Int32) (a_moved : Nat → Int32) (a_pbefore : Nat → Int32) (v_mover : Int32) (v_rights : Int32) (v_passed : Int32) (v_halves : Int32) (v_number : Int32) (v_balance : Int32) (a_men : Nat → Int32) (a_kinds : Nat → Int64) (a_sides : Nat → Int64) (a_rays : Nat → Int64) (a_knights : Nat → Int64) (a_kings : Nat → Int64) (a_pawns : Nat → Int64) (a_table : Nat → Int32) (x1 : Int32) (x2 : Int32) (x3 : Int32) (x5 : Int32) : Option (Int32 × Int32 × (Nat → Int32) × (Nat → Int32) × Int32 × Int32 × Int32 × Int32 × Int32 × Int32 × (Nat → Int32) × (Nat → Int64) × (Nat → Int64)) := ob (m_X0_lift v_balance a_men a_kinds a_sides a_table x2) fun (r_40, v_balance_41, a_men_42, a_kinds_43, a_sides_44) => ob (m_J9_abs_0f7a4 r_40) fun r_46 => ob (m_X9_becomesOf x1) fun r_48 => if r_48 = 0 then m_X4_make_b98 v_made a_moved a_pbefore v_mover v_rights v_passed v_halves v_number v_balance_41 a_men_42 a_kinds_43 a_sides_44 a_rays a_knights a_kings a_pawns a_table x2 x3 x5 r_46 x3 r_40 else ob (m_X9_becomesOf x1) fun r_51 => m_X4_make_b98 v_made a_moved a_pbefore v_mover v_rights v_passed v_halves v_number v_balance_41 a_men_42 a_kinds_43 a_sides_44 a_rays a_knights a_kings a_pawns a_table x2 x3 x5 r_46 x3 (r_40 * r_51)
def m_X4_make (v_made : Int32) (a_moved : Nat → Int32) (a_pbefore : Nat → Int32) (v_mover : Int32) (v_rights : Int32) (v_passed : Int32) (v_halves : Int32) (v_number : Int32) (v_balance : Int32) (a_men : Nat → Int32) (a_kinds : Nat → Int64) (a_sides : Nat → Int64) (a_rays : Nat → Int64) (a_knights : Nat → Int64) (a_kings : Nat → Int64) (a_pawns : Nat → Int64) (a_table : Nat → Int32) (p0 : Int32) : Option (Int32 × Int32 × (Nat → Int32) × (Nat → Int32) × Int32 × Int32 × Int32 × Int32 × Int32 × Int32 × (Nat → Int32) × (Nat → Int64) × (Nat → Int64)) := ob (m_X9_fromOf p0) fun r_53 => ob (m_X9_toOf p0) fun r_55 => ob (m_X0_takesOn v_mover v_passed a_men p0) fun r_57 => oin (r_57) 64 (ol (a_men r_57.toNatClampNeg) fun x5_60 => ob (m_J9_abs_0f7a4 x5_60) fun r_61 => ob (m_X4_remember v_made a_moved a_pbefore v_rights v_passed v_halves p0 r_61) fun (v_made_63, a_moved_64, a_pbefore_65) => if x5_60 = 0 then m_X4_make_b57 v_made_63 a_moved_64 a_pbefore_65 v_mover v_rights v_passed v_halves v_number v_balance a_men a_kinds a_sides a_rays a_knights a_kings a_pawns a_table p0 r_53 r_55 x5_60 else ob (m_X0_lift v_balance a_men a_kinds a_sides a_table r_57) fun (r_68, v_balance_69, a_men_70, a_kinds_71, a_sides_72) => m_X4_make_b57 v_made_63 a_moved_64 a_pbefore_65 v_mover v_rights v_passed v_halves v_number v_balance_69 a_men_70 a_kinds_71 a_sides_72 a_rays a_knights a_kings a_pawns a_table p0 r_53 r_55 x5_60)
abbrev rm_X4_make : Room := { frames := 4, cells := 0, slots := 0, locals := 93 }
abbrev wy_X4_make : List Cond := .code yX4_make cX4_make 8 (some .int) :: gT
theorem cv_X4_make {R : Room} {s : State} {args : Array Value} {own : String} {index : Nat} {w0 : Cond} (hts : ∀ w ∈ w0 :: gT, w.before args s = true) (hl : Cond.methodLink own index yX4_make ∈ gT) (hR : 4 + 1 ≤ R.frames ∧ 8 + (8 + 11) + 93 ≤ R.locals) : CallW R s args own RX4 index yX4_make cX4_make 8 (some .int) wy_X4_make rm_X4_make 0 0 1 :=
  cwV 1 hts (gT_call w0 (pre := [.methodLink own index yX4_make, .instanceMethod yX4_make, .selects RX4 yX4_make yX4_make, .initialized RX4]) (gT_lc hl (gT_lc ly_yX4_make (gT_lc lx_yX4_make (gT_l1 li_RX4)))) lc_yX4_make) rfl rfl rfl (by decide +kernel) hR
set_option maxRecDepth 100000 in
set_option maxHeartbeats 4000000 in
theorem c_X4_make (l : Launch) (D : va_G) (qp : Nat → Nat) (qb : Nat → Nat) (ql : Nat → Nat) (qw : Nat → Nat) (cI : ClassId) (cJ : ClassId) (tq : Nat → Nat) (v_made : Int32) (a_moved : Nat → Int32) (a_pbefore : Nat → Int32) (a_earlier : Nat → Int32) (v_mover : Int32) (v_rights : Int32) (v_passed : Int32) (v_halves : Int32) (v_number : Int32) (v_balance : Int32) (a_men : Nat → Int32) (a_kinds : Nat → Int64) (a_sides : Nat → Int64) (a_rays : Nat → Int64) (a_knights : Nat → Int64) (a_kings : Nat → Int64) (a_pawns : Nat → Int64) (a_table : Nat → Int32) (p0 : Int32) (rv : Int32) (v_made' : Int32) (a_moved' : Nat → Int32) (a_pbefore' : Nat → Int32) (v_mover' : Int32) (v_rights' : Int32) (v_passed' : Int32) (v_halves' : Int32) (v_number' : Int32) (v_balance' : Int32) (a_men' : Nat → Int32) (a_kinds' : Nat → Int64) (a_sides' : Nat → Int64) (hm : m_X4_make v_made a_moved a_pbefore v_mover v_rights v_passed v_halves v_number v_balance a_men a_kinds a_sides a_rays a_knights a_kings a_pawns a_table p0 = some (rv, v_made', a_moved', a_pbefore', v_mover', v_rights', v_passed', v_halves', v_number', v_balance', a_men', a_kinds', a_sides')) : kEi l yX4_make wy_X4_make rm_X4_make D [(cI, .int), (cJ, .long)] tq rv (wPa qp qb ql qw cI cJ v_made a_moved a_pbefore a_earlier v_mover v_rights v_passed v_halves v_number v_balance a_men a_kinds a_sides a_rays a_knights a_kings a_pawns a_table) (wPa qp qb ql qw cI cJ v_made' a_moved' a_pbefore' a_earlier v_mover' v_rights' v_passed' v_halves' v_number' v_balance' a_men' a_kinds' a_sides' a_rays a_knights a_kings a_pawns a_table) [.ref (qp 0), .int p0] := by
  refine kEi.of cX4_make 8 (some .int) (by decide) rfl (Or.inl rfl) (Nat.le_of_ble_eq_true rfl) ?_
  intro p e s m below meth c A Q C hJ hret
  have hin0 : ∀ w ∈ wsX00, w ∈ wy_X4_make := fun w h => List.mem_cons_of_mem _ (inG0 w h)
  have hin3 : ∀ w ∈ wsX30, w ∈ wy_X4_make := fun w h => List.mem_cons_of_mem _ (inG3 w h)
  have hin4 : ∀ w ∈ wsX40, w ∈ wy_X4_make := fun w h => List.mem_cons_of_mem _ (inG4 w h)
  have hin7 : ∀ w ∈ wsX70, w ∈ wy_X4_make := fun w h => List.mem_cons_of_mem _ (inG7 w h)
  have j294 : ∀ (v_made : Int32) (a_moved : Nat → Int32) (a_pbefore : Nat → Int32) (v_mover : Int32) (v_rights : Int32) (v_passed : Int32) (v_halves : Int32) (v_number : Int32) (v_balance : Int32) (a_men : Nat → Int32) (a_kinds : Nat → Int64) (a_sides : Nat → Int64) (x5 : Int32), m_X4_make_b294  v_made a_moved a_pbefore v_mover v_rights v_passed v_halves v_number v_balance a_men a_kinds a_sides a_rays a_knights a_kings a_pawns a_table x5 = some (rv, v_made', a_moved', a_pbefore', v_mover', v_rights', v_passed', v_halves', v_number', v_balance', a_men', a_kinds', a_sides') → kv p l e rm_X4_make s m ([.ref (qp 0), .int p0] : List Value).toArray below meth c D A 8 0 0 Q (wPa qp qb ql qw cI cJ v_made a_moved a_pbefore a_earlier v_mover v_rights v_passed v_halves v_number v_balance a_men a_kinds a_sides a_rays a_knights a_kings a_pawns a_table) [(5, .int x5)] 294 [] := by
    intro v_made a_moved a_pbefore v_mover v_rights v_passed v_halves v_number v_balance a_men a_kinds a_sides x5 h
    unfold m_X4_make_b294 at h
    refine kv_iload C 0 dX4_make_294 rfl ?_
    cases h
    exact hret _ _ dX4_make_296 (fun q => by cases q)
  have j291 : ∀ (v_made : Int32) (a_moved : Nat → Int32) (a_pbefore : Nat → Int32) (v_mover : Int32) (v_rights : Int32) (v_passed : Int32) (v_halves : Int32) (v_number : Int32) (v_balance : Int32) (a_men : Nat → Int32) (a_kinds : Nat → Int64) (a_sides : Nat → Int64) (x5 : Int32) (t1 : Int32), m_X4_make_b291  v_made a_moved a_pbefore v_mover v_rights v_passed v_halves v_number v_balance a_men a_kinds a_sides a_rays a_knights a_kings a_pawns a_table x5 t1 = some (rv, v_made', a_moved', a_pbefore', v_mover', v_rights', v_passed', v_halves', v_number', v_balance', a_men', a_kinds', a_sides') → kv p l e rm_X4_make s m ([.ref (qp 0), .int p0] : List Value).toArray below meth c D A 8 0 0 Q (wPa qp qb ql qw cI cJ v_made a_moved a_pbefore a_earlier v_mover v_rights v_passed v_halves v_number v_balance a_men a_kinds a_sides a_rays a_knights a_kings a_pawns a_table) [(5, .int x5)] 291 [.int t1, .ref (qb 0)] := by
    intro v_made a_moved a_pbefore v_mover v_rights v_passed v_halves v_number v_balance a_men a_kinds a_sides x5 t1 h
    unfold m_X4_make_b291 at h
    refine kv_put C (Cn := RX0) (T := TX0) (N := 11) (ty := .int) (ws1 := (wPa qp qb ql qw cI cJ v_made a_moved a_pbefore a_earlier v_mover v_rights t1 v_halves v_number v_balance a_men a_kinds a_sides a_rays a_knights a_kings a_pawns a_table)) 4 7 hin0 tyX0 tyX0_ok nmX0 rfl rfl (by decide) (C.ts _ (List.mem_cons_of_mem _ lf_RX4_85)) rfl rfl (by decide +kernel) rfl rfl (Nat.le_of_ble_eq_true rfl) rfl dX4_make_291 ?_
    exact kv_lv [0] (lv2 := [(5, .int x5)]) rfl (j294 v_made a_moved a_pbefore v_mover v_rights t1 v_halves v_number v_balance a_men a_kinds a_sides x5 h)
  have j189 : ∀ (v_made : Int32) (a_moved : Nat → Int32) (a_pbefore : Nat → Int32) (v_mover : Int32) (v_rights : Int32) (v_passed : Int32) (v_halves : Int32) (v_number : Int32) (v_balance : Int32) (a_men : Nat → Int32) (a_kinds : Nat → Int64) (a_sides : Nat → Int64) (x2 : Int32) (x3 : Int32) (x5 : Int32) (x7 : Int32) (t1 : Int32), m_X4_make_b189  v_made a_moved a_pbefore v_mover v_rights v_passed v_halves v_number v_balance a_men a_kinds a_sides a_rays a_knights a_kings a_pawns a_table x2 x3 x5 x7 t1 = some (rv, v_made', a_moved', a_pbefore', v_mover', v_rights', v_passed', v_halves', v_number', v_balance', a_men', a_kinds', a_sides') → kv p l e rm_X4_make s m ([.ref (qp 0), .int p0] : List Value).toArray below meth c D A 8 0 0 Q (wPa qp qb ql qw cI cJ v_made a_moved a_pbefore a_earlier v_mover v_rights v_passed v_halves v_number v_balance a_men a_kinds a_sides a_rays a_knights a_kings a_pawns a_table) [(0, .ref (qp 0)), (2, .int x2), (3, .int x3), (5, .int x5), (7, .int x7)] 189 [.int t1, .ref (qb 0)] := by
    intro v_made a_moved a_pbefore v_mover v_rights v_passed v_halves v_number v_balance a_men a_kinds a_sides x2 x3 x5 x7 t1 h
    unfold m_X4_make_b189 at h
    refine kv_put C (Cn := RX0) (T := TX0) (N := 11) (ty := .int) (ws1 := (wPa qp qb ql qw cI cJ v_made a_moved a_pbefore a_earlier v_mover v_rights v_passed t1 v_number v_balance a_men a_kinds a_sides a_rays a_knights a_kings a_pawns a_table)) 4 8 hin0 tyX0 tyX0_ok nmX0 rfl rfl (by decide) (C.ts _ (List.mem_cons_of_mem _ lf_RX4_76)) rfl rfl (by decide +kernel) rfl rfl (Nat.le_of_ble_eq_true rfl) rfl dX4_make_189 ?_
    refine kv_aload_n C 0 dX4_make_192 rfl rfl ?_
    refine kv_get C (Cn := RX4) (T := TX4) (N := 5) 0 0 hin4 rfl rfl (by decide) (C.ts _ (List.mem_cons_of_mem _ lf_RX4_9)) rfl rfl dX4_make_193 ?_
    refine kv_dup C dX4_make_196 rfl ?_
    refine kv_get C (Cn := RX0) (T := TX0) (N := 11) 4 9 hin0 rfl rfl (by decide) (C.ts _ (List.mem_cons_of_mem _ lf_RX4_79)) rfl rfl dX4_make_197 ?_
    refine kv_aload_n C 0 dX4_make_200 rfl rfl ?_
    refine kv_get C (Cn := RX4) (T := TX4) (N := 5) 0 0 hin4 rfl rfl (by decide) (C.ts _ (List.mem_cons_of_mem _ lf_RX4_9)) rfl rfl dX4_make_201 ?_
    refine kv_get C (Cn := RX0) (T := TX0) (N := 11) 4 5 hin0 rfl rfl (by decide) (C.ts _ (List.mem_cons_of_mem _ lf_RX4_82)) rfl rfl dX4_make_204 ?_
    refine kv_iadd C dX4_make_207 ?_
    obtain ⟨y_1, ey_1, h⟩ := ol_e h
    refine kv_top ey_1 ?_
    refine kv_put C (Cn := RX0) (T := TX0) (N := 11) (ty := .int) (ws1 := (wPa qp qb ql qw cI cJ v_made a_moved a_pbefore a_earlier v_mover v_rights v_passed t1 y_1 v_balance a_men a_kinds a_sides a_rays a_knights a_kings a_pawns a_table)) 4 9 hin0 tyX0 tyX0_ok nmX0 rfl rfl (by decide) (C.ts _ (List.mem_cons_of_mem _ lf_RX4_79)) rfl rfl (by decide +kernel) rfl rfl (Nat.le_of_ble_eq_true rfl) rfl dX4_make_208 ?_
    refine kv_aload_n C 0 dX4_make_211 rfl rfl ?_
    refine kv_get C (Cn := RX4) (T := TX4) (N := 5) 0 0 hin4 rfl rfl (by decide) (C.ts _ (List.mem_cons_of_mem _ lf_RX4_9)) rfl rfl dX4_make_212 ?_
    refine kv_iconst C 1 dX4_make_215 (by decide) ?_
    refine kv_aload_n C 0 dX4_make_216 rfl rfl ?_
    refine kv_get C (Cn := RX4) (T := TX4) (N := 5) 0 0 hin4 rfl rfl (by decide) (C.ts _ (List.mem_cons_of_mem _ lf_RX4_9)) rfl rfl dX4_make_217 ?_
    refine kv_get C (Cn := RX0) (T := TX0) (N := 11) 4 5 hin0 rfl rfl (by decide) (C.ts _ (List.mem_cons_of_mem _ lf_RX4_82)) rfl rfl dX4_make_220 ?_
    refine kv_isub C dX4_make_223 ?_
    obtain ⟨y_2, ey_2, h⟩ := ol_e h
    refine kv_top ey_2 ?_
    refine kv_put C (Cn := RX0) (T := TX0) (N := 11) (ty := .int) (ws1 := (wPa qp qb ql qw cI cJ v_made a_moved a_pbefore a_earlier y_2 v_rights v_passed t1 y_1 v_balance a_men a_kinds a_sides a_rays a_knights a_kings a_pawns a_table)) 4 5 hin0 tyX0 tyX0_ok nmX0 rfl rfl (by decide) (C.ts _ (List.mem_cons_of_mem _ lf_RX4_82)) rfl rfl (by decide +kernel) rfl rfl (Nat.le_of_ble_eq_true rfl) rfl dX4_make_224 ?_
    refine kv_aload_n C 0 dX4_make_227 rfl rfl ?_
    refine kv_get C (Cn := RX4) (T := TX4) (N := 5) 0 0 hin4 rfl rfl (by decide) (C.ts _ (List.mem_cons_of_mem _ lf_RX4_9)) rfl rfl dX4_make_228 ?_
    refine kv_iconst C (-1) dX4_make_231 (by decide) ?_
    refine kv_put C (Cn := RX0) (T := TX0) (N := 11) (ty := .int) (ws1 := (wPa qp qb ql qw cI cJ v_made a_moved a_pbefore a_earlier y_2 v_rights (-1) t1 y_1 v_balance a_men a_kinds a_sides a_rays a_knights a_kings a_pawns a_table)) 4 7 hin0 tyX0 tyX0_ok nmX0 rfl rfl (by decide) (C.ts _ (List.mem_cons_of_mem _ lf_RX4_85)) rfl rfl (by decide +kernel) rfl rfl (Nat.le_of_ble_eq_true rfl) rfl dX4_make_232 ?_
    refine kv_iload C 4 dX4_make_235 rfl ?_
    refine kv_iconst C 1 dX4_make_237 (by decide) ?_
    refine kv_icmp_ne C 294 dX4_make_238 (by decide) (fun c_3 => ?_) (fun c_3 => ?_)
    · have h := oi_f h c_3
      exact kv_lv [3] (lv2 := [(5, .int x5)]) rfl (j294 v_made a_moved a_pbefore y_2 v_rights (-1) t1 y_1 v_balance a_men a_kinds a_sides x5 h)
    · have h := oi_t h c_3
      refine kv_iload_n C 1 dX4_make_241 rfl rfl ?_
      refine kv_iload_n C 2 dX4_make_242 rfl rfl ?_
      refine kv_isub C dX4_make_243 ?_
      obtain ⟨r_4, hm_5, h⟩ := ob_e h
      refine kv_callS0i C [.int (x2 - x3)] (c_J9_abs_0f7a4 l D (x2 - x3) r_4 hm_5) (cs_J9_abs_0f7a4 C.ts lm_RX4_44 ⟨Nat.le_of_ble_eq_true rfl, Nat.le_of_ble_eq_true rfl⟩) rfl rfl (Nat.le_of_ble_eq_true rfl) dX4_make_244 ⟨Nat.zero_le _, Nat.zero_le _⟩ ?_
      refine kv_bipush C 16 dX4_make_247 (by decide) ?_
      refine kv_icmp_ne C 294 dX4_make_249 (by decide) (fun c_6 => ?_) (fun c_6 => ?_)
      · have h := oi_f h c_6
        exact kv_lv [3] (lv2 := [(5, .int x5)]) rfl (j294 v_made a_moved a_pbefore y_2 v_rights (-1) t1 y_1 v_balance a_men a_kinds a_sides x5 h)
      · have h := oi_t h c_6
        refine kv_aload_n C 0 dX4_make_252 rfl rfl ?_
        refine kv_get C (Cn := RX4) (T := TX4) (N := 5) 0 0 hin4 rfl rfl (by decide) (C.ts _ (List.mem_cons_of_mem _ lf_RX4_9)) rfl rfl dX4_make_253 ?_
        refine kv_iload_n C 1 dX4_make_256 rfl rfl ?_
        refine kv_iload_n C 2 dX4_make_257 rfl rfl ?_
        refine kv_iadd C dX4_make_258 ?_
        refine kv_iconst C 2 dX4_make_259 (by decide) ?_
        refine kv_idiv C dX4_make_260 (by decide) ?_
        obtain ⟨y_7, ey_7, h⟩ := ol_e h
        refine kv_top ey_7 ?_
        refine kv_put C (Cn := RX0) (T := TX0) (N := 11) (ty := .int) (ws1 := (wPa qp qb ql qw cI cJ v_made a_moved a_pbefore a_earlier y_2 v_rights y_7 t1 y_1 v_balance a_men a_kinds a_sides a_rays a_knights a_kings a_pawns a_table)) 4 7 hin0 tyX0 tyX0_ok nmX0 rfl rfl (by decide) (C.ts _ (List.mem_cons_of_mem _ lf_RX4_85)) rfl rfl (by decide +kernel) rfl rfl (Nat.le_of_ble_eq_true rfl) rfl dX4_make_261 ?_
        refine kv_aload_n C 0 dX4_make_264 rfl rfl ?_
        refine kv_get C (Cn := RX4) (T := TX4) (N := 5) 0 0 hin4 rfl rfl (by decide) (C.ts _ (List.mem_cons_of_mem _ lf_RX4_9)) rfl rfl dX4_make_265 ?_
        refine kv_aload_n C 0 dX4_make_268 rfl rfl ?_
        refine kv_get C (Cn := RX4) (T := TX4) (N := 5) 0 0 hin4 rfl rfl (by decide) (C.ts _ (List.mem_cons_of_mem _ lf_RX4_9)) rfl rfl dX4_make_269 ?_
        obtain ⟨r_8, hm_9, h⟩ := ob_e h
        refine kv_eVl (ws2 := (wPa qp qb ql qw cI cJ v_made a_moved a_pbefore a_earlier y_2 v_rights y_7 t1 y_1 v_balance a_men a_kinds a_sides a_rays a_knights a_kings a_pawns a_table)) C hJ [] 0 (c_X0_passers l D qb ql qw cI cJ tq y_2 v_rights y_7 t1 y_1 v_balance a_men a_kinds a_sides a_rays a_knights a_kings a_pawns a_table  r_8 hm_9) (cv_X0_passers C.ts lm_RX4_88 ⟨Nat.le_of_ble_eq_true rfl, Nat.le_of_ble_eq_true rfl⟩) rfl rfl [4, 5, 6, 7, 8, 9, 10, 11, 12, 13, 14] [0, 1, 2, 3] [0, 1] [0, 1, 2, 3, 4, 5, 6, 7, 8, 9, 10, 11, 12, 13, 14] rfl rfl rfl rfl rfl (by decide) rfl rfl rfl (Nat.le_of_ble_eq_true rfl) dX4_make_272 ⟨Nat.zero_le _, Nat.zero_le _⟩ rfl rfl rfl ?_
        refine kv_lconst C 0 dX4_make_275 (by decide) ?_
        refine kv_lcmp C dX4_make_276 ?_
        refine kv_if_ne C 284 dX4_make_277 (by decide) (fun c_10 => ?_) (fun c_10 => ?_)
        · have h := oi_f h c_10
          refine kv_aload_n C 0 dX4_make_284 rfl rfl ?_
          refine kv_get C (Cn := RX4) (T := TX4) (N := 5) 0 0 hin4 rfl rfl (by decide) (C.ts _ (List.mem_cons_of_mem _ lf_RX4_9)) rfl rfl dX4_make_285 ?_
          refine kv_get C (Cn := RX0) (T := TX0) (N := 11) 4 7 hin0 rfl rfl (by decide) (C.ts _ (List.mem_cons_of_mem _ lf_RX4_85)) rfl rfl dX4_make_288 ?_
          exact kv_lv [3] (lv2 := [(5, .int x5)]) rfl (j291 v_made a_moved a_pbefore y_2 v_rights y_7 t1 y_1 v_balance a_men a_kinds a_sides x5 y_7 h)
        · have h := oi_t h c_10
          refine kv_iconst C (-1) dX4_make_280 (by decide) ?_
          refine kv_goto C 291 dX4_make_281 (by decide) ?_
          exact kv_lv [3] (lv2 := [(5, .int x5)]) rfl (j291 v_made a_moved a_pbefore y_2 v_rights y_7 t1 y_1 v_balance a_men a_kinds a_sides x5 (-1) h)
  have j176 : ∀ (v_made : Int32) (a_moved : Nat → Int32) (a_pbefore : Nat → Int32) (v_mover : Int32) (v_rights : Int32) (v_passed : Int32) (v_halves : Int32) (v_number : Int32) (v_balance : Int32) (a_men : Nat → Int32) (a_kinds : Nat → Int64) (a_sides : Nat → Int64) (x2 : Int32) (x3 : Int32) (x5 : Int32) (x7 : Int32), m_X4_make_b176  v_made a_moved a_pbefore v_mover v_rights v_passed v_halves v_number v_balance a_men a_kinds a_sides a_rays a_knights a_kings a_pawns a_table x2 x3 x5 x7 = some (rv, v_made', a_moved', a_pbefore', v_mover', v_rights', v_passed', v_halves', v_number', v_balance', a_men', a_kinds', a_sides') → kv p l e rm_X4_make s m ([.ref (qp 0), .int p0] : List Value).toArray below meth c D A 8 0 0 Q (wPa qp qb ql qw cI cJ v_made a_moved a_pbefore a_earlier v_mover v_rights v_passed v_halves v_number v_balance a_men a_kinds a_sides a_rays a_knights a_kings a_pawns a_table) [(0, .ref (qp 0)), (2, .int x2), (3, .int x3), (5, .int x5), (7, .int x7)] 176 [.ref (qb 0)] := by
    intro v_made a_moved a_pbefore v_mover v_rights v_passed v_halves v_number v_balance a_men a_kinds a_sides x2 x3 x5 x7 h
    unfold m_X4_make_b176 at h
    refine kv_iconst C 0 dX4_make_176 (by decide) ?_
    refine kv_goto C 189 dX4_make_177 (by decide) ?_
    exact kv_lv [0, 1, 2, 3, 4] (lv2 := [(0, .ref (qp 0)), (2, .int x2), (3, .int x3), (5, .int x5), (7, .int x7)]) rfl (j189 v_made a_moved a_pbefore v_mover v_rights v_passed v_halves v_number v_balance a_men a_kinds a_sides x2 x3 x5 x7 0 h)
  have j140 : ∀ (v_made : Int32) (a_moved : Nat → Int32) (a_pbefore : Nat → Int32) (v_mover : Int32) (v_rights : Int32) (v_passed : Int32) (v_halves : Int32) (v_number : Int32) (v_balance : Int32) (a_men : Nat → Int32) (a_kinds : Nat → Int64) (a_sides : Nat → Int64) (x2 : Int32) (x3 : Int32) (x5 : Int32) (x7 : Int32), m_X4_make_b140  v_made a_moved a_pbefore v_mover v_rights v_passed v_halves v_number v_balance a_men a_kinds a_sides a_rays a_knights a_kings a_pawns a_table x2 x3 x5 x7 = some (rv, v_made', a_moved', a_pbefore', v_mover', v_rights', v_passed', v_halves', v_number', v_balance', a_men', a_kinds', a_sides') → kv p l e rm_X4_make s m ([.ref (qp 0), .int p0] : List Value).toArray below meth c D A 8 0 0 Q (wPa qp qb ql qw cI cJ v_made a_moved a_pbefore a_earlier v_mover v_rights v_passed v_halves v_number v_balance a_men a_kinds a_sides a_rays a_knights a_kings a_pawns a_table) [(0, .ref (qp 0)), (2, .int x2), (3, .int x3), (5, .int x5), (7, .int x7)] 140 [] := by
    intro v_made a_moved a_pbefore v_mover v_rights v_passed v_halves v_number v_balance a_men a_kinds a_sides x2 x3 x5 x7 h
    unfold m_X4_make_b140 at h
    refine kv_aload_n C 0 dX4_make_140 rfl rfl ?_
    refine kv_get C (Cn := RX4) (T := TX4) (N := 5) 0 0 hin4 rfl rfl (by decide) (C.ts _ (List.mem_cons_of_mem _ lf_RX4_9)) rfl rfl dX4_make_141 ?_
    refine kv_dup C dX4_make_144 rfl ?_
    refine kv_get C (Cn := RX0) (T := TX0) (N := 11) 4 6 hin0 rfl rfl (by decide) (C.ts _ (List.mem_cons_of_mem _ lf_RX4_70)) rfl rfl dX4_make_145 ?_
    refine kv_iload_n C 1 dX4_make_148 rfl rfl ?_
    obtain ⟨r_11, hm_12, h⟩ := ob_e h
    refine kv_callS0i C [.int x2] (c_X4_keptBy l D x2 r_11 hm_12) (cs_X4_keptBy C.ts lm_RX4_73 ⟨Nat.le_of_ble_eq_true rfl, Nat.le_of_ble_eq_true rfl⟩) rfl rfl (Nat.le_of_ble_eq_true rfl) dX4_make_149 ⟨Nat.zero_le _, Nat.zero_le _⟩ ?_
    refine kv_iload_n C 2 dX4_make_152 rfl rfl ?_
    obtain ⟨r_13, hm_14, h⟩ := ob_e h
    refine kv_callS0i C [.int x3] (c_X4_keptBy l D x3 r_13 hm_14) (cs_X4_keptBy C.ts lm_RX4_73 ⟨Nat.le_of_ble_eq_true rfl, Nat.le_of_ble_eq_true rfl⟩) rfl rfl (Nat.le_of_ble_eq_true rfl) dX4_make_153 ⟨Nat.zero_le _, Nat.zero_le _⟩ ?_
    refine kv_iand C dX4_make_156 ?_
    refine kv_iand C dX4_make_157 ?_
    obtain ⟨y_15, ey_15, h⟩ := ol_e h
    refine kv_top ey_15 ?_
    refine kv_put C (Cn := RX0) (T := TX0) (N := 11) (ty := .int) (ws1 := (wPa qp qb ql qw cI cJ v_made a_moved a_pbefore a_earlier v_mover y_15 v_passed v_halves v_number v_balance a_men a_kinds a_sides a_rays a_knights a_kings a_pawns a_table)) 4 6 hin0 tyX0 tyX0_ok nmX0 rfl rfl (by decide) (C.ts _ (List.mem_cons_of_mem _ lf_RX4_70)) rfl rfl (by decide +kernel) rfl rfl (Nat.le_of_ble_eq_true rfl) rfl dX4_make_158 ?_
    refine kv_aload_n C 0 dX4_make_161 rfl rfl ?_
    refine kv_get C (Cn := RX4) (T := TX4) (N := 5) 0 0 hin4 rfl rfl (by decide) (C.ts _ (List.mem_cons_of_mem _ lf_RX4_9)) rfl rfl dX4_make_162 ?_
    refine kv_iload C 4 dX4_make_165 rfl ?_
    refine kv_iconst C 1 dX4_make_167 (by decide) ?_
    refine kv_icmp_eq C 176 dX4_make_168 (by decide) (fun c_16 => ?_) (fun c_16 => ?_)
    · have h := oi_t h c_16
      exact kv_lv [0, 1, 2, 3, 4] (lv2 := [(0, .ref (qp 0)), (2, .int x2), (3, .int x3), (5, .int x5), (7, .int x7)]) rfl (j176 v_made a_moved a_pbefore v_mover y_15 v_passed v_halves v_number v_balance a_men a_kinds a_sides x2 x3 x5 x7 h)
    · have h := oi_f h c_16
      refine kv_iload C 3 dX4_make_171 rfl ?_
      refine kv_if_eq C 180 dX4_make_173 (by decide) (fun c_17 => ?_) (fun c_17 => ?_)
      · have h := oi_t h c_17
        refine kv_aload_n C 0 dX4_make_180 rfl rfl ?_
        refine kv_get C (Cn := RX4) (T := TX4) (N := 5) 0 0 hin4 rfl rfl (by decide) (C.ts _ (List.mem_cons_of_mem _ lf_RX4_9)) rfl rfl dX4_make_181 ?_
        refine kv_get C (Cn := RX0) (T := TX0) (N := 11) 4 8 hin0 rfl rfl (by decide) (C.ts _ (List.mem_cons_of_mem _ lf_RX4_76)) rfl rfl dX4_make_184 ?_
        refine kv_iconst C 1 dX4_make_187 (by decide) ?_
        refine kv_iadd C dX4_make_188 ?_
        exact kv_lv [0, 1, 2, 3, 4] (lv2 := [(0, .ref (qp 0)), (2, .int x2), (3, .int x3), (5, .int x5), (7, .int x7)]) rfl (j189 v_made a_moved a_pbefore v_mover y_15 v_passed v_halves v_number v_balance a_men a_kinds a_sides x2 x3 x5 x7 (v_halves + 1) h)
      · have h := oi_f h c_17
        exact kv_lv [0, 1, 2, 3, 4] (lv2 := [(0, .ref (qp 0)), (2, .int x2), (3, .int x3), (5, .int x5), (7, .int x7)]) rfl (j176 v_made a_moved a_pbefore v_mover y_15 v_passed v_halves v_number v_balance a_men a_kinds a_sides x2 x3 x5 x7 h)
  have j98 : ∀ (v_made : Int32) (a_moved : Nat → Int32) (a_pbefore : Nat → Int32) (v_mover : Int32) (v_rights : Int32) (v_passed : Int32) (v_halves : Int32) (v_number : Int32) (v_balance : Int32) (a_men : Nat → Int32) (a_kinds : Nat → Int64) (a_sides : Nat → Int64) (x2 : Int32) (x3 : Int32) (x5 : Int32) (x7 : Int32) (t1 : Int32) (t2 : Int32), m_X4_make_b98  v_made a_moved a_pbefore v_mover v_rights v_passed v_halves v_number v_balance a_men a_kinds a_sides a_rays a_knights a_kings a_pawns a_table x2 x3 x5 x7 t1 t2 = some (rv, v_made', a_moved', a_pbefore', v_mover', v_rights', v_passed', v_halves', v_number', v_balance', a_men', a_kinds', a_sides') → kv p l e rm_X4_make s m ([.ref (qp 0), .int p0] : List Value).toArray below meth c D A 8 0 0 Q (wPa qp qb ql qw cI cJ v_made a_moved a_pbefore a_earlier v_mover v_rights v_passed v_halves v_number v_balance a_men a_kinds a_sides a_rays a_knights a_kings a_pawns a_table) [(0, .ref (qp 0)), (2, .int x2), (3, .int x3), (5, .int x5), (7, .int x7)] 98 [.int t2, .int t1, .ref (qb 0)] := by
    intro v_made a_moved a_pbefore v_mover v_rights v_passed v_halves v_number v_balance a_men a_kinds a_sides x2 x3 x5 x7 t1 t2 h
    unfold m_X4_make_b98 at h
    obtain ⟨⟨v_balance_18, a_men_19, a_kinds_20, a_sides_21⟩, hm_22, h⟩ := ob_e h
    replace h : _ = _ := h
    refine kv_eVv (ws2 := (wPa qp qb ql qw cI cJ v_made a_moved a_pbefore a_earlier v_mover v_rights v_passed v_halves v_number v_balance_18 a_men_19 a_kinds_20 a_sides_21 a_rays a_knights a_kings a_pawns a_table)) C hJ [.int t1, .int t2] 0 (c_X0_put l D qb ql qw cI cJ tq v_mover v_rights v_passed v_halves v_number v_balance a_men a_kinds a_sides a_rays a_knights a_kings a_pawns a_table t1 t2 v_balance_18 a_men_19 a_kinds_20 a_sides_21 hm_22) (cv_X0_put C.ts lm_RX4_59 ⟨Nat.le_of_ble_eq_true rfl, Nat.le_of_ble_eq_true rfl⟩) rfl rfl [4, 5, 6, 7, 8, 9, 10, 11, 12, 13, 14] [0, 1, 2, 3] [0, 1] [0, 1, 2, 3, 4, 5, 6, 7, 8, 9, 10, 11, 12, 13, 14] rfl rfl rfl rfl rfl (by decide) rfl rfl rfl (Nat.le_of_ble_eq_true rfl) dX4_make_98 ⟨Nat.zero_le _, Nat.zero_le _⟩ rfl rfl rfl ?_
    refine kv_iload C 4 dX4_make_101 rfl ?_
    refine kv_bipush C 6 dX4_make_103 (by decide) ?_
    refine kv_icmp_ne C 140 dX4_make_105 (by decide) (fun c_23 => ?_) (fun c_23 => ?_)
    · have h := oi_f h c_23
      exact kv_lv [0, 1, 2, 3, 4] (lv2 := [(0, .ref (qp 0)), (2, .int x2), (3, .int x3), (5, .int x5), (7, .int x7)]) rfl (j140 v_made a_moved a_pbefore v_mover v_rights v_passed v_halves v_number v_balance_18 a_men_19 a_kinds_20 a_sides_21 x2 x3 x5 x7 h)
    · have h := oi_t h c_23
      refine kv_iload_n C 1 dX4_make_108 rfl rfl ?_
      refine kv_iload_n C 2 dX4_make_109 rfl rfl ?_
      obtain ⟨r_24, hm_25, h⟩ := ob_e h
      refine kv_callS0i C [.int x2, .int x3] (c_X4_isByRight l D x2 x3 r_24 hm_25) (cs_X4_isByRight C.ts lm_RX4_62 ⟨Nat.le_of_ble_eq_true rfl, Nat.le_of_ble_eq_true rfl⟩) rfl rfl (Nat.le_of_ble_eq_true rfl) dX4_make_110 ⟨Nat.zero_le _, Nat.zero_le _⟩ ?_
      refine kv_if_eq C 140 dX4_make_113 (by decide) (fun c_26 => ?_) (fun c_26 => ?_)
      · have h := oi_t h c_26
        exact kv_lv [0, 1, 2, 3, 4] (lv2 := [(0, .ref (qp 0)), (2, .int x2), (3, .int x3), (5, .int x5), (7, .int x7)]) rfl (j140 v_made a_moved a_pbefore v_mover v_rights v_passed v_halves v_number v_balance_18 a_men_19 a_kinds_20 a_sides_21 x2 x3 x5 x7 h)
      · have h := oi_f h c_26
        refine kv_aload_n C 0 dX4_make_116 rfl rfl ?_
        refine kv_get C (Cn := RX4) (T := TX4) (N := 5) 0 0 hin4 rfl rfl (by decide) (C.ts _ (List.mem_cons_of_mem _ lf_RX4_9)) rfl rfl dX4_make_117 ?_
        refine kv_iload_n C 1 dX4_make_120 rfl rfl ?_
        refine kv_iload_n C 2 dX4_make_121 rfl rfl ?_
        refine kv_iadd C dX4_make_122 ?_
        refine kv_iconst C 2 dX4_make_123 (by decide) ?_
        refine kv_idiv C dX4_make_124 (by decide) ?_
        refine kv_aload_n C 0 dX4_make_125 rfl rfl ?_
        refine kv_get C (Cn := RX4) (T := TX4) (N := 5) 0 0 hin4 rfl rfl (by decide) (C.ts _ (List.mem_cons_of_mem _ lf_RX4_9)) rfl rfl dX4_make_126 ?_
        refine kv_iload_n C 1 dX4_make_129 rfl rfl ?_
        refine kv_iload_n C 2 dX4_make_130 rfl rfl ?_
        obtain ⟨r_27, hm_28, h⟩ := ob_e h
        refine kv_callS0i C [.int x2, .int x3] (c_X4_cornerOf l D x2 x3 r_27 hm_28) (cs_X4_cornerOf C.ts lm_RX4_66 ⟨Nat.le_of_ble_eq_true rfl, Nat.le_of_ble_eq_true rfl⟩) rfl rfl (Nat.le_of_ble_eq_true rfl) dX4_make_131 ⟨Nat.zero_le _, Nat.zero_le _⟩ ?_
        obtain ⟨⟨r_29, v_balance_30, a_men_31, a_kinds_32, a_sides_33⟩, hm_34, h⟩ := ob_e h
        replace h : _ = _ := h
        refine kv_eVi (ws2 := (wPa qp qb ql qw cI cJ v_made a_moved a_pbefore a_earlier v_mover v_rights v_passed v_halves v_number v_balance_30 a_men_31 a_kinds_32 a_sides_33 a_rays a_knights a_kings a_pawns a_table)) C hJ [.int r_27] 0 (c_X0_lift l D qb ql qw cI cJ tq v_mover v_rights v_passed v_halves v_number v_balance_18 a_men_19 a_kinds_20 a_sides_21 a_rays a_knights a_kings a_pawns a_table r_27 r_29 v_balance_30 a_men_31 a_kinds_32 a_sides_33 hm_34) (cv_X0_lift C.ts lm_RX4_53 ⟨Nat.le_of_ble_eq_true rfl, Nat.le_of_ble_eq_true rfl⟩) rfl rfl [4, 5, 6, 7, 8, 9, 10, 11, 12, 13, 14] [0, 1, 2, 3] [0, 1] [0, 1, 2, 3, 4, 5, 6, 7, 8, 9, 10, 11, 12, 13, 14] rfl rfl rfl rfl rfl (by decide) rfl rfl rfl (Nat.le_of_ble_eq_true rfl) dX4_make_134 ⟨Nat.zero_le _, Nat.zero_le _⟩ rfl rfl rfl ?_
        obtain ⟨⟨v_balance_35, a_men_36, a_kinds_37, a_sides_38⟩, hm_39, h⟩ := ob_e h
        replace h : _ = _ := h
        refine kv_eVv (ws2 := (wPa qp qb ql qw cI cJ v_made a_moved a_pbefore a_earlier v_mover v_rights v_passed v_halves v_number v_balance_35 a_men_36 a_kinds_37 a_sides_38 a_rays a_knights a_kings a_pawns a_table)) C hJ [.int ((x2 + x3) / 2), .int r_29] 0 (c_X0_put l D qb ql qw cI cJ tq v_mover v_rights v_passed v_halves v_number v_balance_30 a_men_31 a_kinds_32 a_sides_33 a_rays a_knights a_kings a_pawns a_table ((x2 + x3) / 2) r_29 v_balance_35 a_men_36 a_kinds_37 a_sides_38 hm_39) (cv_X0_put C.ts lm_RX4_59 ⟨Nat.le_of_ble_eq_true rfl, Nat.le_of_ble_eq_true rfl⟩) rfl rfl [4, 5, 6, 7, 8, 9, 10, 11, 12, 13, 14] [0, 1, 2, 3] [0, 1] [0, 1, 2, 3, 4, 5, 6, 7, 8, 9, 10, 11, 12, 13, 14] rfl rfl rfl rfl rfl (by decide) rfl rfl rfl (Nat.le_of_ble_eq_true rfl) dX4_make_137 ⟨Nat.zero_le _, Nat.zero_le _⟩ rfl rfl rfl ?_
        exact kv_lv [0, 1, 2, 3, 4] (lv2 := [(0, .ref (qp 0)), (2, .int x2), (3, .int x3), (5, .int x5), (7, .int x7)]) rfl (j140 v_made a_moved a_pbefore v_mover v_rights v_passed v_halves v_number v_balance_35 a_men_36 a_kinds_37 a_sides_38 x2 x3 x5 x7 h)
  have j57 : ∀ (v_made : Int32) (a_moved : Nat → Int32) (a_pbefore : Nat → Int32) (v_mover : Int32) (v_rights : Int32) (v_passed : Int32) (v_halves : Int32) (v_number : Int32) (v_balance : Int32) (a_men : Nat → Int32) (a_kinds : Nat → Int64) (a_sides : Nat → Int64) (x1 : Int32) (x2 : Int32) (x3 : Int32) (x5 : Int32), m_X4_make_b57  v_made a_moved a_pbefore v_mover v_rights v_passed v_halves v_number v_balance a_men a_kinds a_sides a_rays a_knights a_kings a_pawns a_table x1 x2 x3 x5 = some (rv, v_made', a_moved', a_pbefore', v_mover', v_rights', v_passed', v_halves', v_number', v_balance', a_men', a_kinds', a_sides') → kv p l e rm_X4_make s m ([.ref (qp 0), .int p0] : List Value).toArray below meth c D A 8 0 0 Q (wPa qp qb ql qw cI cJ v_made a_moved a_pbefore a_earlier v_mover v_rights v_passed v_halves v_number v_balance a_men a_kinds a_sides a_rays a_knights a_kings a_pawns a_table) [(0, .ref (qp 0)), (1, .int x1), (2, .int x2), (3, .int x3), (5, .int x5)] 57 [] := by
    intro v_made a_moved a_pbefore v_mover v_rights v_passed v_halves v_number v_balance a_men a_kinds a_sides x1 x2 x3 x5 h
    unfold m_X4_make_b57 at h
    refine kv_aload_n C 0 dX4_make_57 rfl rfl ?_
    refine kv_get C (Cn := RX4) (T := TX4) (N := 5) 0 0 hin4 rfl rfl (by decide) (C.ts _ (List.mem_cons_of_mem _ lf_RX4_9)) rfl rfl dX4_make_58 ?_
    refine kv_iload_n C 2 dX4_make_61 rfl rfl ?_
    obtain ⟨⟨r_40, v_balance_41, a_men_42, a_kinds_43, a_sides_44⟩, hm_45, h⟩ := ob_e h
    replace h : _ = _ := h
    refine kv_eVi (ws2 := (wPa qp qb ql qw cI cJ v_made a_moved a_pbefore a_earlier v_mover v_rights v_passed v_halves v_number v_balance_41 a_men_42 a_kinds_43 a_sides_44 a_rays a_knights a_kings a_pawns a_table)) C hJ [.int x2] 0 (c_X0_lift l D qb ql qw cI cJ tq v_mover v_rights v_passed v_halves v_number v_balance a_men a_kinds a_sides a_rays a_knights a_kings a_pawns a_table x2 r_40 v_balance_41 a_men_42 a_kinds_43 a_sides_44 hm_45) (cv_X0_lift C.ts lm_RX4_53 ⟨Nat.le_of_ble_eq_true rfl, Nat.le_of_ble_eq_true rfl⟩) rfl rfl [4, 5, 6, 7, 8, 9, 10, 11, 12, 13, 14] [0, 1, 2, 3] [0, 1] [0, 1, 2, 3, 4, 5, 6, 7, 8, 9, 10, 11, 12, 13, 14] rfl rfl rfl rfl rfl (by decide) rfl rfl rfl (Nat.le_of_ble_eq_true rfl) dX4_make_62 ⟨Nat.zero_le _, Nat.zero_le _⟩ rfl rfl rfl ?_
    refine kv_istore C (lv2 := [(0, .ref (qp 0)), (1, .int x1), (2, .int x2), (3, .int x3), (5, .int x5), (6, .int r_40)]) [1, 2, 3, 4, 5, 0] dX4_make_65 (by decide) rfl rfl ?_
    refine kv_iload C 5 dX4_make_67 rfl ?_
    obtain ⟨r_46, hm_47, h⟩ := ob_e h
    refine kv_callS0i C [.int r_40] (c_J9_abs_0f7a4 l D r_40 r_46 hm_47) (cs_J9_abs_0f7a4 C.ts lm_RX4_44 ⟨Nat.le_of_ble_eq_true rfl, Nat.le_of_ble_eq_true rfl⟩) rfl rfl (Nat.le_of_ble_eq_true rfl) dX4_make_69 ⟨Nat.zero_le _, Nat.zero_le _⟩ ?_
    refine kv_istore C (lv2 := [(0, .ref (qp 0)), (1, .int x1), (2, .int x2), (3, .int x3), (5, .int x5), (6, .int r_40), (7, .int r_46)]) [1, 2, 3, 4, 5, 6, 0] dX4_make_72 (by decide) rfl rfl ?_
    refine kv_aload_n C 0 dX4_make_74 rfl rfl ?_
    refine kv_get C (Cn := RX4) (T := TX4) (N := 5) 0 0 hin4 rfl rfl (by decide) (C.ts _ (List.mem_cons_of_mem _ lf_RX4_9)) rfl rfl dX4_make_75 ?_
    refine kv_iload_n C 3 dX4_make_78 rfl rfl ?_
    refine kv_iload_n C 1 dX4_make_79 rfl rfl ?_
    obtain ⟨r_48, hm_49, h⟩ := ob_e h
    refine kv_SN0i C [.int x1] (c_X9_becomesOf l D x1 r_48 hm_49) (cn_X9_becomesOf C.ts (hJ.1 _ (List.mem_of_getElem? (i := 10) rfl)) ⟨Nat.le_of_ble_eq_true rfl, Nat.le_of_ble_eq_true rfl⟩) rfl rfl (Nat.le_of_ble_eq_true rfl) dX4_make_80 ⟨Nat.zero_le _, Nat.zero_le _⟩ ?_
    refine kv_if_ne C 91 dX4_make_83 (by decide) (fun c_50 => ?_) (fun c_50 => ?_)
    · have h := oi_f h c_50
      refine kv_iload C 5 dX4_make_91 rfl ?_
      refine kv_iload_n C 1 dX4_make_93 rfl rfl ?_
      obtain ⟨r_51, hm_52, h⟩ := ob_e h
      refine kv_SN0i C [.int x1] (c_X9_becomesOf l D x1 r_51 hm_52) (cn_X9_becomesOf C.ts (hJ.1 _ (List.mem_of_getElem? (i := 10) rfl)) ⟨Nat.le_of_ble_eq_true rfl, Nat.le_of_ble_eq_true rfl⟩) rfl rfl (Nat.le_of_ble_eq_true rfl) dX4_make_94 ⟨Nat.zero_le _, Nat.zero_le _⟩ ?_
      refine kv_imul C dX4_make_97 ?_
      exact kv_lv [0, 2, 3, 4, 6] (lv2 := [(0, .ref (qp 0)), (2, .int x2), (3, .int x3), (5, .int x5), (7, .int r_46)]) rfl (j98 v_made a_moved a_pbefore v_mover v_rights v_passed v_halves v_number v_balance_41 a_men_42 a_kinds_43 a_sides_44 x2 x3 x5 r_46 x3 (r_40 * r_51) h)
    · have h := oi_t h c_50
      refine kv_iload C 5 dX4_make_86 rfl ?_
      refine kv_goto C 98 dX4_make_88 (by decide) ?_
      exact kv_lv [0, 2, 3, 4, 6] (lv2 := [(0, .ref (qp 0)), (2, .int x2), (3, .int x3), (5, .int x5), (7, .int r_46)]) rfl (j98 v_made a_moved a_pbefore v_mover v_rights v_passed v_halves v_number v_balance_41 a_men_42 a_kinds_43 a_sides_44 x2 x3 x5 r_46 x3 r_40 h)
  unfold m_X4_make at hm
  have h := hm
  refine kv_lv [0, 1] (lv2 := [(0, .ref (qp 0)), (1, .int p0)]) rfl ?_
  refine kv_iload_n C 1 dX4_make_0 rfl rfl ?_
  obtain ⟨r_53, hm_54, h⟩ := ob_e h
  refine kv_SN0i C [.int p0] (c_X9_fromOf l D p0 r_53 hm_54) (cn_X9_fromOf C.ts (hJ.1 _ (List.mem_of_getElem? (i := 6) rfl)) ⟨Nat.le_of_ble_eq_true rfl, Nat.le_of_ble_eq_true rfl⟩) rfl rfl (Nat.le_of_ble_eq_true rfl) dX4_make_1 ⟨Nat.zero_le _, Nat.zero_le _⟩ ?_
  refine kv_istore_n C (lv2 := [(0, .ref (qp 0)), (1, .int p0), (2, .int r_53)]) [1, 2, 0] dX4_make_4 rfl (by decide) rfl rfl ?_
  refine kv_iload_n C 1 dX4_make_5 rfl rfl ?_
  obtain ⟨r_55, hm_56, h⟩ := ob_e h
  refine kv_SN0i C [.int p0] (c_X9_toOf l D p0 r_55 hm_56) (cn_X9_toOf C.ts (hJ.1 _ (List.mem_of_getElem? (i := 7) rfl)) ⟨Nat.le_of_ble_eq_true rfl, Nat.le_of_ble_eq_true rfl⟩) rfl rfl (Nat.le_of_ble_eq_true rfl) dX4_make_6 ⟨Nat.zero_le _, Nat.zero_le _⟩ ?_
  refine kv_istore_n C (lv2 := [(0, .ref (qp 0)), (1, .int p0), (2, .int r_53), (3, .int r_55)]) [1, 2, 3, 0] dX4_make_9 rfl (by decide) rfl rfl ?_
  refine kv_aload_n C 0 dX4_make_10 rfl rfl ?_
  refine kv_get C (Cn := RX4) (T := TX4) (N := 5) 0 0 hin4 rfl rfl (by decide) (C.ts _ (List.mem_cons_of_mem _ lf_RX4_9)) rfl rfl dX4_make_11 ?_
  refine kv_iload_n C 1 dX4_make_14 rfl rfl ?_
  obtain ⟨r_57, hm_58, h⟩ := ob_e h
  refine kv_eVi (ws2 := (wPa qp qb ql qw cI cJ v_made a_moved a_pbefore a_earlier v_mover v_rights v_passed v_halves v_number v_balance a_men a_kinds a_sides a_rays a_knights a_kings a_pawns a_table)) C hJ [.int p0] 0 (c_X0_takesOn l D qb ql qw cI cJ tq v_mover v_rights v_passed v_halves v_number v_balance a_men a_kinds a_sides a_rays a_knights a_kings a_pawns a_table p0 r_57 hm_58) (cv_X0_takesOn C.ts lm_RX4_36 ⟨Nat.le_of_ble_eq_true rfl, Nat.le_of_ble_eq_true rfl⟩) rfl rfl [4, 5, 6, 7, 8, 9, 10, 11, 12, 13, 14] [0, 1, 2, 3] [0, 1] [0, 1, 2, 3, 4, 5, 6, 7, 8, 9, 10, 11, 12, 13, 14] rfl rfl rfl rfl rfl (by decide) rfl rfl rfl (Nat.le_of_ble_eq_true rfl) dX4_make_15 ⟨Nat.zero_le _, Nat.zero_le _⟩ rfl rfl rfl ?_
  refine kv_istore C (lv2 := [(0, .ref (qp 0)), (1, .int p0), (2, .int r_53), (3, .int r_55), (4, .int r_57)]) [1, 2, 3, 4, 0] dX4_make_18 (by decide) rfl rfl ?_
  refine kv_aload_n C 0 dX4_make_20 rfl rfl ?_
  refine kv_get C (Cn := RX4) (T := TX4) (N := 5) 0 0 hin4 rfl rfl (by decide) (C.ts _ (List.mem_cons_of_mem _ lf_RX4_9)) rfl rfl dX4_make_21 ?_
  refine kv_get C (Cn := RX0) (T := TX0) (N := 11) 4 2 hin0 rfl rfl (by decide) (C.ts _ (List.mem_cons_of_mem _ lf_RX4_41)) rfl rfl dX4_make_24 ?_
  refine kv_iload C 4 dX4_make_27 rfl ?_
  obtain ⟨g_59, h⟩ := oin_e h
  refine kv_iald C 5 0 rfl rfl g_59 dX4_make_29 ?_
  obtain ⟨x5_60, ex5_60, h⟩ := ol_e h
  refine kv_top ex5_60 ?_
  refine kv_istore C (lv2 := [(0, .ref (qp 0)), (1, .int p0), (2, .int r_53), (3, .int r_55), (4, .int r_57), (5, .int x5_60)]) [1, 2, 3, 4, 5, 0] dX4_make_30 (by decide) rfl rfl ?_
  refine kv_aload_n C 0 dX4_make_32 rfl rfl ?_
  refine kv_iload_n C 1 dX4_make_33 rfl rfl ?_
  refine kv_iload C 5 dX4_make_34 rfl ?_
  obtain ⟨r_61, hm_62, h⟩ := ob_e h
  refine kv_callS0i C [.int x5_60] (c_J9_abs_0f7a4 l D x5_60 r_61 hm_62) (cs_J9_abs_0f7a4 C.ts lm_RX4_44 ⟨Nat.le_of_ble_eq_true rfl, Nat.le_of_ble_eq_true rfl⟩) rfl rfl (Nat.le_of_ble_eq_true rfl) dX4_make_36 ⟨Nat.zero_le _, Nat.zero_le _⟩ ?_
  obtain ⟨⟨v_made_63, a_moved_64, a_pbefore_65⟩, hm_66, h⟩ := ob_e h
  replace h : _ = _ := h
  refine kv_eVv (ws2 := (wPa qp qb ql qw cI cJ v_made_63 a_moved_64 a_pbefore_65 a_earlier v_mover v_rights v_passed v_halves v_number v_balance a_men a_kinds a_sides a_rays a_knights a_kings a_pawns a_table)) C hJ [.int p0, .int r_61] 0 (c_X4_remember l D qp qb ql qw cI cJ tq v_made a_moved a_pbefore a_earlier v_mover v_rights v_passed v_halves v_number v_balance a_men a_kinds a_sides a_rays a_knights a_kings a_pawns a_table p0 r_61 v_made_63 a_moved_64 a_pbefore_65 hm_66) (cv_X4_remember C.ts lm_RX4_49 ⟨Nat.le_of_ble_eq_true rfl, Nat.le_of_ble_eq_true rfl⟩) rfl rfl [0, 1, 2, 3, 4, 5, 6, 7, 8, 9, 10, 11, 12, 13, 14] [] [0, 1] [0, 1, 2, 3, 4, 5, 6, 7, 8, 9, 10, 11, 12, 13, 14] rfl rfl rfl rfl rfl (by decide) rfl rfl rfl (Nat.le_of_ble_eq_true rfl) dX4_make_39 ⟨Nat.zero_le _, Nat.zero_le _⟩ rfl rfl rfl ?_
  refine kv_iload C 5 dX4_make_42 rfl ?_
  refine kv_if_eq C 57 dX4_make_44 (by decide) (fun c_67 => ?_) (fun c_67 => ?_)
  · have h := oi_t h c_67
    exact kv_lv [0, 1, 2, 3, 5] (lv2 := [(0, .ref (qp 0)), (1, .int p0), (2, .int r_53), (3, .int r_55), (5, .int x5_60)]) rfl (j57 v_made_63 a_moved_64 a_pbefore_65 v_mover v_rights v_passed v_halves v_number v_balance a_men a_kinds a_sides p0 r_53 r_55 x5_60 h)
  · have h := oi_f h c_67
    refine kv_aload_n C 0 dX4_make_47 rfl rfl ?_
    refine kv_get C (Cn := RX4) (T := TX4) (N := 5) 0 0 hin4 rfl rfl (by decide) (C.ts _ (List.mem_cons_of_mem _ lf_RX4_9)) rfl rfl dX4_make_48 ?_
    refine kv_iload C 4 dX4_make_51 rfl ?_
    obtain ⟨⟨r_68, v_balance_69, a_men_70, a_kinds_71, a_sides_72⟩, hm_73, h⟩ := ob_e h
    replace h : _ = _ := h
    refine kv_eVi (ws2 := (wPa qp qb ql qw cI cJ v_made_63 a_moved_64 a_pbefore_65 a_earlier v_mover v_rights v_passed v_halves v_number v_balance_69 a_men_70 a_kinds_71 a_sides_72 a_rays a_knights a_kings a_pawns a_table)) C hJ [.int r_57] 0 (c_X0_lift l D qb ql qw cI cJ tq v_mover v_rights v_passed v_halves v_number v_balance a_men a_kinds a_sides a_rays a_knights a_kings a_pawns a_table r_57 r_68 v_balance_69 a_men_70 a_kinds_71 a_sides_72 hm_73) (cv_X0_lift C.ts lm_RX4_53 ⟨Nat.le_of_ble_eq_true rfl, Nat.le_of_ble_eq_true rfl⟩) rfl rfl [4, 5, 6, 7, 8, 9, 10, 11, 12, 13, 14] [0, 1, 2, 3] [0, 1] [0, 1, 2, 3, 4, 5, 6, 7, 8, 9, 10, 11, 12, 13, 14] rfl rfl rfl rfl rfl (by decide) rfl rfl rfl (Nat.le_of_ble_eq_true rfl) dX4_make_53 ⟨Nat.zero_le _, Nat.zero_le _⟩ rfl rfl rfl ?_
    refine kv_pop C dX4_make_56 rfl ?_
    exact kv_lv [0, 1, 2, 3, 5] (lv2 := [(0, .ref (qp 0)), (1, .int p0), (2, .int r_53), (3, .int r_55), (5, .int x5_60)]) rfl (j57 v_made_63 a_moved_64 a_pbefore_65 v_mover v_rights v_passed v_halves v_number v_balance_69 a_men_70 a_kinds_71 a_sides_72 p0 r_53 r_55 x5_60 h)
def m_X4_takeBack_b236 (v_made : Int32) (a_moved : Nat → Int32) (a_pbefore : Nat → Int32) (v_mover : Int32) (v_rights : Int32) (v_passed : Int32) (v_halves : Int32) (v_number : Int32) (v_balance : Int32) (a_men : Nat → Int32) (a_kinds : Nat → Int64) (a_sides : Nat → Int64) (a_table : Nat → Int32) : Option (Int32 × Int32 × Int32 × Int32 × Int32 × Int32 × Int32 × (Nat → Int32) × (Nat → Int64) × (Nat → Int64)) := some (v_made, v_mover, v_rights, v_passed, v_halves, v_number, v_balance, a_men, a_kinds, a_sides)
def m_X4_takeBack_b191 (v_made : Int32) (a_moved : Nat → Int32) (a_pbefore : Nat → Int32) (v_mover : Int32) (v_rights : Int32) (v_passed : Int32) (v_halves : Int32) (v_number : Int32) (v_balance : Int32) (a_men : Nat → Int32) (a_kinds : Nat → Int64) (a_sides : Nat → Int64) (a_table : Nat → Int32) (x3 : Int32) (x4 : Int32) (x6 : Int32) : Option (Int32 × Int32 × Int32 × Int32 × Int32 × Int32 × Int32 × (Nat → Int32) × (Nat → Int64) × (Nat → Int64)) := ob (m_J9_abs_0f7a4 x6) fun r_1 => if r_1 = 6 then ob (m_X4_isByRight x3 x4) fun r_4 => if r_4 = 0 then m_X4_takeBack_b236 v_made a_moved a_pbefore v_mover v_rights v_passed v_halves v_number v_balance a_men a_kinds a_sides a_table else ob (m_X4_cornerOf x3 x4) fun r_7 => ob (m_X0_lift v_balance a_men a_kinds a_sides a_table ((x3 + x4) / 2)) fun (r_9, v_balance_10, a_men_11, a_kinds_12, a_sides_13) => ob (m_X0_put v_balance_10 a_men_11 a_kinds_12 a_sides_13 a_table r_7 r_9) fun (v_balance_15, a_men_16, a_kinds_17, a_sides_18) => m_X4_takeBack_b236 v_made a_moved a_pbefore v_mover v_rights v_passed v_halves v_number v_balance_15 a_men_16 a_kinds_17 a_sides_18 a_table else m_X4_takeBack_b236 v_made a_moved a_pbefore v_mover v_rights v_passed v_halves v_number v_balance a_men a_kinds a_sides a_table
def m_X4_takeBack_b158 (v_made : Int32) (a_moved : Nat → Int32) (a_pbefore : Nat → Int32) (v_mover : Int32) (v_rights : Int32) (v_passed : Int32) (v_halves : Int32) (v_number : Int32) (v_balance : Int32) (a_men : Nat → Int32) (a_kinds : Nat → Int64) (a_sides : Nat → Int64) (a_table : Nat → Int32) (x1 : Int32) (x2 : Int32) (x3 : Int32) (x4 : Int32) (x5 : Int32) (x6 : Int32) (t1 : Int32) (t2 : Int32) : Option (Int32 × Int32 × Int32 × Int32 × Int32 × Int32 × Int32 × (Nat → Int32) × (Nat → Int64) × (Nat → Int64)) := ob (m_X0_put v_balance a_men a_kinds a_sides a_table t1 t2) fun (v_balance_20, a_men_21, a_kinds_22, a_sides_23) => if (x2 &&& 7) = 0 then m_X4_takeBack_b191 v_made a_moved a_pbefore v_mover v_rights v_passed v_halves v_number v_balance_20 a_men_21 a_kinds_22 a_sides_23 a_table x3 x4 x6 else ob (m_X0_takesOn v_mover v_passed a_men_21 x1) fun r_26 => ob (m_X0_put v_balance_20 a_men_21 a_kinds_22 a_sides_23 a_table r_26 ((-x5) * (x2 &&& 7))) fun (v_balance_28, a_men_29, a_kinds_30, a_sides_31) => m_X4_takeBack_b191 v_made a_moved a_pbefore v_mover v_rights v_passed v_halves v_number v_balance_28 a_men_29 a_kinds_30 a_sides_31 a_table x3 x4 x6
def m_X4_takeBack_b124 (v_made : Int32) (a_moved : Nat → Int32) (a_pbefore : Nat → Int32) (v_mover : Int32) (v_rights : Int32) (v_passed : Int32) (v_halves : Int32) (v_number : Int32) (v_balance : Int32) (a_men : Nat → Int32) (a_kinds : Nat → Int64) (a_sides : Nat → Int64) (a_table : Nat → Int32) (x1 : Int32) (x2 : Int32) (x3 : Int32) (x4 : Int32) (t0 : Int32) : Option (Int32 × Int32 × Int32 × Int32 × Int32 × Int32 × Int32 × (Nat → Int32) × (Nat → Int64) × (Nat → Int64)) := ob (m_X0_lift v_balance a_men a_kinds a_sides a_table x4) fun (r_33, v_balance_34, a_men_35, a_kinds_36, a_sides_37) => ob (m_X9_becomesOf x1) fun r_39 => if r_39 = 0 then m_X4_takeBack_b158 v_made a_moved a_pbefore v_mover v_rights v_passed v_halves v_number v_balance_34 a_men_35 a_kinds_36 a_sides_37 a_table x1 x2 x3 x4 t0 r_33 x3 r_33 else m_X4_takeBack_b158 v_made a_moved a_pbefore v_mover v_rights v_passed v_halves v_number v_balance_34 a_men_35 a_kinds_36 a_sides_37 a_table x1 x2 x3 x4 t0 r_33 x3 (t0 * 1)
def m_X4_takeBack (v_made : Int32) (a_moved : Nat → Int32) (a_pbefore : Nat → Int32) (v_mover : Int32) (v_rights : Int32) (v_passed : Int32) (v_halves : Int32) (v_number : Int32) (v_balance : Int32) (a_men : Nat → Int32) (a_kinds : Nat → Int64) (a_sides : Nat → Int64) (a_table : Nat → Int32) : Option (Int32 × Int32 × Int32 × Int32 × Int32 × Int32 × Int32 × (Nat → Int32) × (Nat → Int64) × (Nat → Int64)) := ol (v_made - 1) fun y_42 => oin (y_42) 1027 (ol (a_moved y_42.toNatClampNeg) fun x1_44 => oin (y_42) 1027 (ol (a_pbefore y_42.toNatClampNeg) fun x2_46 => ob (m_X9_fromOf x1_44) fun r_47 => ob (m_X9_toOf x1_44) fun r_49 => ol ((1 : Int32) - v_mover) fun y_51 => ol (v_number - y_51) fun y_52 => ob (m_X4_rightsIn x2_46) fun r_53 => ob (m_X4_passedIn x2_46) fun r_55 => ol (x2_46 >>> ((14 : Int32) &&& 31)) fun y_57 => if y_51 = 0 then m_X4_takeBack_b124 y_42 a_moved a_pbefore y_51 r_53 r_55 y_57 y_52 v_balance a_men a_kinds a_sides a_table x1_44 x2_46 r_47 r_49 1 else m_X4_takeBack_b124 y_42 a_moved a_pbefore y_51 r_53 r_55 y_57 y_52 v_balance a_men a_kinds a_sides a_table x1_44 x2_46 r_47 r_49 (-1)))
abbrev rm_X4_takeBack : Room := { frames := 2, cells := 0, slots := 0, locals := 46 }
abbrev wy_X4_takeBack : List Cond := .code yX4_takeBack cX4_takeBack 7 none :: gT
theorem cv_X4_takeBack {R : Room} {s : State} {args : Array Value} {own : String} {index : Nat} {w0 : Cond} (hts : ∀ w ∈ w0 :: gT, w.before args s = true) (hl : Cond.methodLink own index yX4_takeBack ∈ gT) (hR : 2 + 1 ≤ R.frames ∧ 8 + (7 + 11) + 46 ≤ R.locals) : CallW R s args own RX4 index yX4_takeBack cX4_takeBack 7 none wy_X4_takeBack rm_X4_takeBack 0 0 0 :=
  cwV 0 hts (gT_call w0 (pre := [.methodLink own index yX4_takeBack, .instanceMethod yX4_takeBack, .selects RX4 yX4_takeBack yX4_takeBack, .initialized RX4]) (gT_lc hl (gT_lc ly_yX4_takeBack (gT_lc lx_yX4_takeBack (gT_l1 li_RX4)))) lc_yX4_takeBack) rfl rfl rfl (by decide +kernel) hR
set_option maxRecDepth 100000 in
set_option maxHeartbeats 4000000 in
theorem c_X4_takeBack (l : Launch) (D : va_G) (qp : Nat → Nat) (qb : Nat → Nat) (ql : Nat → Nat) (qw : Nat → Nat) (cI : ClassId) (cJ : ClassId) (tq : Nat → Nat) (v_made : Int32) (a_moved : Nat → Int32) (a_pbefore : Nat → Int32) (a_earlier : Nat → Int32) (v_mover : Int32) (v_rights : Int32) (v_passed : Int32) (v_halves : Int32) (v_number : Int32) (v_balance : Int32) (a_men : Nat → Int32) (a_kinds : Nat → Int64) (a_sides : Nat → Int64) (a_rays : Nat → Int64) (a_knights : Nat → Int64) (a_kings : Nat → Int64) (a_pawns : Nat → Int64) (a_table : Nat → Int32) (v_made' : Int32) (v_mover' : Int32) (v_rights' : Int32) (v_passed' : Int32) (v_halves' : Int32) (v_number' : Int32) (v_balance' : Int32) (a_men' : Nat → Int32) (a_kinds' : Nat → Int64) (a_sides' : Nat → Int64) (hm : m_X4_takeBack v_made a_moved a_pbefore v_mover v_rights v_passed v_halves v_number v_balance a_men a_kinds a_sides a_table = some (v_made', v_mover', v_rights', v_passed', v_halves', v_number', v_balance', a_men', a_kinds', a_sides')) : kEv l yX4_takeBack wy_X4_takeBack rm_X4_takeBack D [(cI, .int), (cJ, .long)] tq (wPa qp qb ql qw cI cJ v_made a_moved a_pbefore a_earlier v_mover v_rights v_passed v_halves v_number v_balance a_men a_kinds a_sides a_rays a_knights a_kings a_pawns a_table) (wPa qp qb ql qw cI cJ v_made' a_moved a_pbefore a_earlier v_mover' v_rights' v_passed' v_halves' v_number' v_balance' a_men' a_kinds' a_sides' a_rays a_knights a_kings a_pawns a_table) [.ref (qp 0)] := by
  refine kEv.of cX4_takeBack 7 none (by decide) rfl rfl (Nat.le_of_ble_eq_true rfl) ?_
  intro p e s m below meth c A Q C hJ hret
  have hin0 : ∀ w ∈ wsX00, w ∈ wy_X4_takeBack := fun w h => List.mem_cons_of_mem _ (inG0 w h)
  have hin3 : ∀ w ∈ wsX30, w ∈ wy_X4_takeBack := fun w h => List.mem_cons_of_mem _ (inG3 w h)
  have hin4 : ∀ w ∈ wsX40, w ∈ wy_X4_takeBack := fun w h => List.mem_cons_of_mem _ (inG4 w h)
  have hin7 : ∀ w ∈ wsX70, w ∈ wy_X4_takeBack := fun w h => List.mem_cons_of_mem _ (inG7 w h)
  have j236 : ∀ (v_made : Int32) (v_mover : Int32) (v_rights : Int32) (v_passed : Int32) (v_halves : Int32) (v_number : Int32) (v_balance : Int32) (a_men : Nat → Int32) (a_kinds : Nat → Int64) (a_sides : Nat → Int64), m_X4_takeBack_b236  v_made a_moved a_pbefore v_mover v_rights v_passed v_halves v_number v_balance a_men a_kinds a_sides a_table  = some (v_made', v_mover', v_rights', v_passed', v_halves', v_number', v_balance', a_men', a_kinds', a_sides') → kv p l e rm_X4_takeBack s m ([.ref (qp 0)] : List Value).toArray below meth c D A 7 0 0 Q (wPa qp qb ql qw cI cJ v_made a_moved a_pbefore a_earlier v_mover v_rights v_passed v_halves v_number v_balance a_men a_kinds a_sides a_rays a_knights a_kings a_pawns a_table) [] 236 [] := by
    intro v_made v_mover v_rights v_passed v_halves v_number v_balance a_men a_kinds a_sides h
    unfold m_X4_takeBack_b236 at h
    cases h
    exact hret _ _ dX4_takeBack_236
  have j191 : ∀ (v_made : Int32) (v_mover : Int32) (v_rights : Int32) (v_passed : Int32) (v_halves : Int32) (v_number : Int32) (v_balance : Int32) (a_men : Nat → Int32) (a_kinds : Nat → Int64) (a_sides : Nat → Int64) (x3 : Int32) (x4 : Int32) (x6 : Int32), m_X4_takeBack_b191  v_made a_moved a_pbefore v_mover v_rights v_passed v_halves v_number v_balance a_men a_kinds a_sides a_table x3 x4 x6 = some (v_made', v_mover', v_rights', v_passed', v_halves', v_number', v_balance', a_men', a_kinds', a_sides') → kv p l e rm_X4_takeBack s m ([.ref (qp 0)] : List Value).toArray below meth c D A 7 0 0 Q (wPa qp qb ql qw cI cJ v_made a_moved a_pbefore a_earlier v_mover v_rights v_passed v_halves v_number v_balance a_men a_kinds a_sides a_rays a_knights a_kings a_pawns a_table) [(0, .ref (qp 0)), (3, .int x3), (4, .int x4), (6, .int x6)] 191 [] := by
    intro v_made v_mover v_rights v_passed v_halves v_number v_balance a_men a_kinds a_sides x3 x4 x6 h
    unfold m_X4_takeBack_b191 at h
    refine kv_iload C 3 dX4_takeBack_191 rfl ?_
    obtain ⟨r_1, hm_2, h⟩ := ob_e h
    refine kv_callS0i C [.int x6] (c_J9_abs_0f7a4 l D x6 r_1 hm_2) (cs_J9_abs_0f7a4 C.ts lm_RX4_44 ⟨Nat.le_of_ble_eq_true rfl, Nat.le_of_ble_eq_true rfl⟩) rfl rfl (Nat.le_of_ble_eq_true rfl) dX4_takeBack_193 ⟨Nat.zero_le _, Nat.zero_le _⟩ ?_
    refine kv_bipush C 6 dX4_takeBack_196 (by decide) ?_
    refine kv_icmp_ne C 236 dX4_takeBack_198 (by decide) (fun c_3 => ?_) (fun c_3 => ?_)
    · have h := oi_f h c_3
      exact kv_lv [] (lv2 := []) rfl (j236 v_made v_mover v_rights v_passed v_halves v_number v_balance a_men a_kinds a_sides h)
    · have h := oi_t h c_3
      refine kv_iload_n C 1 dX4_takeBack_201 rfl rfl ?_
      refine kv_iload C 2 dX4_takeBack_202 rfl ?_
      obtain ⟨r_4, hm_5, h⟩ := ob_e h
      refine kv_callS0i C [.int x3, .int x4] (c_X4_isByRight l D x3 x4 r_4 hm_5) (cs_X4_isByRight C.ts lm_RX4_62 ⟨Nat.le_of_ble_eq_true rfl, Nat.le_of_ble_eq_true rfl⟩) rfl rfl (Nat.le_of_ble_eq_true rfl) dX4_takeBack_204 ⟨Nat.zero_le _, Nat.zero_le _⟩ ?_
      refine kv_if_eq C 236 dX4_takeBack_207 (by decide) (fun c_6 => ?_) (fun c_6 => ?_)
      · have h := oi_t h c_6
        exact kv_lv [] (lv2 := []) rfl (j236 v_made v_mover v_rights v_passed v_halves v_number v_balance a_men a_kinds a_sides h)
      · have h := oi_f h c_6
        refine kv_aload_n C 0 dX4_takeBack_210 rfl rfl ?_
        refine kv_get C (Cn := RX4) (T := TX4) (N := 5) 0 0 hin4 rfl rfl (by decide) (C.ts _ (List.mem_cons_of_mem _ lf_RX4_9)) rfl rfl dX4_takeBack_211 ?_
        refine kv_iload_n C 1 dX4_takeBack_214 rfl rfl ?_
        refine kv_iload C 2 dX4_takeBack_215 rfl ?_
        obtain ⟨r_7, hm_8, h⟩ := ob_e h
        refine kv_callS0i C [.int x3, .int x4] (c_X4_cornerOf l D x3 x4 r_7 hm_8) (cs_X4_cornerOf C.ts lm_RX4_66 ⟨Nat.le_of_ble_eq_true rfl, Nat.le_of_ble_eq_true rfl⟩) rfl rfl (Nat.le_of_ble_eq_true rfl) dX4_takeBack_217 ⟨Nat.zero_le _, Nat.zero_le _⟩ ?_
        refine kv_aload_n C 0 dX4_takeBack_220 rfl rfl ?_
        refine kv_get C (Cn := RX4) (T := TX4) (N := 5) 0 0 hin4 rfl rfl (by decide) (C.ts _ (List.mem_cons_of_mem _ lf_RX4_9)) rfl rfl dX4_takeBack_221 ?_
        refine kv_iload_n C 1 dX4_takeBack_224 rfl rfl ?_
        refine kv_iload C 2 dX4_takeBack_225 rfl ?_
        refine kv_iadd C dX4_takeBack_227 ?_
        refine kv_iconst C 2 dX4_takeBack_228 (by decide) ?_
        refine kv_idiv C dX4_takeBack_229 (by decide) ?_
        obtain ⟨⟨r_9, v_balance_10, a_men_11, a_kinds_12, a_sides_13⟩, hm_14, h⟩ := ob_e h
        replace h : _ = _ := h
        refine kv_eVi (ws2 := (wPa qp qb ql qw cI cJ v_made a_moved a_pbefore a_earlier v_mover v_rights v_passed v_halves v_number v_balance_10 a_men_11 a_kinds_12 a_sides_13 a_rays a_knights a_kings a_pawns a_table)) C hJ [.int ((x3 + x4) / 2)] 0 (c_X0_lift l D qb ql qw cI cJ tq v_mover v_rights v_passed v_halves v_number v_balance a_men a_kinds a_sides a_rays a_knights a_kings a_pawns a_table ((x3 + x4) / 2) r_9 v_balance_10 a_men_11 a_kinds_12 a_sides_13 hm_14) (cv_X0_lift C.ts lm_RX4_53 ⟨Nat.le_of_ble_eq_true rfl, Nat.le_of_ble_eq_true rfl⟩) rfl rfl [4, 5, 6, 7, 8, 9, 10, 11, 12, 13, 14] [0, 1, 2, 3] [0, 1] [0, 1, 2, 3, 4, 5, 6, 7, 8, 9, 10, 11, 12, 13, 14] rfl rfl rfl rfl rfl (by decide) rfl rfl rfl (Nat.le_of_ble_eq_true rfl) dX4_takeBack_230 ⟨Nat.zero_le _, Nat.zero_le _⟩ rfl rfl rfl ?_
        obtain ⟨⟨v_balance_15, a_men_16, a_kinds_17, a_sides_18⟩, hm_19, h⟩ := ob_e h
        replace h : _ = _ := h
        refine kv_eVv (ws2 := (wPa qp qb ql qw cI cJ v_made a_moved a_pbefore a_earlier v_mover v_rights v_passed v_halves v_number v_balance_15 a_men_16 a_kinds_17 a_sides_18 a_rays a_knights a_kings a_pawns a_table)) C hJ [.int r_7, .int r_9] 0 (c_X0_put l D qb ql qw cI cJ tq v_mover v_rights v_passed v_halves v_number v_balance_10 a_men_11 a_kinds_12 a_sides_13 a_rays a_knights a_kings a_pawns a_table r_7 r_9 v_balance_15 a_men_16 a_kinds_17 a_sides_18 hm_19) (cv_X0_put C.ts lm_RX4_59 ⟨Nat.le_of_ble_eq_true rfl, Nat.le_of_ble_eq_true rfl⟩) rfl rfl [4, 5, 6, 7, 8, 9, 10, 11, 12, 13, 14] [0, 1, 2, 3] [0, 1] [0, 1, 2, 3, 4, 5, 6, 7, 8, 9, 10, 11, 12, 13, 14] rfl rfl rfl rfl rfl (by decide) rfl rfl rfl (Nat.le_of_ble_eq_true rfl) dX4_takeBack_233 ⟨Nat.zero_le _, Nat.zero_le _⟩ rfl rfl rfl ?_
        exact kv_lv [] (lv2 := []) rfl (j236 v_made v_mover v_rights v_passed v_halves v_number v_balance_15 a_men_16 a_kinds_17 a_sides_18 h)
  have j158 : ∀ (v_made : Int32) (v_mover : Int32) (v_rights : Int32) (v_passed : Int32) (v_halves : Int32) (v_number : Int32) (v_balance : Int32) (a_men : Nat → Int32) (a_kinds : Nat → Int64) (a_sides : Nat → Int64) (x1 : Int32) (x2 : Int32) (x3 : Int32) (x4 : Int32) (x5 : Int32) (x6 : Int32) (t1 : Int32) (t2 : Int32), m_X4_takeBack_b158  v_made a_moved a_pbefore v_mover v_rights v_passed v_halves v_number v_balance a_men a_kinds a_sides a_table x1 x2 x3 x4 x5 x6 t1 t2 = some (v_made', v_mover', v_rights', v_passed', v_halves', v_number', v_balance', a_men', a_kinds', a_sides') → kv p l e rm_X4_takeBack s m ([.ref (qp 0)] : List Value).toArray below meth c D A 7 0 0 Q (wPa qp qb ql qw cI cJ v_made a_moved a_pbefore a_earlier v_mover v_rights v_passed v_halves v_number v_balance a_men a_kinds a_sides a_rays a_knights a_kings a_pawns a_table) [(0, .ref (qp 0)), (1, .int x1), (2, .int x2), (3, .int x3), (4, .int x4), (5, .int x5), (6, .int x6)] 158 [.int t2, .int t1, .ref (qb 0)] := by
    intro v_made v_mover v_rights v_passed v_halves v_number v_balance a_men a_kinds a_sides x1 x2 x3 x4 x5 x6 t1 t2 h
    unfold m_X4_takeBack_b158 at h
    obtain ⟨⟨v_balance_20, a_men_21, a_kinds_22, a_sides_23⟩, hm_24, h⟩ := ob_e h
    replace h : _ = _ := h
    refine kv_eVv (ws2 := (wPa qp qb ql qw cI cJ v_made a_moved a_pbefore a_earlier v_mover v_rights v_passed v_halves v_number v_balance_20 a_men_21 a_kinds_22 a_sides_23 a_rays a_knights a_kings a_pawns a_table)) C hJ [.int t1, .int t2] 0 (c_X0_put l D qb ql qw cI cJ tq v_mover v_rights v_passed v_halves v_number v_balance a_men a_kinds a_sides a_rays a_knights a_kings a_pawns a_table t1 t2 v_balance_20 a_men_21 a_kinds_22 a_sides_23 hm_24) (cv_X0_put C.ts lm_RX4_59 ⟨Nat.le_of_ble_eq_true rfl, Nat.le_of_ble_eq_true rfl⟩) rfl rfl [4, 5, 6, 7, 8, 9, 10, 11, 12, 13, 14] [0, 1, 2, 3] [0, 1] [0, 1, 2, 3, 4, 5, 6, 7, 8, 9, 10, 11, 12, 13, 14] rfl rfl rfl rfl rfl (by decide) rfl rfl rfl (Nat.le_of_ble_eq_true rfl) dX4_takeBack_158 ⟨Nat.zero_le _, Nat.zero_le _⟩ rfl rfl rfl ?_
    refine kv_iload_n C 2 dX4_takeBack_161 rfl rfl ?_
    refine kv_bipush C 7 dX4_takeBack_162 (by decide) ?_
    refine kv_iand C dX4_takeBack_164 ?_
    refine kv_if_eq C 191 dX4_takeBack_165 (by decide) (fun c_25 => ?_) (fun c_25 => ?_)
    · have h := oi_t h c_25
      exact kv_lv [0, 3, 4, 6] (lv2 := [(0, .ref (qp 0)), (3, .int x3), (4, .int x4), (6, .int x6)]) rfl (j191 v_made v_mover v_rights v_passed v_halves v_number v_balance_20 a_men_21 a_kinds_22 a_sides_23 x3 x4 x6 h)
    · have h := oi_f h c_25
      refine kv_aload_n C 0 dX4_takeBack_168 rfl rfl ?_
      refine kv_get C (Cn := RX4) (T := TX4) (N := 5) 0 0 hin4 rfl rfl (by decide) (C.ts _ (List.mem_cons_of_mem _ lf_RX4_9)) rfl rfl dX4_takeBack_169 ?_
      refine kv_aload_n C 0 dX4_takeBack_172 rfl rfl ?_
      refine kv_get C (Cn := RX4) (T := TX4) (N := 5) 0 0 hin4 rfl rfl (by decide) (C.ts _ (List.mem_cons_of_mem _ lf_RX4_9)) rfl rfl dX4_takeBack_173 ?_
      refine kv_iload_n C 1 dX4_takeBack_176 rfl rfl ?_
      obtain ⟨r_26, hm_27, h⟩ := ob_e h
      refine kv_eVi (ws2 := (wPa qp qb ql qw cI cJ v_made a_moved a_pbefore a_earlier v_mover v_rights v_passed v_halves v_number v_balance_20 a_men_21 a_kinds_22 a_sides_23 a_rays a_knights a_kings a_pawns a_table)) C hJ [.int x1] 0 (c_X0_takesOn l D qb ql qw cI cJ tq v_mover v_rights v_passed v_halves v_number v_balance_20 a_men_21 a_kinds_22 a_sides_23 a_rays a_knights a_kings a_pawns a_table x1 r_26 hm_27) (cv_X0_takesOn C.ts lm_RX4_36 ⟨Nat.le_of_ble_eq_true rfl, Nat.le_of_ble_eq_true rfl⟩) rfl rfl [4, 5, 6, 7, 8, 9, 10, 11, 12, 13, 14] [0, 1, 2, 3] [0, 1] [0, 1, 2, 3, 4, 5, 6, 7, 8, 9, 10, 11, 12, 13, 14] rfl rfl rfl rfl rfl (by decide) rfl rfl rfl (Nat.le_of_ble_eq_true rfl) dX4_takeBack_177 ⟨Nat.zero_le _, Nat.zero_le _⟩ rfl rfl rfl ?_
      refine kv_iload C 5 dX4_takeBack_180 rfl ?_
      refine kv_ineg C dX4_takeBack_182 ?_
      refine kv_iload_n C 2 dX4_takeBack_183 rfl rfl ?_
      refine kv_bipush C 7 dX4_takeBack_184 (by decide) ?_
      refine kv_iand C dX4_takeBack_186 ?_
      refine kv_imul C dX4_takeBack_187 ?_
      obtain ⟨⟨v_balance_28, a_men_29, a_kinds_30, a_sides_31⟩, hm_32, h⟩ := ob_e h
      replace h : _ = _ := h
      refine kv_eVv (ws2 := (wPa qp qb ql qw cI cJ v_made a_moved a_pbefore a_earlier v_mover v_rights v_passed v_halves v_number v_balance_28 a_men_29 a_kinds_30 a_sides_31 a_rays a_knights a_kings a_pawns a_table)) C hJ [.int r_26, .int ((-x5) * (x2 &&& 7))] 0 (c_X0_put l D qb ql qw cI cJ tq v_mover v_rights v_passed v_halves v_number v_balance_20 a_men_21 a_kinds_22 a_sides_23 a_rays a_knights a_kings a_pawns a_table r_26 ((-x5) * (x2 &&& 7)) v_balance_28 a_men_29 a_kinds_30 a_sides_31 hm_32) (cv_X0_put C.ts lm_RX4_59 ⟨Nat.le_of_ble_eq_true rfl, Nat.le_of_ble_eq_true rfl⟩) rfl rfl [4, 5, 6, 7, 8, 9, 10, 11, 12, 13, 14] [0, 1, 2, 3] [0, 1] [0, 1, 2, 3, 4, 5, 6, 7, 8, 9, 10, 11, 12, 13, 14] rfl rfl rfl rfl rfl (by decide) rfl rfl rfl (Nat.le_of_ble_eq_true rfl) dX4_takeBack_188 ⟨Nat.zero_le _, Nat.zero_le _⟩ rfl rfl rfl ?_
      exact kv_lv [0, 3, 4, 6] (lv2 := [(0, .ref (qp 0)), (3, .int x3), (4, .int x4), (6, .int x6)]) rfl (j191 v_made v_mover v_rights v_passed v_halves v_number v_balance_28 a_men_29 a_kinds_30 a_sides_31 x3 x4 x6 h)
  have j124 : ∀ (v_made : Int32) (v_mover : Int32) (v_rights : Int32) (v_passed : Int32) (v_halves : Int32) (v_number : Int32) (v_balance : Int32) (a_men : Nat → Int32) (a_kinds : Nat → Int64) (a_sides : Nat → Int64) (x1 : Int32) (x2 : Int32) (x3 : Int32) (x4 : Int32) (t0 : Int32), m_X4_takeBack_b124  v_made a_moved a_pbefore v_mover v_rights v_passed v_halves v_number v_balance a_men a_kinds a_sides a_table x1 x2 x3 x4 t0 = some (v_made', v_mover', v_rights', v_passed', v_halves', v_number', v_balance', a_men', a_kinds', a_sides') → kv p l e rm_X4_takeBack s m ([.ref (qp 0)] : List Value).toArray below meth c D A 7 0 0 Q (wPa qp qb ql qw cI cJ v_made a_moved a_pbefore a_earlier v_mover v_rights v_passed v_halves v_number v_balance a_men a_kinds a_sides a_rays a_knights a_kings a_pawns a_table) [(0, .ref (qp 0)), (1, .int x1), (2, .int x2), (3, .int x3), (4, .int x4)] 124 [.int t0] := by
    intro v_made v_mover v_rights v_passed v_halves v_number v_balance a_men a_kinds a_sides x1 x2 x3 x4 t0 h
    unfold m_X4_takeBack_b124 at h
    refine kv_istore C (lv2 := [(0, .ref (qp 0)), (1, .int x1), (2, .int x2), (3, .int x3), (4, .int x4), (5, .int t0)]) [1, 2, 3, 4, 5, 0] dX4_takeBack_124 (by decide) rfl rfl ?_
    refine kv_aload_n C 0 dX4_takeBack_126 rfl rfl ?_
    refine kv_get C (Cn := RX4) (T := TX4) (N := 5) 0 0 hin4 rfl rfl (by decide) (C.ts _ (List.mem_cons_of_mem _ lf_RX4_9)) rfl rfl dX4_takeBack_127 ?_
    refine kv_iload C 4 dX4_takeBack_130 rfl ?_
    obtain ⟨⟨r_33, v_balance_34, a_men_35, a_kinds_36, a_sides_37⟩, hm_38, h⟩ := ob_e h
    replace h : _ = _ := h
    refine kv_eVi (ws2 := (wPa qp qb ql qw cI cJ v_made a_moved a_pbefore a_earlier v_mover v_rights v_passed v_halves v_number v_balance_34 a_men_35 a_kinds_36 a_sides_37 a_rays a_knights a_kings a_pawns a_table)) C hJ [.int x4] 0 (c_X0_lift l D qb ql qw cI cJ tq v_mover v_rights v_passed v_halves v_number v_balance a_men a_kinds a_sides a_rays a_knights a_kings a_pawns a_table x4 r_33 v_balance_34 a_men_35 a_kinds_36 a_sides_37 hm_38) (cv_X0_lift C.ts lm_RX4_53 ⟨Nat.le_of_ble_eq_true rfl, Nat.le_of_ble_eq_true rfl⟩) rfl rfl [4, 5, 6, 7, 8, 9, 10, 11, 12, 13, 14] [0, 1, 2, 3] [0, 1] [0, 1, 2, 3, 4, 5, 6, 7, 8, 9, 10, 11, 12, 13, 14] rfl rfl rfl rfl rfl (by decide) rfl rfl rfl (Nat.le_of_ble_eq_true rfl) dX4_takeBack_132 ⟨Nat.zero_le _, Nat.zero_le _⟩ rfl rfl rfl ?_
    refine kv_istore C (lv2 := [(0, .ref (qp 0)), (1, .int x1), (2, .int x2), (3, .int x3), (4, .int x4), (5, .int t0), (6, .int r_33)]) [1, 2, 3, 4, 5, 6, 0] dX4_takeBack_135 (by decide) rfl rfl ?_
    refine kv_aload_n C 0 dX4_takeBack_137 rfl rfl ?_
    refine kv_get C (Cn := RX4) (T := TX4) (N := 5) 0 0 hin4 rfl rfl (by decide) (C.ts _ (List.mem_cons_of_mem _ lf_RX4_9)) rfl rfl dX4_takeBack_138 ?_
    refine kv_iload_n C 3 dX4_takeBack_141 rfl rfl ?_
    refine kv_iload_n C 1 dX4_takeBack_142 rfl rfl ?_
    obtain ⟨r_39, hm_40, h⟩ := ob_e h
    refine kv_SN0i C [.int x1] (c_X9_becomesOf l D x1 r_39 hm_40) (cn_X9_becomesOf C.ts (hJ.1 _ (List.mem_of_getElem? (i := 10) rfl)) ⟨Nat.le_of_ble_eq_true rfl, Nat.le_of_ble_eq_true rfl⟩) rfl rfl (Nat.le_of_ble_eq_true rfl) dX4_takeBack_143 ⟨Nat.zero_le _, Nat.zero_le _⟩ ?_
    refine kv_if_ne C 154 dX4_takeBack_146 (by decide) (fun c_41 => ?_) (fun c_41 => ?_)
    · have h := oi_f h c_41
      refine kv_iload C 5 dX4_takeBack_154 rfl ?_
      refine kv_iconst C 1 dX4_takeBack_156 (by decide) ?_
      refine kv_imul C dX4_takeBack_157 ?_
      exact kv_lv [0, 1, 2, 3, 4, 5, 6] (lv2 := [(0, .ref (qp 0)), (1, .int x1), (2, .int x2), (3, .int x3), (4, .int x4), (5, .int t0), (6, .int r_33)]) rfl (j158 v_made v_mover v_rights v_passed v_halves v_number v_balance_34 a_men_35 a_kinds_36 a_sides_37 x1 x2 x3 x4 t0 r_33 x3 (t0 * 1) h)
    · have h := oi_t h c_41
      refine kv_iload C 6 dX4_takeBack_149 rfl ?_
      refine kv_goto C 158 dX4_takeBack_151 (by decide) ?_
      exact kv_lv [0, 1, 2, 3, 4, 5, 6] (lv2 := [(0, .ref (qp 0)), (1, .int x1), (2, .int x2), (3, .int x3), (4, .int x4), (5, .int t0), (6, .int r_33)]) rfl (j158 v_made v_mover v_rights v_passed v_halves v_number v_balance_34 a_men_35 a_kinds_36 a_sides_37 x1 x2 x3 x4 t0 r_33 x3 r_33 h)
  unfold m_X4_takeBack at hm
  have h := hm
  refine kv_lv [0] (lv2 := [(0, .ref (qp 0))]) rfl ?_
  refine kv_aload_n C 0 dX4_takeBack_0 rfl rfl ?_
  refine kv_dup C dX4_takeBack_1 rfl ?_
  refine kv_get C (Cn := RX4) (T := TX4) (N := 5) 0 4 hin4 rfl rfl (by decide) (C.ts _ (List.mem_cons_of_mem _ lf_RX4_25)) rfl rfl dX4_takeBack_2 ?_
  refine kv_iconst C 1 dX4_takeBack_5 (by decide) ?_
  refine kv_isub C dX4_takeBack_6 ?_
  obtain ⟨y_42, ey_42, h⟩ := ol_e h
  refine kv_top ey_42 ?_
  refine kv_put C (Cn := RX4) (T := TX4) (N := 5) (ty := .int) (ws1 := (wPa qp qb ql qw cI cJ y_42 a_moved a_pbefore a_earlier v_mover v_rights v_passed v_halves v_number v_balance a_men a_kinds a_sides a_rays a_knights a_kings a_pawns a_table)) 0 4 hin4 tyX4 tyX4_ok nmX4 rfl rfl (by decide) (C.ts _ (List.mem_cons_of_mem _ lf_RX4_25)) rfl rfl (by decide +kernel) rfl rfl (Nat.le_of_ble_eq_true rfl) rfl dX4_takeBack_7 ?_
  refine kv_aload_n C 0 dX4_takeBack_10 rfl rfl ?_
  refine kv_get C (Cn := RX4) (T := TX4) (N := 5) 0 1 hin4 rfl rfl (by decide) (C.ts _ (List.mem_cons_of_mem _ lf_RX4_15)) rfl rfl dX4_takeBack_11 ?_
  refine kv_aload_n C 0 dX4_takeBack_14 rfl rfl ?_
  refine kv_get C (Cn := RX4) (T := TX4) (N := 5) 0 4 hin4 rfl rfl (by decide) (C.ts _ (List.mem_cons_of_mem _ lf_RX4_25)) rfl rfl dX4_takeBack_15 ?_
  obtain ⟨g_43, h⟩ := oin_e h
  refine kv_iald C 1 0 rfl rfl g_43 dX4_takeBack_18 ?_
  obtain ⟨x1_44, ex1_44, h⟩ := ol_e h
  refine kv_top ex1_44 ?_
  refine kv_istore_n C (lv2 := [(0, .ref (qp 0)), (1, .int x1_44)]) [1, 0] dX4_takeBack_19 rfl (by decide) rfl rfl ?_
  refine kv_aload_n C 0 dX4_takeBack_20 rfl rfl ?_
  refine kv_get C (Cn := RX4) (T := TX4) (N := 5) 0 2 hin4 rfl rfl (by decide) (C.ts _ (List.mem_cons_of_mem _ lf_RX4_19)) rfl rfl dX4_takeBack_21 ?_
  refine kv_aload_n C 0 dX4_takeBack_24 rfl rfl ?_
  refine kv_get C (Cn := RX4) (T := TX4) (N := 5) 0 4 hin4 rfl rfl (by decide) (C.ts _ (List.mem_cons_of_mem _ lf_RX4_25)) rfl rfl dX4_takeBack_25 ?_
  obtain ⟨g_45, h⟩ := oin_e h
  refine kv_iald C 2 0 rfl rfl g_45 dX4_takeBack_28 ?_
  obtain ⟨x2_46, ex2_46, h⟩ := ol_e h
  refine kv_top ex2_46 ?_
  refine kv_istore_n C (lv2 := [(0, .ref (qp 0)), (1, .int x1_44), (2, .int x2_46)]) [1, 2, 0] dX4_takeBack_29 rfl (by decide) rfl rfl ?_
  refine kv_iload_n C 1 dX4_takeBack_30 rfl rfl ?_
  obtain ⟨r_47, hm_48, h⟩ := ob_e h
  refine kv_SN0i C [.int x1_44] (c_X9_fromOf l D x1_44 r_47 hm_48) (cn_X9_fromOf C.ts (hJ.1 _ (List.mem_of_getElem? (i := 6) rfl)) ⟨Nat.le_of_ble_eq_true rfl, Nat.le_of_ble_eq_true rfl⟩) rfl rfl (Nat.le_of_ble_eq_true rfl) dX4_takeBack_31 ⟨Nat.zero_le _, Nat.zero_le _⟩ ?_
  refine kv_istore_n C (lv2 := [(0, .ref (qp 0)), (1, .int x1_44), (2, .int x2_46), (3, .int r_47)]) [1, 2, 3, 0] dX4_takeBack_34 rfl (by decide) rfl rfl ?_
  refine kv_iload_n C 1 dX4_takeBack_35 rfl rfl ?_
  obtain ⟨r_49, hm_50, h⟩ := ob_e h
  refine kv_SN0i C [.int x1_44] (c_X9_toOf l D x1_44 r_49 hm_50) (cn_X9_toOf C.ts (hJ.1 _ (List.mem_of_getElem? (i := 7) rfl)) ⟨Nat.le_of_ble_eq_true rfl, Nat.le_of_ble_eq_true rfl⟩) rfl rfl (Nat.le_of_ble_eq_true rfl) dX4_takeBack_36 ⟨Nat.zero_le _, Nat.zero_le _⟩ ?_
  refine kv_istore C (lv2 := [(0, .ref (qp 0)), (1, .int x1_44), (2, .int x2_46), (3, .int r_47), (4, .int r_49)]) [1, 2, 3, 4, 0] dX4_takeBack_39 (by decide) rfl rfl ?_
  refine kv_aload_n C 0 dX4_takeBack_41 rfl rfl ?_
  refine kv_get C (Cn := RX4) (T := TX4) (N := 5) 0 0 hin4 rfl rfl (by decide) (C.ts _ (List.mem_cons_of_mem _ lf_RX4_9)) rfl rfl dX4_takeBack_42 ?_
  refine kv_iconst C 1 dX4_takeBack_45 (by decide) ?_
  refine kv_aload_n C 0 dX4_takeBack_46 rfl rfl ?_
  refine kv_get C (Cn := RX4) (T := TX4) (N := 5) 0 0 hin4 rfl rfl (by decide) (C.ts _ (List.mem_cons_of_mem _ lf_RX4_9)) rfl rfl dX4_takeBack_47 ?_
  refine kv_get C (Cn := RX0) (T := TX0) (N := 11) 4 5 hin0 rfl rfl (by decide) (C.ts _ (List.mem_cons_of_mem _ lf_RX4_82)) rfl rfl dX4_takeBack_50 ?_
  refine kv_isub C dX4_takeBack_53 ?_
  obtain ⟨y_51, ey_51, h⟩ := ol_e h
  refine kv_top ey_51 ?_
  refine kv_put C (Cn := RX0) (T := TX0) (N := 11) (ty := .int) (ws1 := (wPa qp qb ql qw cI cJ y_42 a_moved a_pbefore a_earlier y_51 v_rights v_passed v_halves v_number v_balance a_men a_kinds a_sides a_rays a_knights a_kings a_pawns a_table)) 4 5 hin0 tyX0 tyX0_ok nmX0 rfl rfl (by decide) (C.ts _ (List.mem_cons_of_mem _ lf_RX4_82)) rfl rfl (by decide +kernel) rfl rfl (Nat.le_of_ble_eq_true rfl) rfl dX4_takeBack_54 ?_
  refine kv_aload_n C 0 dX4_takeBack_57 rfl rfl ?_
  refine kv_get C (Cn := RX4) (T := TX4) (N := 5) 0 0 hin4 rfl rfl (by decide) (C.ts _ (List.mem_cons_of_mem _ lf_RX4_9)) rfl rfl dX4_takeBack_58 ?_
  refine kv_dup C dX4_takeBack_61 rfl ?_
  refine kv_get C (Cn := RX0) (T := TX0) (N := 11) 4 9 hin0 rfl rfl (by decide) (C.ts _ (List.mem_cons_of_mem _ lf_RX4_79)) rfl rfl dX4_takeBack_62 ?_
  refine kv_aload_n C 0 dX4_takeBack_65 rfl rfl ?_
  refine kv_get C (Cn := RX4) (T := TX4) (N := 5) 0 0 hin4 rfl rfl (by decide) (C.ts _ (List.mem_cons_of_mem _ lf_RX4_9)) rfl rfl dX4_takeBack_66 ?_
  refine kv_get C (Cn := RX0) (T := TX0) (N := 11) 4 5 hin0 rfl rfl (by decide) (C.ts _ (List.mem_cons_of_mem _ lf_RX4_82)) rfl rfl dX4_takeBack_69 ?_
  refine kv_isub C dX4_takeBack_72 ?_
  obtain ⟨y_52, ey_52, h⟩ := ol_e h
  refine kv_top ey_52 ?_
  refine kv_put C (Cn := RX0) (T := TX0) (N := 11) (ty := .int) (ws1 := (wPa qp qb ql qw cI cJ y_42 a_moved a_pbefore a_earlier y_51 v_rights v_passed v_halves y_52 v_balance a_men a_kinds a_sides a_rays a_knights a_kings a_pawns a_table)) 4 9 hin0 tyX0 tyX0_ok nmX0 rfl rfl (by decide) (C.ts _ (List.mem_cons_of_mem _ lf_RX4_79)) rfl rfl (by decide +kernel) rfl rfl (Nat.le_of_ble_eq_true rfl) rfl dX4_takeBack_73 ?_
  refine kv_aload_n C 0 dX4_takeBack_76 rfl rfl ?_
  refine kv_get C (Cn := RX4) (T := TX4) (N := 5) 0 0 hin4 rfl rfl (by decide) (C.ts _ (List.mem_cons_of_mem _ lf_RX4_9)) rfl rfl dX4_takeBack_77 ?_
  refine kv_iload_n C 2 dX4_takeBack_80 rfl rfl ?_
  obtain ⟨r_53, hm_54, h⟩ := ob_e h
  refine kv_callS0i C [.int x2_46] (c_X4_rightsIn l D x2_46 r_53 hm_54) (cs_X4_rightsIn C.ts lm_RX4_92 ⟨Nat.le_of_ble_eq_true rfl, Nat.le_of_ble_eq_true rfl⟩) rfl rfl (Nat.le_of_ble_eq_true rfl) dX4_takeBack_81 ⟨Nat.zero_le _, Nat.zero_le _⟩ ?_
  refine kv_put C (Cn := RX0) (T := TX0) (N := 11) (ty := .int) (ws1 := (wPa qp qb ql qw cI cJ y_42 a_moved a_pbefore a_earlier y_51 r_53 v_passed v_halves y_52 v_balance a_men a_kinds a_sides a_rays a_knights a_kings a_pawns a_table)) 4 6 hin0 tyX0 tyX0_ok nmX0 rfl rfl (by decide) (C.ts _ (List.mem_cons_of_mem _ lf_RX4_70)) rfl rfl (by decide +kernel) rfl rfl (Nat.le_of_ble_eq_true rfl) rfl dX4_takeBack_84 ?_
  refine kv_aload_n C 0 dX4_takeBack_87 rfl rfl ?_
  refine kv_get C (Cn := RX4) (T := TX4) (N := 5) 0 0 hin4 rfl rfl (by decide) (C.ts _ (List.mem_cons_of_mem _ lf_RX4_9)) rfl rfl dX4_takeBack_88 ?_
  refine kv_iload_n C 2 dX4_takeBack_91 rfl rfl ?_
  obtain ⟨r_55, hm_56, h⟩ := ob_e h
  refine kv_callS0i C [.int x2_46] (c_X4_passedIn l D x2_46 r_55 hm_56) (cs_X4_passedIn C.ts lm_RX4_95 ⟨Nat.le_of_ble_eq_true rfl, Nat.le_of_ble_eq_true rfl⟩) rfl rfl (Nat.le_of_ble_eq_true rfl) dX4_takeBack_92 ⟨Nat.zero_le _, Nat.zero_le _⟩ ?_
  refine kv_put C (Cn := RX0) (T := TX0) (N := 11) (ty := .int) (ws1 := (wPa qp qb ql qw cI cJ y_42 a_moved a_pbefore a_earlier y_51 r_53 r_55 v_halves y_52 v_balance a_men a_kinds a_sides a_rays a_knights a_kings a_pawns a_table)) 4 7 hin0 tyX0 tyX0_ok nmX0 rfl rfl (by decide) (C.ts _ (List.mem_cons_of_mem _ lf_RX4_85)) rfl rfl (by decide +kernel) rfl rfl (Nat.le_of_ble_eq_true rfl) rfl dX4_takeBack_95 ?_
  refine kv_aload_n C 0 dX4_takeBack_98 rfl rfl ?_
  refine kv_get C (Cn := RX4) (T := TX4) (N := 5) 0 0 hin4 rfl rfl (by decide) (C.ts _ (List.mem_cons_of_mem _ lf_RX4_9)) rfl rfl dX4_takeBack_99 ?_
  refine kv_iload_n C 2 dX4_takeBack_102 rfl rfl ?_
  refine kv_bipush C 14 dX4_takeBack_103 (by decide) ?_
  refine kv_ishr C dX4_takeBack_105 ?_
  obtain ⟨y_57, ey_57, h⟩ := ol_e h
  refine kv_top ey_57 ?_
  refine kv_put C (Cn := RX0) (T := TX0) (N := 11) (ty := .int) (ws1 := (wPa qp qb ql qw cI cJ y_42 a_moved a_pbefore a_earlier y_51 r_53 r_55 y_57 y_52 v_balance a_men a_kinds a_sides a_rays a_knights a_kings a_pawns a_table)) 4 8 hin0 tyX0 tyX0_ok nmX0 rfl rfl (by decide) (C.ts _ (List.mem_cons_of_mem _ lf_RX4_76)) rfl rfl (by decide +kernel) rfl rfl (Nat.le_of_ble_eq_true rfl) rfl dX4_takeBack_106 ?_
  refine kv_aload_n C 0 dX4_takeBack_109 rfl rfl ?_
  refine kv_get C (Cn := RX4) (T := TX4) (N := 5) 0 0 hin4 rfl rfl (by decide) (C.ts _ (List.mem_cons_of_mem _ lf_RX4_9)) rfl rfl dX4_takeBack_110 ?_
  refine kv_get C (Cn := RX0) (T := TX0) (N := 11) 4 5 hin0 rfl rfl (by decide) (C.ts _ (List.mem_cons_of_mem _ lf_RX4_82)) rfl rfl dX4_takeBack_113 ?_
  refine kv_if_ne C 123 dX4_takeBack_116 (by decide) (fun c_58 => ?_) (fun c_58 => ?_)
  · have h := oi_f h c_58
    refine kv_iconst C (-1) dX4_takeBack_123 (by decide) ?_
    exact kv_lv [0, 1, 2, 3, 4] (lv2 := [(0, .ref (qp 0)), (1, .int x1_44), (2, .int x2_46), (3, .int r_47), (4, .int r_49)]) rfl (j124 y_42 y_51 r_53 r_55 y_57 y_52 v_balance a_men a_kinds a_sides x1_44 x2_46 r_47 r_49 (-1) h)
  · have h := oi_t h c_58
    refine kv_iconst C 1 dX4_takeBack_119 (by decide) ?_
    refine kv_goto C 124 dX4_takeBack_120 (by decide) ?_
    exact kv_lv [0, 1, 2, 3, 4] (lv2 := [(0, .ref (qp 0)), (1, .int x1_44), (2, .int x2_46), (3, .int r_47), (4, .int r_49)]) rfl (j124 y_42 y_51 r_53 r_55 y_57 y_52 v_balance a_men a_kinds a_sides x1_44 x2_46 r_47 r_49 1 h)
def m_X4_unlikeAt_b23 (a_earlier : Nat → Int32) (a_men : Nat → Int32) (t0 : Int32) : Option (Int32) := some t0
def m_X4_unlikeAt (a_earlier : Nat → Int32) (a_men : Nat → Int32) (p0 : Int32) : Option (Int32) := oin (p0) 64 (oin (p0) 64 (if (a_earlier p0.toNatClampNeg) = (a_men p0.toNatClampNeg) then m_X4_unlikeAt_b23 a_earlier a_men 0 else m_X4_unlikeAt_b23 a_earlier a_men 1))
abbrev rm_X4_unlikeAt : Room := { frames := 0, cells := 0, slots := 0, locals := 0 }
abbrev wy_X4_unlikeAt : List Cond := .code yX4_unlikeAt cX4_unlikeAt 2 (some .int) :: gT
theorem cv_X4_unlikeAt {R : Room} {s : State} {args : Array Value} {own : String} {index : Nat} {w0 : Cond} (hts : ∀ w ∈ w0 :: gT, w.before args s = true) (hl : Cond.methodLink own index yX4_unlikeAt ∈ gT) (hR : 0 + 1 ≤ R.frames ∧ 8 + (2 + 11) + 0 ≤ R.locals) : CallW R s args own RX4 index yX4_unlikeAt cX4_unlikeAt 2 (some .int) wy_X4_unlikeAt rm_X4_unlikeAt 0 0 1 :=
  cwV 1 hts (gT_call w0 (pre := [.methodLink own index yX4_unlikeAt, .instanceMethod yX4_unlikeAt, .selects RX4 yX4_unlikeAt yX4_unlikeAt, .initialized RX4]) (gT_lc hl (gT_lc ly_yX4_unlikeAt (gT_lc lx_yX4_unlikeAt (gT_l1 li_RX4)))) lc_yX4_unlikeAt) rfl rfl rfl (by decide +kernel) hR
set_option maxRecDepth 100000 in
set_option maxHeartbeats 4000000 in
theorem c_X4_unlikeAt (l : Launch) (D : va_G) (qp : Nat → Nat) (qb : Nat → Nat) (ql : Nat → Nat) (qw : Nat → Nat) (cI : ClassId) (cJ : ClassId) (tq : Nat → Nat) (v_made : Int32) (a_moved : Nat → Int32) (a_pbefore : Nat → Int32) (a_earlier : Nat → Int32) (v_mover : Int32) (v_rights : Int32) (v_passed : Int32) (v_halves : Int32) (v_number : Int32) (v_balance : Int32) (a_men : Nat → Int32) (a_kinds : Nat → Int64) (a_sides : Nat → Int64) (a_rays : Nat → Int64) (a_knights : Nat → Int64) (a_kings : Nat → Int64) (a_pawns : Nat → Int64) (a_table : Nat → Int32) (p0 : Int32) (rv : Int32) (hm : m_X4_unlikeAt a_earlier a_men p0 = some rv) : kEi l yX4_unlikeAt wy_X4_unlikeAt rm_X4_unlikeAt D [(cI, .int), (cJ, .long)] tq rv (wPa qp qb ql qw cI cJ v_made a_moved a_pbefore a_earlier v_mover v_rights v_passed v_halves v_number v_balance a_men a_kinds a_sides a_rays a_knights a_kings a_pawns a_table) (wPa qp qb ql qw cI cJ v_made a_moved a_pbefore a_earlier v_mover v_rights v_passed v_halves v_number v_balance a_men a_kinds a_sides a_rays a_knights a_kings a_pawns a_table) [.ref (qp 0), .int p0] := by
  refine kEi.of cX4_unlikeAt 2 (some .int) (by decide) rfl (Or.inl rfl) (Nat.le_of_ble_eq_true rfl) ?_
  intro p e s m below meth c A Q C hJ hret
  have hin0 : ∀ w ∈ wsX00, w ∈ wy_X4_unlikeAt := fun w h => List.mem_cons_of_mem _ (inG0 w h)
  have hin3 : ∀ w ∈ wsX30, w ∈ wy_X4_unlikeAt := fun w h => List.mem_cons_of_mem _ (inG3 w h)
  have hin4 : ∀ w ∈ wsX40, w ∈ wy_X4_unlikeAt := fun w h => List.mem_cons_of_mem _ (inG4 w h)
  have hin7 : ∀ w ∈ wsX70, w ∈ wy_X4_unlikeAt := fun w h => List.mem_cons_of_mem _ (inG7 w h)
  have j23 : ∀ (t0 : Int32), m_X4_unlikeAt_b23  a_earlier a_men t0 = some rv → kv p l e rm_X4_unlikeAt s m ([.ref (qp 0), .int p0] : List Value).toArray below meth c D A 2 0 0 Q (wPa qp qb ql qw cI cJ v_made a_moved a_pbefore a_earlier v_mover v_rights v_passed v_halves v_number v_balance a_men a_kinds a_sides a_rays a_knights a_kings a_pawns a_table) [] 23 [.int t0] := by
    intro t0 h
    unfold m_X4_unlikeAt_b23 at h
    cases h
    exact hret _ _ dX4_unlikeAt_23 (fun q => by cases q)
  unfold m_X4_unlikeAt at hm
  have h := hm
  refine kv_lv [0, 1] (lv2 := [(0, .ref (qp 0)), (1, .int p0)]) rfl ?_
  refine kv_aload_n C 0 dX4_unlikeAt_0 rfl rfl ?_
  refine kv_get C (Cn := RX4) (T := TX4) (N := 5) 0 3 hin4 rfl rfl (by decide) (C.ts _ (List.mem_cons_of_mem _ lf_RX4_22)) rfl rfl dX4_unlikeAt_1 ?_
  refine kv_iload_n C 1 dX4_unlikeAt_4 rfl rfl ?_
  obtain ⟨g_1, h⟩ := oin_e h
  refine kv_iald C 3 0 rfl rfl g_1 dX4_unlikeAt_5 ?_
  refine kv_aload_n C 0 dX4_unlikeAt_6 rfl rfl ?_
  refine kv_get C (Cn := RX4) (T := TX4) (N := 5) 0 0 hin4 rfl rfl (by decide) (C.ts _ (List.mem_cons_of_mem _ lf_RX4_9)) rfl rfl dX4_unlikeAt_7 ?_
  refine kv_get C (Cn := RX0) (T := TX0) (N := 11) 4 2 hin0 rfl rfl (by decide) (C.ts _ (List.mem_cons_of_mem _ lf_RX4_41)) rfl rfl dX4_unlikeAt_10 ?_
  refine kv_iload_n C 1 dX4_unlikeAt_13 rfl rfl ?_
  obtain ⟨g_2, h⟩ := oin_e h
  refine kv_iald C 5 0 rfl rfl g_2 dX4_unlikeAt_14 ?_
  refine kv_icmp_ne C 22 dX4_unlikeAt_15 (by decide) (fun c_3 => ?_) (fun c_3 => ?_)
  · have h := oi_f h c_3
    refine kv_iconst C 1 dX4_unlikeAt_22 (by decide) ?_
    exact kv_lv [] (lv2 := []) rfl (j23 1 h)
  · have h := oi_t h c_3
    refine kv_iconst C 0 dX4_unlikeAt_18 (by decide) ?_
    refine kv_goto C 23 dX4_unlikeAt_19 (by decide) ?_
    exact kv_lv [] (lv2 := []) rfl (j23 0 h)
def m_X4_isThrice_b205 (v_made : Int32) (a_moved : Nat → Int32) (a_pbefore : Nat → Int32) (a_earlier : Nat → Int32) (v_rights : Int32) (v_passed : Int32) (v_halves : Int32) (a_men : Nat → Int32) (t0 : Int32) : Option (Int32 × (Nat → Int32)) := obl (t0) (some (t0, a_earlier))
def m_X4_isThrice_b195 (v_made : Int32) (a_moved : Nat → Int32) (a_pbefore : Nat → Int32) (a_earlier : Nat → Int32) (v_rights : Int32) (v_passed : Int32) (v_halves : Int32) (a_men : Nat → Int32) (x3 : Int32) : Option (Int32 × (Nat → Int32)) := if x3 < 2 then m_X4_isThrice_b205 v_made a_moved a_pbefore a_earlier v_rights v_passed v_halves a_men 0 else m_X4_isThrice_b205 v_made a_moved a_pbefore a_earlier v_rights v_passed v_halves a_men 1
def m_X4_isThrice_b189 (k40 : (Nat → Int32) → Int32 → Int32 → Int32 → Int32 → Option (Int32 × (Nat → Int32))) (v_made : Int32) (a_moved : Nat → Int32) (a_pbefore : Nat → Int32) (a_earlier : Nat → Int32) (v_rights : Int32) (v_passed : Int32) (v_halves : Int32) (a_men : Nat → Int32) (x1 : Int32) (x2 : Int32) (x3 : Int32) (x4 : Int32) : Option (Int32 × (Nat → Int32)) := ol (x4 + 1) fun x4_3 => k40 a_earlier x1 x2 x3 x4_3
def m_X4_isThrice_b40 (k40 : (Nat → Int32) → Int32 → Int32 → Int32 → Int32 → Option (Int32 × (Nat → Int32))) (v_made : Int32) (a_moved : Nat → Int32) (a_pbefore : Nat → Int32) (a_earlier : Nat → Int32) (v_rights : Int32) (v_passed : Int32) (v_halves : Int32) (a_men : Nat → Int32) (x1 : Int32) (x2 : Int32) (x3 : Int32) (x4 : Int32) : Option (Int32 × (Nat → Int32)) := if x1 < x4 then m_X4_isThrice_b195 v_made a_moved a_pbefore a_earlier v_rights v_passed v_halves a_men x3 else oin (v_made - x4) 1027 (ol (a_moved (v_made - x4).toNatClampNeg) fun x5_6 => oin (v_made - x4) 1027 (ol (a_pbefore (v_made - x4).toNatClampNeg) fun x6_8 => ob (m_X4_rightsIn x6_8) fun r_9 => if r_9 = v_rights then ob (m_X9_fromOf x5_6) fun r_12 => ob (m_X9_toOf x5_6) fun r_14 => ob (m_X4_unlikeAt a_earlier a_men r_12) fun r_16 => ob (m_X4_unlikeAt a_earlier a_men r_14) fun r_18 => ol (x2 - (r_16 + r_18)) fun x2_20 => oin (r_14) 64 (ol (a_earlier r_14.toNatClampNeg) fun y_22 => oin (r_12) 64 (ol (upd a_earlier (r_12.toNatClampNeg) y_22) fun a_earlier_24 => oin (r_14) 64 (ol (upd a_earlier_24 (r_14.toNatClampNeg) 0) fun a_earlier_26 => ob (m_X4_unlikeAt a_earlier_26 a_men r_12) fun r_27 => ob (m_X4_unlikeAt a_earlier_26 a_men r_14) fun r_29 => ol (x2_20 + (r_27 + r_29)) fun x2_31 => if x2_31 = 0 then if (x4 - x4 / 2 * 2) = 0 then ob (m_X4_passedIn x6_8) fun r_34 => if r_34 = v_passed then ol (x3 + 1) fun x3_37 => m_X4_isThrice_b189 k40 v_made a_moved a_pbefore a_earlier_26 v_rights v_passed v_halves a_men x1 x2_31 x3_37 x4 else m_X4_isThrice_b189 k40 v_made a_moved a_pbefore a_earlier_26 v_rights v_passed v_halves a_men x1 x2_31 x3 x4 else m_X4_isThrice_b189 k40 v_made a_moved a_pbefore a_earlier_26 v_rights v_passed v_halves a_men x1 x2_31 x3 x4 else m_X4_isThrice_b189 k40 v_made a_moved a_pbefore a_earlier_26 v_rights v_passed v_halves a_men x1 x2_31 x3 x4))) else m_X4_isThrice_b195 v_made a_moved a_pbefore a_earlier v_rights v_passed v_halves a_men x3))
def m_X4_isThrice_l40 (v_made : Int32) (a_moved : Nat → Int32) (a_pbefore : Nat → Int32) (v_rights : Int32) (v_passed : Int32) (v_halves : Int32) (a_men : Nat → Int32) (n : Nat) : (Nat → Int32) → Int32 → Int32 → Int32 → Int32 → Option (Int32 × (Nat → Int32)) := fz (fun _ _ _ _ _ => none) (fun k40 a_earlier x1 x2 x3 x4 => m_X4_isThrice_b40 k40 v_made a_moved a_pbefore a_earlier v_rights v_passed v_halves a_men x1 x2 x3 x4) n
def m_X4_isThrice (v_made : Int32) (a_moved : Nat → Int32) (a_pbefore : Nat → Int32) (a_earlier : Nat → Int32) (v_rights : Int32) (v_passed : Int32) (v_halves : Int32) (a_men : Nat → Int32) : Option (Int32 × (Nat → Int32)) := ol (va_cpy a_men a_earlier 0 0 64) fun a_earlier_38 => ob (m_J9_min_7cf53 v_made v_halves) fun r_39 => m_X4_isThrice_l40 v_made a_moved a_pbefore v_rights v_passed v_halves a_men kF a_earlier_38 r_39 0 0 1
abbrev rm_X4_isThrice : Room := { frames := 1, cells := 0, slots := 0, locals := 100 }
abbrev wy_X4_isThrice : List Cond := .code yX4_isThrice cX4_isThrice 9 (some .boolean) :: gT
theorem cv_X4_isThrice {R : Room} {s : State} {args : Array Value} {own : String} {index : Nat} {w0 : Cond} (hts : ∀ w ∈ w0 :: gT, w.before args s = true) (hl : Cond.methodLink own index yX4_isThrice ∈ gT) (hR : 1 + 1 ≤ R.frames ∧ 8 + (9 + 11) + 100 ≤ R.locals) : CallW R s args own RX4 index yX4_isThrice cX4_isThrice 9 (some .boolean) wy_X4_isThrice rm_X4_isThrice 0 0 0 :=
  cwV 0 hts (gT_call w0 (pre := [.methodLink own index yX4_isThrice, .instanceMethod yX4_isThrice, .selects RX4 yX4_isThrice yX4_isThrice, .initialized RX4]) (gT_lc hl (gT_lc ly_yX4_isThrice (gT_lc lx_yX4_isThrice (gT_l1 li_RX4)))) lc_yX4_isThrice) rfl rfl rfl (by decide +kernel) hR
set_option maxRecDepth 100000 in
set_option maxHeartbeats 4000000 in
theorem c_X4_isThrice (l : Launch) (D : va_G) (qp : Nat → Nat) (qb : Nat → Nat) (ql : Nat → Nat) (qw : Nat → Nat) (cI : ClassId) (cJ : ClassId) (tq : Nat → Nat) (v_made : Int32) (a_moved : Nat → Int32) (a_pbefore : Nat → Int32) (a_earlier : Nat → Int32) (v_mover : Int32) (v_rights : Int32) (v_passed : Int32) (v_halves : Int32) (v_number : Int32) (v_balance : Int32) (a_men : Nat → Int32) (a_kinds : Nat → Int64) (a_sides : Nat → Int64) (a_rays : Nat → Int64) (a_knights : Nat → Int64) (a_kings : Nat → Int64) (a_pawns : Nat → Int64) (a_table : Nat → Int32) (rv : Int32) (a_earlier' : Nat → Int32) (hm : m_X4_isThrice v_made a_moved a_pbefore a_earlier v_rights v_passed v_halves a_men = some (rv, a_earlier')) : kEi l yX4_isThrice wy_X4_isThrice rm_X4_isThrice D [(cI, .int), (cJ, .long)] tq rv (wPa qp qb ql qw cI cJ v_made a_moved a_pbefore a_earlier v_mover v_rights v_passed v_halves v_number v_balance a_men a_kinds a_sides a_rays a_knights a_kings a_pawns a_table) (wPa qp qb ql qw cI cJ v_made a_moved a_pbefore a_earlier' v_mover v_rights v_passed v_halves v_number v_balance a_men a_kinds a_sides a_rays a_knights a_kings a_pawns a_table) [.ref (qp 0)] := by
  refine kEi.of cX4_isThrice 9 (some .boolean) (by decide) rfl (Or.inr rfl) (Nat.le_of_ble_eq_true rfl) ?_
  intro p e s m below meth c A Q C hJ hret
  have hin0 : ∀ w ∈ wsX00, w ∈ wy_X4_isThrice := fun w h => List.mem_cons_of_mem _ (inG0 w h)
  have hin3 : ∀ w ∈ wsX30, w ∈ wy_X4_isThrice := fun w h => List.mem_cons_of_mem _ (inG3 w h)
  have hin4 : ∀ w ∈ wsX40, w ∈ wy_X4_isThrice := fun w h => List.mem_cons_of_mem _ (inG4 w h)
  have hin7 : ∀ w ∈ wsX70, w ∈ wy_X4_isThrice := fun w h => List.mem_cons_of_mem _ (inG7 w h)
  have j205 : ∀ (a_earlier : Nat → Int32) (t0 : Int32), m_X4_isThrice_b205  v_made a_moved a_pbefore a_earlier v_rights v_passed v_halves a_men t0 = some (rv, a_earlier') → kv p l e rm_X4_isThrice s m ([.ref (qp 0)] : List Value).toArray below meth c D A 9 0 0 Q (wPa qp qb ql qw cI cJ v_made a_moved a_pbefore a_earlier v_mover v_rights v_passed v_halves v_number v_balance a_men a_kinds a_sides a_rays a_knights a_kings a_pawns a_table) [] 205 [.int t0] := by
    intro a_earlier t0 h
    unfold m_X4_isThrice_b205 at h
    obtain ⟨g_1, h⟩ := obl_e h
    cases h
    exact hret _ _ dX4_isThrice_205 (fun _ => g_1)
  have j195 : ∀ (a_earlier : Nat → Int32) (x3 : Int32), m_X4_isThrice_b195  v_made a_moved a_pbefore a_earlier v_rights v_passed v_halves a_men x3 = some (rv, a_earlier') → kv p l e rm_X4_isThrice s m ([.ref (qp 0)] : List Value).toArray below meth c D A 9 0 0 Q (wPa qp qb ql qw cI cJ v_made a_moved a_pbefore a_earlier v_mover v_rights v_passed v_halves v_number v_balance a_men a_kinds a_sides a_rays a_knights a_kings a_pawns a_table) [(3, .int x3)] 195 [] := by
    intro a_earlier x3 h
    unfold m_X4_isThrice_b195 at h
    refine kv_iload_n C 0 dX4_isThrice_195 rfl rfl ?_
    refine kv_iconst C 2 dX4_isThrice_196 (by decide) ?_
    refine kv_icmp_lt C 204 dX4_isThrice_197 (by decide) (fun c_2 => ?_) (fun c_2 => ?_)
    · have h := oi_t h c_2
      refine kv_iconst C 0 dX4_isThrice_204 (by decide) ?_
      exact kv_lv [] (lv2 := []) rfl (j205 a_earlier 0 h)
    · have h := oi_f h c_2
      refine kv_iconst C 1 dX4_isThrice_200 (by decide) ?_
      refine kv_goto C 205 dX4_isThrice_201 (by decide) ?_
      exact kv_lv [] (lv2 := []) rfl (j205 a_earlier 1 h)
  have l40 : ∀ (n40 : Nat) (a_earlier : Nat → Int32) (x1 : Int32) (x2 : Int32) (x3 : Int32) (x4 : Int32), m_X4_isThrice_l40  v_made a_moved a_pbefore v_rights v_passed v_halves a_men n40 a_earlier x1 x2 x3 x4 = some (rv, a_earlier') → kv p l e rm_X4_isThrice s m ([.ref (qp 0)] : List Value).toArray below meth c D A 9 0 0 Q (wPa qp qb ql qw cI cJ v_made a_moved a_pbefore a_earlier v_mover v_rights v_passed v_halves v_number v_balance a_men a_kinds a_sides a_rays a_knights a_kings a_pawns a_table) [(0, .ref (qp 0)), (1, .int x1), (2, .int x2), (3, .int x3), (4, .int x4)] 40 [] := by
    intro n40
    induction n40 with
    | zero =>
      intro a_earlier x1 x2 x3 x4 h
      exact kv_no h
    | succ n40 ih40 =>
      have j189 : ∀ (a_earlier : Nat → Int32) (x1 : Int32) (x2 : Int32) (x3 : Int32) (x4 : Int32), m_X4_isThrice_b189 (m_X4_isThrice_l40  v_made a_moved a_pbefore v_rights v_passed v_halves a_men n40) v_made a_moved a_pbefore a_earlier v_rights v_passed v_halves a_men x1 x2 x3 x4 = some (rv, a_earlier') → kv p l e rm_X4_isThrice s m ([.ref (qp 0)] : List Value).toArray below meth c D A 9 0 0 Q (wPa qp qb ql qw cI cJ v_made a_moved a_pbefore a_earlier v_mover v_rights v_passed v_halves v_number v_balance a_men a_kinds a_sides a_rays a_knights a_kings a_pawns a_table) [(0, .ref (qp 0)), (1, .int x1), (2, .int x2), (3, .int x3), (4, .int x4)] 189 [] := by
        intro a_earlier x1 x2 x3 x4 h
        unfold m_X4_isThrice_b189 at h
        obtain ⟨x4_3, ex4_3, h⟩ := ol_e h
        refine kv_iinc C (v := x4_3) (lv2 := [(0, .ref (qp 0)), (1, .int x1), (2, .int x2), (3, .int x3), (4, .int x4_3)]) 4 [1, 2, 3, 4, 0] dX4_isThrice_189 rfl ex4_3.symm (by decide) rfl rfl ?_
        refine kv_goto C 40 dX4_isThrice_192 (by decide) ?_
        exact kv_lv [0, 1, 2, 3, 4] (lv2 := [(0, .ref (qp 0)), (1, .int x1), (2, .int x2), (3, .int x3), (4, .int x4_3)]) rfl (ih40 a_earlier x1 x2 x3 x4_3 h)
      intro a_earlier x1 x2 x3 x4 h
      replace h : m_X4_isThrice_b40  (m_X4_isThrice_l40  v_made a_moved a_pbefore v_rights v_passed v_halves a_men n40) v_made a_moved a_pbefore a_earlier v_rights v_passed v_halves a_men x1 x2 x3 x4 = some (rv, a_earlier') := h
      unfold m_X4_isThrice_b40 at h
      refine kv_iload C 4 dX4_isThrice_40 rfl ?_
      refine kv_iload_n C 1 dX4_isThrice_42 rfl rfl ?_
      refine kv_icmp_gt C 195 dX4_isThrice_43 (by decide) (fun c_4 => ?_) (fun c_4 => ?_)
      · have h := oi_t h c_4
        exact kv_lv [3] (lv2 := [(3, .int x3)]) rfl (j195 a_earlier x3 h)
      · have h := oi_f h c_4
        refine kv_aload_n C 0 dX4_isThrice_46 rfl rfl ?_
        refine kv_get C (Cn := RX4) (T := TX4) (N := 5) 0 1 hin4 rfl rfl (by decide) (C.ts _ (List.mem_cons_of_mem _ lf_RX4_15)) rfl rfl dX4_isThrice_47 ?_
        refine kv_aload_n C 0 dX4_isThrice_50 rfl rfl ?_
        refine kv_get C (Cn := RX4) (T := TX4) (N := 5) 0 4 hin4 rfl rfl (by decide) (C.ts _ (List.mem_cons_of_mem _ lf_RX4_25)) rfl rfl dX4_isThrice_51 ?_
        refine kv_iload C 4 dX4_isThrice_54 rfl ?_
        refine kv_isub C dX4_isThrice_56 ?_
        obtain ⟨g_5, h⟩ := oin_e h
        refine kv_iald C 1 0 rfl rfl g_5 dX4_isThrice_57 ?_
        obtain ⟨x5_6, ex5_6, h⟩ := ol_e h
        refine kv_top ex5_6 ?_
        refine kv_istore C (lv2 := [(0, .ref (qp 0)), (1, .int x1), (2, .int x2), (3, .int x3), (4, .int x4), (5, .int x5_6)]) [1, 2, 3, 4, 5, 0] dX4_isThrice_58 (by decide) rfl rfl ?_
        refine kv_aload_n C 0 dX4_isThrice_60 rfl rfl ?_
        refine kv_get C (Cn := RX4) (T := TX4) (N := 5) 0 2 hin4 rfl rfl (by decide) (C.ts _ (List.mem_cons_of_mem _ lf_RX4_19)) rfl rfl dX4_isThrice_61 ?_
        refine kv_aload_n C 0 dX4_isThrice_64 rfl rfl ?_
        refine kv_get C (Cn := RX4) (T := TX4) (N := 5) 0 4 hin4 rfl rfl (by decide) (C.ts _ (List.mem_cons_of_mem _ lf_RX4_25)) rfl rfl dX4_isThrice_65 ?_
        refine kv_iload C 4 dX4_isThrice_68 rfl ?_
        refine kv_isub C dX4_isThrice_70 ?_
        obtain ⟨g_7, h⟩ := oin_e h
        refine kv_iald C 2 0 rfl rfl g_7 dX4_isThrice_71 ?_
        obtain ⟨x6_8, ex6_8, h⟩ := ol_e h
        refine kv_top ex6_8 ?_
        refine kv_istore C (lv2 := [(0, .ref (qp 0)), (1, .int x1), (2, .int x2), (3, .int x3), (4, .int x4), (5, .int x5_6), (6, .int x6_8)]) [1, 2, 3, 4, 5, 6, 0] dX4_isThrice_72 (by decide) rfl rfl ?_
        refine kv_iload C 6 dX4_isThrice_74 rfl ?_
        obtain ⟨r_9, hm_10, h⟩ := ob_e h
        refine kv_callS0i C [.int x6_8] (c_X4_rightsIn l D x6_8 r_9 hm_10) (cs_X4_rightsIn C.ts lm_RX4_92 ⟨Nat.le_of_ble_eq_true rfl, Nat.le_of_ble_eq_true rfl⟩) rfl rfl (Nat.le_of_ble_eq_true rfl) dX4_isThrice_76 ⟨Nat.zero_le _, Nat.zero_le _⟩ ?_
        refine kv_aload_n C 0 dX4_isThrice_79 rfl rfl ?_
        refine kv_get C (Cn := RX4) (T := TX4) (N := 5) 0 0 hin4 rfl rfl (by decide) (C.ts _ (List.mem_cons_of_mem _ lf_RX4_9)) rfl rfl dX4_isThrice_80 ?_
        refine kv_get C (Cn := RX0) (T := TX0) (N := 11) 4 6 hin0 rfl rfl (by decide) (C.ts _ (List.mem_cons_of_mem _ lf_RX4_70)) rfl rfl dX4_isThrice_83 ?_
        refine kv_icmp_eq C 92 dX4_isThrice_86 (by decide) (fun c_11 => ?_) (fun c_11 => ?_)
        · have h := oi_t h c_11
          refine kv_iload C 5 dX4_isThrice_92 rfl ?_
          obtain ⟨r_12, hm_13, h⟩ := ob_e h
          refine kv_SN0i C [.int x5_6] (c_X9_fromOf l D x5_6 r_12 hm_13) (cn_X9_fromOf C.ts (hJ.1 _ (List.mem_of_getElem? (i := 6) rfl)) ⟨Nat.le_of_ble_eq_true rfl, Nat.le_of_ble_eq_true rfl⟩) rfl rfl (Nat.le_of_ble_eq_true rfl) dX4_isThrice_94 ⟨Nat.zero_le _, Nat.zero_le _⟩ ?_
          refine kv_istore C (lv2 := [(0, .ref (qp 0)), (1, .int x1), (2, .int x2), (3, .int x3), (4, .int x4), (5, .int x5_6), (6, .int x6_8), (7, .int r_12)]) [1, 2, 3, 4, 5, 6, 7, 0] dX4_isThrice_97 (by decide) rfl rfl ?_
          refine kv_iload C 5 dX4_isThrice_99 rfl ?_
          obtain ⟨r_14, hm_15, h⟩ := ob_e h
          refine kv_SN0i C [.int x5_6] (c_X9_toOf l D x5_6 r_14 hm_15) (cn_X9_toOf C.ts (hJ.1 _ (List.mem_of_getElem? (i := 7) rfl)) ⟨Nat.le_of_ble_eq_true rfl, Nat.le_of_ble_eq_true rfl⟩) rfl rfl (Nat.le_of_ble_eq_true rfl) dX4_isThrice_101 ⟨Nat.zero_le _, Nat.zero_le _⟩ ?_
          refine kv_istore C (lv2 := [(0, .ref (qp 0)), (1, .int x1), (2, .int x2), (3, .int x3), (4, .int x4), (6, .int x6_8), (7, .int r_12), (8, .int r_14)]) [1, 2, 3, 4, 5, 7, 8, 0] dX4_isThrice_104 (by decide) rfl rfl ?_
          refine kv_iload_n C 2 dX4_isThrice_106 rfl rfl ?_
          refine kv_aload_n C 0 dX4_isThrice_107 rfl rfl ?_
          refine kv_iload C 6 dX4_isThrice_108 rfl ?_
          obtain ⟨r_16, hm_17, h⟩ := ob_e h
          refine kv_eVi (ws2 := (wPa qp qb ql qw cI cJ v_made a_moved a_pbefore a_earlier v_mover v_rights v_passed v_halves v_number v_balance a_men a_kinds a_sides a_rays a_knights a_kings a_pawns a_table)) C hJ [.int r_12] 0 (c_X4_unlikeAt l D qp qb ql qw cI cJ tq v_made a_moved a_pbefore a_earlier v_mover v_rights v_passed v_halves v_number v_balance a_men a_kinds a_sides a_rays a_knights a_kings a_pawns a_table r_12 r_16 hm_17) (cv_X4_unlikeAt C.ts lm_RX4_107 ⟨Nat.le_of_ble_eq_true rfl, Nat.le_of_ble_eq_true rfl⟩) rfl rfl [0, 1, 2, 3, 4, 5, 6, 7, 8, 9, 10, 11, 12, 13, 14] [] [0, 1] [0, 1, 2, 3, 4, 5, 6, 7, 8, 9, 10, 11, 12, 13, 14] rfl rfl rfl rfl rfl (by decide) rfl rfl rfl (Nat.le_of_ble_eq_true rfl) dX4_isThrice_110 ⟨Nat.zero_le _, Nat.zero_le _⟩ rfl rfl rfl ?_
          refine kv_aload_n C 0 dX4_isThrice_113 rfl rfl ?_
          refine kv_iload C 7 dX4_isThrice_114 rfl ?_
          obtain ⟨r_18, hm_19, h⟩ := ob_e h
          refine kv_eVi (ws2 := (wPa qp qb ql qw cI cJ v_made a_moved a_pbefore a_earlier v_mover v_rights v_passed v_halves v_number v_balance a_men a_kinds a_sides a_rays a_knights a_kings a_pawns a_table)) C hJ [.int r_14] 0 (c_X4_unlikeAt l D qp qb ql qw cI cJ tq v_made a_moved a_pbefore a_earlier v_mover v_rights v_passed v_halves v_number v_balance a_men a_kinds a_sides a_rays a_knights a_kings a_pawns a_table r_14 r_18 hm_19) (cv_X4_unlikeAt C.ts lm_RX4_107 ⟨Nat.le_of_ble_eq_true rfl, Nat.le_of_ble_eq_true rfl⟩) rfl rfl [0, 1, 2, 3, 4, 5, 6, 7, 8, 9, 10, 11, 12, 13, 14] [] [0, 1] [0, 1, 2, 3, 4, 5, 6, 7, 8, 9, 10, 11, 12, 13, 14] rfl rfl rfl rfl rfl (by decide) rfl rfl rfl (Nat.le_of_ble_eq_true rfl) dX4_isThrice_116 ⟨Nat.zero_le _, Nat.zero_le _⟩ rfl rfl rfl ?_
          refine kv_iadd C dX4_isThrice_119 ?_
          refine kv_isub C dX4_isThrice_120 ?_
          obtain ⟨x2_20, ex2_20, h⟩ := ol_e h
          refine kv_top ex2_20 ?_
          refine kv_istore_n C (lv2 := [(0, .ref (qp 0)), (1, .int x1), (2, .int x2_20), (3, .int x3), (4, .int x4), (6, .int x6_8), (7, .int r_12), (8, .int r_14)]) [1, 2, 0, 3, 4, 5, 6, 7] dX4_isThrice_121 rfl (by decide) rfl rfl ?_
          refine kv_aload_n C 0 dX4_isThrice_122 rfl rfl ?_
          refine kv_get C (Cn := RX4) (T := TX4) (N := 5) 0 3 hin4 rfl rfl (by decide) (C.ts _ (List.mem_cons_of_mem _ lf_RX4_22)) rfl rfl dX4_isThrice_123 ?_
          refine kv_iload C 6 dX4_isThrice_126 rfl ?_
          refine kv_aload_n C 0 dX4_isThrice_128 rfl rfl ?_
          refine kv_get C (Cn := RX4) (T := TX4) (N := 5) 0 3 hin4 rfl rfl (by decide) (C.ts _ (List.mem_cons_of_mem _ lf_RX4_22)) rfl rfl dX4_isThrice_129 ?_
          refine kv_iload C 7 dX4_isThrice_132 rfl ?_
          obtain ⟨g_21, h⟩ := oin_e h
          refine kv_iald C 3 0 rfl rfl g_21 dX4_isThrice_134 ?_
          obtain ⟨y_22, ey_22, h⟩ := ol_e h
          refine kv_top ey_22 ?_
          obtain ⟨g_23, h⟩ := oin_e h
          obtain ⟨a_earlier_24, ea_earlier_24, h⟩ := ol_e h
          refine kv_iast2 C (ws1 := (wPa qp qb ql qw cI cJ v_made a_moved a_pbefore a_earlier_24 v_mover v_rights v_passed v_halves v_number v_balance a_men a_kinds a_sides a_rays a_knights a_kings a_pawns a_table)) 3 0 rfl rfl g_23 ea_earlier_24 rfl dX4_isThrice_135 ?_
          refine kv_aload_n C 0 dX4_isThrice_136 rfl rfl ?_
          refine kv_get C (Cn := RX4) (T := TX4) (N := 5) 0 3 hin4 rfl rfl (by decide) (C.ts _ (List.mem_cons_of_mem _ lf_RX4_22)) rfl rfl dX4_isThrice_137 ?_
          refine kv_iload C 7 dX4_isThrice_140 rfl ?_
          refine kv_iconst C 0 dX4_isThrice_142 (by decide) ?_
          obtain ⟨g_25, h⟩ := oin_e h
          obtain ⟨a_earlier_26, ea_earlier_26, h⟩ := ol_e h
          refine kv_iast2 C (ws1 := (wPa qp qb ql qw cI cJ v_made a_moved a_pbefore a_earlier_26 v_mover v_rights v_passed v_halves v_number v_balance a_men a_kinds a_sides a_rays a_knights a_kings a_pawns a_table)) 3 0 rfl rfl g_25 ea_earlier_26 rfl dX4_isThrice_143 ?_
          refine kv_iload_n C 2 dX4_isThrice_144 rfl rfl ?_
          refine kv_aload_n C 0 dX4_isThrice_145 rfl rfl ?_
          refine kv_iload C 6 dX4_isThrice_146 rfl ?_
          obtain ⟨r_27, hm_28, h⟩ := ob_e h
          refine kv_eVi (ws2 := (wPa qp qb ql qw cI cJ v_made a_moved a_pbefore a_earlier_26 v_mover v_rights v_passed v_halves v_number v_balance a_men a_kinds a_sides a_rays a_knights a_kings a_pawns a_table)) C hJ [.int r_12] 0 (c_X4_unlikeAt l D qp qb ql qw cI cJ tq v_made a_moved a_pbefore a_earlier_26 v_mover v_rights v_passed v_halves v_number v_balance a_men a_kinds a_sides a_rays a_knights a_kings a_pawns a_table r_12 r_27 hm_28) (cv_X4_unlikeAt C.ts lm_RX4_107 ⟨Nat.le_of_ble_eq_true rfl, Nat.le_of_ble_eq_true rfl⟩) rfl rfl [0, 1, 2, 3, 4, 5, 6, 7, 8, 9, 10, 11, 12, 13, 14] [] [0, 1] [0, 1, 2, 3, 4, 5, 6, 7, 8, 9, 10, 11, 12, 13, 14] rfl rfl rfl rfl rfl (by decide) rfl rfl rfl (Nat.le_of_ble_eq_true rfl) dX4_isThrice_148 ⟨Nat.zero_le _, Nat.zero_le _⟩ rfl rfl rfl ?_
          refine kv_aload_n C 0 dX4_isThrice_151 rfl rfl ?_
          refine kv_iload C 7 dX4_isThrice_152 rfl ?_
          obtain ⟨r_29, hm_30, h⟩ := ob_e h
          refine kv_eVi (ws2 := (wPa qp qb ql qw cI cJ v_made a_moved a_pbefore a_earlier_26 v_mover v_rights v_passed v_halves v_number v_balance a_men a_kinds a_sides a_rays a_knights a_kings a_pawns a_table)) C hJ [.int r_14] 0 (c_X4_unlikeAt l D qp qb ql qw cI cJ tq v_made a_moved a_pbefore a_earlier_26 v_mover v_rights v_passed v_halves v_number v_balance a_men a_kinds a_sides a_rays a_knights a_kings a_pawns a_table r_14 r_29 hm_30) (cv_X4_unlikeAt C.ts lm_RX4_107 ⟨Nat.le_of_ble_eq_true rfl, Nat.le_of_ble_eq_true rfl⟩) rfl rfl [0, 1, 2, 3, 4, 5, 6, 7, 8, 9, 10, 11, 12, 13, 14] [] [0, 1] [0, 1, 2, 3, 4, 5, 6, 7, 8, 9, 10, 11, 12, 13, 14] rfl rfl rfl rfl rfl (by decide) rfl rfl rfl (Nat.le_of_ble_eq_true rfl) dX4_isThrice_154 ⟨Nat.zero_le _, Nat.zero_le _⟩ rfl rfl rfl ?_
          refine kv_iadd C dX4_isThrice_157 ?_
          refine kv_iadd C dX4_isThrice_158 ?_
          obtain ⟨x2_31, ex2_31, h⟩ := ol_e h
          refine kv_top ex2_31 ?_
          refine kv_istore_n C (lv2 := [(0, .ref (qp 0)), (1, .int x1), (2, .int x2_31), (3, .int x3), (4, .int x4), (6, .int x6_8)]) [1, 2, 0, 3, 4, 5] dX4_isThrice_159 rfl (by decide) rfl rfl ?_
          refine kv_iload_n C 2 dX4_isThrice_160 rfl rfl ?_
          refine kv_if_ne C 189 dX4_isThrice_161 (by decide) (fun c_32 => ?_) (fun c_32 => ?_)
          · have h := oi_f h c_32
            exact kv_lv [0, 1, 2, 3, 4] (lv2 := [(0, .ref (qp 0)), (1, .int x1), (2, .int x2_31), (3, .int x3), (4, .int x4)]) rfl (j189 a_earlier_26 x1 x2_31 x3 x4 h)
          · have h := oi_t h c_32
            refine kv_iload C 4 dX4_isThrice_164 rfl ?_
            refine kv_iconst C 2 dX4_isThrice_166 (by decide) ?_
            refine kv_irem C dX4_isThrice_167 (by decide) ?_
            refine kv_if_ne C 189 dX4_isThrice_168 (by decide) (fun c_33 => ?_) (fun c_33 => ?_)
            · have h := oi_f h c_33
              exact kv_lv [0, 1, 2, 3, 4] (lv2 := [(0, .ref (qp 0)), (1, .int x1), (2, .int x2_31), (3, .int x3), (4, .int x4)]) rfl (j189 a_earlier_26 x1 x2_31 x3 x4 h)
            · have h := oi_t h c_33
              refine kv_iload C 5 dX4_isThrice_171 rfl ?_
              obtain ⟨r_34, hm_35, h⟩ := ob_e h
              refine kv_callS0i C [.int x6_8] (c_X4_passedIn l D x6_8 r_34 hm_35) (cs_X4_passedIn C.ts lm_RX4_95 ⟨Nat.le_of_ble_eq_true rfl, Nat.le_of_ble_eq_true rfl⟩) rfl rfl (Nat.le_of_ble_eq_true rfl) dX4_isThrice_173 ⟨Nat.zero_le _, Nat.zero_le _⟩ ?_
              refine kv_aload_n C 0 dX4_isThrice_176 rfl rfl ?_
              refine kv_get C (Cn := RX4) (T := TX4) (N := 5) 0 0 hin4 rfl rfl (by decide) (C.ts _ (List.mem_cons_of_mem _ lf_RX4_9)) rfl rfl dX4_isThrice_177 ?_
              refine kv_get C (Cn := RX0) (T := TX0) (N := 11) 4 7 hin0 rfl rfl (by decide) (C.ts _ (List.mem_cons_of_mem _ lf_RX4_85)) rfl rfl dX4_isThrice_180 ?_
              refine kv_icmp_ne C 189 dX4_isThrice_183 (by decide) (fun c_36 => ?_) (fun c_36 => ?_)
              · have h := oi_f h c_36
                exact kv_lv [0, 1, 2, 3, 4] (lv2 := [(0, .ref (qp 0)), (1, .int x1), (2, .int x2_31), (3, .int x3), (4, .int x4)]) rfl (j189 a_earlier_26 x1 x2_31 x3 x4 h)
              · have h := oi_t h c_36
                obtain ⟨x3_37, ex3_37, h⟩ := ol_e h
                refine kv_iinc C (v := x3_37) (lv2 := [(0, .ref (qp 0)), (1, .int x1), (2, .int x2_31), (3, .int x3_37), (4, .int x4)]) 3 [1, 2, 3, 0, 4] dX4_isThrice_186 rfl ex3_37.symm (by decide) rfl rfl ?_
                exact kv_lv [0, 1, 2, 3, 4] (lv2 := [(0, .ref (qp 0)), (1, .int x1), (2, .int x2_31), (3, .int x3_37), (4, .int x4)]) rfl (j189 a_earlier_26 x1 x2_31 x3_37 x4 h)
        · have h := oi_f h c_11
          refine kv_goto C 195 dX4_isThrice_89 (by decide) ?_
          exact kv_lv [3] (lv2 := [(3, .int x3)]) rfl (j195 a_earlier x3 h)
  unfold m_X4_isThrice at hm
  have h := hm
  refine kv_lv [0] (lv2 := [(0, .ref (qp 0))]) rfl ?_
  refine kv_aload_n C 0 dX4_isThrice_0 rfl rfl ?_
  refine kv_get C (Cn := RX4) (T := TX4) (N := 5) 0 0 hin4 rfl rfl (by decide) (C.ts _ (List.mem_cons_of_mem _ lf_RX4_9)) rfl rfl dX4_isThrice_1 ?_
  refine kv_get C (Cn := RX0) (T := TX0) (N := 11) 4 2 hin0 rfl rfl (by decide) (C.ts _ (List.mem_cons_of_mem _ lf_RX4_41)) rfl rfl dX4_isThrice_4 ?_
  refine kv_iconst C 0 dX4_isThrice_7 (by decide) ?_
  refine kv_aload_n C 0 dX4_isThrice_8 rfl rfl ?_
  refine kv_get C (Cn := RX4) (T := TX4) (N := 5) 0 3 hin4 rfl rfl (by decide) (C.ts _ (List.mem_cons_of_mem _ lf_RX4_22)) rfl rfl dX4_isThrice_9 ?_
  refine kv_iconst C 0 dX4_isThrice_12 (by decide) ?_
  refine kv_bipush C 64 dX4_isThrice_13 (by decide) ?_
  obtain ⟨a_earlier_38, ea_earlier_38, h⟩ := ol_e h
  refine kv_copyi C (ws1 := (wPa qp qb ql qw cI cJ v_made a_moved a_pbefore a_earlier_38 v_mover v_rights v_passed v_halves v_number v_balance a_men a_kinds a_sides a_rays a_knights a_kings a_pawns a_table)) 5 3 0 64 (C.ts _ (List.mem_cons_of_mem _ lcp_RX4_98)) (C.ts _ (List.mem_cons_of_mem _ lcp_nat)) (C.ts _ (List.mem_cons_of_mem _ lcp_stat)) (C.ts _ (List.mem_cons_of_mem _ lcp_init)) rfl rfl rfl (by decide) (by decide) (by decide) ea_earlier_38 rfl (Nat.le_of_ble_eq_true rfl) (by decide +kernel) dX4_isThrice_15 ?_
  refine kv_aload_n C 0 dX4_isThrice_18 rfl rfl ?_
  refine kv_get C (Cn := RX4) (T := TX4) (N := 5) 0 4 hin4 rfl rfl (by decide) (C.ts _ (List.mem_cons_of_mem _ lf_RX4_25)) rfl rfl dX4_isThrice_19 ?_
  refine kv_aload_n C 0 dX4_isThrice_22 rfl rfl ?_
  refine kv_get C (Cn := RX4) (T := TX4) (N := 5) 0 0 hin4 rfl rfl (by decide) (C.ts _ (List.mem_cons_of_mem _ lf_RX4_9)) rfl rfl dX4_isThrice_23 ?_
  refine kv_get C (Cn := RX0) (T := TX0) (N := 11) 4 8 hin0 rfl rfl (by decide) (C.ts _ (List.mem_cons_of_mem _ lf_RX4_76)) rfl rfl dX4_isThrice_26 ?_
  obtain ⟨r_39, hm_40, h⟩ := ob_e h
  refine kv_callS0i C [.int v_made, .int v_halves] (c_J9_min_7cf53 l D v_made v_halves r_39 hm_40) (cs_J9_min_7cf53 C.ts lm_RX4_104 ⟨Nat.le_of_ble_eq_true rfl, Nat.le_of_ble_eq_true rfl⟩) rfl rfl (Nat.le_of_ble_eq_true rfl) dX4_isThrice_29 ⟨Nat.zero_le _, Nat.zero_le _⟩ ?_
  refine kv_istore_n C (lv2 := [(0, .ref (qp 0)), (1, .int r_39)]) [1, 0] dX4_isThrice_32 rfl (by decide) rfl rfl ?_
  refine kv_iconst C 0 dX4_isThrice_33 (by decide) ?_
  refine kv_istore_n C (lv2 := [(0, .ref (qp 0)), (1, .int r_39), (2, .int 0)]) [1, 2, 0] dX4_isThrice_34 rfl (by decide) rfl rfl ?_
  refine kv_iconst C 0 dX4_isThrice_35 (by decide) ?_
  refine kv_istore_n C (lv2 := [(0, .ref (qp 0)), (1, .int r_39), (2, .int 0), (3, .int 0)]) [1, 2, 3, 0] dX4_isThrice_36 rfl (by decide) rfl rfl ?_
  refine kv_iconst C 1 dX4_isThrice_37 (by decide) ?_
  refine kv_istore C (lv2 := [(0, .ref (qp 0)), (1, .int r_39), (2, .int 0), (3, .int 0), (4, .int 1)]) [1, 2, 3, 4, 0] dX4_isThrice_38 (by decide) rfl rfl ?_
  exact kv_lv [0, 1, 2, 3, 4] (lv2 := [(0, .ref (qp 0)), (1, .int r_39), (2, .int 0), (3, .int 0), (4, .int 1)]) rfl (l40 kF a_earlier_38 r_39 0 0 1 h)
