/-! The class: X8_add, X8_addFree, X8_addRow, X8_addRights, X8_addPassed, X8_addNumber, X8_put, X5_next, X5_skip, X5_nextDigit, X5_manOf, X5_readRow, X5_readMen, X5_readMover, X5_readRights, X5_readPassed, X5_readUpwards, X5_readHalves, X5_readNumber, X5_readAll, X5_hasRoomFor, X5_add, X5_useUp -/
def m_X8_add_b32 (v_wlength : Int32) (a_wchars : Nat → Int32) : Option (Int32 × (Nat → Int32)) := some (v_wlength, a_wchars)
def m_X8_add (v_wlength : Int32) (a_wchars : Nat → Int32) (p0 : Int32) : Option (Int32 × (Nat → Int32)) := if 128 ≤ v_wlength then m_X8_add_b32 v_wlength a_wchars else oin (v_wlength) 128 (ol (upd a_wchars (v_wlength.toNatClampNeg) (vp_nar .char p0)) fun a_wchars_3 => ol (v_wlength + 1) fun y_4 => m_X8_add_b32 y_4 a_wchars_3)
abbrev rm_X8_add : Room := { frames := 0, cells := 0, slots := 0, locals := 0 }
abbrev wy_X8_add : List Cond := .code yX8_add cX8_add 2 none :: gT
theorem cv_X8_add {R : Room} {s : State} {args : Array Value} {own : String} {index : Nat} {w0 : Cond} (hts : ∀ w ∈ w0 :: gT, w.before args s = true) (hl : Cond.methodLink own index yX8_add ∈ gT) (hR : 0 + 1 ≤ R.frames ∧ 8 + (2 + 11) + 0 ≤ R.locals) : CallW R s args own RX8 index yX8_add cX8_add 2 none wy_X8_add rm_X8_add 0 0 1 :=
  cwV 1 hts (gT_call w0 (pre := [.methodLink own index yX8_add, .instanceMethod yX8_add, .selects RX8 yX8_add yX8_add, .initialized RX8]) (gT_lc hl (gT_lc ly_yX8_add (gT_lc lx_yX8_add (gT_l1 li_RX8)))) lc_yX8_add) rfl rfl rfl (by decide +kernel) hR
set_option maxRecDepth 100000 in
set_option maxHeartbeats 4000000 in
theorem c_X8_add (l : Launch) (D : va_G) (qy : Nat → Nat) (cC : ClassId) (tq : Nat → Nat) (v_wlength : Int32) (a_wchars : Nat → Int32) (p0 : Int32) (v_wlength' : Int32) (a_wchars' : Nat → Int32) (hm : m_X8_add v_wlength a_wchars p0 = some (v_wlength', a_wchars')) : kEv l yX8_add wy_X8_add rm_X8_add D [(cC, .char)] tq (wWr qy cC v_wlength a_wchars) (wWr qy cC v_wlength' a_wchars') [.ref (qy 0), .int p0] := by
  refine kEv.of cX8_add 2 none (by decide) rfl rfl (Nat.le_of_ble_eq_true rfl) ?_
  intro p e s m below meth c A Q C hJ hret
  have hin8 : ∀ w ∈ wsX80, w ∈ wy_X8_add := fun w h => List.mem_cons_of_mem _ (inG8 w h)
  have j32 : ∀ (v_wlength : Int32) (a_wchars : Nat → Int32), m_X8_add_b32  v_wlength a_wchars  = some (v_wlength', a_wchars') → kv p l e rm_X8_add s m ([.ref (qy 0), .int p0] : List Value).toArray below meth c D A 2 0 0 Q (wWr qy cC v_wlength a_wchars) [] 32 [] := by
    intro v_wlength a_wchars h
    unfold m_X8_add_b32 at h
    cases h
    exact hret _ _ dX8_add_32
  unfold m_X8_add at hm
  have h := hm
  refine kv_lv [0, 1] (lv2 := [(0, .ref (qy 0)), (1, .int p0)]) rfl ?_
  refine kv_aload_n C 0 dX8_add_0 rfl rfl ?_
  refine kv_get C (Cn := RX8) (T := TX8) (N := 2) 0 1 hin8 rfl rfl (by decide) (C.ts _ (List.mem_cons_of_mem _ lf_RX8_15)) rfl rfl dX8_add_1 ?_
  refine kv_aload_n C 0 dX8_add_4 rfl rfl ?_
  refine kv_get C (Cn := RX8) (T := TX8) (N := 2) 0 0 hin8 rfl rfl (by decide) (C.ts _ (List.mem_cons_of_mem _ lf_RX8_9)) rfl rfl dX8_add_5 ?_
  refine kv_alen C (v := 128) 1 0 rfl rfl rfl dX8_add_8 ?_
  refine kv_icmp_ge C 32 dX8_add_9 (by decide) (fun c_1 => ?_) (fun c_1 => ?_)
  · have h := oi_t h c_1
    exact kv_lv [] (lv2 := []) rfl (j32 v_wlength a_wchars h)
  · have h := oi_f h c_1
    refine kv_aload_n C 0 dX8_add_12 rfl rfl ?_
    refine kv_get C (Cn := RX8) (T := TX8) (N := 2) 0 0 hin8 rfl rfl (by decide) (C.ts _ (List.mem_cons_of_mem _ lf_RX8_9)) rfl rfl dX8_add_13 ?_
    refine kv_aload_n C 0 dX8_add_16 rfl rfl ?_
    refine kv_get C (Cn := RX8) (T := TX8) (N := 2) 0 1 hin8 rfl rfl (by decide) (C.ts _ (List.mem_cons_of_mem _ lf_RX8_15)) rfl rfl dX8_add_17 ?_
    refine kv_iload_n C 1 dX8_add_20 rfl rfl ?_
    obtain ⟨g_2, h⟩ := oin_e h
    obtain ⟨a_wchars_3, ea_wchars_3, h⟩ := ol_e h
    refine kv_cast2 C (ws1 := (wWr qy cC v_wlength a_wchars_3)) 1 0 rfl rfl g_2 ea_wchars_3 rfl dX8_add_21 ?_
    refine kv_aload_n C 0 dX8_add_22 rfl rfl ?_
    refine kv_dup C dX8_add_23 rfl ?_
    refine kv_get C (Cn := RX8) (T := TX8) (N := 2) 0 1 hin8 rfl rfl (by decide) (C.ts _ (List.mem_cons_of_mem _ lf_RX8_15)) rfl rfl dX8_add_24 ?_
    refine kv_iconst C 1 dX8_add_27 (by decide) ?_
    refine kv_iadd C dX8_add_28 ?_
    obtain ⟨y_4, ey_4, h⟩ := ol_e h
    refine kv_top ey_4 ?_
    refine kv_put C (Cn := RX8) (T := TX8) (N := 2) (ty := .int) (ws1 := (wWr qy cC y_4 a_wchars_3)) 0 1 hin8 tyX8 tyX8_ok nmX8 rfl rfl (by decide) (C.ts _ (List.mem_cons_of_mem _ lf_RX8_15)) rfl rfl (by decide +kernel) rfl rfl (Nat.le_of_ble_eq_true rfl) rfl dX8_add_29 ?_
    exact kv_lv [] (lv2 := []) rfl (j32 y_4 a_wchars_3 h)
def m_X8_addFree_b13 (v_wlength : Int32) (a_wchars : Nat → Int32) : Option (Int32 × (Nat → Int32)) := some (v_wlength, a_wchars)
def m_X8_addFree (v_wlength : Int32) (a_wchars : Nat → Int32) (p0 : Int32) : Option (Int32 × (Nat → Int32)) := if p0 ≤ 0 then m_X8_addFree_b13 v_wlength a_wchars else ob (m_X8_add v_wlength a_wchars ((((48 : Int32) + p0).toUInt32 % 65536).toInt32)) fun (v_wlength_2, a_wchars_3) => m_X8_addFree_b13 v_wlength_2 a_wchars_3
abbrev rm_X8_addFree : Room := { frames := 1, cells := 0, slots := 0, locals := 21 }
abbrev wy_X8_addFree : List Cond := .code yX8_addFree cX8_addFree 2 none :: gT
theorem cv_X8_addFree {R : Room} {s : State} {args : Array Value} {own : String} {index : Nat} {w0 : Cond} (hts : ∀ w ∈ w0 :: gT, w.before args s = true) (hl : Cond.methodLink own index yX8_addFree ∈ gT) (hR : 1 + 1 ≤ R.frames ∧ 8 + (2 + 11) + 21 ≤ R.locals) : CallW R s args own RX8 index yX8_addFree cX8_addFree 2 none wy_X8_addFree rm_X8_addFree 0 0 1 :=
  cwV 1 hts (gT_call w0 (pre := [.methodLink own index yX8_addFree, .instanceMethod yX8_addFree, .selects RX8 yX8_addFree yX8_addFree, .initialized RX8]) (gT_lc hl (gT_lc ly_yX8_addFree (gT_lc lx_yX8_addFree (gT_l1 li_RX8)))) lc_yX8_addFree) rfl rfl rfl (by decide +kernel) hR
set_option maxRecDepth 100000 in
set_option maxHeartbeats 4000000 in
theorem c_X8_addFree (l : Launch) (D : va_G) (qy : Nat → Nat) (cC : ClassId) (tq : Nat → Nat) (v_wlength : Int32) (a_wchars : Nat → Int32) (p0 : Int32) (v_wlength' : Int32) (a_wchars' : Nat → Int32) (hm : m_X8_addFree v_wlength a_wchars p0 = some (v_wlength', a_wchars')) : kEv l yX8_addFree wy_X8_addFree rm_X8_addFree D [(cC, .char)] tq (wWr qy cC v_wlength a_wchars) (wWr qy cC v_wlength' a_wchars') [.ref (qy 0), .int p0] := by
  refine kEv.of cX8_addFree 2 none (by decide) rfl rfl (Nat.le_of_ble_eq_true rfl) ?_
  intro p e s m below meth c A Q C hJ hret
  have hin8 : ∀ w ∈ wsX80, w ∈ wy_X8_addFree := fun w h => List.mem_cons_of_mem _ (inG8 w h)
  have j13 : ∀ (v_wlength : Int32) (a_wchars : Nat → Int32), m_X8_addFree_b13  v_wlength a_wchars  = some (v_wlength', a_wchars') → kv p l e rm_X8_addFree s m ([.ref (qy 0), .int p0] : List Value).toArray below meth c D A 2 0 0 Q (wWr qy cC v_wlength a_wchars) [] 13 [] := by
    intro v_wlength a_wchars h
    unfold m_X8_addFree_b13 at h
    cases h
    exact hret _ _ dX8_addFree_13
  unfold m_X8_addFree at hm
  have h := hm
  refine kv_lv [0, 1] (lv2 := [(0, .ref (qy 0)), (1, .int p0)]) rfl ?_
  refine kv_iload_n C 1 dX8_addFree_0 rfl rfl ?_
  refine kv_if_le C 13 dX8_addFree_1 (by decide) (fun c_1 => ?_) (fun c_1 => ?_)
  · have h := oi_t h c_1
    exact kv_lv [] (lv2 := []) rfl (j13 v_wlength a_wchars h)
  · have h := oi_f h c_1
    refine kv_aload_n C 0 dX8_addFree_4 rfl rfl ?_
    refine kv_bipush C 48 dX8_addFree_5 (by decide) ?_
    refine kv_iload_n C 1 dX8_addFree_7 rfl rfl ?_
    refine kv_iadd C dX8_addFree_8 ?_
    refine kv_i2c C dX8_addFree_9 ?_
    obtain ⟨⟨v_wlength_2, a_wchars_3⟩, hm_4, h⟩ := ob_e h
    replace h : _ = _ := h
    refine kv_eVv (ws2 := (wWr qy cC v_wlength_2 a_wchars_3)) C hJ [.int ((((48 : Int32) + p0).toUInt32 % 65536).toInt32)] 0 (c_X8_add l D qy cC tq v_wlength a_wchars ((((48 : Int32) + p0).toUInt32 % 65536).toInt32) v_wlength_2 a_wchars_3 hm_4) (cv_X8_add C.ts lm_RX8_23 ⟨Nat.le_of_ble_eq_true rfl, Nat.le_of_ble_eq_true rfl⟩) rfl rfl [0, 1] [] [0] [0, 1] rfl rfl rfl rfl rfl (by decide) rfl rfl rfl (Nat.le_of_ble_eq_true rfl) dX8_addFree_10 ⟨Nat.zero_le _, Nat.zero_le _⟩ rfl rfl rfl ?_
    exact kv_lv [] (lv2 := []) rfl (j13 v_wlength_2 a_wchars_3 h)
def m_X8_addRow_b71 (k5 : Int32 → (Nat → Int32) → Int32 → Int32 → Int32 → Option (Int32 × (Nat → Int32))) (v_wlength : Int32) (a_wchars : Nat → Int32) (a_men : Nat → Int32) (x2 : Int32) (x3 : Int32) (x4 : Int32) : Option (Int32 × (Nat → Int32)) := ol (x4 + 1) fun x4_1 => k5 v_wlength a_wchars x2 x3 x4_1
def m_X8_addRow_b68 (k5 : Int32 → (Nat → Int32) → Int32 → Int32 → Int32 → Option (Int32 × (Nat → Int32))) (v_wlength : Int32) (a_wchars : Nat → Int32) (a_men : Nat → Int32) (x2 : Int32) (x3 : Int32) (x4 : Int32) (t1 : Int32) : Option (Int32 × (Nat → Int32)) := ob (m_X8_add v_wlength a_wchars t1) fun (v_wlength_2, a_wchars_3) => m_X8_addRow_b71 k5 v_wlength_2 a_wchars_3 a_men x2 x3 x4
def m_X8_addRow_b5 (k5 : Int32 → (Nat → Int32) → Int32 → Int32 → Int32 → Option (Int32 × (Nat → Int32))) (v_wlength : Int32) (a_wchars : Nat → Int32) (a_men : Nat → Int32) (x2 : Int32) (x3 : Int32) (x4 : Int32) : Option (Int32 × (Nat → Int32)) := if 8 ≤ x4 then ob (m_X8_addFree v_wlength a_wchars x3) fun (v_wlength_6, a_wchars_7) => some (v_wlength_6, a_wchars_7) else oin (((8 : Int32) * x2) + x4) 64 (ol (a_men (((8 : Int32) * x2) + x4).toNatClampNeg) fun x5_10 => if x5_10 = 0 then ol (x3 + 1) fun x3_20 => m_X8_addRow_b71 k5 v_wlength a_wchars a_men x2 x3_20 x4 else ob (m_X8_addFree v_wlength a_wchars x3) fun (v_wlength_12, a_wchars_13) => if x5_10 ≤ 0 then ob (m_J0_charAt_5068e [32, 112, 110, 98, 114, 113, 107] (-x5_10)) fun r_16 => m_X8_addRow_b68 k5 v_wlength_12 a_wchars_13 a_men x2 0 x4 r_16 else ob (m_J0_charAt_5068e [32, 80, 78, 66, 82, 81, 75] x5_10) fun r_18 => m_X8_addRow_b68 k5 v_wlength_12 a_wchars_13 a_men x2 0 x4 r_18)
def m_X8_addRow_l5 (a_men : Nat → Int32) (n : Nat) : Int32 → (Nat → Int32) → Int32 → Int32 → Int32 → Option (Int32 × (Nat → Int32)) := fz (fun _ _ _ _ _ => none) (fun k5 v_wlength a_wchars x2 x3 x4 => m_X8_addRow_b5 k5 v_wlength a_wchars a_men x2 x3 x4) n
def m_X8_addRow (v_wlength : Int32) (a_wchars : Nat → Int32) (a_men : Nat → Int32) (p1 : Int32) : Option (Int32 × (Nat → Int32)) := m_X8_addRow_l5 a_men kF v_wlength a_wchars p1 0 0
abbrev rm_X8_addRow : Room := { frames := 4, cells := 0, slots := 0, locals := 85 }
abbrev wy_X8_addRow : List Cond := .code yX8_addRow cX8_addRow 6 none :: gT
theorem cv_X8_addRow {R : Room} {s : State} {args : Array Value} {own : String} {index : Nat} {w0 : Cond} (hts : ∀ w ∈ w0 :: gT, w.before args s = true) (hl : Cond.methodLink own index yX8_addRow ∈ gT) (hR : 4 + 1 ≤ R.frames ∧ 8 + (6 + 11) + 85 ≤ R.locals) : CallW R s args own RX8 index yX8_addRow cX8_addRow 6 none wy_X8_addRow rm_X8_addRow 0 0 2 :=
  cwV 2 hts (gT_call w0 (pre := [.methodLink own index yX8_addRow, .instanceMethod yX8_addRow, .selects RX8 yX8_addRow yX8_addRow, .initialized RX8]) (gT_lc hl (gT_lc ly_yX8_addRow (gT_lc lx_yX8_addRow (gT_l1 li_RX8)))) lc_yX8_addRow) rfl rfl rfl (by decide +kernel) hR
set_option maxRecDepth 100000 in
set_option maxHeartbeats 4000000 in
theorem c_X8_addRow (l : Launch) (D : va_G) (qy : Nat → Nat) (qb : Nat → Nat) (ql : Nat → Nat) (qw : Nat → Nat) (cI : ClassId) (cJ : ClassId) (cC : ClassId) (tq : Nat → Nat) (v_wlength : Int32) (a_wchars : Nat → Int32) (v_mover : Int32) (v_rights : Int32) (v_passed : Int32) (v_halves : Int32) (v_number : Int32) (v_balance : Int32) (a_men : Nat → Int32) (a_kinds : Nat → Int64) (a_sides : Nat → Int64) (a_rays : Nat → Int64) (a_knights : Nat → Int64) (a_kings : Nat → Int64) (a_pawns : Nat → Int64) (a_table : Nat → Int32) (p1 : Int32) (v_wlength' : Int32) (a_wchars' : Nat → Int32) (hm : m_X8_addRow v_wlength a_wchars a_men p1 = some (v_wlength', a_wchars')) : kEv l yX8_addRow wy_X8_addRow rm_X8_addRow D [(cI, .int), (cJ, .long), (cC, .char)] tq (wWrB qy qb ql qw cI cJ cC v_wlength a_wchars v_mover v_rights v_passed v_halves v_number v_balance a_men a_kinds a_sides a_rays a_knights a_kings a_pawns a_table) (wWrB qy qb ql qw cI cJ cC v_wlength' a_wchars' v_mover v_rights v_passed v_halves v_number v_balance a_men a_kinds a_sides a_rays a_knights a_kings a_pawns a_table) [.ref (qy 0), .ref (qb 0), .int p1] := by
  refine kEv.of cX8_addRow 6 none (by decide) rfl rfl (Nat.le_of_ble_eq_true rfl) ?_
  intro p e s m below meth c A Q C hJ hret
  have hin0 : ∀ w ∈ wsX00, w ∈ wy_X8_addRow := fun w h => List.mem_cons_of_mem _ (inG0 w h)
  have hin3 : ∀ w ∈ wsX30, w ∈ wy_X8_addRow := fun w h => List.mem_cons_of_mem _ (inG3 w h)
  have hin7 : ∀ w ∈ wsX70, w ∈ wy_X8_addRow := fun w h => List.mem_cons_of_mem _ (inG7 w h)
  have hin8 : ∀ w ∈ wsX80, w ∈ wy_X8_addRow := fun w h => List.mem_cons_of_mem _ (inG8 w h)
  have l5 : ∀ (n5 : Nat) (v_wlength : Int32) (a_wchars : Nat → Int32) (x2 : Int32) (x3 : Int32) (x4 : Int32), m_X8_addRow_l5  a_men n5 v_wlength a_wchars x2 x3 x4 = some (v_wlength', a_wchars') → kv p l e rm_X8_addRow s m ([.ref (qy 0), .ref (qb 0), .int p1] : List Value).toArray below meth c D A 6 0 0 Q (wWrB qy qb ql qw cI cJ cC v_wlength a_wchars v_mover v_rights v_passed v_halves v_number v_balance a_men a_kinds a_sides a_rays a_knights a_kings a_pawns a_table) [(0, .ref (qy 0)), (1, .ref (qb 0)), (2, .int x2), (3, .int x3), (4, .int x4)] 5 [] := by
    intro n5
    induction n5 with
    | zero =>
      intro v_wlength a_wchars x2 x3 x4 h
      exact kv_no h
    | succ n5 ih5 =>
      have j71 : ∀ (v_wlength : Int32) (a_wchars : Nat → Int32) (x2 : Int32) (x3 : Int32) (x4 : Int32), m_X8_addRow_b71 (m_X8_addRow_l5  a_men n5) v_wlength a_wchars a_men x2 x3 x4 = some (v_wlength', a_wchars') → kv p l e rm_X8_addRow s m ([.ref (qy 0), .ref (qb 0), .int p1] : List Value).toArray below meth c D A 6 0 0 Q (wWrB qy qb ql qw cI cJ cC v_wlength a_wchars v_mover v_rights v_passed v_halves v_number v_balance a_men a_kinds a_sides a_rays a_knights a_kings a_pawns a_table) [(0, .ref (qy 0)), (1, .ref (qb 0)), (2, .int x2), (3, .int x3), (4, .int x4)] 71 [] := by
        intro v_wlength a_wchars x2 x3 x4 h
        unfold m_X8_addRow_b71 at h
        obtain ⟨x4_1, ex4_1, h⟩ := ol_e h
        refine kv_iinc C (v := x4_1) (lv2 := [(0, .ref (qy 0)), (1, .ref (qb 0)), (2, .int x2), (3, .int x3), (4, .int x4_1)]) 4 [1, 2, 3, 4, 0] dX8_addRow_71 rfl ex4_1.symm (by decide) rfl rfl ?_
        refine kv_goto C 5 dX8_addRow_74 (by decide) ?_
        exact kv_lv [0, 1, 2, 3, 4] (lv2 := [(0, .ref (qy 0)), (1, .ref (qb 0)), (2, .int x2), (3, .int x3), (4, .int x4_1)]) rfl (ih5 v_wlength a_wchars x2 x3 x4_1 h)
      have j68 : ∀ (v_wlength : Int32) (a_wchars : Nat → Int32) (x2 : Int32) (x3 : Int32) (x4 : Int32) (t1 : Int32), m_X8_addRow_b68 (m_X8_addRow_l5  a_men n5) v_wlength a_wchars a_men x2 x3 x4 t1 = some (v_wlength', a_wchars') → kv p l e rm_X8_addRow s m ([.ref (qy 0), .ref (qb 0), .int p1] : List Value).toArray below meth c D A 6 0 0 Q (wWrB qy qb ql qw cI cJ cC v_wlength a_wchars v_mover v_rights v_passed v_halves v_number v_balance a_men a_kinds a_sides a_rays a_knights a_kings a_pawns a_table) [(0, .ref (qy 0)), (1, .ref (qb 0)), (2, .int x2), (3, .int x3), (4, .int x4)] 68 [.int t1, .ref (qy 0)] := by
        intro v_wlength a_wchars x2 x3 x4 t1 h
        unfold m_X8_addRow_b68 at h
        obtain ⟨⟨v_wlength_2, a_wchars_3⟩, hm_4, h⟩ := ob_e h
        replace h : _ = _ := h
        refine kv_eVv (ws2 := (wWrB qy qb ql qw cI cJ cC v_wlength_2 a_wchars_3 v_mover v_rights v_passed v_halves v_number v_balance a_men a_kinds a_sides a_rays a_knights a_kings a_pawns a_table)) C hJ [.int t1] 0 (c_X8_add l D qy cC tq v_wlength a_wchars t1 v_wlength_2 a_wchars_3 hm_4) (cv_X8_add C.ts lm_RX8_23 ⟨Nat.le_of_ble_eq_true rfl, Nat.le_of_ble_eq_true rfl⟩) rfl rfl [0, 1] [2, 3, 4, 5, 6, 7, 8, 9, 10, 11, 12] [2] [11, 12, 0, 1, 2, 3, 4, 5, 6, 7, 8, 9, 10] rfl rfl rfl rfl rfl (by decide) rfl rfl rfl (Nat.le_of_ble_eq_true rfl) dX8_addRow_68 ⟨Nat.zero_le _, Nat.zero_le _⟩ rfl rfl rfl ?_
        exact kv_lv [0, 1, 2, 3, 4] (lv2 := [(0, .ref (qy 0)), (1, .ref (qb 0)), (2, .int x2), (3, .int x3), (4, .int x4)]) rfl (j71 v_wlength_2 a_wchars_3 x2 x3 x4 h)
      intro v_wlength a_wchars x2 x3 x4 h
      replace h : m_X8_addRow_b5  (m_X8_addRow_l5  a_men n5) v_wlength a_wchars a_men x2 x3 x4 = some (v_wlength', a_wchars') := h
      unfold m_X8_addRow_b5 at h
      refine kv_iload C 4 dX8_addRow_5 rfl ?_
      refine kv_bipush C 8 dX8_addRow_7 (by decide) ?_
      refine kv_icmp_ge C 77 dX8_addRow_9 (by decide) (fun c_5 => ?_) (fun c_5 => ?_)
      · have h := oi_t h c_5
        refine kv_aload_n C 0 dX8_addRow_77 rfl rfl ?_
        refine kv_iload_n C 3 dX8_addRow_78 rfl rfl ?_
        obtain ⟨⟨v_wlength_6, a_wchars_7⟩, hm_8, h⟩ := ob_e h
        replace h : _ = _ := h
        refine kv_eVv (ws2 := (wWrB qy qb ql qw cI cJ cC v_wlength_6 a_wchars_7 v_mover v_rights v_passed v_halves v_number v_balance a_men a_kinds a_sides a_rays a_knights a_kings a_pawns a_table)) C hJ [.int x3] 0 (c_X8_addFree l D qy cC tq v_wlength a_wchars x3 v_wlength_6 a_wchars_7 hm_8) (cv_X8_addFree C.ts lm_RX8_58 ⟨Nat.le_of_ble_eq_true rfl, Nat.le_of_ble_eq_true rfl⟩) rfl rfl [0, 1] [2, 3, 4, 5, 6, 7, 8, 9, 10, 11, 12] [2] [11, 12, 0, 1, 2, 3, 4, 5, 6, 7, 8, 9, 10] rfl rfl rfl rfl rfl (by decide) rfl rfl rfl (Nat.le_of_ble_eq_true rfl) dX8_addRow_79 ⟨Nat.zero_le _, Nat.zero_le _⟩ rfl rfl rfl ?_
        cases h
        exact hret _ _ dX8_addRow_82
      · have h := oi_f h c_5
        refine kv_aload_n C 1 dX8_addRow_12 rfl rfl ?_
        refine kv_get C (Cn := RX0) (T := TX0) (N := 11) 2 2 hin0 rfl rfl (by decide) (C.ts _ (List.mem_cons_of_mem _ lf_RX8_54)) rfl rfl dX8_addRow_13 ?_
        refine kv_bipush C 8 dX8_addRow_16 (by decide) ?_
        refine kv_iload_n C 2 dX8_addRow_18 rfl rfl ?_
        refine kv_imul C dX8_addRow_19 ?_
        refine kv_iload C 4 dX8_addRow_20 rfl ?_
        refine kv_iadd C dX8_addRow_22 ?_
        obtain ⟨g_9, h⟩ := oin_e h
        refine kv_iald C 3 0 rfl rfl g_9 dX8_addRow_23 ?_
        obtain ⟨x5_10, ex5_10, h⟩ := ol_e h
        refine kv_top ex5_10 ?_
        refine kv_istore C (lv2 := [(0, .ref (qy 0)), (1, .ref (qb 0)), (2, .int x2), (3, .int x3), (4, .int x4), (5, .int x5_10)]) [1, 2, 3, 4, 5, 0] dX8_addRow_24 (by decide) rfl rfl ?_
        refine kv_iload C 5 dX8_addRow_26 rfl ?_
        refine kv_if_ne C 37 dX8_addRow_28 (by decide) (fun c_11 => ?_) (fun c_11 => ?_)
        · have h := oi_f h c_11
          refine kv_aload_n C 0 dX8_addRow_37 rfl rfl ?_
          refine kv_iload_n C 3 dX8_addRow_38 rfl rfl ?_
          obtain ⟨⟨v_wlength_12, a_wchars_13⟩, hm_14, h⟩ := ob_e h
          replace h : _ = _ := h
          refine kv_eVv (ws2 := (wWrB qy qb ql qw cI cJ cC v_wlength_12 a_wchars_13 v_mover v_rights v_passed v_halves v_number v_balance a_men a_kinds a_sides a_rays a_knights a_kings a_pawns a_table)) C hJ [.int x3] 0 (c_X8_addFree l D qy cC tq v_wlength a_wchars x3 v_wlength_12 a_wchars_13 hm_14) (cv_X8_addFree C.ts lm_RX8_58 ⟨Nat.le_of_ble_eq_true rfl, Nat.le_of_ble_eq_true rfl⟩) rfl rfl [0, 1] [2, 3, 4, 5, 6, 7, 8, 9, 10, 11, 12] [2] [11, 12, 0, 1, 2, 3, 4, 5, 6, 7, 8, 9, 10] rfl rfl rfl rfl rfl (by decide) rfl rfl rfl (Nat.le_of_ble_eq_true rfl) dX8_addRow_39 ⟨Nat.zero_le _, Nat.zero_le _⟩ rfl rfl rfl ?_
          refine kv_iconst C 0 dX8_addRow_42 (by decide) ?_
          refine kv_istore_n C (lv2 := [(0, .ref (qy 0)), (1, .ref (qb 0)), (2, .int x2), (3, .int 0), (4, .int x4), (5, .int x5_10)]) [1, 2, 3, 0, 4, 5] dX8_addRow_43 rfl (by decide) rfl rfl ?_
          refine kv_aload_n C 0 dX8_addRow_44 rfl rfl ?_
          refine kv_iload C 5 dX8_addRow_45 rfl ?_
          refine kv_if_le C 60 dX8_addRow_47 (by decide) (fun c_15 => ?_) (fun c_15 => ?_)
          · have h := oi_t h c_15
            refine kv_ldcS C (q := tq (8 + 3)) (hJ.2.2.1 3 _ rfl).1 dX8_addRow_60 ?_
            refine kv_iload C 5 dX8_addRow_62 rfl ?_
            refine kv_ineg C dX8_addRow_64 ?_
            obtain ⟨r_16, hm_17, h⟩ := ob_e h
            refine kv_eO0i C hJ [.int (-x5_10)] (c_J0_charAt_5068e l D tq 3 RX8 69 " pnbrqk" [32, 112, 110, 98, 114, 113, 107] rfl (-x5_10) r_16 hm_17) (cv_J0_charAt_5068e C.ts lm_RX8_63 ⟨Nat.le_of_ble_eq_true rfl, Nat.le_of_ble_eq_true rfl⟩) (hJ.2.2.1 3 _ rfl).2.1 rfl rfl (Nat.le_of_ble_eq_true rfl) dX8_addRow_65 ⟨Nat.zero_le _, Nat.zero_le _⟩ ?_
            exact kv_lv [0, 1, 2, 3, 4] (lv2 := [(0, .ref (qy 0)), (1, .ref (qb 0)), (2, .int x2), (3, .int 0), (4, .int x4)]) rfl (j68 v_wlength_12 a_wchars_13 x2 0 x4 r_16 h)
          · have h := oi_f h c_15
            refine kv_ldcS C (q := tq (8 + 2)) (hJ.2.2.1 2 _ rfl).1 dX8_addRow_50 ?_
            refine kv_iload C 5 dX8_addRow_52 rfl ?_
            obtain ⟨r_18, hm_19, h⟩ := ob_e h
            refine kv_eO0i C hJ [.int x5_10] (c_J0_charAt_5068e l D tq 2 RX8 61 " PNBRQK" [32, 80, 78, 66, 82, 81, 75] rfl x5_10 r_18 hm_19) (cv_J0_charAt_5068e C.ts lm_RX8_63 ⟨Nat.le_of_ble_eq_true rfl, Nat.le_of_ble_eq_true rfl⟩) (hJ.2.2.1 2 _ rfl).2.1 rfl rfl (Nat.le_of_ble_eq_true rfl) dX8_addRow_54 ⟨Nat.zero_le _, Nat.zero_le _⟩ ?_
            refine kv_goto C 68 dX8_addRow_57 (by decide) ?_
            exact kv_lv [0, 1, 2, 3, 4] (lv2 := [(0, .ref (qy 0)), (1, .ref (qb 0)), (2, .int x2), (3, .int 0), (4, .int x4)]) rfl (j68 v_wlength_12 a_wchars_13 x2 0 x4 r_18 h)
        · have h := oi_t h c_11
          obtain ⟨x3_20, ex3_20, h⟩ := ol_e h
          refine kv_iinc C (v := x3_20) (lv2 := [(0, .ref (qy 0)), (1, .ref (qb 0)), (2, .int x2), (3, .int x3_20), (4, .int x4)]) 3 [1, 2, 3, 0, 4] dX8_addRow_31 rfl ex3_20.symm (by decide) rfl rfl ?_
          refine kv_goto C 71 dX8_addRow_34 (by decide) ?_
          exact kv_lv [0, 1, 2, 3, 4] (lv2 := [(0, .ref (qy 0)), (1, .ref (qb 0)), (2, .int x2), (3, .int x3_20), (4, .int x4)]) rfl (j71 v_wlength a_wchars x2 x3_20 x4 h)
  unfold m_X8_addRow at hm
  have h := hm
  refine kv_lv [0, 1, 2] (lv2 := [(0, .ref (qy 0)), (1, .ref (qb 0)), (2, .int p1)]) rfl ?_
  refine kv_iconst C 0 dX8_addRow_0 (by decide) ?_
  refine kv_istore_n C (lv2 := [(0, .ref (qy 0)), (1, .ref (qb 0)), (2, .int p1), (3, .int 0)]) [1, 2, 3, 0] dX8_addRow_1 rfl (by decide) rfl rfl ?_
  refine kv_iconst C 0 dX8_addRow_2 (by decide) ?_
  refine kv_istore C (lv2 := [(0, .ref (qy 0)), (1, .ref (qb 0)), (2, .int p1), (3, .int 0), (4, .int 0)]) [1, 2, 3, 4, 0] dX8_addRow_3 (by decide) rfl rfl ?_
  exact kv_lv [0, 1, 2, 3, 4] (lv2 := [(0, .ref (qy 0)), (1, .ref (qb 0)), (2, .int p1), (3, .int 0), (4, .int 0)]) rfl (l5 kF v_wlength a_wchars p1 0 0 h)
def m_X8_addRights_b41 (v_wlength : Int32) (a_wchars : Nat → Int32) : Option (Int32 × (Nat → Int32)) := some (v_wlength, a_wchars)
def m_X8_addRights_b25 (k2 : Int32 → (Nat → Int32) → Int32 → Int32 → Option (Int32 × (Nat → Int32))) (v_wlength : Int32) (a_wchars : Nat → Int32) (x1 : Int32) (x2 : Int32) : Option (Int32 × (Nat → Int32)) := ol (x2 + 1) fun x2_1 => k2 v_wlength a_wchars x1 x2_1
def m_X8_addRights_b2 (k2 : Int32 → (Nat → Int32) → Int32 → Int32 → Option (Int32 × (Nat → Int32))) (v_wlength : Int32) (a_wchars : Nat → Int32) (x1 : Int32) (x2 : Int32) : Option (Int32 × (Nat → Int32)) := if 4 ≤ x2 then if x1 = 0 then ob (m_X8_add v_wlength a_wchars 45) fun (v_wlength_4, a_wchars_5) => m_X8_addRights_b41 v_wlength_4 a_wchars_5 else m_X8_addRights_b41 v_wlength a_wchars else if ((x1 >>> (x2 &&& 31)) &&& 1) = 0 then m_X8_addRights_b25 k2 v_wlength a_wchars x1 x2 else ob (m_J0_charAt_5068e [75, 81, 107, 113] x2) fun r_8 => ob (m_X8_add v_wlength a_wchars r_8) fun (v_wlength_10, a_wchars_11) => m_X8_addRights_b25 k2 v_wlength_10 a_wchars_11 x1 x2
def m_X8_addRights_l2 (n : Nat) : Int32 → (Nat → Int32) → Int32 → Int32 → Option (Int32 × (Nat → Int32)) := fz (fun _ _ _ _ => none) (fun k2 v_wlength a_wchars x1 x2 => m_X8_addRights_b2 k2 v_wlength a_wchars x1 x2) n
def m_X8_addRights (v_wlength : Int32) (a_wchars : Nat → Int32) (p0 : Int32) : Option (Int32 × (Nat → Int32)) := m_X8_addRights_l2 kF v_wlength a_wchars p0 0
abbrev rm_X8_addRights : Room := { frames := 4, cells := 0, slots := 0, locals := 85 }
abbrev wy_X8_addRights : List Cond := .code yX8_addRights cX8_addRights 3 none :: gT
theorem cv_X8_addRights {R : Room} {s : State} {args : Array Value} {own : String} {index : Nat} {w0 : Cond} (hts : ∀ w ∈ w0 :: gT, w.before args s = true) (hl : Cond.methodLink own index yX8_addRights ∈ gT) (hR : 4 + 1 ≤ R.frames ∧ 8 + (3 + 11) + 85 ≤ R.locals) : CallW R s args own RX8 index yX8_addRights cX8_addRights 3 none wy_X8_addRights rm_X8_addRights 0 0 1 :=
  cwV 1 hts (gT_call w0 (pre := [.methodLink own index yX8_addRights, .instanceMethod yX8_addRights, .selects RX8 yX8_addRights yX8_addRights, .initialized RX8]) (gT_lc hl (gT_lc ly_yX8_addRights (gT_lc lx_yX8_addRights (gT_l1 li_RX8)))) lc_yX8_addRights) rfl rfl rfl (by decide +kernel) hR
set_option maxRecDepth 100000 in
set_option maxHeartbeats 4000000 in
theorem c_X8_addRights (l : Launch) (D : va_G) (qy : Nat → Nat) (cC : ClassId) (tq : Nat → Nat) (v_wlength : Int32) (a_wchars : Nat → Int32) (p0 : Int32) (v_wlength' : Int32) (a_wchars' : Nat → Int32) (hm : m_X8_addRights v_wlength a_wchars p0 = some (v_wlength', a_wchars')) : kEv l yX8_addRights wy_X8_addRights rm_X8_addRights D [(cC, .char)] tq (wWr qy cC v_wlength a_wchars) (wWr qy cC v_wlength' a_wchars') [.ref (qy 0), .int p0] := by
  refine kEv.of cX8_addRights 3 none (by decide) rfl rfl (Nat.le_of_ble_eq_true rfl) ?_
  intro p e s m below meth c A Q C hJ hret
  have hin8 : ∀ w ∈ wsX80, w ∈ wy_X8_addRights := fun w h => List.mem_cons_of_mem _ (inG8 w h)
  have j41 : ∀ (v_wlength : Int32) (a_wchars : Nat → Int32), m_X8_addRights_b41  v_wlength a_wchars  = some (v_wlength', a_wchars') → kv p l e rm_X8_addRights s m ([.ref (qy 0), .int p0] : List Value).toArray below meth c D A 3 0 0 Q (wWr qy cC v_wlength a_wchars) [] 41 [] := by
    intro v_wlength a_wchars h
    unfold m_X8_addRights_b41 at h
    cases h
    exact hret _ _ dX8_addRights_41
  have l2 : ∀ (n2 : Nat) (v_wlength : Int32) (a_wchars : Nat → Int32) (x1 : Int32) (x2 : Int32), m_X8_addRights_l2   n2 v_wlength a_wchars x1 x2 = some (v_wlength', a_wchars') → kv p l e rm_X8_addRights s m ([.ref (qy 0), .int p0] : List Value).toArray below meth c D A 3 0 0 Q (wWr qy cC v_wlength a_wchars) [(0, .ref (qy 0)), (1, .int x1), (2, .int x2)] 2 [] := by
    intro n2
    induction n2 with
    | zero =>
      intro v_wlength a_wchars x1 x2 h
      exact kv_no h
    | succ n2 ih2 =>
      have j25 : ∀ (v_wlength : Int32) (a_wchars : Nat → Int32) (x1 : Int32) (x2 : Int32), m_X8_addRights_b25 (m_X8_addRights_l2   n2) v_wlength a_wchars x1 x2 = some (v_wlength', a_wchars') → kv p l e rm_X8_addRights s m ([.ref (qy 0), .int p0] : List Value).toArray below meth c D A 3 0 0 Q (wWr qy cC v_wlength a_wchars) [(0, .ref (qy 0)), (1, .int x1), (2, .int x2)] 25 [] := by
        intro v_wlength a_wchars x1 x2 h
        unfold m_X8_addRights_b25 at h
        obtain ⟨x2_1, ex2_1, h⟩ := ol_e h
        refine kv_iinc C (v := x2_1) (lv2 := [(0, .ref (qy 0)), (1, .int x1), (2, .int x2_1)]) 2 [1, 2, 0] dX8_addRights_25 rfl ex2_1.symm (by decide) rfl rfl ?_
        refine kv_goto C 2 dX8_addRights_28 (by decide) ?_
        exact kv_lv [0, 1, 2] (lv2 := [(0, .ref (qy 0)), (1, .int x1), (2, .int x2_1)]) rfl (ih2 v_wlength a_wchars x1 x2_1 h)
      intro v_wlength a_wchars x1 x2 h
      replace h : m_X8_addRights_b2  (m_X8_addRights_l2   n2) v_wlength a_wchars x1 x2 = some (v_wlength', a_wchars') := h
      unfold m_X8_addRights_b2 at h
      refine kv_iload_n C 2 dX8_addRights_2 rfl rfl ?_
      refine kv_iconst C 4 dX8_addRights_3 (by decide) ?_
      refine kv_icmp_ge C 31 dX8_addRights_4 (by decide) (fun c_2 => ?_) (fun c_2 => ?_)
      · have h := oi_t h c_2
        refine kv_iload_n C 1 dX8_addRights_31 rfl rfl ?_
        refine kv_if_ne C 41 dX8_addRights_32 (by decide) (fun c_3 => ?_) (fun c_3 => ?_)
        · have h := oi_f h c_3
          exact kv_lv [] (lv2 := []) rfl (j41 v_wlength a_wchars h)
        · have h := oi_t h c_3
          refine kv_aload_n C 0 dX8_addRights_35 rfl rfl ?_
          refine kv_bipush C 45 dX8_addRights_36 (by decide) ?_
          obtain ⟨⟨v_wlength_4, a_wchars_5⟩, hm_6, h⟩ := ob_e h
          replace h : _ = _ := h
          refine kv_eVv (ws2 := (wWr qy cC v_wlength_4 a_wchars_5)) C hJ [.int 45] 0 (c_X8_add l D qy cC tq v_wlength a_wchars 45 v_wlength_4 a_wchars_5 hm_6) (cv_X8_add C.ts lm_RX8_23 ⟨Nat.le_of_ble_eq_true rfl, Nat.le_of_ble_eq_true rfl⟩) rfl rfl [0, 1] [] [0] [0, 1] rfl rfl rfl rfl rfl (by decide) rfl rfl rfl (Nat.le_of_ble_eq_true rfl) dX8_addRights_38 ⟨Nat.zero_le _, Nat.zero_le _⟩ rfl rfl rfl ?_
          exact kv_lv [] (lv2 := []) rfl (j41 v_wlength_4 a_wchars_5 h)
      · have h := oi_f h c_2
        refine kv_iload_n C 1 dX8_addRights_7 rfl rfl ?_
        refine kv_iload_n C 2 dX8_addRights_8 rfl rfl ?_
        refine kv_ishr C dX8_addRights_9 ?_
        refine kv_iconst C 1 dX8_addRights_10 (by decide) ?_
        refine kv_iand C dX8_addRights_11 ?_
        refine kv_if_eq C 25 dX8_addRights_12 (by decide) (fun c_7 => ?_) (fun c_7 => ?_)
        · have h := oi_t h c_7
          exact kv_lv [0, 1, 2] (lv2 := [(0, .ref (qy 0)), (1, .int x1), (2, .int x2)]) rfl (j25 v_wlength a_wchars x1 x2 h)
        · have h := oi_f h c_7
          refine kv_aload_n C 0 dX8_addRights_15 rfl rfl ?_
          refine kv_ldcS C (q := tq (8 + 4)) (hJ.2.2.1 4 _ rfl).1 dX8_addRights_16 ?_
          refine kv_iload_n C 2 dX8_addRights_18 rfl rfl ?_
          obtain ⟨r_8, hm_9, h⟩ := ob_e h
          refine kv_eO0i C hJ [.int x2] (c_J0_charAt_5068e l D tq 4 RX8 71 "KQkq" [75, 81, 107, 113] rfl x2 r_8 hm_9) (cv_J0_charAt_5068e C.ts lm_RX8_63 ⟨Nat.le_of_ble_eq_true rfl, Nat.le_of_ble_eq_true rfl⟩) (hJ.2.2.1 4 _ rfl).2.1 rfl rfl (Nat.le_of_ble_eq_true rfl) dX8_addRights_19 ⟨Nat.zero_le _, Nat.zero_le _⟩ ?_
          obtain ⟨⟨v_wlength_10, a_wchars_11⟩, hm_12, h⟩ := ob_e h
          replace h : _ = _ := h
          refine kv_eVv (ws2 := (wWr qy cC v_wlength_10 a_wchars_11)) C hJ [.int r_8] 0 (c_X8_add l D qy cC tq v_wlength a_wchars r_8 v_wlength_10 a_wchars_11 hm_12) (cv_X8_add C.ts lm_RX8_23 ⟨Nat.le_of_ble_eq_true rfl, Nat.le_of_ble_eq_true rfl⟩) rfl rfl [0, 1] [] [0] [0, 1] rfl rfl rfl rfl rfl (by decide) rfl rfl rfl (Nat.le_of_ble_eq_true rfl) dX8_addRights_22 ⟨Nat.zero_le _, Nat.zero_le _⟩ rfl rfl rfl ?_
          exact kv_lv [0, 1, 2] (lv2 := [(0, .ref (qy 0)), (1, .int x1), (2, .int x2)]) rfl (j25 v_wlength_10 a_wchars_11 x1 x2 h)
  unfold m_X8_addRights at hm
  have h := hm
  refine kv_lv [0, 1] (lv2 := [(0, .ref (qy 0)), (1, .int p0)]) rfl ?_
  refine kv_iconst C 0 dX8_addRights_0 (by decide) ?_
  refine kv_istore_n C (lv2 := [(0, .ref (qy 0)), (1, .int p0), (2, .int 0)]) [1, 2, 0] dX8_addRights_1 rfl (by decide) rfl rfl ?_
  exact kv_lv [0, 1, 2] (lv2 := [(0, .ref (qy 0)), (1, .int p0), (2, .int 0)]) rfl (l2 kF v_wlength a_wchars p0 0 h)
def m_X8_addPassed (v_wlength : Int32) (a_wchars : Nat → Int32) (p0 : Int32) : Option (Int32 × (Nat → Int32)) := if p0 = (-1) then ob (m_X8_add v_wlength a_wchars 45) fun (v_wlength_8, a_wchars_9) => some (v_wlength_8, a_wchars_9) else ob (m_X8_add v_wlength a_wchars ((((97 : Int32) + (p0 - p0 / 8 * 8)).toUInt32 % 65536).toInt32)) fun (v_wlength_2, a_wchars_3) => ob (m_X8_add v_wlength_2 a_wchars_3 ((((49 : Int32) + (p0 / 8)).toUInt32 % 65536).toInt32)) fun (v_wlength_5, a_wchars_6) => some (v_wlength_5, a_wchars_6)
abbrev rm_X8_addPassed : Room := { frames := 1, cells := 0, slots := 0, locals := 21 }
abbrev wy_X8_addPassed : List Cond := .code yX8_addPassed cX8_addPassed 2 none :: gT
theorem cv_X8_addPassed {R : Room} {s : State} {args : Array Value} {own : String} {index : Nat} {w0 : Cond} (hts : ∀ w ∈ w0 :: gT, w.before args s = true) (hl : Cond.methodLink own index yX8_addPassed ∈ gT) (hR : 1 + 1 ≤ R.frames ∧ 8 + (2 + 11) + 21 ≤ R.locals) : CallW R s args own RX8 index yX8_addPassed cX8_addPassed 2 none wy_X8_addPassed rm_X8_addPassed 0 0 1 :=
  cwV 1 hts (gT_call w0 (pre := [.methodLink own index yX8_addPassed, .instanceMethod yX8_addPassed, .selects RX8 yX8_addPassed yX8_addPassed, .initialized RX8]) (gT_lc hl (gT_lc ly_yX8_addPassed (gT_lc lx_yX8_addPassed (gT_l1 li_RX8)))) lc_yX8_addPassed) rfl rfl rfl (by decide +kernel) hR
set_option maxRecDepth 100000 in
set_option maxHeartbeats 4000000 in
theorem c_X8_addPassed (l : Launch) (D : va_G) (qy : Nat → Nat) (cC : ClassId) (tq : Nat → Nat) (v_wlength : Int32) (a_wchars : Nat → Int32) (p0 : Int32) (v_wlength' : Int32) (a_wchars' : Nat → Int32) (hm : m_X8_addPassed v_wlength a_wchars p0 = some (v_wlength', a_wchars')) : kEv l yX8_addPassed wy_X8_addPassed rm_X8_addPassed D [(cC, .char)] tq (wWr qy cC v_wlength a_wchars) (wWr qy cC v_wlength' a_wchars') [.ref (qy 0), .int p0] := by
  refine kEv.of cX8_addPassed 2 none (by decide) rfl rfl (Nat.le_of_ble_eq_true rfl) ?_
  intro p e s m below meth c A Q C hJ hret
  have hin8 : ∀ w ∈ wsX80, w ∈ wy_X8_addPassed := fun w h => List.mem_cons_of_mem _ (inG8 w h)
  unfold m_X8_addPassed at hm
  have h := hm
  refine kv_lv [0, 1] (lv2 := [(0, .ref (qy 0)), (1, .int p0)]) rfl ?_
  refine kv_iload_n C 1 dX8_addPassed_0 rfl rfl ?_
  refine kv_iconst C (-1) dX8_addPassed_1 (by decide) ?_
  refine kv_icmp_ne C 12 dX8_addPassed_2 (by decide) (fun c_1 => ?_) (fun c_1 => ?_)
  · have h := oi_f h c_1
    refine kv_aload_n C 0 dX8_addPassed_12 rfl rfl ?_
    refine kv_bipush C 97 dX8_addPassed_13 (by decide) ?_
    refine kv_iload_n C 1 dX8_addPassed_15 rfl rfl ?_
    refine kv_bipush C 8 dX8_addPassed_16 (by decide) ?_
    refine kv_irem C dX8_addPassed_18 (by decide) ?_
    refine kv_iadd C dX8_addPassed_19 ?_
    refine kv_i2c C dX8_addPassed_20 ?_
    obtain ⟨⟨v_wlength_2, a_wchars_3⟩, hm_4, h⟩ := ob_e h
    replace h : _ = _ := h
    refine kv_eVv (ws2 := (wWr qy cC v_wlength_2 a_wchars_3)) C hJ [.int ((((97 : Int32) + (p0 - p0 / 8 * 8)).toUInt32 % 65536).toInt32)] 0 (c_X8_add l D qy cC tq v_wlength a_wchars ((((97 : Int32) + (p0 - p0 / 8 * 8)).toUInt32 % 65536).toInt32) v_wlength_2 a_wchars_3 hm_4) (cv_X8_add C.ts lm_RX8_23 ⟨Nat.le_of_ble_eq_true rfl, Nat.le_of_ble_eq_true rfl⟩) rfl rfl [0, 1] [] [0] [0, 1] rfl rfl rfl rfl rfl (by decide) rfl rfl rfl (Nat.le_of_ble_eq_true rfl) dX8_addPassed_21 ⟨Nat.zero_le _, Nat.zero_le _⟩ rfl rfl rfl ?_
    refine kv_aload_n C 0 dX8_addPassed_24 rfl rfl ?_
    refine kv_bipush C 49 dX8_addPassed_25 (by decide) ?_
    refine kv_iload_n C 1 dX8_addPassed_27 rfl rfl ?_
    refine kv_bipush C 8 dX8_addPassed_28 (by decide) ?_
    refine kv_idiv C dX8_addPassed_30 (by decide) ?_
    refine kv_iadd C dX8_addPassed_31 ?_
    refine kv_i2c C dX8_addPassed_32 ?_
    obtain ⟨⟨v_wlength_5, a_wchars_6⟩, hm_7, h⟩ := ob_e h
    replace h : _ = _ := h
    refine kv_eVv (ws2 := (wWr qy cC v_wlength_5 a_wchars_6)) C hJ [.int ((((49 : Int32) + (p0 / 8)).toUInt32 % 65536).toInt32)] 0 (c_X8_add l D qy cC tq v_wlength_2 a_wchars_3 ((((49 : Int32) + (p0 / 8)).toUInt32 % 65536).toInt32) v_wlength_5 a_wchars_6 hm_7) (cv_X8_add C.ts lm_RX8_23 ⟨Nat.le_of_ble_eq_true rfl, Nat.le_of_ble_eq_true rfl⟩) rfl rfl [0, 1] [] [0] [0, 1] rfl rfl rfl rfl rfl (by decide) rfl rfl rfl (Nat.le_of_ble_eq_true rfl) dX8_addPassed_33 ⟨Nat.zero_le _, Nat.zero_le _⟩ rfl rfl rfl ?_
    cases h
    exact hret _ _ dX8_addPassed_36
  · have h := oi_t h c_1
    refine kv_aload_n C 0 dX8_addPassed_5 rfl rfl ?_
    refine kv_bipush C 45 dX8_addPassed_6 (by decide) ?_
    obtain ⟨⟨v_wlength_8, a_wchars_9⟩, hm_10, h⟩ := ob_e h
    replace h : _ = _ := h
    refine kv_eVv (ws2 := (wWr qy cC v_wlength_8 a_wchars_9)) C hJ [.int 45] 0 (c_X8_add l D qy cC tq v_wlength a_wchars 45 v_wlength_8 a_wchars_9 hm_10) (cv_X8_add C.ts lm_RX8_23 ⟨Nat.le_of_ble_eq_true rfl, Nat.le_of_ble_eq_true rfl⟩) rfl rfl [0, 1] [] [0] [0, 1] rfl rfl rfl rfl rfl (by decide) rfl rfl rfl (Nat.le_of_ble_eq_true rfl) dX8_addPassed_8 ⟨Nat.zero_le _, Nat.zero_le _⟩ rfl rfl rfl ?_
    cases h
    exact hret _ _ dX8_addPassed_11
def m_X8_addNumber_b18 (k18 : Int32 → (Nat → Int32) → Int32 → Int32 → Option (Int32 × (Nat → Int32))) (v_wlength : Int32) (a_wchars : Nat → Int32) (x1 : Int32) (x2 : Int32) : Option (Int32 × (Nat → Int32)) := if x2 ≤ 0 then some (v_wlength, a_wchars) else odz (x2) (ol (x1 / x2) fun y_3 => ob (m_X8_add v_wlength a_wchars ((((48 : Int32) + (y_3 - y_3 / 10 * 10)).toUInt32 % 65536).toInt32)) fun (v_wlength_4, a_wchars_5) => ol (x2 / 10) fun x2_7 => k18 v_wlength_4 a_wchars_5 x1 x2_7)
def m_X8_addNumber_l18 (n : Nat) : Int32 → (Nat → Int32) → Int32 → Int32 → Option (Int32 × (Nat → Int32)) := fz (fun _ _ _ _ => none) (fun k18 v_wlength a_wchars x1 x2 => m_X8_addNumber_b18 k18 v_wlength a_wchars x1 x2) n
def m_X8_addNumber_b2 (k2 : Int32 → (Nat → Int32) → Int32 → Int32 → Option (Int32 × (Nat → Int32))) (v_wlength : Int32) (a_wchars : Nat → Int32) (x1 : Int32) (x2 : Int32) : Option (Int32 × (Nat → Int32)) := if (x1 / 10) < x2 then m_X8_addNumber_l18 kF v_wlength a_wchars x1 x2 else ol (x2 * 10) fun x2_9 => k2 v_wlength a_wchars x1 x2_9
def m_X8_addNumber_l2 (n : Nat) : Int32 → (Nat → Int32) → Int32 → Int32 → Option (Int32 × (Nat → Int32)) := fz (fun _ _ _ _ => none) (fun k2 v_wlength a_wchars x1 x2 => m_X8_addNumber_b2 k2 v_wlength a_wchars x1 x2) n
def m_X8_addNumber (v_wlength : Int32) (a_wchars : Nat → Int32) (p0 : Int32) : Option (Int32 × (Nat → Int32)) := m_X8_addNumber_l2 kF v_wlength a_wchars p0 1
abbrev rm_X8_addNumber : Room := { frames := 1, cells := 0, slots := 0, locals := 21 }
abbrev wy_X8_addNumber : List Cond := .code yX8_addNumber cX8_addNumber 3 none :: gT
theorem cv_X8_addNumber {R : Room} {s : State} {args : Array Value} {own : String} {index : Nat} {w0 : Cond} (hts : ∀ w ∈ w0 :: gT, w.before args s = true) (hl : Cond.methodLink own index yX8_addNumber ∈ gT) (hR : 1 + 1 ≤ R.frames ∧ 8 + (3 + 11) + 21 ≤ R.locals) : CallW R s args own RX8 index yX8_addNumber cX8_addNumber 3 none wy_X8_addNumber rm_X8_addNumber 0 0 1 :=
  cwV 1 hts (gT_call w0 (pre := [.methodLink own index yX8_addNumber, .instanceMethod yX8_addNumber, .selects RX8 yX8_addNumber yX8_addNumber, .initialized RX8]) (gT_lc hl (gT_lc ly_yX8_addNumber (gT_lc lx_yX8_addNumber (gT_l1 li_RX8)))) lc_yX8_addNumber) rfl rfl rfl (by decide +kernel) hR
set_option maxRecDepth 100000 in
set_option maxHeartbeats 4000000 in
theorem c_X8_addNumber (l : Launch) (D : va_G) (qy : Nat → Nat) (cC : ClassId) (tq : Nat → Nat) (v_wlength : Int32) (a_wchars : Nat → Int32) (p0 : Int32) (v_wlength' : Int32) (a_wchars' : Nat → Int32) (hm : m_X8_addNumber v_wlength a_wchars p0 = some (v_wlength', a_wchars')) : kEv l yX8_addNumber wy_X8_addNumber rm_X8_addNumber D [(cC, .char)] tq (wWr qy cC v_wlength a_wchars) (wWr qy cC v_wlength' a_wchars') [.ref (qy 0), .int p0] := by
  refine kEv.of cX8_addNumber 3 none (by decide) rfl rfl (Nat.le_of_ble_eq_true rfl) ?_
  intro p e s m below meth c A Q C hJ hret
  have hin8 : ∀ w ∈ wsX80, w ∈ wy_X8_addNumber := fun w h => List.mem_cons_of_mem _ (inG8 w h)
  have l18 : ∀ (n18 : Nat) (v_wlength : Int32) (a_wchars : Nat → Int32) (x1 : Int32) (x2 : Int32), m_X8_addNumber_l18   n18 v_wlength a_wchars x1 x2 = some (v_wlength', a_wchars') → kv p l e rm_X8_addNumber s m ([.ref (qy 0), .int p0] : List Value).toArray below meth c D A 3 0 0 Q (wWr qy cC v_wlength a_wchars) [(0, .ref (qy 0)), (1, .int x1), (2, .int x2)] 18 [] := by
    intro n18
    induction n18 with
    | zero =>
      intro v_wlength a_wchars x1 x2 h
      exact kv_no h
    | succ n18 ih18 =>
      intro v_wlength a_wchars x1 x2 h
      replace h : m_X8_addNumber_b18  (m_X8_addNumber_l18   n18) v_wlength a_wchars x1 x2 = some (v_wlength', a_wchars') := h
      unfold m_X8_addNumber_b18 at h
      refine kv_iload_n C 2 dX8_addNumber_18 rfl rfl ?_
      refine kv_if_le C 44 dX8_addNumber_19 (by decide) (fun c_1 => ?_) (fun c_1 => ?_)
      · have h := oi_t h c_1
        cases h
        exact hret _ _ dX8_addNumber_44
      · have h := oi_f h c_1
        refine kv_aload_n C 0 dX8_addNumber_22 rfl rfl ?_
        refine kv_bipush C 48 dX8_addNumber_23 (by decide) ?_
        refine kv_iload_n C 1 dX8_addNumber_25 rfl rfl ?_
        refine kv_iload_n C 2 dX8_addNumber_26 rfl rfl ?_
        obtain ⟨g_2, h⟩ := odz_e h
        refine kv_idiv C dX8_addNumber_27 g_2 ?_
        refine kv_bipush C 10 dX8_addNumber_28 (by decide) ?_
        obtain ⟨y_3, ey_3, h⟩ := ol_e h
        refine kv_top2 ey_3 ?_
        refine kv_irem C dX8_addNumber_30 (by decide) ?_
        refine kv_iadd C dX8_addNumber_31 ?_
        refine kv_i2c C dX8_addNumber_32 ?_
        obtain ⟨⟨v_wlength_4, a_wchars_5⟩, hm_6, h⟩ := ob_e h
        replace h : _ = _ := h
        refine kv_eVv (ws2 := (wWr qy cC v_wlength_4 a_wchars_5)) C hJ [.int ((((48 : Int32) + (y_3 - y_3 / 10 * 10)).toUInt32 % 65536).toInt32)] 0 (c_X8_add l D qy cC tq v_wlength a_wchars ((((48 : Int32) + (y_3 - y_3 / 10 * 10)).toUInt32 % 65536).toInt32) v_wlength_4 a_wchars_5 hm_6) (cv_X8_add C.ts lm_RX8_23 ⟨Nat.le_of_ble_eq_true rfl, Nat.le_of_ble_eq_true rfl⟩) rfl rfl [0, 1] [] [0] [0, 1] rfl rfl rfl rfl rfl (by decide) rfl rfl rfl (Nat.le_of_ble_eq_true rfl) dX8_addNumber_33 ⟨Nat.zero_le _, Nat.zero_le _⟩ rfl rfl rfl ?_
        refine kv_iload_n C 2 dX8_addNumber_36 rfl rfl ?_
        refine kv_bipush C 10 dX8_addNumber_37 (by decide) ?_
        refine kv_idiv C dX8_addNumber_39 (by decide) ?_
        obtain ⟨x2_7, ex2_7, h⟩ := ol_e h
        refine kv_top ex2_7 ?_
        refine kv_istore_n C (lv2 := [(0, .ref (qy 0)), (1, .int x1), (2, .int x2_7)]) [1, 2, 0] dX8_addNumber_40 rfl (by decide) rfl rfl ?_
        refine kv_goto C 18 dX8_addNumber_41 (by decide) ?_
        exact kv_lv [0, 1, 2] (lv2 := [(0, .ref (qy 0)), (1, .int x1), (2, .int x2_7)]) rfl (ih18 v_wlength_4 a_wchars_5 x1 x2_7 h)
  have l2 : ∀ (n2 : Nat) (v_wlength : Int32) (a_wchars : Nat → Int32) (x1 : Int32) (x2 : Int32), m_X8_addNumber_l2   n2 v_wlength a_wchars x1 x2 = some (v_wlength', a_wchars') → kv p l e rm_X8_addNumber s m ([.ref (qy 0), .int p0] : List Value).toArray below meth c D A 3 0 0 Q (wWr qy cC v_wlength a_wchars) [(0, .ref (qy 0)), (1, .int x1), (2, .int x2)] 2 [] := by
    intro n2
    induction n2 with
    | zero =>
      intro v_wlength a_wchars x1 x2 h
      exact kv_no h
    | succ n2 ih2 =>
      intro v_wlength a_wchars x1 x2 h
      replace h : m_X8_addNumber_b2  (m_X8_addNumber_l2   n2) v_wlength a_wchars x1 x2 = some (v_wlength', a_wchars') := h
      unfold m_X8_addNumber_b2 at h
      refine kv_iload_n C 2 dX8_addNumber_2 rfl rfl ?_
      refine kv_iload_n C 1 dX8_addNumber_3 rfl rfl ?_
      refine kv_bipush C 10 dX8_addNumber_4 (by decide) ?_
      refine kv_idiv C dX8_addNumber_6 (by decide) ?_
      refine kv_icmp_gt C 18 dX8_addNumber_7 (by decide) (fun c_8 => ?_) (fun c_8 => ?_)
      · have h := oi_t h c_8
        exact kv_lv [0, 1, 2] (lv2 := [(0, .ref (qy 0)), (1, .int x1), (2, .int x2)]) rfl (l18 kF v_wlength a_wchars x1 x2 h)
      · have h := oi_f h c_8
        refine kv_iload_n C 2 dX8_addNumber_10 rfl rfl ?_
        refine kv_bipush C 10 dX8_addNumber_11 (by decide) ?_
        refine kv_imul C dX8_addNumber_13 ?_
        obtain ⟨x2_9, ex2_9, h⟩ := ol_e h
        refine kv_top ex2_9 ?_
        refine kv_istore_n C (lv2 := [(0, .ref (qy 0)), (1, .int x1), (2, .int x2_9)]) [1, 2, 0] dX8_addNumber_14 rfl (by decide) rfl rfl ?_
        refine kv_goto C 2 dX8_addNumber_15 (by decide) ?_
        exact kv_lv [0, 1, 2] (lv2 := [(0, .ref (qy 0)), (1, .int x1), (2, .int x2_9)]) rfl (ih2 v_wlength a_wchars x1 x2_9 h)
  unfold m_X8_addNumber at hm
  have h := hm
  refine kv_lv [0, 1] (lv2 := [(0, .ref (qy 0)), (1, .int p0)]) rfl ?_
  refine kv_iconst C 1 dX8_addNumber_0 (by decide) ?_
  refine kv_istore_n C (lv2 := [(0, .ref (qy 0)), (1, .int p0), (2, .int 1)]) [1, 2, 0] dX8_addNumber_1 rfl (by decide) rfl rfl ?_
  exact kv_lv [0, 1, 2] (lv2 := [(0, .ref (qy 0)), (1, .int p0), (2, .int 1)]) rfl (l2 kF v_wlength a_wchars p0 1 h)
def m_X8_put_b54 (v_wlength : Int32) (a_wchars : Nat → Int32) (v_mover : Int32) (v_rights : Int32) (v_passed : Int32) (v_halves : Int32) (v_number : Int32) (a_men : Nat → Int32) (t1 : Int32) : Option (Int32 × Int32 × (Nat → Int32)) := ob (m_X8_add v_wlength a_wchars t1) fun (v_wlength_1, a_wchars_2) => ob (m_X8_add v_wlength_1 a_wchars_2 32) fun (v_wlength_4, a_wchars_5) => ob (m_X8_addRights v_wlength_4 a_wchars_5 v_rights) fun (v_wlength_7, a_wchars_8) => ob (m_X8_add v_wlength_7 a_wchars_8 32) fun (v_wlength_10, a_wchars_11) => ob (m_X8_addPassed v_wlength_10 a_wchars_11 v_passed) fun (v_wlength_13, a_wchars_14) => ob (m_X8_add v_wlength_13 a_wchars_14 32) fun (v_wlength_16, a_wchars_17) => ob (m_X8_addNumber v_wlength_16 a_wchars_17 v_halves) fun (v_wlength_19, a_wchars_20) => ob (m_X8_add v_wlength_19 a_wchars_20 32) fun (v_wlength_22, a_wchars_23) => ob (m_X8_addNumber v_wlength_22 a_wchars_23 v_number) fun (v_wlength_25, a_wchars_26) => some (v_wlength_25, v_wlength_25, a_wchars_26)
def m_X8_put_b30 (k8 : Int32 → (Nat → Int32) → Int32 → Option (Int32 × Int32 × (Nat → Int32))) (v_wlength : Int32) (a_wchars : Nat → Int32) (v_mover : Int32) (v_rights : Int32) (v_passed : Int32) (v_halves : Int32) (v_number : Int32) (a_men : Nat → Int32) (x2 : Int32) (t1 : Int32) : Option (Int32 × Int32 × (Nat → Int32)) := ob (m_X8_add v_wlength a_wchars t1) fun (v_wlength_28, a_wchars_29) => ol (x2 + (-1)) fun x2_31 => k8 v_wlength_28 a_wchars_29 x2_31
def m_X8_put_b8 (k8 : Int32 → (Nat → Int32) → Int32 → Option (Int32 × Int32 × (Nat → Int32))) (v_wlength : Int32) (a_wchars : Nat → Int32) (v_mover : Int32) (v_rights : Int32) (v_passed : Int32) (v_halves : Int32) (v_number : Int32) (a_men : Nat → Int32) (x2 : Int32) : Option (Int32 × Int32 × (Nat → Int32)) := if x2 < 0 then if v_mover = 0 then m_X8_put_b54 v_wlength a_wchars v_mover v_rights v_passed v_halves v_number a_men 119 else m_X8_put_b54 v_wlength a_wchars v_mover v_rights v_passed v_halves v_number a_men 98 else ob (m_X8_addRow v_wlength a_wchars a_men x2) fun (v_wlength_34, a_wchars_35) => if x2 ≤ 0 then m_X8_put_b30 k8 v_wlength_34 a_wchars_35 v_mover v_rights v_passed v_halves v_number a_men x2 32 else m_X8_put_b30 k8 v_wlength_34 a_wchars_35 v_mover v_rights v_passed v_halves v_number a_men x2 47
def m_X8_put_l8 (v_mover : Int32) (v_rights : Int32) (v_passed : Int32) (v_halves : Int32) (v_number : Int32) (a_men : Nat → Int32) (n : Nat) : Int32 → (Nat → Int32) → Int32 → Option (Int32 × Int32 × (Nat → Int32)) := fz (fun _ _ _ => none) (fun k8 v_wlength a_wchars x2 => m_X8_put_b8 k8 v_wlength a_wchars v_mover v_rights v_passed v_halves v_number a_men x2) n
def m_X8_put (v_wlength : Int32) (a_wchars : Nat → Int32) (v_mover : Int32) (v_rights : Int32) (v_passed : Int32) (v_halves : Int32) (v_number : Int32) (a_men : Nat → Int32) : Option (Int32 × Int32 × (Nat → Int32)) := m_X8_put_l8 v_mover v_rights v_passed v_halves v_number a_men kF 0 a_wchars 7
abbrev rm_X8_put : Room := { frames := 5, cells := 0, slots := 0, locals := 110 }
abbrev wy_X8_put : List Cond := .code yX8_put cX8_put 3 (some .int) :: gT
theorem cv_X8_put {R : Room} {s : State} {args : Array Value} {own : String} {index : Nat} {w0 : Cond} (hts : ∀ w ∈ w0 :: gT, w.before args s = true) (hl : Cond.methodLink own index yX8_put ∈ gT) (hR : 5 + 1 ≤ R.frames ∧ 8 + (3 + 11) + 110 ≤ R.locals) : CallW R s args own RX8 index yX8_put cX8_put 3 (some .int) wy_X8_put rm_X8_put 0 0 1 :=
  cwV 1 hts (gT_call w0 (pre := [.methodLink own index yX8_put, .instanceMethod yX8_put, .selects RX8 yX8_put yX8_put, .initialized RX8]) (gT_lc hl (gT_lc ly_yX8_put (gT_lc lx_yX8_put (gT_l1 li_RX8)))) lc_yX8_put) rfl rfl rfl (by decide +kernel) hR
set_option maxRecDepth 100000 in
set_option maxHeartbeats 4000000 in
theorem c_X8_put (l : Launch) (D : va_G) (qy : Nat → Nat) (qb : Nat → Nat) (ql : Nat → Nat) (qw : Nat → Nat) (cI : ClassId) (cJ : ClassId) (cC : ClassId) (tq : Nat → Nat) (v_wlength : Int32) (a_wchars : Nat → Int32) (v_mover : Int32) (v_rights : Int32) (v_passed : Int32) (v_halves : Int32) (v_number : Int32) (v_balance : Int32) (a_men : Nat → Int32) (a_kinds : Nat → Int64) (a_sides : Nat → Int64) (a_rays : Nat → Int64) (a_knights : Nat → Int64) (a_kings : Nat → Int64) (a_pawns : Nat → Int64) (a_table : Nat → Int32) (rv : Int32) (v_wlength' : Int32) (a_wchars' : Nat → Int32) (hm : m_X8_put v_wlength a_wchars v_mover v_rights v_passed v_halves v_number a_men = some (rv, v_wlength', a_wchars')) : kEi l yX8_put wy_X8_put rm_X8_put D [(cI, .int), (cJ, .long), (cC, .char)] tq rv (wWrB qy qb ql qw cI cJ cC v_wlength a_wchars v_mover v_rights v_passed v_halves v_number v_balance a_men a_kinds a_sides a_rays a_knights a_kings a_pawns a_table) (wWrB qy qb ql qw cI cJ cC v_wlength' a_wchars' v_mover v_rights v_passed v_halves v_number v_balance a_men a_kinds a_sides a_rays a_knights a_kings a_pawns a_table) [.ref (qy 0), .ref (qb 0)] := by
  refine kEi.of cX8_put 3 (some .int) (by decide) rfl (Or.inl rfl) (Nat.le_of_ble_eq_true rfl) ?_
  intro p e s m below meth c A Q C hJ hret
  have hin0 : ∀ w ∈ wsX00, w ∈ wy_X8_put := fun w h => List.mem_cons_of_mem _ (inG0 w h)
  have hin3 : ∀ w ∈ wsX30, w ∈ wy_X8_put := fun w h => List.mem_cons_of_mem _ (inG3 w h)
  have hin7 : ∀ w ∈ wsX70, w ∈ wy_X8_put := fun w h => List.mem_cons_of_mem _ (inG7 w h)
  have hin8 : ∀ w ∈ wsX80, w ∈ wy_X8_put := fun w h => List.mem_cons_of_mem _ (inG8 w h)
  have j54 : ∀ (v_wlength : Int32) (a_wchars : Nat → Int32) (t1 : Int32), m_X8_put_b54  v_wlength a_wchars v_mover v_rights v_passed v_halves v_number a_men t1 = some (rv, v_wlength', a_wchars') → kv p l e rm_X8_put s m ([.ref (qy 0), .ref (qb 0)] : List Value).toArray below meth c D A 3 0 0 Q (wWrB qy qb ql qw cI cJ cC v_wlength a_wchars v_mover v_rights v_passed v_halves v_number v_balance a_men a_kinds a_sides a_rays a_knights a_kings a_pawns a_table) [(0, .ref (qy 0)), (1, .ref (qb 0))] 54 [.int t1, .ref (qy 0)] := by
    intro v_wlength a_wchars t1 h
    unfold m_X8_put_b54 at h
    obtain ⟨⟨v_wlength_1, a_wchars_2⟩, hm_3, h⟩ := ob_e h
    replace h : _ = _ := h
    refine kv_eVv (ws2 := (wWrB qy qb ql qw cI cJ cC v_wlength_1 a_wchars_2 v_mover v_rights v_passed v_halves v_number v_balance a_men a_kinds a_sides a_rays a_knights a_kings a_pawns a_table)) C hJ [.int t1] 0 (c_X8_add l D qy cC tq v_wlength a_wchars t1 v_wlength_1 a_wchars_2 hm_3) (cv_X8_add C.ts lm_RX8_23 ⟨Nat.le_of_ble_eq_true rfl, Nat.le_of_ble_eq_true rfl⟩) rfl rfl [0, 1] [2, 3, 4, 5, 6, 7, 8, 9, 10, 11, 12] [2] [11, 12, 0, 1, 2, 3, 4, 5, 6, 7, 8, 9, 10] rfl rfl rfl rfl rfl (by decide) rfl rfl rfl (Nat.le_of_ble_eq_true rfl) dX8_put_54 ⟨Nat.zero_le _, Nat.zero_le _⟩ rfl rfl rfl ?_
    refine kv_aload_n C 0 dX8_put_57 rfl rfl ?_
    refine kv_bipush C 32 dX8_put_58 (by decide) ?_
    obtain ⟨⟨v_wlength_4, a_wchars_5⟩, hm_6, h⟩ := ob_e h
    replace h : _ = _ := h
    refine kv_eVv (ws2 := (wWrB qy qb ql qw cI cJ cC v_wlength_4 a_wchars_5 v_mover v_rights v_passed v_halves v_number v_balance a_men a_kinds a_sides a_rays a_knights a_kings a_pawns a_table)) C hJ [.int 32] 0 (c_X8_add l D qy cC tq v_wlength_1 a_wchars_2 32 v_wlength_4 a_wchars_5 hm_6) (cv_X8_add C.ts lm_RX8_23 ⟨Nat.le_of_ble_eq_true rfl, Nat.le_of_ble_eq_true rfl⟩) rfl rfl [0, 1] [2, 3, 4, 5, 6, 7, 8, 9, 10, 11, 12] [2] [11, 12, 0, 1, 2, 3, 4, 5, 6, 7, 8, 9, 10] rfl rfl rfl rfl rfl (by decide) rfl rfl rfl (Nat.le_of_ble_eq_true rfl) dX8_put_60 ⟨Nat.zero_le _, Nat.zero_le _⟩ rfl rfl rfl ?_
    refine kv_aload_n C 0 dX8_put_63 rfl rfl ?_
    refine kv_aload_n C 1 dX8_put_64 rfl rfl ?_
    refine kv_get C (Cn := RX0) (T := TX0) (N := 11) 2 6 hin0 rfl rfl (by decide) (C.ts _ (List.mem_cons_of_mem _ lf_RX8_32)) rfl rfl dX8_put_65 ?_
    obtain ⟨⟨v_wlength_7, a_wchars_8⟩, hm_9, h⟩ := ob_e h
    replace h : _ = _ := h
    refine kv_eVv (ws2 := (wWrB qy qb ql qw cI cJ cC v_wlength_7 a_wchars_8 v_mover v_rights v_passed v_halves v_number v_balance a_men a_kinds a_sides a_rays a_knights a_kings a_pawns a_table)) C hJ [.int v_rights] 0 (c_X8_addRights l D qy cC tq v_wlength_4 a_wchars_5 v_rights v_wlength_7 a_wchars_8 hm_9) (cv_X8_addRights C.ts lm_RX8_35 ⟨Nat.le_of_ble_eq_true rfl, Nat.le_of_ble_eq_true rfl⟩) rfl rfl [0, 1] [2, 3, 4, 5, 6, 7, 8, 9, 10, 11, 12] [2] [11, 12, 0, 1, 2, 3, 4, 5, 6, 7, 8, 9, 10] rfl rfl rfl rfl rfl (by decide) rfl rfl rfl (Nat.le_of_ble_eq_true rfl) dX8_put_68 ⟨Nat.zero_le _, Nat.zero_le _⟩ rfl rfl rfl ?_
    refine kv_aload_n C 0 dX8_put_71 rfl rfl ?_
    refine kv_bipush C 32 dX8_put_72 (by decide) ?_
    obtain ⟨⟨v_wlength_10, a_wchars_11⟩, hm_12, h⟩ := ob_e h
    replace h : _ = _ := h
    refine kv_eVv (ws2 := (wWrB qy qb ql qw cI cJ cC v_wlength_10 a_wchars_11 v_mover v_rights v_passed v_halves v_number v_balance a_men a_kinds a_sides a_rays a_knights a_kings a_pawns a_table)) C hJ [.int 32] 0 (c_X8_add l D qy cC tq v_wlength_7 a_wchars_8 32 v_wlength_10 a_wchars_11 hm_12) (cv_X8_add C.ts lm_RX8_23 ⟨Nat.le_of_ble_eq_true rfl, Nat.le_of_ble_eq_true rfl⟩) rfl rfl [0, 1] [2, 3, 4, 5, 6, 7, 8, 9, 10, 11, 12] [2] [11, 12, 0, 1, 2, 3, 4, 5, 6, 7, 8, 9, 10] rfl rfl rfl rfl rfl (by decide) rfl rfl rfl (Nat.le_of_ble_eq_true rfl) dX8_put_74 ⟨Nat.zero_le _, Nat.zero_le _⟩ rfl rfl rfl ?_
    refine kv_aload_n C 0 dX8_put_77 rfl rfl ?_
    refine kv_aload_n C 1 dX8_put_78 rfl rfl ?_
    refine kv_get C (Cn := RX0) (T := TX0) (N := 11) 2 7 hin0 rfl rfl (by decide) (C.ts _ (List.mem_cons_of_mem _ lf_RX8_39)) rfl rfl dX8_put_79 ?_
    obtain ⟨⟨v_wlength_13, a_wchars_14⟩, hm_15, h⟩ := ob_e h
    replace h : _ = _ := h
    refine kv_eVv (ws2 := (wWrB qy qb ql qw cI cJ cC v_wlength_13 a_wchars_14 v_mover v_rights v_passed v_halves v_number v_balance a_men a_kinds a_sides a_rays a_knights a_kings a_pawns a_table)) C hJ [.int v_passed] 0 (c_X8_addPassed l D qy cC tq v_wlength_10 a_wchars_11 v_passed v_wlength_13 a_wchars_14 hm_15) (cv_X8_addPassed C.ts lm_RX8_42 ⟨Nat.le_of_ble_eq_true rfl, Nat.le_of_ble_eq_true rfl⟩) rfl rfl [0, 1] [2, 3, 4, 5, 6, 7, 8, 9, 10, 11, 12] [2] [11, 12, 0, 1, 2, 3, 4, 5, 6, 7, 8, 9, 10] rfl rfl rfl rfl rfl (by decide) rfl rfl rfl (Nat.le_of_ble_eq_true rfl) dX8_put_82 ⟨Nat.zero_le _, Nat.zero_le _⟩ rfl rfl rfl ?_
    refine kv_aload_n C 0 dX8_put_85 rfl rfl ?_
    refine kv_bipush C 32 dX8_put_86 (by decide) ?_
    obtain ⟨⟨v_wlength_16, a_wchars_17⟩, hm_18, h⟩ := ob_e h
    replace h : _ = _ := h
    refine kv_eVv (ws2 := (wWrB qy qb ql qw cI cJ cC v_wlength_16 a_wchars_17 v_mover v_rights v_passed v_halves v_number v_balance a_men a_kinds a_sides a_rays a_knights a_kings a_pawns a_table)) C hJ [.int 32] 0 (c_X8_add l D qy cC tq v_wlength_13 a_wchars_14 32 v_wlength_16 a_wchars_17 hm_18) (cv_X8_add C.ts lm_RX8_23 ⟨Nat.le_of_ble_eq_true rfl, Nat.le_of_ble_eq_true rfl⟩) rfl rfl [0, 1] [2, 3, 4, 5, 6, 7, 8, 9, 10, 11, 12] [2] [11, 12, 0, 1, 2, 3, 4, 5, 6, 7, 8, 9, 10] rfl rfl rfl rfl rfl (by decide) rfl rfl rfl (Nat.le_of_ble_eq_true rfl) dX8_put_88 ⟨Nat.zero_le _, Nat.zero_le _⟩ rfl rfl rfl ?_
    refine kv_aload_n C 0 dX8_put_91 rfl rfl ?_
    refine kv_aload_n C 1 dX8_put_92 rfl rfl ?_
    refine kv_get C (Cn := RX0) (T := TX0) (N := 11) 2 8 hin0 rfl rfl (by decide) (C.ts _ (List.mem_cons_of_mem _ lf_RX8_45)) rfl rfl dX8_put_93 ?_
    obtain ⟨⟨v_wlength_19, a_wchars_20⟩, hm_21, h⟩ := ob_e h
    replace h : _ = _ := h
    refine kv_eVv (ws2 := (wWrB qy qb ql qw cI cJ cC v_wlength_19 a_wchars_20 v_mover v_rights v_passed v_halves v_number v_balance a_men a_kinds a_sides a_rays a_knights a_kings a_pawns a_table)) C hJ [.int v_halves] 0 (c_X8_addNumber l D qy cC tq v_wlength_16 a_wchars_17 v_halves v_wlength_19 a_wchars_20 hm_21) (cv_X8_addNumber C.ts lm_RX8_48 ⟨Nat.le_of_ble_eq_true rfl, Nat.le_of_ble_eq_true rfl⟩) rfl rfl [0, 1] [2, 3, 4, 5, 6, 7, 8, 9, 10, 11, 12] [2] [11, 12, 0, 1, 2, 3, 4, 5, 6, 7, 8, 9, 10] rfl rfl rfl rfl rfl (by decide) rfl rfl rfl (Nat.le_of_ble_eq_true rfl) dX8_put_96 ⟨Nat.zero_le _, Nat.zero_le _⟩ rfl rfl rfl ?_
    refine kv_aload_n C 0 dX8_put_99 rfl rfl ?_
    refine kv_bipush C 32 dX8_put_100 (by decide) ?_
    obtain ⟨⟨v_wlength_22, a_wchars_23⟩, hm_24, h⟩ := ob_e h
    replace h : _ = _ := h
    refine kv_eVv (ws2 := (wWrB qy qb ql qw cI cJ cC v_wlength_22 a_wchars_23 v_mover v_rights v_passed v_halves v_number v_balance a_men a_kinds a_sides a_rays a_knights a_kings a_pawns a_table)) C hJ [.int 32] 0 (c_X8_add l D qy cC tq v_wlength_19 a_wchars_20 32 v_wlength_22 a_wchars_23 hm_24) (cv_X8_add C.ts lm_RX8_23 ⟨Nat.le_of_ble_eq_true rfl, Nat.le_of_ble_eq_true rfl⟩) rfl rfl [0, 1] [2, 3, 4, 5, 6, 7, 8, 9, 10, 11, 12] [2] [11, 12, 0, 1, 2, 3, 4, 5, 6, 7, 8, 9, 10] rfl rfl rfl rfl rfl (by decide) rfl rfl rfl (Nat.le_of_ble_eq_true rfl) dX8_put_102 ⟨Nat.zero_le _, Nat.zero_le _⟩ rfl rfl rfl ?_
    refine kv_aload_n C 0 dX8_put_105 rfl rfl ?_
    refine kv_aload_n C 1 dX8_put_106 rfl rfl ?_
    refine kv_get C (Cn := RX0) (T := TX0) (N := 11) 2 9 hin0 rfl rfl (by decide) (C.ts _ (List.mem_cons_of_mem _ lf_RX8_51)) rfl rfl dX8_put_107 ?_
    obtain ⟨⟨v_wlength_25, a_wchars_26⟩, hm_27, h⟩ := ob_e h
    replace h : _ = _ := h
    refine kv_eVv (ws2 := (wWrB qy qb ql qw cI cJ cC v_wlength_25 a_wchars_26 v_mover v_rights v_passed v_halves v_number v_balance a_men a_kinds a_sides a_rays a_knights a_kings a_pawns a_table)) C hJ [.int v_number] 0 (c_X8_addNumber l D qy cC tq v_wlength_22 a_wchars_23 v_number v_wlength_25 a_wchars_26 hm_27) (cv_X8_addNumber C.ts lm_RX8_48 ⟨Nat.le_of_ble_eq_true rfl, Nat.le_of_ble_eq_true rfl⟩) rfl rfl [0, 1] [2, 3, 4, 5, 6, 7, 8, 9, 10, 11, 12] [2] [11, 12, 0, 1, 2, 3, 4, 5, 6, 7, 8, 9, 10] rfl rfl rfl rfl rfl (by decide) rfl rfl rfl (Nat.le_of_ble_eq_true rfl) dX8_put_110 ⟨Nat.zero_le _, Nat.zero_le _⟩ rfl rfl rfl ?_
    refine kv_aload_n C 0 dX8_put_113 rfl rfl ?_
    refine kv_get C (Cn := RX8) (T := TX8) (N := 2) 0 1 hin8 rfl rfl (by decide) (C.ts _ (List.mem_cons_of_mem _ lf_RX8_15)) rfl rfl dX8_put_114 ?_
    cases h
    exact hret _ _ dX8_put_117 (fun q => by cases q)
  have l8 : ∀ (n8 : Nat) (v_wlength : Int32) (a_wchars : Nat → Int32) (x2 : Int32), m_X8_put_l8  v_mover v_rights v_passed v_halves v_number a_men n8 v_wlength a_wchars x2 = some (rv, v_wlength', a_wchars') → kv p l e rm_X8_put s m ([.ref (qy 0), .ref (qb 0)] : List Value).toArray below meth c D A 3 0 0 Q (wWrB qy qb ql qw cI cJ cC v_wlength a_wchars v_mover v_rights v_passed v_halves v_number v_balance a_men a_kinds a_sides a_rays a_knights a_kings a_pawns a_table) [(0, .ref (qy 0)), (1, .ref (qb 0)), (2, .int x2)] 8 [] := by
    intro n8
    induction n8 with
    | zero =>
      intro v_wlength a_wchars x2 h
      exact kv_no h
    | succ n8 ih8 =>
      have j30 : ∀ (v_wlength : Int32) (a_wchars : Nat → Int32) (x2 : Int32) (t1 : Int32), m_X8_put_b30 (m_X8_put_l8  v_mover v_rights v_passed v_halves v_number a_men n8) v_wlength a_wchars v_mover v_rights v_passed v_halves v_number a_men x2 t1 = some (rv, v_wlength', a_wchars') → kv p l e rm_X8_put s m ([.ref (qy 0), .ref (qb 0)] : List Value).toArray below meth c D A 3 0 0 Q (wWrB qy qb ql qw cI cJ cC v_wlength a_wchars v_mover v_rights v_passed v_halves v_number v_balance a_men a_kinds a_sides a_rays a_knights a_kings a_pawns a_table) [(0, .ref (qy 0)), (1, .ref (qb 0)), (2, .int x2)] 30 [.int t1, .ref (qy 0)] := by
        intro v_wlength a_wchars x2 t1 h
        unfold m_X8_put_b30 at h
        obtain ⟨⟨v_wlength_28, a_wchars_29⟩, hm_30, h⟩ := ob_e h
        replace h : _ = _ := h
        refine kv_eVv (ws2 := (wWrB qy qb ql qw cI cJ cC v_wlength_28 a_wchars_29 v_mover v_rights v_passed v_halves v_number v_balance a_men a_kinds a_sides a_rays a_knights a_kings a_pawns a_table)) C hJ [.int t1] 0 (c_X8_add l D qy cC tq v_wlength a_wchars t1 v_wlength_28 a_wchars_29 hm_30) (cv_X8_add C.ts lm_RX8_23 ⟨Nat.le_of_ble_eq_true rfl, Nat.le_of_ble_eq_true rfl⟩) rfl rfl [0, 1] [2, 3, 4, 5, 6, 7, 8, 9, 10, 11, 12] [2] [11, 12, 0, 1, 2, 3, 4, 5, 6, 7, 8, 9, 10] rfl rfl rfl rfl rfl (by decide) rfl rfl rfl (Nat.le_of_ble_eq_true rfl) dX8_put_30 ⟨Nat.zero_le _, Nat.zero_le _⟩ rfl rfl rfl ?_
        obtain ⟨x2_31, ex2_31, h⟩ := ol_e h
        refine kv_iinc C (v := x2_31) (lv2 := [(0, .ref (qy 0)), (1, .ref (qb 0)), (2, .int x2_31)]) 2 [1, 2, 0] dX8_put_33 rfl ex2_31.symm (by decide) rfl rfl ?_
        refine kv_goto C 8 dX8_put_36 (by decide) ?_
        exact kv_lv [0, 1, 2] (lv2 := [(0, .ref (qy 0)), (1, .ref (qb 0)), (2, .int x2_31)]) rfl (ih8 v_wlength_28 a_wchars_29 x2_31 h)
      intro v_wlength a_wchars x2 h
      replace h : m_X8_put_b8  (m_X8_put_l8  v_mover v_rights v_passed v_halves v_number a_men n8) v_wlength a_wchars v_mover v_rights v_passed v_halves v_number a_men x2 = some (rv, v_wlength', a_wchars') := h
      unfold m_X8_put_b8 at h
      refine kv_iload_n C 2 dX8_put_8 rfl rfl ?_
      refine kv_if_lt C 39 dX8_put_9 (by decide) (fun c_32 => ?_) (fun c_32 => ?_)
      · have h := oi_t h c_32
        refine kv_aload_n C 0 dX8_put_39 rfl rfl ?_
        refine kv_aload_n C 1 dX8_put_40 rfl rfl ?_
        refine kv_get C (Cn := RX0) (T := TX0) (N := 11) 2 5 hin0 rfl rfl (by decide) (C.ts _ (List.mem_cons_of_mem _ lf_RX8_27)) rfl rfl dX8_put_41 ?_
        refine kv_if_ne C 52 dX8_put_44 (by decide) (fun c_33 => ?_) (fun c_33 => ?_)
        · have h := oi_f h c_33
          refine kv_bipush C 98 dX8_put_52 (by decide) ?_
          exact kv_lv [0, 1] (lv2 := [(0, .ref (qy 0)), (1, .ref (qb 0))]) rfl (j54 v_wlength a_wchars 98 h)
        · have h := oi_t h c_33
          refine kv_bipush C 119 dX8_put_47 (by decide) ?_
          refine kv_goto C 54 dX8_put_49 (by decide) ?_
          exact kv_lv [0, 1] (lv2 := [(0, .ref (qy 0)), (1, .ref (qb 0))]) rfl (j54 v_wlength a_wchars 119 h)
      · have h := oi_f h c_32
        refine kv_aload_n C 0 dX8_put_12 rfl rfl ?_
        refine kv_aload_n C 1 dX8_put_13 rfl rfl ?_
        refine kv_iload_n C 2 dX8_put_14 rfl rfl ?_
        obtain ⟨⟨v_wlength_34, a_wchars_35⟩, hm_36, h⟩ := ob_e h
        replace h : _ = _ := h
        refine kv_eVv (ws2 := (wWrB qy qb ql qw cI cJ cC v_wlength_34 a_wchars_35 v_mover v_rights v_passed v_halves v_number v_balance a_men a_kinds a_sides a_rays a_knights a_kings a_pawns a_table)) C hJ [.ref (qb 0), .int x2] 0 (c_X8_addRow l D qy qb ql qw cI cJ cC tq v_wlength a_wchars v_mover v_rights v_passed v_halves v_number v_balance a_men a_kinds a_sides a_rays a_knights a_kings a_pawns a_table x2 v_wlength_34 a_wchars_35 hm_36) (cv_X8_addRow C.ts lm_RX8_19 ⟨Nat.le_of_ble_eq_true rfl, Nat.le_of_ble_eq_true rfl⟩) rfl rfl [0, 1, 2, 3, 4, 5, 6, 7, 8, 9, 10, 11, 12] [] [0, 1, 2] [0, 1, 2, 3, 4, 5, 6, 7, 8, 9, 10, 11, 12] rfl rfl rfl rfl rfl (by decide) rfl rfl rfl (Nat.le_of_ble_eq_true rfl) dX8_put_15 ⟨Nat.zero_le _, Nat.zero_le _⟩ rfl rfl rfl ?_
        refine kv_aload_n C 0 dX8_put_18 rfl rfl ?_
        refine kv_iload_n C 2 dX8_put_19 rfl rfl ?_
        refine kv_if_le C 28 dX8_put_20 (by decide) (fun c_37 => ?_) (fun c_37 => ?_)
        · have h := oi_t h c_37
          refine kv_bipush C 32 dX8_put_28 (by decide) ?_
          exact kv_lv [0, 1, 2] (lv2 := [(0, .ref (qy 0)), (1, .ref (qb 0)), (2, .int x2)]) rfl (j30 v_wlength_34 a_wchars_35 x2 32 h)
        · have h := oi_f h c_37
          refine kv_bipush C 47 dX8_put_23 (by decide) ?_
          refine kv_goto C 30 dX8_put_25 (by decide) ?_
          exact kv_lv [0, 1, 2] (lv2 := [(0, .ref (qy 0)), (1, .ref (qb 0)), (2, .int x2)]) rfl (j30 v_wlength_34 a_wchars_35 x2 47 h)
  unfold m_X8_put at hm
  have h := hm
  refine kv_lv [0, 1] (lv2 := [(0, .ref (qy 0)), (1, .ref (qb 0))]) rfl ?_
  refine kv_aload_n C 0 dX8_put_0 rfl rfl ?_
  refine kv_iconst C 0 dX8_put_1 (by decide) ?_
  refine kv_put C (Cn := RX8) (T := TX8) (N := 2) (ty := .int) (ws1 := (wWrB qy qb ql qw cI cJ cC 0 a_wchars v_mover v_rights v_passed v_halves v_number v_balance a_men a_kinds a_sides a_rays a_knights a_kings a_pawns a_table)) 0 1 hin8 tyX8 tyX8_ok nmX8 rfl rfl (by decide) (C.ts _ (List.mem_cons_of_mem _ lf_RX8_15)) rfl rfl (by decide +kernel) rfl rfl (Nat.le_of_ble_eq_true rfl) rfl dX8_put_2 ?_
  refine kv_bipush C 7 dX8_put_5 (by decide) ?_
  refine kv_istore_n C (lv2 := [(0, .ref (qy 0)), (1, .ref (qb 0)), (2, .int 7)]) [1, 2, 0] dX8_put_7 rfl (by decide) rfl rfl ?_
  exact kv_lv [0, 1, 2] (lv2 := [(0, .ref (qy 0)), (1, .ref (qb 0)), (2, .int 7)]) rfl (l8 kF 0 a_wchars 7 h)
def m_X5_next_b24 (v_length : Int32) (v_at : Int32) (a_chars : Nat → Int32) (t0 : Int32) : Option (Int32) := some t0
def m_X5_next (v_length : Int32) (v_at : Int32) (a_chars : Nat → Int32) : Option (Int32) := if v_length ≤ v_at then m_X5_next_b24 v_length v_at a_chars (-1) else oin (v_at) 128 (m_X5_next_b24 v_length v_at a_chars (a_chars v_at.toNatClampNeg))
abbrev rm_X5_next : Room := { frames := 0, cells := 0, slots := 0, locals := 0 }
abbrev wy_X5_next : List Cond := .code yX5_next cX5_next 1 (some .int) :: gT
theorem cv_X5_next {R : Room} {s : State} {args : Array Value} {own : String} {index : Nat} {w0 : Cond} (hts : ∀ w ∈ w0 :: gT, w.before args s = true) (hl : Cond.methodLink own index yX5_next ∈ gT) (hR : 0 + 1 ≤ R.frames ∧ 8 + (1 + 11) + 0 ≤ R.locals) : CallW R s args own RX5 index yX5_next cX5_next 1 (some .int) wy_X5_next rm_X5_next 0 0 0 :=
  cwV 0 hts (gT_call w0 (pre := [.methodLink own index yX5_next, .instanceMethod yX5_next, .selects RX5 yX5_next yX5_next, .initialized RX5]) (gT_lc hl (gT_lc ly_yX5_next (gT_lc lx_yX5_next (gT_l1 li_RX5)))) lc_yX5_next) rfl rfl rfl (by decide +kernel) hR
set_option maxRecDepth 100000 in
set_option maxHeartbeats 4000000 in
theorem c_X5_next (l : Launch) (D : va_G) (qr : Nat → Nat) (qd : Nat → Nat) (ql : Nat → Nat) (qw : Nat → Nat) (cI : ClassId) (cJ : ClassId) (cC : ClassId) (tq : Nat → Nat) (v_wrongAt : Int32) (v_length : Int32) (v_at : Int32) (a_chars : Nat → Int32) (v_mover : Int32) (v_rights : Int32) (v_passed : Int32) (v_halves : Int32) (v_number : Int32) (v_balance : Int32) (a_men : Nat → Int32) (a_kinds : Nat → Int64) (a_sides : Nat → Int64) (a_rays : Nat → Int64) (a_knights : Nat → Int64) (a_kings : Nat → Int64) (a_pawns : Nat → Int64) (a_table : Nat → Int32) (rv : Int32) (hm : m_X5_next v_length v_at a_chars = some rv) : kEi l yX5_next wy_X5_next rm_X5_next D [(cI, .int), (cJ, .long), (cC, .char)] tq rv (wRe qr qd ql qw cI cJ cC v_wrongAt v_length v_at a_chars v_mover v_rights v_passed v_halves v_number v_balance a_men a_kinds a_sides a_rays a_knights a_kings a_pawns a_table) (wRe qr qd ql qw cI cJ cC v_wrongAt v_length v_at a_chars v_mover v_rights v_passed v_halves v_number v_balance a_men a_kinds a_sides a_rays a_knights a_kings a_pawns a_table) [.ref (qr 0)] := by
  refine kEi.of cX5_next 1 (some .int) (by decide) rfl (Or.inl rfl) (Nat.le_of_ble_eq_true rfl) ?_
  intro p e s m below meth c A Q C hJ hret
  have hin0 : ∀ w ∈ wsX00, w ∈ wy_X5_next := fun w h => List.mem_cons_of_mem _ (inG0 w h)
  have hin3 : ∀ w ∈ wsX30, w ∈ wy_X5_next := fun w h => List.mem_cons_of_mem _ (inG3 w h)
  have hin5 : ∀ w ∈ wsX50, w ∈ wy_X5_next := fun w h => List.mem_cons_of_mem _ (inG5 w h)
  have hin7 : ∀ w ∈ wsX70, w ∈ wy_X5_next := fun w h => List.mem_cons_of_mem _ (inG7 w h)
  have j24 : ∀ (t0 : Int32), m_X5_next_b24  v_length v_at a_chars t0 = some rv → kv p l e rm_X5_next s m ([.ref (qr 0)] : List Value).toArray below meth c D A 1 0 0 Q (wRe qr qd ql qw cI cJ cC v_wrongAt v_length v_at a_chars v_mover v_rights v_passed v_halves v_number v_balance a_men a_kinds a_sides a_rays a_knights a_kings a_pawns a_table) [] 24 [.int t0] := by
    intro t0 h
    unfold m_X5_next_b24 at h
    cases h
    exact hret _ _ dX5_next_24 (fun q => by cases q)
  unfold m_X5_next at hm
  have h := hm
  refine kv_lv [0] (lv2 := [(0, .ref (qr 0))]) rfl ?_
  refine kv_aload_n C 0 dX5_next_0 rfl rfl ?_
  refine kv_get C (Cn := RX5) (T := TX5) (N := 5) 0 4 hin5 rfl rfl (by decide) (C.ts _ (List.mem_cons_of_mem _ lf_RX5_37)) rfl rfl dX5_next_1 ?_
  refine kv_aload_n C 0 dX5_next_4 rfl rfl ?_
  refine kv_get C (Cn := RX5) (T := TX5) (N := 5) 0 3 hin5 rfl rfl (by decide) (C.ts _ (List.mem_cons_of_mem _ lf_RX5_29)) rfl rfl dX5_next_5 ?_
  refine kv_icmp_ge C 23 dX5_next_8 (by decide) (fun c_1 => ?_) (fun c_1 => ?_)
  · have h := oi_t h c_1
    refine kv_iconst C (-1) dX5_next_23 (by decide) ?_
    exact kv_lv [] (lv2 := []) rfl (j24 (-1) h)
  · have h := oi_f h c_1
    refine kv_aload_n C 0 dX5_next_11 rfl rfl ?_
    refine kv_get C (Cn := RX5) (T := TX5) (N := 5) 0 2 hin5 rfl rfl (by decide) (C.ts _ (List.mem_cons_of_mem _ lf_RX5_19)) rfl rfl dX5_next_12 ?_
    refine kv_aload_n C 0 dX5_next_15 rfl rfl ?_
    refine kv_get C (Cn := RX5) (T := TX5) (N := 5) 0 4 hin5 rfl rfl (by decide) (C.ts _ (List.mem_cons_of_mem _ lf_RX5_37)) rfl rfl dX5_next_16 ?_
    obtain ⟨g_2, h⟩ := oin_e h
    refine kv_cald C 1 2 rfl rfl g_2 dX5_next_19 ?_
    refine kv_goto C 24 dX5_next_20 (by decide) ?_
    exact kv_lv [] (lv2 := []) rfl (j24 (a_chars v_at.toNatClampNeg) h)
def m_X5_skip (v_length : Int32) (v_at : Int32) (a_chars : Nat → Int32) (p0 : Int32) : Option (Int32 × Int32) := ob (m_X5_next v_length v_at a_chars ) fun r_1 => if r_1 = p0 then ol (v_at + 1) fun y_4 => obl (1) (some (1, y_4)) else obl (0) (some (0, v_at))
abbrev rm_X5_skip : Room := { frames := 1, cells := 0, slots := 0, locals := 20 }
abbrev wy_X5_skip : List Cond := .code yX5_skip cX5_skip 2 (some .boolean) :: gT
theorem cv_X5_skip {R : Room} {s : State} {args : Array Value} {own : String} {index : Nat} {w0 : Cond} (hts : ∀ w ∈ w0 :: gT, w.before args s = true) (hl : Cond.methodLink own index yX5_skip ∈ gT) (hR : 1 + 1 ≤ R.frames ∧ 8 + (2 + 11) + 20 ≤ R.locals) : CallW R s args own RX5 index yX5_skip cX5_skip 2 (some .boolean) wy_X5_skip rm_X5_skip 0 0 1 :=
  cwV 1 hts (gT_call w0 (pre := [.methodLink own index yX5_skip, .instanceMethod yX5_skip, .selects RX5 yX5_skip yX5_skip, .initialized RX5]) (gT_lc hl (gT_lc ly_yX5_skip (gT_lc lx_yX5_skip (gT_l1 li_RX5)))) lc_yX5_skip) rfl rfl rfl (by decide +kernel) hR
set_option maxRecDepth 100000 in
set_option maxHeartbeats 4000000 in
theorem c_X5_skip (l : Launch) (D : va_G) (qr : Nat → Nat) (qd : Nat → Nat) (ql : Nat → Nat) (qw : Nat → Nat) (cI : ClassId) (cJ : ClassId) (cC : ClassId) (tq : Nat → Nat) (v_wrongAt : Int32) (v_length : Int32) (v_at : Int32) (a_chars : Nat → Int32) (v_mover : Int32) (v_rights : Int32) (v_passed : Int32) (v_halves : Int32) (v_number : Int32) (v_balance : Int32) (a_men : Nat → Int32) (a_kinds : Nat → Int64) (a_sides : Nat → Int64) (a_rays : Nat → Int64) (a_knights : Nat → Int64) (a_kings : Nat → Int64) (a_pawns : Nat → Int64) (a_table : Nat → Int32) (p0 : Int32) (rv : Int32) (v_at' : Int32) (hm : m_X5_skip v_length v_at a_chars p0 = some (rv, v_at')) : kEi l yX5_skip wy_X5_skip rm_X5_skip D [(cI, .int), (cJ, .long), (cC, .char)] tq rv (wRe qr qd ql qw cI cJ cC v_wrongAt v_length v_at a_chars v_mover v_rights v_passed v_halves v_number v_balance a_men a_kinds a_sides a_rays a_knights a_kings a_pawns a_table) (wRe qr qd ql qw cI cJ cC v_wrongAt v_length v_at' a_chars v_mover v_rights v_passed v_halves v_number v_balance a_men a_kinds a_sides a_rays a_knights a_kings a_pawns a_table) [.ref (qr 0), .int p0] := by
  refine kEi.of cX5_skip 2 (some .boolean) (by decide) rfl (Or.inr rfl) (Nat.le_of_ble_eq_true rfl) ?_
  intro p e s m below meth c A Q C hJ hret
  have hin0 : ∀ w ∈ wsX00, w ∈ wy_X5_skip := fun w h => List.mem_cons_of_mem _ (inG0 w h)
  have hin3 : ∀ w ∈ wsX30, w ∈ wy_X5_skip := fun w h => List.mem_cons_of_mem _ (inG3 w h)
  have hin5 : ∀ w ∈ wsX50, w ∈ wy_X5_skip := fun w h => List.mem_cons_of_mem _ (inG5 w h)
  have hin7 : ∀ w ∈ wsX70, w ∈ wy_X5_skip := fun w h => List.mem_cons_of_mem _ (inG7 w h)
  unfold m_X5_skip at hm
  have h := hm
  refine kv_lv [0, 1] (lv2 := [(0, .ref (qr 0)), (1, .int p0)]) rfl ?_
  refine kv_aload_n C 0 dX5_skip_0 rfl rfl ?_
  obtain ⟨r_1, hm_2, h⟩ := ob_e h
  refine kv_eVi (ws2 := (wRe qr qd ql qw cI cJ cC v_wrongAt v_length v_at a_chars v_mover v_rights v_passed v_halves v_number v_balance a_men a_kinds a_sides a_rays a_knights a_kings a_pawns a_table)) C hJ [] 0 (c_X5_next l D qr qd ql qw cI cJ cC tq v_wrongAt v_length v_at a_chars v_mover v_rights v_passed v_halves v_number v_balance a_men a_kinds a_sides a_rays a_knights a_kings a_pawns a_table  r_1 hm_2) (cv_X5_next C.ts lm_RX5_79 ⟨Nat.le_of_ble_eq_true rfl, Nat.le_of_ble_eq_true rfl⟩) rfl rfl [0, 1, 2, 3, 4, 5, 6, 7, 8, 9, 10, 11, 12] [] [0, 1, 2] [0, 1, 2, 3, 4, 5, 6, 7, 8, 9, 10, 11, 12] rfl rfl rfl rfl rfl (by decide) rfl rfl rfl (Nat.le_of_ble_eq_true rfl) dX5_skip_1 ⟨Nat.zero_le _, Nat.zero_le _⟩ rfl rfl rfl ?_
  refine kv_iload_n C 1 dX5_skip_4 rfl rfl ?_
  refine kv_icmp_eq C 10 dX5_skip_5 (by decide) (fun c_3 => ?_) (fun c_3 => ?_)
  · have h := oi_t h c_3
    refine kv_aload_n C 0 dX5_skip_10 rfl rfl ?_
    refine kv_dup C dX5_skip_11 rfl ?_
    refine kv_get C (Cn := RX5) (T := TX5) (N := 5) 0 4 hin5 rfl rfl (by decide) (C.ts _ (List.mem_cons_of_mem _ lf_RX5_37)) rfl rfl dX5_skip_12 ?_
    refine kv_iconst C 1 dX5_skip_15 (by decide) ?_
    refine kv_iadd C dX5_skip_16 ?_
    obtain ⟨y_4, ey_4, h⟩ := ol_e h
    refine kv_top ey_4 ?_
    refine kv_put C (Cn := RX5) (T := TX5) (N := 5) (ty := .int) (ws1 := (wRe qr qd ql qw cI cJ cC v_wrongAt v_length y_4 a_chars v_mover v_rights v_passed v_halves v_number v_balance a_men a_kinds a_sides a_rays a_knights a_kings a_pawns a_table)) 0 4 hin5 tyX5 tyX5_ok nmX5 rfl rfl (by decide) (C.ts _ (List.mem_cons_of_mem _ lf_RX5_37)) rfl rfl (by decide +kernel) rfl rfl (Nat.le_of_ble_eq_true rfl) rfl dX5_skip_17 ?_
    refine kv_iconst C 1 dX5_skip_20 (by decide) ?_
    obtain ⟨g_5, h⟩ := obl_e h
    cases h
    exact hret _ _ dX5_skip_21 (fun _ => g_5)
  · have h := oi_f h c_3
    refine kv_iconst C 0 dX5_skip_8 (by decide) ?_
    obtain ⟨g_6, h⟩ := obl_e h
    cases h
    exact hret _ _ dX5_skip_9 (fun _ => g_6)
def m_X5_nextDigit_b23 (v_length : Int32) (v_at : Int32) (a_chars : Nat → Int32) (t0 : Int32) : Option (Int32) := some t0
def m_X5_nextDigit_b22 (v_length : Int32) (v_at : Int32) (a_chars : Nat → Int32) : Option (Int32) := m_X5_nextDigit_b23 v_length v_at a_chars (-1)
def m_X5_nextDigit (v_length : Int32) (v_at : Int32) (a_chars : Nat → Int32) : Option (Int32) := ob (m_X5_next v_length v_at a_chars ) fun r_1 => ol (r_1 - 48) fun x1_3 => if x1_3 < 0 then m_X5_nextDigit_b22 v_length v_at a_chars else if 9 < x1_3 then m_X5_nextDigit_b22 v_length v_at a_chars else m_X5_nextDigit_b23 v_length v_at a_chars x1_3
abbrev rm_X5_nextDigit : Room := { frames := 1, cells := 0, slots := 0, locals := 20 }
abbrev wy_X5_nextDigit : List Cond := .code yX5_nextDigit cX5_nextDigit 2 (some .int) :: gT
theorem cv_X5_nextDigit {R : Room} {s : State} {args : Array Value} {own : String} {index : Nat} {w0 : Cond} (hts : ∀ w ∈ w0 :: gT, w.before args s = true) (hl : Cond.methodLink own index yX5_nextDigit ∈ gT) (hR : 1 + 1 ≤ R.frames ∧ 8 + (2 + 11) + 20 ≤ R.locals) : CallW R s args own RX5 index yX5_nextDigit cX5_nextDigit 2 (some .int) wy_X5_nextDigit rm_X5_nextDigit 0 0 0 :=
  cwV 0 hts (gT_call w0 (pre := [.methodLink own index yX5_nextDigit, .instanceMethod yX5_nextDigit, .selects RX5 yX5_nextDigit yX5_nextDigit, .initialized RX5]) (gT_lc hl (gT_lc ly_yX5_nextDigit (gT_lc lx_yX5_nextDigit (gT_l1 li_RX5)))) lc_yX5_nextDigit) rfl rfl rfl (by decide +kernel) hR
set_option maxRecDepth 100000 in
set_option maxHeartbeats 4000000 in
theorem c_X5_nextDigit (l : Launch) (D : va_G) (qr : Nat → Nat) (qd : Nat → Nat) (ql : Nat → Nat) (qw : Nat → Nat) (cI : ClassId) (cJ : ClassId) (cC : ClassId) (tq : Nat → Nat) (v_wrongAt : Int32) (v_length : Int32) (v_at : Int32) (a_chars : Nat → Int32) (v_mover : Int32) (v_rights : Int32) (v_passed : Int32) (v_halves : Int32) (v_number : Int32) (v_balance : Int32) (a_men : Nat → Int32) (a_kinds : Nat → Int64) (a_sides : Nat → Int64) (a_rays : Nat → Int64) (a_knights : Nat → Int64) (a_kings : Nat → Int64) (a_pawns : Nat → Int64) (a_table : Nat → Int32) (rv : Int32) (hm : m_X5_nextDigit v_length v_at a_chars = some rv) : kEi l yX5_nextDigit wy_X5_nextDigit rm_X5_nextDigit D [(cI, .int), (cJ, .long), (cC, .char)] tq rv (wRe qr qd ql qw cI cJ cC v_wrongAt v_length v_at a_chars v_mover v_rights v_passed v_halves v_number v_balance a_men a_kinds a_sides a_rays a_knights a_kings a_pawns a_table) (wRe qr qd ql qw cI cJ cC v_wrongAt v_length v_at a_chars v_mover v_rights v_passed v_halves v_number v_balance a_men a_kinds a_sides a_rays a_knights a_kings a_pawns a_table) [.ref (qr 0)] := by
  refine kEi.of cX5_nextDigit 2 (some .int) (by decide) rfl (Or.inl rfl) (Nat.le_of_ble_eq_true rfl) ?_
  intro p e s m below meth c A Q C hJ hret
  have hin0 : ∀ w ∈ wsX00, w ∈ wy_X5_nextDigit := fun w h => List.mem_cons_of_mem _ (inG0 w h)
  have hin3 : ∀ w ∈ wsX30, w ∈ wy_X5_nextDigit := fun w h => List.mem_cons_of_mem _ (inG3 w h)
  have hin5 : ∀ w ∈ wsX50, w ∈ wy_X5_nextDigit := fun w h => List.mem_cons_of_mem _ (inG5 w h)
  have hin7 : ∀ w ∈ wsX70, w ∈ wy_X5_nextDigit := fun w h => List.mem_cons_of_mem _ (inG7 w h)
  have j23 : ∀ (t0 : Int32), m_X5_nextDigit_b23  v_length v_at a_chars t0 = some rv → kv p l e rm_X5_nextDigit s m ([.ref (qr 0)] : List Value).toArray below meth c D A 2 0 0 Q (wRe qr qd ql qw cI cJ cC v_wrongAt v_length v_at a_chars v_mover v_rights v_passed v_halves v_number v_balance a_men a_kinds a_sides a_rays a_knights a_kings a_pawns a_table) [] 23 [.int t0] := by
    intro t0 h
    unfold m_X5_nextDigit_b23 at h
    cases h
    exact hret _ _ dX5_nextDigit_23 (fun q => by cases q)
  have j22 : m_X5_nextDigit_b22  v_length v_at a_chars  = some rv → kv p l e rm_X5_nextDigit s m ([.ref (qr 0)] : List Value).toArray below meth c D A 2 0 0 Q (wRe qr qd ql qw cI cJ cC v_wrongAt v_length v_at a_chars v_mover v_rights v_passed v_halves v_number v_balance a_men a_kinds a_sides a_rays a_knights a_kings a_pawns a_table) [] 22 [] := by
    intro  h
    unfold m_X5_nextDigit_b22 at h
    refine kv_iconst C (-1) dX5_nextDigit_22 (by decide) ?_
    exact kv_lv [] (lv2 := []) rfl (j23 (-1) h)
  unfold m_X5_nextDigit at hm
  have h := hm
  refine kv_lv [0] (lv2 := [(0, .ref (qr 0))]) rfl ?_
  refine kv_aload_n C 0 dX5_nextDigit_0 rfl rfl ?_
  obtain ⟨r_1, hm_2, h⟩ := ob_e h
  refine kv_eVi (ws2 := (wRe qr qd ql qw cI cJ cC v_wrongAt v_length v_at a_chars v_mover v_rights v_passed v_halves v_number v_balance a_men a_kinds a_sides a_rays a_knights a_kings a_pawns a_table)) C hJ [] 0 (c_X5_next l D qr qd ql qw cI cJ cC tq v_wrongAt v_length v_at a_chars v_mover v_rights v_passed v_halves v_number v_balance a_men a_kinds a_sides a_rays a_knights a_kings a_pawns a_table  r_1 hm_2) (cv_X5_next C.ts lm_RX5_79 ⟨Nat.le_of_ble_eq_true rfl, Nat.le_of_ble_eq_true rfl⟩) rfl rfl [0, 1, 2, 3, 4, 5, 6, 7, 8, 9, 10, 11, 12] [] [0, 1, 2] [0, 1, 2, 3, 4, 5, 6, 7, 8, 9, 10, 11, 12] rfl rfl rfl rfl rfl (by decide) rfl rfl rfl (Nat.le_of_ble_eq_true rfl) dX5_nextDigit_1 ⟨Nat.zero_le _, Nat.zero_le _⟩ rfl rfl rfl ?_
  refine kv_bipush C 48 dX5_nextDigit_4 (by decide) ?_
  refine kv_isub C dX5_nextDigit_6 ?_
  obtain ⟨x1_3, ex1_3, h⟩ := ol_e h
  refine kv_top ex1_3 ?_
  refine kv_istore_n C (lv2 := [(1, .int x1_3)]) [0] dX5_nextDigit_7 rfl (by decide) rfl rfl ?_
  refine kv_iload_n C 0 dX5_nextDigit_8 rfl rfl ?_
  refine kv_if_lt C 22 dX5_nextDigit_9 (by decide) (fun c_4 => ?_) (fun c_4 => ?_)
  · have h := oi_t h c_4
    exact kv_lv [] (lv2 := []) rfl (j22  h)
  · have h := oi_f h c_4
    refine kv_iload_n C 0 dX5_nextDigit_12 rfl rfl ?_
    refine kv_bipush C 9 dX5_nextDigit_13 (by decide) ?_
    refine kv_icmp_gt C 22 dX5_nextDigit_15 (by decide) (fun c_5 => ?_) (fun c_5 => ?_)
    · have h := oi_t h c_5
      exact kv_lv [] (lv2 := []) rfl (j22  h)
    · have h := oi_f h c_5
      refine kv_iload_n C 0 dX5_nextDigit_18 rfl rfl ?_
      refine kv_goto C 23 dX5_nextDigit_19 (by decide) ?_
      exact kv_lv [] (lv2 := []) rfl (j23 x1_3 h)
def m_X5_manOf_b32 (t0 : Int32) : Option (Int32) := some t0
def m_X5_manOf_b16 (t0 : Int32) : Option (Int32) := if 6 ≤ t0 then m_X5_manOf_b32 ((5 : Int32) - t0) else m_X5_manOf_b32 (t0 + 1)
def m_X5_manOf (p0 : Int32) : Option (Int32) := if p0 = (-1) then m_X5_manOf_b16 (-1) else ob (m_J0_indexOf_0f7a4 [80, 78, 66, 82, 81, 75, 112, 110, 98, 114, 113, 107] ((p0.toUInt32 % 65536).toInt32)) fun r_3 => m_X5_manOf_b16 r_3
abbrev rm_X5_manOf : Room := { frames := 4, cells := 0, slots := 0, locals := 91 }
abbrev wy_X5_manOf : List Cond := .code yX5_manOf cX5_manOf 2 (some .int) :: gT
theorem cs_X5_manOf {R : Room} {s : State} {args : Array Value} {own : String} {index : Nat} {w0 : Cond} (hts : ∀ w ∈ w0 :: gT, w.before args s = true) (hl : Cond.methodLink own index yX5_manOf ∈ gT) (hR : 4 + 1 ≤ R.frames ∧ 8 + (2 + 11) + 91 ≤ R.locals) : CallB R s args own index yX5_manOf cX5_manOf 2 (some .int) wy_X5_manOf rm_X5_manOf 0 0 1 ∧ (Cond.static yX5_manOf).before args s = true :=
  va_cwS 1 hts (gT_call w0 (pre := [.methodLink own index yX5_manOf, .static yX5_manOf, .initialized yX5_manOf.cls]) (gT_lc hl (gT_lc ls_yX5_manOf (gT_l1 li_RX5))) lc_yX5_manOf) rfl rfl rfl (by decide +kernel) hR
set_option maxRecDepth 100000 in
set_option maxHeartbeats 4000000 in
theorem c_X5_manOf (l : Launch) (D : va_G) (tq : Nat → Nat) (p0 : Int32) (rv : Int32) (hm : m_X5_manOf p0 = some rv) : kEi l yX5_manOf wy_X5_manOf rm_X5_manOf D [] tq rv [] [] [.int p0] := by
  refine kEi.ofN cX5_manOf 2 .int (by decide +kernel) rfl (Nat.le_of_ble_eq_true rfl) ?_
  intro p e s m below meth c A Q C hJ hret
  have j32 : ∀ (t0 : Int32), m_X5_manOf_b32   t0 = some rv → kv p l e rm_X5_manOf s m ([.int p0] : List Value).toArray below meth c D A 2 0 0 Q [] [] 32 [.int t0] := by
    intro t0 h
    unfold m_X5_manOf_b32 at h
    cases h
    exact hret _ _ dX5_manOf_32 rfl
  have j16 : ∀ (t0 : Int32), m_X5_manOf_b16   t0 = some rv → kv p l e rm_X5_manOf s m ([.int p0] : List Value).toArray below meth c D A 2 0 0 Q [] [] 16 [.int t0] := by
    intro t0 h
    unfold m_X5_manOf_b16 at h
    refine kv_istore_n C (lv2 := [(1, .int t0)]) [0] dX5_manOf_16 rfl (by decide) rfl rfl ?_
    refine kv_iload_n C 0 dX5_manOf_17 rfl rfl ?_
    refine kv_bipush C 6 dX5_manOf_18 (by decide) ?_
    refine kv_icmp_ge C 29 dX5_manOf_20 (by decide) (fun c_1 => ?_) (fun c_1 => ?_)
    · have h := oi_t h c_1
      refine kv_iconst C 5 dX5_manOf_29 (by decide) ?_
      refine kv_iload_n C 0 dX5_manOf_30 rfl rfl ?_
      refine kv_isub C dX5_manOf_31 ?_
      exact kv_lv [] (lv2 := []) rfl (j32 ((5 : Int32) - t0) h)
    · have h := oi_f h c_1
      refine kv_iload_n C 0 dX5_manOf_23 rfl rfl ?_
      refine kv_iconst C 1 dX5_manOf_24 (by decide) ?_
      refine kv_iadd C dX5_manOf_25 ?_
      refine kv_goto C 32 dX5_manOf_26 (by decide) ?_
      exact kv_lv [] (lv2 := []) rfl (j32 (t0 + 1) h)
  unfold m_X5_manOf at hm
  have h := hm
  refine kv_lv [0] (lv2 := [(0, .int p0)]) rfl ?_
  refine kv_iload_n C 0 dX5_manOf_0 rfl rfl ?_
  refine kv_iconst C (-1) dX5_manOf_1 (by decide) ?_
  refine kv_icmp_ne C 9 dX5_manOf_2 (by decide) (fun c_2 => ?_) (fun c_2 => ?_)
  · have h := oi_f h c_2
    refine kv_ldcS C (q := tq (8 + 0)) (hJ.2.2.1 0 _ rfl).1 dX5_manOf_9 ?_
    refine kv_iload_n C 0 dX5_manOf_11 rfl rfl ?_
    refine kv_i2c C dX5_manOf_12 ?_
    obtain ⟨r_3, hm_4, h⟩ := ob_e h
    refine kv_eO0i C hJ [.int ((p0.toUInt32 % 65536).toInt32)] (c_J0_indexOf_0f7a4 l D tq 0 RX5 95 "PNBRQKpnbrqk" [80, 78, 66, 82, 81, 75, 112, 110, 98, 114, 113, 107] rfl ((p0.toUInt32 % 65536).toInt32) r_3 hm_4) (cv_J0_indexOf_0f7a4 C.ts lm_RX5_97 ⟨Nat.le_of_ble_eq_true rfl, Nat.le_of_ble_eq_true rfl⟩) (hJ.2.2.1 0 _ rfl).2.1 rfl rfl (Nat.le_of_ble_eq_true rfl) dX5_manOf_13 ⟨Nat.zero_le _, Nat.zero_le _⟩ ?_
    exact kv_lv [] (lv2 := []) rfl (j16 r_3 h)
  · have h := oi_t h c_2
    refine kv_iconst C (-1) dX5_manOf_5 (by decide) ?_
    refine kv_goto C 16 dX5_manOf_6 (by decide) ?_
    exact kv_lv [] (lv2 := []) rfl (j16 (-1) h)
def m_X5_readRow_b81 (v_length : Int32) (v_at : Int32) (a_chars : Nat → Int32) (v_balance : Int32) (a_men : Nat → Int32) (a_kinds : Nat → Int64) (a_sides : Nat → Int64) (a_table : Nat → Int32) : Option (Int32 × Int32 × Int32 × (Nat → Int32) × (Nat → Int64) × (Nat → Int64)) := obl (0) (some (0, v_at, v_balance, a_men, a_kinds, a_sides))
def m_X5_readRow_b93 (k4 : Int32 → Int32 → (Nat → Int32) → (Nat → Int64) → (Nat → Int64) → Int32 → Int32 → Int32 → Option (Int32 × Int32 × Int32 × (Nat → Int32) × (Nat → Int64) × (Nat → Int64))) (v_length : Int32) (v_at : Int32) (a_chars : Nat → Int32) (v_balance : Int32) (a_men : Nat → Int32) (a_kinds : Nat → Int64) (a_sides : Nat → Int64) (a_table : Nat → Int32) (x1 : Int32) (x3 : Int32) (t0 : Int32) : Option (Int32 × Int32 × Int32 × (Nat → Int32) × (Nat → Int64) × (Nat → Int64)) := ol (v_at + 1) fun y_2 => k4 y_2 v_balance a_men a_kinds a_sides x1 t0 x3
def m_X5_readRow_b83 (k4 : Int32 → Int32 → (Nat → Int32) → (Nat → Int64) → (Nat → Int64) → Int32 → Int32 → Int32 → Option (Int32 × Int32 × Int32 × (Nat → Int32) × (Nat → Int64) × (Nat → Int64))) (v_length : Int32) (v_at : Int32) (a_chars : Nat → Int32) (v_balance : Int32) (a_men : Nat → Int32) (a_kinds : Nat → Int64) (a_sides : Nat → Int64) (a_table : Nat → Int32) (x1 : Int32) (x3 : Int32) (x5 : Int32) : Option (Int32 × Int32 × Int32 × (Nat → Int32) × (Nat → Int64) × (Nat → Int64)) := if x5 = 0 then m_X5_readRow_b93 k4 v_length v_at a_chars v_balance a_men a_kinds a_sides a_table x1 x3 1 else m_X5_readRow_b93 k4 v_length v_at a_chars v_balance a_men a_kinds a_sides a_table x1 x3 0
def m_X5_readRow_b4 (k4 : Int32 → Int32 → (Nat → Int32) → (Nat → Int64) → (Nat → Int64) → Int32 → Int32 → Int32 → Option (Int32 × Int32 × Int32 × (Nat → Int32) × (Nat → Int64) × (Nat → Int64))) (v_length : Int32) (v_at : Int32) (a_chars : Nat → Int32) (v_balance : Int32) (a_men : Nat → Int32) (a_kinds : Nat → Int64) (a_sides : Nat → Int64) (a_table : Nat → Int32) (x1 : Int32) (x2 : Int32) (x3 : Int32) : Option (Int32 × Int32 × Int32 × (Nat → Int32) × (Nat → Int64) × (Nat → Int64)) := if 8 ≤ x3 then obl (1) (some (1, v_at, v_balance, a_men, a_kinds, a_sides)) else ob (m_X5_next v_length v_at a_chars ) fun r_6 => ol (r_6 - 48) fun x4_8 => ob (m_X5_next v_length v_at a_chars ) fun r_9 => ob (m_X5_manOf r_9) fun r_11 => if r_11 = 0 then if x4_8 < 1 then m_X5_readRow_b81 v_length v_at a_chars v_balance a_men a_kinds a_sides a_table else if ((8 : Int32) - x3) < x4_8 then m_X5_readRow_b81 v_length v_at a_chars v_balance a_men a_kinds a_sides a_table else if x2 = 0 then ol (x3 + x4_8) fun x3_17 => m_X5_readRow_b83 k4 v_length v_at a_chars v_balance a_men a_kinds a_sides a_table x1 x3_17 r_11 else m_X5_readRow_b81 v_length v_at a_chars v_balance a_men a_kinds a_sides a_table else ob (m_X0_put v_balance a_men a_kinds a_sides a_table (((8 : Int32) * x1) + x3) r_11) fun (v_balance_18, a_men_19, a_kinds_20, a_sides_21) => ol (x3 + 1) fun x3_23 => m_X5_readRow_b83 k4 v_length v_at a_chars v_balance_18 a_men_19 a_kinds_20 a_sides_21 a_table x1 x3_23 r_11
def m_X5_readRow_l4 (v_length : Int32) (a_chars : Nat → Int32) (a_table : Nat → Int32) (n : Nat) : Int32 → Int32 → (Nat → Int32) → (Nat → Int64) → (Nat → Int64) → Int32 → Int32 → Int32 → Option (Int32 × Int32 × Int32 × (Nat → Int32) × (Nat → Int64) × (Nat → Int64)) := fz (fun _ _ _ _ _ _ _ _ => none) (fun k4 v_at v_balance a_men a_kinds a_sides x1 x2 x3 => m_X5_readRow_b4 k4 v_length v_at a_chars v_balance a_men a_kinds a_sides a_table x1 x2 x3) n
def m_X5_readRow (v_length : Int32) (v_at : Int32) (a_chars : Nat → Int32) (v_balance : Int32) (a_men : Nat → Int32) (a_kinds : Nat → Int64) (a_sides : Nat → Int64) (a_table : Nat → Int32) (p0 : Int32) : Option (Int32 × Int32 × Int32 × (Nat → Int32) × (Nat → Int64) × (Nat → Int64)) := m_X5_readRow_l4 v_length a_chars a_table kF v_at v_balance a_men a_kinds a_sides p0 0 0
abbrev rm_X5_readRow : Room := { frames := 5, cells := 0, slots := 0, locals := 112 }
abbrev wy_X5_readRow : List Cond := .code yX5_readRow cX5_readRow 6 (some .boolean) :: gT
theorem cv_X5_readRow {R : Room} {s : State} {args : Array Value} {own : String} {index : Nat} {w0 : Cond} (hts : ∀ w ∈ w0 :: gT, w.before args s = true) (hl : Cond.methodLink own index yX5_readRow ∈ gT) (hR : 5 + 1 ≤ R.frames ∧ 8 + (6 + 11) + 112 ≤ R.locals) : CallW R s args own RX5 index yX5_readRow cX5_readRow 6 (some .boolean) wy_X5_readRow rm_X5_readRow 0 0 1 :=
  cwV 1 hts (gT_call w0 (pre := [.methodLink own index yX5_readRow, .instanceMethod yX5_readRow, .selects RX5 yX5_readRow yX5_readRow, .initialized RX5]) (gT_lc hl (gT_lc ly_yX5_readRow (gT_lc lx_yX5_readRow (gT_l1 li_RX5)))) lc_yX5_readRow) rfl rfl rfl (by decide +kernel) hR
set_option maxRecDepth 100000 in
set_option maxHeartbeats 4000000 in
theorem c_X5_readRow (l : Launch) (D : va_G) (qr : Nat → Nat) (qd : Nat → Nat) (ql : Nat → Nat) (qw : Nat → Nat) (cI : ClassId) (cJ : ClassId) (cC : ClassId) (tq : Nat → Nat) (v_wrongAt : Int32) (v_length : Int32) (v_at : Int32) (a_chars : Nat → Int32) (v_mover : Int32) (v_rights : Int32) (v_passed : Int32) (v_halves : Int32) (v_number : Int32) (v_balance : Int32) (a_men : Nat → Int32) (a_kinds : Nat → Int64) (a_sides : Nat → Int64) (a_rays : Nat → Int64) (a_knights : Nat → Int64) (a_kings : Nat → Int64) (a_pawns : Nat → Int64) (a_table : Nat → Int32) (p0 : Int32) (rv : Int32) (v_at' : Int32) (v_balance' : Int32) (a_men' : Nat → Int32) (a_kinds' : Nat → Int64) (a_sides' : Nat → Int64) (hm : m_X5_readRow v_length v_at a_chars v_balance a_men a_kinds a_sides a_table p0 = some (rv, v_at', v_balance', a_men', a_kinds', a_sides')) : kEi l yX5_readRow wy_X5_readRow rm_X5_readRow D [(cI, .int), (cJ, .long), (cC, .char)] tq rv (wRe qr qd ql qw cI cJ cC v_wrongAt v_length v_at a_chars v_mover v_rights v_passed v_halves v_number v_balance a_men a_kinds a_sides a_rays a_knights a_kings a_pawns a_table) (wRe qr qd ql qw cI cJ cC v_wrongAt v_length v_at' a_chars v_mover v_rights v_passed v_halves v_number v_balance' a_men' a_kinds' a_sides' a_rays a_knights a_kings a_pawns a_table) [.ref (qr 0), .int p0] := by
  refine kEi.of cX5_readRow 6 (some .boolean) (by decide) rfl (Or.inr rfl) (Nat.le_of_ble_eq_true rfl) ?_
  intro p e s m below meth c A Q C hJ hret
  have hin0 : ∀ w ∈ wsX00, w ∈ wy_X5_readRow := fun w h => List.mem_cons_of_mem _ (inG0 w h)
  have hin3 : ∀ w ∈ wsX30, w ∈ wy_X5_readRow := fun w h => List.mem_cons_of_mem _ (inG3 w h)
  have hin5 : ∀ w ∈ wsX50, w ∈ wy_X5_readRow := fun w h => List.mem_cons_of_mem _ (inG5 w h)
  have hin7 : ∀ w ∈ wsX70, w ∈ wy_X5_readRow := fun w h => List.mem_cons_of_mem _ (inG7 w h)
  have j81 : ∀ (v_at : Int32) (v_balance : Int32) (a_men : Nat → Int32) (a_kinds : Nat → Int64) (a_sides : Nat → Int64), m_X5_readRow_b81  v_length v_at a_chars v_balance a_men a_kinds a_sides a_table  = some (rv, v_at', v_balance', a_men', a_kinds', a_sides') → kv p l e rm_X5_readRow s m ([.ref (qr 0), .int p0] : List Value).toArray below meth c D A 6 0 0 Q (wRe qr qd ql qw cI cJ cC v_wrongAt v_length v_at a_chars v_mover v_rights v_passed v_halves v_number v_balance a_men a_kinds a_sides a_rays a_knights a_kings a_pawns a_table) [] 81 [] := by
    intro v_at v_balance a_men a_kinds a_sides h
    unfold m_X5_readRow_b81 at h
    refine kv_iconst C 0 dX5_readRow_81 (by decide) ?_
    obtain ⟨g_1, h⟩ := obl_e h
    cases h
    exact hret _ _ dX5_readRow_82 (fun _ => g_1)
  have l4 : ∀ (n4 : Nat) (v_at : Int32) (v_balance : Int32) (a_men : Nat → Int32) (a_kinds : Nat → Int64) (a_sides : Nat → Int64) (x1 : Int32) (x2 : Int32) (x3 : Int32), m_X5_readRow_l4  v_length a_chars a_table n4 v_at v_balance a_men a_kinds a_sides x1 x2 x3 = some (rv, v_at', v_balance', a_men', a_kinds', a_sides') → kv p l e rm_X5_readRow s m ([.ref (qr 0), .int p0] : List Value).toArray below meth c D A 6 0 0 Q (wRe qr qd ql qw cI cJ cC v_wrongAt v_length v_at a_chars v_mover v_rights v_passed v_halves v_number v_balance a_men a_kinds a_sides a_rays a_knights a_kings a_pawns a_table) [(0, .ref (qr 0)), (1, .int x1), (2, .int x2), (3, .int x3)] 4 [] := by
    intro n4
    induction n4 with
    | zero =>
      intro v_at v_balance a_men a_kinds a_sides x1 x2 x3 h
      exact kv_no h
    | succ n4 ih4 =>
      have j93 : ∀ (v_at : Int32) (v_balance : Int32) (a_men : Nat → Int32) (a_kinds : Nat → Int64) (a_sides : Nat → Int64) (x1 : Int32) (x3 : Int32) (t0 : Int32), m_X5_readRow_b93 (m_X5_readRow_l4  v_length a_chars a_table n4) v_length v_at a_chars v_balance a_men a_kinds a_sides a_table x1 x3 t0 = some (rv, v_at', v_balance', a_men', a_kinds', a_sides') → kv p l e rm_X5_readRow s m ([.ref (qr 0), .int p0] : List Value).toArray below meth c D A 6 0 0 Q (wRe qr qd ql qw cI cJ cC v_wrongAt v_length v_at a_chars v_mover v_rights v_passed v_halves v_number v_balance a_men a_kinds a_sides a_rays a_knights a_kings a_pawns a_table) [(0, .ref (qr 0)), (1, .int x1), (3, .int x3)] 93 [.int t0] := by
        intro v_at v_balance a_men a_kinds a_sides x1 x3 t0 h
        unfold m_X5_readRow_b93 at h
        refine kv_istore_n C (lv2 := [(0, .ref (qr 0)), (1, .int x1), (2, .int t0), (3, .int x3)]) [1, 2, 0, 3] dX5_readRow_93 rfl (by decide) rfl rfl ?_
        refine kv_aload_n C 0 dX5_readRow_94 rfl rfl ?_
        refine kv_dup C dX5_readRow_95 rfl ?_
        refine kv_get C (Cn := RX5) (T := TX5) (N := 5) 0 4 hin5 rfl rfl (by decide) (C.ts _ (List.mem_cons_of_mem _ lf_RX5_37)) rfl rfl dX5_readRow_96 ?_
        refine kv_iconst C 1 dX5_readRow_99 (by decide) ?_
        refine kv_iadd C dX5_readRow_100 ?_
        obtain ⟨y_2, ey_2, h⟩ := ol_e h
        refine kv_top ey_2 ?_
        refine kv_put C (Cn := RX5) (T := TX5) (N := 5) (ty := .int) (ws1 := (wRe qr qd ql qw cI cJ cC v_wrongAt v_length y_2 a_chars v_mover v_rights v_passed v_halves v_number v_balance a_men a_kinds a_sides a_rays a_knights a_kings a_pawns a_table)) 0 4 hin5 tyX5 tyX5_ok nmX5 rfl rfl (by decide) (C.ts _ (List.mem_cons_of_mem _ lf_RX5_37)) rfl rfl (by decide +kernel) rfl rfl (Nat.le_of_ble_eq_true rfl) rfl dX5_readRow_101 ?_
        refine kv_goto C 4 dX5_readRow_104 (by decide) ?_
        exact kv_lv [0, 1, 2, 3] (lv2 := [(0, .ref (qr 0)), (1, .int x1), (2, .int t0), (3, .int x3)]) rfl (ih4 y_2 v_balance a_men a_kinds a_sides x1 t0 x3 h)
      have j83 : ∀ (v_at : Int32) (v_balance : Int32) (a_men : Nat → Int32) (a_kinds : Nat → Int64) (a_sides : Nat → Int64) (x1 : Int32) (x3 : Int32) (x5 : Int32), m_X5_readRow_b83 (m_X5_readRow_l4  v_length a_chars a_table n4) v_length v_at a_chars v_balance a_men a_kinds a_sides a_table x1 x3 x5 = some (rv, v_at', v_balance', a_men', a_kinds', a_sides') → kv p l e rm_X5_readRow s m ([.ref (qr 0), .int p0] : List Value).toArray below meth c D A 6 0 0 Q (wRe qr qd ql qw cI cJ cC v_wrongAt v_length v_at a_chars v_mover v_rights v_passed v_halves v_number v_balance a_men a_kinds a_sides a_rays a_knights a_kings a_pawns a_table) [(0, .ref (qr 0)), (1, .int x1), (3, .int x3), (5, .int x5)] 83 [] := by
        intro v_at v_balance a_men a_kinds a_sides x1 x3 x5 h
        unfold m_X5_readRow_b83 at h
        refine kv_iload C 3 dX5_readRow_83 rfl ?_
        refine kv_if_ne C 92 dX5_readRow_85 (by decide) (fun c_3 => ?_) (fun c_3 => ?_)
        · have h := oi_f h c_3
          refine kv_iconst C 0 dX5_readRow_92 (by decide) ?_
          exact kv_lv [0, 1, 2] (lv2 := [(0, .ref (qr 0)), (1, .int x1), (3, .int x3)]) rfl (j93 v_at v_balance a_men a_kinds a_sides x1 x3 0 h)
        · have h := oi_t h c_3
          refine kv_iconst C 1 dX5_readRow_88 (by decide) ?_
          refine kv_goto C 93 dX5_readRow_89 (by decide) ?_
          exact kv_lv [0, 1, 2] (lv2 := [(0, .ref (qr 0)), (1, .int x1), (3, .int x3)]) rfl (j93 v_at v_balance a_men a_kinds a_sides x1 x3 1 h)
      intro v_at v_balance a_men a_kinds a_sides x1 x2 x3 h
      replace h : m_X5_readRow_b4  (m_X5_readRow_l4  v_length a_chars a_table n4) v_length v_at a_chars v_balance a_men a_kinds a_sides a_table x1 x2 x3 = some (rv, v_at', v_balance', a_men', a_kinds', a_sides') := h
      unfold m_X5_readRow_b4 at h
      refine kv_iload_n C 3 dX5_readRow_4 rfl rfl ?_
      refine kv_bipush C 8 dX5_readRow_5 (by decide) ?_
      refine kv_icmp_ge C 107 dX5_readRow_7 (by decide) (fun c_4 => ?_) (fun c_4 => ?_)
      · have h := oi_t h c_4
        refine kv_iconst C 1 dX5_readRow_107 (by decide) ?_
        obtain ⟨g_5, h⟩ := obl_e h
        cases h
        exact hret _ _ dX5_readRow_108 (fun _ => g_5)
      · have h := oi_f h c_4
        refine kv_aload_n C 0 dX5_readRow_10 rfl rfl ?_
        obtain ⟨r_6, hm_7, h⟩ := ob_e h
        refine kv_eVi (ws2 := (wRe qr qd ql qw cI cJ cC v_wrongAt v_length v_at a_chars v_mover v_rights v_passed v_halves v_number v_balance a_men a_kinds a_sides a_rays a_knights a_kings a_pawns a_table)) C hJ [] 0 (c_X5_next l D qr qd ql qw cI cJ cC tq v_wrongAt v_length v_at a_chars v_mover v_rights v_passed v_halves v_number v_balance a_men a_kinds a_sides a_rays a_knights a_kings a_pawns a_table  r_6 hm_7) (cv_X5_next C.ts lm_RX5_79 ⟨Nat.le_of_ble_eq_true rfl, Nat.le_of_ble_eq_true rfl⟩) rfl rfl [0, 1, 2, 3, 4, 5, 6, 7, 8, 9, 10, 11, 12] [] [0, 1, 2] [0, 1, 2, 3, 4, 5, 6, 7, 8, 9, 10, 11, 12] rfl rfl rfl rfl rfl (by decide) rfl rfl rfl (Nat.le_of_ble_eq_true rfl) dX5_readRow_11 ⟨Nat.zero_le _, Nat.zero_le _⟩ rfl rfl rfl ?_
        refine kv_bipush C 48 dX5_readRow_14 (by decide) ?_
        refine kv_isub C dX5_readRow_16 ?_
        obtain ⟨x4_8, ex4_8, h⟩ := ol_e h
        refine kv_top ex4_8 ?_
        refine kv_istore C (lv2 := [(0, .ref (qr 0)), (1, .int x1), (2, .int x2), (3, .int x3), (4, .int x4_8)]) [1, 2, 3, 4, 0] dX5_readRow_17 (by decide) rfl rfl ?_
        refine kv_aload_n C 0 dX5_readRow_19 rfl rfl ?_
        obtain ⟨r_9, hm_10, h⟩ := ob_e h
        refine kv_eVi (ws2 := (wRe qr qd ql qw cI cJ cC v_wrongAt v_length v_at a_chars v_mover v_rights v_passed v_halves v_number v_balance a_men a_kinds a_sides a_rays a_knights a_kings a_pawns a_table)) C hJ [] 0 (c_X5_next l D qr qd ql qw cI cJ cC tq v_wrongAt v_length v_at a_chars v_mover v_rights v_passed v_halves v_number v_balance a_men a_kinds a_sides a_rays a_knights a_kings a_pawns a_table  r_9 hm_10) (cv_X5_next C.ts lm_RX5_79 ⟨Nat.le_of_ble_eq_true rfl, Nat.le_of_ble_eq_true rfl⟩) rfl rfl [0, 1, 2, 3, 4, 5, 6, 7, 8, 9, 10, 11, 12] [] [0, 1, 2] [0, 1, 2, 3, 4, 5, 6, 7, 8, 9, 10, 11, 12] rfl rfl rfl rfl rfl (by decide) rfl rfl rfl (Nat.le_of_ble_eq_true rfl) dX5_readRow_20 ⟨Nat.zero_le _, Nat.zero_le _⟩ rfl rfl rfl ?_
        obtain ⟨r_11, hm_12, h⟩ := ob_e h
        refine kv_eS0i C hJ [.int r_9] (c_X5_manOf l D tq   r_9 r_11 hm_12) (cs_X5_manOf C.ts lm_RX5_87 ⟨Nat.le_of_ble_eq_true rfl, Nat.le_of_ble_eq_true rfl⟩) rfl rfl (Nat.le_of_ble_eq_true rfl) dX5_readRow_23 ⟨Nat.zero_le _, Nat.zero_le _⟩ ?_
        refine kv_istore C (lv2 := [(0, .ref (qr 0)), (1, .int x1), (2, .int x2), (3, .int x3), (4, .int x4_8), (5, .int r_11)]) [1, 2, 3, 4, 5, 0] dX5_readRow_26 (by decide) rfl rfl ?_
        refine kv_iload C 5 dX5_readRow_28 rfl ?_
        refine kv_if_eq C 54 dX5_readRow_30 (by decide) (fun c_13 => ?_) (fun c_13 => ?_)
        · have h := oi_t h c_13
          refine kv_iload C 4 dX5_readRow_54 rfl ?_
          refine kv_iconst C 1 dX5_readRow_56 (by decide) ?_
          refine kv_icmp_lt C 81 dX5_readRow_57 (by decide) (fun c_14 => ?_) (fun c_14 => ?_)
          · have h := oi_t h c_14
            exact kv_lv [] (lv2 := []) rfl (j81 v_at v_balance a_men a_kinds a_sides h)
          · have h := oi_f h c_14
            refine kv_iload C 4 dX5_readRow_60 rfl ?_
            refine kv_bipush C 8 dX5_readRow_62 (by decide) ?_
            refine kv_iload_n C 3 dX5_readRow_64 rfl rfl ?_
            refine kv_isub C dX5_readRow_65 ?_
            refine kv_icmp_gt C 81 dX5_readRow_66 (by decide) (fun c_15 => ?_) (fun c_15 => ?_)
            · have h := oi_t h c_15
              exact kv_lv [] (lv2 := []) rfl (j81 v_at v_balance a_men a_kinds a_sides h)
            · have h := oi_f h c_15
              refine kv_iload_n C 2 dX5_readRow_69 rfl rfl ?_
              refine kv_if_ne C 81 dX5_readRow_70 (by decide) (fun c_16 => ?_) (fun c_16 => ?_)
              · have h := oi_f h c_16
                exact kv_lv [] (lv2 := []) rfl (j81 v_at v_balance a_men a_kinds a_sides h)
              · have h := oi_t h c_16
                refine kv_iload_n C 3 dX5_readRow_73 rfl rfl ?_
                refine kv_iload C 4 dX5_readRow_74 rfl ?_
                refine kv_iadd C dX5_readRow_76 ?_
                obtain ⟨x3_17, ex3_17, h⟩ := ol_e h
                refine kv_top ex3_17 ?_
                refine kv_istore_n C (lv2 := [(0, .ref (qr 0)), (1, .int x1), (3, .int x3_17), (5, .int r_11)]) [1, 2, 0, 5] dX5_readRow_77 rfl (by decide) rfl rfl ?_
                refine kv_goto C 83 dX5_readRow_78 (by decide) ?_
                exact kv_lv [0, 1, 2, 3] (lv2 := [(0, .ref (qr 0)), (1, .int x1), (3, .int x3_17), (5, .int r_11)]) rfl (j83 v_at v_balance a_men a_kinds a_sides x1 x3_17 r_11 h)
        · have h := oi_f h c_13
          refine kv_aload_n C 0 dX5_readRow_33 rfl rfl ?_
          refine kv_get C (Cn := RX5) (T := TX5) (N := 5) 0 0 hin5 rfl rfl (by decide) (C.ts _ (List.mem_cons_of_mem _ lf_RX5_9)) rfl rfl dX5_readRow_34 ?_
          refine kv_bipush C 8 dX5_readRow_37 (by decide) ?_
          refine kv_iload_n C 1 dX5_readRow_39 rfl rfl ?_
          refine kv_imul C dX5_readRow_40 ?_
          refine kv_iload_n C 3 dX5_readRow_41 rfl rfl ?_
          refine kv_iadd C dX5_readRow_42 ?_
          refine kv_iload C 5 dX5_readRow_43 rfl ?_
          obtain ⟨⟨v_balance_18, a_men_19, a_kinds_20, a_sides_21⟩, hm_22, h⟩ := ob_e h
          replace h : _ = _ := h
          refine kv_eVv (ws2 := (wRe qr qd ql qw cI cJ cC v_wrongAt v_length v_at a_chars v_mover v_rights v_passed v_halves v_number v_balance_18 a_men_19 a_kinds_20 a_sides_21 a_rays a_knights a_kings a_pawns a_table)) C hJ [.int (((8 : Int32) * x1) + x3), .int r_11] 0 (c_X0_put l D qd ql qw cI cJ tq v_mover v_rights v_passed v_halves v_number v_balance a_men a_kinds a_sides a_rays a_knights a_kings a_pawns a_table (((8 : Int32) * x1) + x3) r_11 v_balance_18 a_men_19 a_kinds_20 a_sides_21 hm_22) (cv_X0_put C.ts lm_RX5_91 ⟨Nat.le_of_ble_eq_true rfl, Nat.le_of_ble_eq_true rfl⟩) rfl rfl [2, 3, 4, 5, 6, 7, 8, 9, 10, 11, 12] [0, 1] [0, 1] [0, 1, 2, 3, 4, 5, 6, 7, 8, 9, 10, 11, 12] rfl rfl rfl rfl rfl (by decide) rfl rfl rfl (Nat.le_of_ble_eq_true rfl) dX5_readRow_45 ⟨Nat.zero_le _, Nat.zero_le _⟩ rfl rfl rfl ?_
          obtain ⟨x3_23, ex3_23, h⟩ := ol_e h
          refine kv_iinc C (v := x3_23) (lv2 := [(0, .ref (qr 0)), (1, .int x1), (3, .int x3_23), (5, .int r_11)]) 3 [1, 2, 0, 5] dX5_readRow_48 rfl ex3_23.symm (by decide) rfl rfl ?_
          refine kv_goto C 83 dX5_readRow_51 (by decide) ?_
          exact kv_lv [0, 1, 2, 3] (lv2 := [(0, .ref (qr 0)), (1, .int x1), (3, .int x3_23), (5, .int r_11)]) rfl (j83 v_at v_balance_18 a_men_19 a_kinds_20 a_sides_21 x1 x3_23 r_11 h)
  unfold m_X5_readRow at hm
  have h := hm
  refine kv_lv [0, 1] (lv2 := [(0, .ref (qr 0)), (1, .int p0)]) rfl ?_
  refine kv_iconst C 0 dX5_readRow_0 (by decide) ?_
  refine kv_istore_n C (lv2 := [(0, .ref (qr 0)), (1, .int p0), (2, .int 0)]) [1, 2, 0] dX5_readRow_1 rfl (by decide) rfl rfl ?_
  refine kv_iconst C 0 dX5_readRow_2 (by decide) ?_
  refine kv_istore_n C (lv2 := [(0, .ref (qr 0)), (1, .int p0), (2, .int 0), (3, .int 0)]) [1, 2, 3, 0] dX5_readRow_3 rfl (by decide) rfl rfl ?_
  exact kv_lv [0, 1, 2, 3] (lv2 := [(0, .ref (qr 0)), (1, .int p0), (2, .int 0), (3, .int 0)]) rfl (l4 kF v_at v_balance a_men a_kinds a_sides p0 0 0 h)
def m_X5_readMen_b30 (v_length : Int32) (v_at : Int32) (a_chars : Nat → Int32) (v_balance : Int32) (a_men : Nat → Int32) (a_kinds : Nat → Int64) (a_sides : Nat → Int64) (a_table : Nat → Int32) : Option (Int32 × Int32 × Int32 × (Nat → Int32) × (Nat → Int64) × (Nat → Int64)) := obl (0) (some (0, v_at, v_balance, a_men, a_kinds, a_sides))
def m_X5_readMen_b22 (k3 : Int32 → Int32 → (Nat → Int32) → (Nat → Int64) → (Nat → Int64) → Int32 → Option (Int32 × Int32 × Int32 × (Nat → Int32) × (Nat → Int64) × (Nat → Int64))) (v_length : Int32) (v_at : Int32) (a_chars : Nat → Int32) (v_balance : Int32) (a_men : Nat → Int32) (a_kinds : Nat → Int64) (a_sides : Nat → Int64) (a_table : Nat → Int32) (x1 : Int32) : Option (Int32 × Int32 × Int32 × (Nat → Int32) × (Nat → Int64) × (Nat → Int64)) := ob (m_X5_readRow v_length v_at a_chars v_balance a_men a_kinds a_sides a_table x1) fun (r_2, v_at_3, v_balance_4, a_men_5, a_kinds_6, a_sides_7) => if r_2 = 0 then m_X5_readMen_b30 v_length v_at_3 a_chars v_balance_4 a_men_5 a_kinds_6 a_sides_7 a_table else ol (x1 + (-1)) fun x1_10 => k3 v_at_3 v_balance_4 a_men_5 a_kinds_6 a_sides_7 x1_10
def m_X5_readMen_b3 (k3 : Int32 → Int32 → (Nat → Int32) → (Nat → Int64) → (Nat → Int64) → Int32 → Option (Int32 × Int32 × Int32 × (Nat → Int32) × (Nat → Int64) × (Nat → Int64))) (v_length : Int32) (v_at : Int32) (a_chars : Nat → Int32) (v_balance : Int32) (a_men : Nat → Int32) (a_kinds : Nat → Int64) (a_sides : Nat → Int64) (a_table : Nat → Int32) (x1 : Int32) : Option (Int32 × Int32 × Int32 × (Nat → Int32) × (Nat → Int64) × (Nat → Int64)) := if x1 < 0 then obl (1) (some (1, v_at, v_balance, a_men, a_kinds, a_sides)) else if 7 ≤ x1 then m_X5_readMen_b22 k3 v_length v_at a_chars v_balance a_men a_kinds a_sides a_table x1 else ob (m_X5_skip v_length v_at a_chars 47) fun (r_14, v_at_15) => if r_14 = 0 then m_X5_readMen_b30 v_length v_at_15 a_chars v_balance a_men a_kinds a_sides a_table else m_X5_readMen_b22 k3 v_length v_at_15 a_chars v_balance a_men a_kinds a_sides a_table x1
def m_X5_readMen_l3 (v_length : Int32) (a_chars : Nat → Int32) (a_table : Nat → Int32) (n : Nat) : Int32 → Int32 → (Nat → Int32) → (Nat → Int64) → (Nat → Int64) → Int32 → Option (Int32 × Int32 × Int32 × (Nat → Int32) × (Nat → Int64) × (Nat → Int64)) := fz (fun _ _ _ _ _ _ => none) (fun k3 v_at v_balance a_men a_kinds a_sides x1 => m_X5_readMen_b3 k3 v_length v_at a_chars v_balance a_men a_kinds a_sides a_table x1) n
def m_X5_readMen (v_length : Int32) (v_at : Int32) (a_chars : Nat → Int32) (v_balance : Int32) (a_men : Nat → Int32) (a_kinds : Nat → Int64) (a_sides : Nat → Int64) (a_table : Nat → Int32) : Option (Int32 × Int32 × Int32 × (Nat → Int32) × (Nat → Int64) × (Nat → Int64)) := m_X5_readMen_l3 v_length a_chars a_table kF v_at v_balance a_men a_kinds a_sides 7
abbrev rm_X5_readMen : Room := { frames := 6, cells := 0, slots := 0, locals := 137 }
abbrev wy_X5_readMen : List Cond := .code yX5_readMen cX5_readMen 2 (some .boolean) :: gT
theorem cv_X5_readMen {R : Room} {s : State} {args : Array Value} {own : String} {index : Nat} {w0 : Cond} (hts : ∀ w ∈ w0 :: gT, w.before args s = true) (hl : Cond.methodLink own index yX5_readMen ∈ gT) (hR : 6 + 1 ≤ R.frames ∧ 8 + (2 + 11) + 137 ≤ R.locals) : CallW R s args own RX5 index yX5_readMen cX5_readMen 2 (some .boolean) wy_X5_readMen rm_X5_readMen 0 0 0 :=
  cwV 0 hts (gT_call w0 (pre := [.methodLink own index yX5_readMen, .instanceMethod yX5_readMen, .selects RX5 yX5_readMen yX5_readMen, .initialized RX5]) (gT_lc hl (gT_lc ly_yX5_readMen (gT_lc lx_yX5_readMen (gT_l1 li_RX5)))) lc_yX5_readMen) rfl rfl rfl (by decide +kernel) hR
set_option maxRecDepth 100000 in
set_option maxHeartbeats 4000000 in
theorem c_X5_readMen (l : Launch) (D : va_G) (qr : Nat → Nat) (qd : Nat → Nat) (ql : Nat → Nat) (qw : Nat → Nat) (cI : ClassId) (cJ : ClassId) (cC : ClassId) (tq : Nat → Nat) (v_wrongAt : Int32) (v_length : Int32) (v_at : Int32) (a_chars : Nat → Int32) (v_mover : Int32) (v_rights : Int32) (v_passed : Int32) (v_halves : Int32) (v_number : Int32) (v_balance : Int32) (a_men : Nat → Int32) (a_kinds : Nat → Int64) (a_sides : Nat → Int64) (a_rays : Nat → Int64) (a_knights : Nat → Int64) (a_kings : Nat → Int64) (a_pawns : Nat → Int64) (a_table : Nat → Int32) (rv : Int32) (v_at' : Int32) (v_balance' : Int32) (a_men' : Nat → Int32) (a_kinds' : Nat → Int64) (a_sides' : Nat → Int64) (hm : m_X5_readMen v_length v_at a_chars v_balance a_men a_kinds a_sides a_table = some (rv, v_at', v_balance', a_men', a_kinds', a_sides')) : kEi l yX5_readMen wy_X5_readMen rm_X5_readMen D [(cI, .int), (cJ, .long), (cC, .char)] tq rv (wRe qr qd ql qw cI cJ cC v_wrongAt v_length v_at a_chars v_mover v_rights v_passed v_halves v_number v_balance a_men a_kinds a_sides a_rays a_knights a_kings a_pawns a_table) (wRe qr qd ql qw cI cJ cC v_wrongAt v_length v_at' a_chars v_mover v_rights v_passed v_halves v_number v_balance' a_men' a_kinds' a_sides' a_rays a_knights a_kings a_pawns a_table) [.ref (qr 0)] := by
  refine kEi.of cX5_readMen 2 (some .boolean) (by decide) rfl (Or.inr rfl) (Nat.le_of_ble_eq_true rfl) ?_
  intro p e s m below meth c A Q C hJ hret
  have hin0 : ∀ w ∈ wsX00, w ∈ wy_X5_readMen := fun w h => List.mem_cons_of_mem _ (inG0 w h)
  have hin3 : ∀ w ∈ wsX30, w ∈ wy_X5_readMen := fun w h => List.mem_cons_of_mem _ (inG3 w h)
  have hin5 : ∀ w ∈ wsX50, w ∈ wy_X5_readMen := fun w h => List.mem_cons_of_mem _ (inG5 w h)
  have hin7 : ∀ w ∈ wsX70, w ∈ wy_X5_readMen := fun w h => List.mem_cons_of_mem _ (inG7 w h)
  have j30 : ∀ (v_at : Int32) (v_balance : Int32) (a_men : Nat → Int32) (a_kinds : Nat → Int64) (a_sides : Nat → Int64), m_X5_readMen_b30  v_length v_at a_chars v_balance a_men a_kinds a_sides a_table  = some (rv, v_at', v_balance', a_men', a_kinds', a_sides') → kv p l e rm_X5_readMen s m ([.ref (qr 0)] : List Value).toArray below meth c D A 2 0 0 Q (wRe qr qd ql qw cI cJ cC v_wrongAt v_length v_at a_chars v_mover v_rights v_passed v_halves v_number v_balance a_men a_kinds a_sides a_rays a_knights a_kings a_pawns a_table) [] 30 [] := by
    intro v_at v_balance a_men a_kinds a_sides h
    unfold m_X5_readMen_b30 at h
    refine kv_iconst C 0 dX5_readMen_30 (by decide) ?_
    obtain ⟨g_1, h⟩ := obl_e h
    cases h
    exact hret _ _ dX5_readMen_31 (fun _ => g_1)
  have l3 : ∀ (n3 : Nat) (v_at : Int32) (v_balance : Int32) (a_men : Nat → Int32) (a_kinds : Nat → Int64) (a_sides : Nat → Int64) (x1 : Int32), m_X5_readMen_l3  v_length a_chars a_table n3 v_at v_balance a_men a_kinds a_sides x1 = some (rv, v_at', v_balance', a_men', a_kinds', a_sides') → kv p l e rm_X5_readMen s m ([.ref (qr 0)] : List Value).toArray below meth c D A 2 0 0 Q (wRe qr qd ql qw cI cJ cC v_wrongAt v_length v_at a_chars v_mover v_rights v_passed v_halves v_number v_balance a_men a_kinds a_sides a_rays a_knights a_kings a_pawns a_table) [(0, .ref (qr 0)), (1, .int x1)] 3 [] := by
    intro n3
    induction n3 with
    | zero =>
      intro v_at v_balance a_men a_kinds a_sides x1 h
      exact kv_no h
    | succ n3 ih3 =>
      have j22 : ∀ (v_at : Int32) (v_balance : Int32) (a_men : Nat → Int32) (a_kinds : Nat → Int64) (a_sides : Nat → Int64) (x1 : Int32), m_X5_readMen_b22 (m_X5_readMen_l3  v_length a_chars a_table n3) v_length v_at a_chars v_balance a_men a_kinds a_sides a_table x1 = some (rv, v_at', v_balance', a_men', a_kinds', a_sides') → kv p l e rm_X5_readMen s m ([.ref (qr 0)] : List Value).toArray below meth c D A 2 0 0 Q (wRe qr qd ql qw cI cJ cC v_wrongAt v_length v_at a_chars v_mover v_rights v_passed v_halves v_number v_balance a_men a_kinds a_sides a_rays a_knights a_kings a_pawns a_table) [(0, .ref (qr 0)), (1, .int x1)] 22 [] := by
        intro v_at v_balance a_men a_kinds a_sides x1 h
        unfold m_X5_readMen_b22 at h
        refine kv_aload_n C 0 dX5_readMen_22 rfl rfl ?_
        refine kv_iload_n C 1 dX5_readMen_23 rfl rfl ?_
        obtain ⟨⟨r_2, v_at_3, v_balance_4, a_men_5, a_kinds_6, a_sides_7⟩, hm_8, h⟩ := ob_e h
        replace h : _ = _ := h
        refine kv_eVi (ws2 := (wRe qr qd ql qw cI cJ cC v_wrongAt v_length v_at_3 a_chars v_mover v_rights v_passed v_halves v_number v_balance_4 a_men_5 a_kinds_6 a_sides_7 a_rays a_knights a_kings a_pawns a_table)) C hJ [.int x1] 0 (c_X5_readRow l D qr qd ql qw cI cJ cC tq v_wrongAt v_length v_at a_chars v_mover v_rights v_passed v_halves v_number v_balance a_men a_kinds a_sides a_rays a_knights a_kings a_pawns a_table x1 r_2 v_at_3 v_balance_4 a_men_5 a_kinds_6 a_sides_7 hm_8) (cv_X5_readRow C.ts lm_RX5_83 ⟨Nat.le_of_ble_eq_true rfl, Nat.le_of_ble_eq_true rfl⟩) rfl rfl [0, 1, 2, 3, 4, 5, 6, 7, 8, 9, 10, 11, 12] [] [0, 1, 2] [0, 1, 2, 3, 4, 5, 6, 7, 8, 9, 10, 11, 12] rfl rfl rfl rfl rfl (by decide) rfl rfl rfl (Nat.le_of_ble_eq_true rfl) dX5_readMen_24 ⟨Nat.zero_le _, Nat.zero_le _⟩ rfl rfl rfl ?_
        refine kv_if_ne C 32 dX5_readMen_27 (by decide) (fun c_9 => ?_) (fun c_9 => ?_)
        · have h := oi_f h c_9
          obtain ⟨x1_10, ex1_10, h⟩ := ol_e h
          refine kv_iinc C (v := x1_10) (lv2 := [(0, .ref (qr 0)), (1, .int x1_10)]) 1 [1, 0] dX5_readMen_32 rfl ex1_10.symm (by decide) rfl rfl ?_
          refine kv_goto C 3 dX5_readMen_35 (by decide) ?_
          exact kv_lv [0, 1] (lv2 := [(0, .ref (qr 0)), (1, .int x1_10)]) rfl (ih3 v_at_3 v_balance_4 a_men_5 a_kinds_6 a_sides_7 x1_10 h)
        · have h := oi_t h c_9
          exact kv_lv [] (lv2 := []) rfl (j30 v_at_3 v_balance_4 a_men_5 a_kinds_6 a_sides_7 h)
      intro v_at v_balance a_men a_kinds a_sides x1 h
      replace h : m_X5_readMen_b3  (m_X5_readMen_l3  v_length a_chars a_table n3) v_length v_at a_chars v_balance a_men a_kinds a_sides a_table x1 = some (rv, v_at', v_balance', a_men', a_kinds', a_sides') := h
      unfold m_X5_readMen_b3 at h
      refine kv_iload_n C 1 dX5_readMen_3 rfl rfl ?_
      refine kv_if_lt C 38 dX5_readMen_4 (by decide) (fun c_11 => ?_) (fun c_11 => ?_)
      · have h := oi_t h c_11
        refine kv_iconst C 1 dX5_readMen_38 (by decide) ?_
        obtain ⟨g_12, h⟩ := obl_e h
        cases h
        exact hret _ _ dX5_readMen_39 (fun _ => g_12)
      · have h := oi_f h c_11
        refine kv_iload_n C 1 dX5_readMen_7 rfl rfl ?_
        refine kv_bipush C 7 dX5_readMen_8 (by decide) ?_
        refine kv_icmp_ge C 22 dX5_readMen_10 (by decide) (fun c_13 => ?_) (fun c_13 => ?_)
        · have h := oi_t h c_13
          exact kv_lv [0, 1] (lv2 := [(0, .ref (qr 0)), (1, .int x1)]) rfl (j22 v_at v_balance a_men a_kinds a_sides x1 h)
        · have h := oi_f h c_13
          refine kv_aload_n C 0 dX5_readMen_13 rfl rfl ?_
          refine kv_bipush C 47 dX5_readMen_14 (by decide) ?_
          obtain ⟨⟨r_14, v_at_15⟩, hm_16, h⟩ := ob_e h
          replace h : _ = _ := h
          refine kv_eVi (ws2 := (wRe qr qd ql qw cI cJ cC v_wrongAt v_length v_at_15 a_chars v_mover v_rights v_passed v_halves v_number v_balance a_men a_kinds a_sides a_rays a_knights a_kings a_pawns a_table)) C hJ [.int 47] 0 (c_X5_skip l D qr qd ql qw cI cJ cC tq v_wrongAt v_length v_at a_chars v_mover v_rights v_passed v_halves v_number v_balance a_men a_kinds a_sides a_rays a_knights a_kings a_pawns a_table 47 r_14 v_at_15 hm_16) (cv_X5_skip C.ts lm_RX5_60 ⟨Nat.le_of_ble_eq_true rfl, Nat.le_of_ble_eq_true rfl⟩) rfl rfl [0, 1, 2, 3, 4, 5, 6, 7, 8, 9, 10, 11, 12] [] [0, 1, 2] [0, 1, 2, 3, 4, 5, 6, 7, 8, 9, 10, 11, 12] rfl rfl rfl rfl rfl (by decide) rfl rfl rfl (Nat.le_of_ble_eq_true rfl) dX5_readMen_16 ⟨Nat.zero_le _, Nat.zero_le _⟩ rfl rfl rfl ?_
          refine kv_if_eq C 30 dX5_readMen_19 (by decide) (fun c_17 => ?_) (fun c_17 => ?_)
          · have h := oi_t h c_17
            exact kv_lv [] (lv2 := []) rfl (j30 v_at_15 v_balance a_men a_kinds a_sides h)
          · have h := oi_f h c_17
            exact kv_lv [0, 1] (lv2 := [(0, .ref (qr 0)), (1, .int x1)]) rfl (j22 v_at_15 v_balance a_men a_kinds a_sides x1 h)
  unfold m_X5_readMen at hm
  have h := hm
  refine kv_lv [0] (lv2 := [(0, .ref (qr 0))]) rfl ?_
  refine kv_bipush C 7 dX5_readMen_0 (by decide) ?_
  refine kv_istore_n C (lv2 := [(0, .ref (qr 0)), (1, .int 7)]) [1, 0] dX5_readMen_2 rfl (by decide) rfl rfl ?_
  exact kv_lv [0, 1] (lv2 := [(0, .ref (qr 0)), (1, .int 7)]) rfl (l3 kF v_at v_balance a_men a_kinds a_sides 7 h)
def m_X5_readMover (v_length : Int32) (v_at : Int32) (a_chars : Nat → Int32) (v_mover : Int32) : Option (Int32 × Int32 × Int32) := ob (m_X5_skip v_length v_at a_chars 119) fun (r_1, v_at_2) => if r_1 = 0 then ob (m_X5_skip v_length v_at_2 a_chars 98) fun (r_5, v_at_6) => obl (r_5) (some (r_5, v_at_6, 1)) else obl (1) (some (1, v_at_2, v_mover))
abbrev rm_X5_readMover : Room := { frames := 2, cells := 0, slots := 0, locals := 41 }
abbrev wy_X5_readMover : List Cond := .code yX5_readMover cX5_readMover 1 (some .boolean) :: gT
theorem cv_X5_readMover {R : Room} {s : State} {args : Array Value} {own : String} {index : Nat} {w0 : Cond} (hts : ∀ w ∈ w0 :: gT, w.before args s = true) (hl : Cond.methodLink own index yX5_readMover ∈ gT) (hR : 2 + 1 ≤ R.frames ∧ 8 + (1 + 11) + 41 ≤ R.locals) : CallW R s args own RX5 index yX5_readMover cX5_readMover 1 (some .boolean) wy_X5_readMover rm_X5_readMover 0 0 0 :=
  cwV 0 hts (gT_call w0 (pre := [.methodLink own index yX5_readMover, .instanceMethod yX5_readMover, .selects RX5 yX5_readMover yX5_readMover, .initialized RX5]) (gT_lc hl (gT_lc ly_yX5_readMover (gT_lc lx_yX5_readMover (gT_l1 li_RX5)))) lc_yX5_readMover) rfl rfl rfl (by decide +kernel) hR
set_option maxRecDepth 100000 in
set_option maxHeartbeats 4000000 in
theorem c_X5_readMover (l : Launch) (D : va_G) (qr : Nat → Nat) (qd : Nat → Nat) (ql : Nat → Nat) (qw : Nat → Nat) (cI : ClassId) (cJ : ClassId) (cC : ClassId) (tq : Nat → Nat) (v_wrongAt : Int32) (v_length : Int32) (v_at : Int32) (a_chars : Nat → Int32) (v_mover : Int32) (v_rights : Int32) (v_passed : Int32) (v_halves : Int32) (v_number : Int32) (v_balance : Int32) (a_men : Nat → Int32) (a_kinds : Nat → Int64) (a_sides : Nat → Int64) (a_rays : Nat → Int64) (a_knights : Nat → Int64) (a_kings : Nat → Int64) (a_pawns : Nat → Int64) (a_table : Nat → Int32) (rv : Int32) (v_at' : Int32) (v_mover' : Int32) (hm : m_X5_readMover v_length v_at a_chars v_mover = some (rv, v_at', v_mover')) : kEi l yX5_readMover wy_X5_readMover rm_X5_readMover D [(cI, .int), (cJ, .long), (cC, .char)] tq rv (wRe qr qd ql qw cI cJ cC v_wrongAt v_length v_at a_chars v_mover v_rights v_passed v_halves v_number v_balance a_men a_kinds a_sides a_rays a_knights a_kings a_pawns a_table) (wRe qr qd ql qw cI cJ cC v_wrongAt v_length v_at' a_chars v_mover' v_rights v_passed v_halves v_number v_balance a_men a_kinds a_sides a_rays a_knights a_kings a_pawns a_table) [.ref (qr 0)] := by
  refine kEi.of cX5_readMover 1 (some .boolean) (by decide) rfl (Or.inr rfl) (Nat.le_of_ble_eq_true rfl) ?_
  intro p e s m below meth c A Q C hJ hret
  have hin0 : ∀ w ∈ wsX00, w ∈ wy_X5_readMover := fun w h => List.mem_cons_of_mem _ (inG0 w h)
  have hin3 : ∀ w ∈ wsX30, w ∈ wy_X5_readMover := fun w h => List.mem_cons_of_mem _ (inG3 w h)
  have hin5 : ∀ w ∈ wsX50, w ∈ wy_X5_readMover := fun w h => List.mem_cons_of_mem _ (inG5 w h)
  have hin7 : ∀ w ∈ wsX70, w ∈ wy_X5_readMover := fun w h => List.mem_cons_of_mem _ (inG7 w h)
  unfold m_X5_readMover at hm
  have h := hm
  refine kv_lv [0] (lv2 := [(0, .ref (qr 0))]) rfl ?_
  refine kv_aload_n C 0 dX5_readMover_0 rfl rfl ?_
  refine kv_bipush C 119 dX5_readMover_1 (by decide) ?_
  obtain ⟨⟨r_1, v_at_2⟩, hm_3, h⟩ := ob_e h
  replace h : _ = _ := h
  refine kv_eVi (ws2 := (wRe qr qd ql qw cI cJ cC v_wrongAt v_length v_at_2 a_chars v_mover v_rights v_passed v_halves v_number v_balance a_men a_kinds a_sides a_rays a_knights a_kings a_pawns a_table)) C hJ [.int 119] 0 (c_X5_skip l D qr qd ql qw cI cJ cC tq v_wrongAt v_length v_at a_chars v_mover v_rights v_passed v_halves v_number v_balance a_men a_kinds a_sides a_rays a_knights a_kings a_pawns a_table 119 r_1 v_at_2 hm_3) (cv_X5_skip C.ts lm_RX5_60 ⟨Nat.le_of_ble_eq_true rfl, Nat.le_of_ble_eq_true rfl⟩) rfl rfl [0, 1, 2, 3, 4, 5, 6, 7, 8, 9, 10, 11, 12] [] [0, 1, 2] [0, 1, 2, 3, 4, 5, 6, 7, 8, 9, 10, 11, 12] rfl rfl rfl rfl rfl (by decide) rfl rfl rfl (Nat.le_of_ble_eq_true rfl) dX5_readMover_3 ⟨Nat.zero_le _, Nat.zero_le _⟩ rfl rfl rfl ?_
  refine kv_if_eq C 11 dX5_readMover_6 (by decide) (fun c_4 => ?_) (fun c_4 => ?_)
  · have h := oi_t h c_4
    refine kv_aload_n C 0 dX5_readMover_11 rfl rfl ?_
    refine kv_get C (Cn := RX5) (T := TX5) (N := 5) 0 0 hin5 rfl rfl (by decide) (C.ts _ (List.mem_cons_of_mem _ lf_RX5_9)) rfl rfl dX5_readMover_12 ?_
    refine kv_iconst C 1 dX5_readMover_15 (by decide) ?_
    refine kv_put C (Cn := RX0) (T := TX0) (N := 11) (ty := .int) (ws1 := (wRe qr qd ql qw cI cJ cC v_wrongAt v_length v_at_2 a_chars 1 v_rights v_passed v_halves v_number v_balance a_men a_kinds a_sides a_rays a_knights a_kings a_pawns a_table)) 2 5 hin0 tyX0 tyX0_ok nmX0 rfl rfl (by decide) (C.ts _ (List.mem_cons_of_mem _ lf_RX5_102)) rfl rfl (by decide +kernel) rfl rfl (Nat.le_of_ble_eq_true rfl) rfl dX5_readMover_16 ?_
    refine kv_aload_n C 0 dX5_readMover_19 rfl rfl ?_
    refine kv_bipush C 98 dX5_readMover_20 (by decide) ?_
    obtain ⟨⟨r_5, v_at_6⟩, hm_7, h⟩ := ob_e h
    replace h : _ = _ := h
    refine kv_eVi (ws2 := (wRe qr qd ql qw cI cJ cC v_wrongAt v_length v_at_6 a_chars 1 v_rights v_passed v_halves v_number v_balance a_men a_kinds a_sides a_rays a_knights a_kings a_pawns a_table)) C hJ [.int 98] 0 (c_X5_skip l D qr qd ql qw cI cJ cC tq v_wrongAt v_length v_at_2 a_chars 1 v_rights v_passed v_halves v_number v_balance a_men a_kinds a_sides a_rays a_knights a_kings a_pawns a_table 98 r_5 v_at_6 hm_7) (cv_X5_skip C.ts lm_RX5_60 ⟨Nat.le_of_ble_eq_true rfl, Nat.le_of_ble_eq_true rfl⟩) rfl rfl [0, 1, 2, 3, 4, 5, 6, 7, 8, 9, 10, 11, 12] [] [0, 1, 2] [0, 1, 2, 3, 4, 5, 6, 7, 8, 9, 10, 11, 12] rfl rfl rfl rfl rfl (by decide) rfl rfl rfl (Nat.le_of_ble_eq_true rfl) dX5_readMover_22 ⟨Nat.zero_le _, Nat.zero_le _⟩ rfl rfl rfl ?_
    obtain ⟨g_8, h⟩ := obl_e h
    cases h
    exact hret _ _ dX5_readMover_25 (fun _ => g_8)
  · have h := oi_f h c_4
    refine kv_iconst C 1 dX5_readMover_9 (by decide) ?_
    obtain ⟨g_9, h⟩ := obl_e h
    cases h
    exact hret _ _ dX5_readMover_10 (fun _ => g_9)
def m_X5_readRights_b67 (v_length : Int32) (v_at : Int32) (a_chars : Nat → Int32) (v_rights : Int32) (t0 : Int32) : Option (Int32 × Int32 × Int32) := obl (t0) (some (t0, v_at, v_rights))
def m_X5_readRights_b46 (k13 : Int32 → Int32 → Int32 → Option (Int32 × Int32 × Int32)) (v_length : Int32) (v_at : Int32) (a_chars : Nat → Int32) (v_rights : Int32) (x1 : Int32) : Option (Int32 × Int32 × Int32) := ol (x1 + 1) fun x1_2 => k13 v_at v_rights x1_2
def m_X5_readRights_b13 (k13 : Int32 → Int32 → Int32 → Option (Int32 × Int32 × Int32)) (v_length : Int32) (v_at : Int32) (a_chars : Nat → Int32) (v_rights : Int32) (x1 : Int32) : Option (Int32 × Int32 × Int32) := if 4 ≤ x1 then if v_rights = 0 then m_X5_readRights_b67 v_length v_at a_chars v_rights 0 else m_X5_readRights_b67 v_length v_at a_chars v_rights 1 else ob (m_J0_charAt_5068e [75, 81, 107, 113] x1) fun r_5 => ob (m_X5_skip v_length v_at a_chars r_5) fun (r_7, v_at_8) => if r_7 = 0 then m_X5_readRights_b46 k13 v_length v_at_8 a_chars v_rights x1 else ol (v_rights ||| ((1 : Int32) <<< (x1 &&& 31))) fun y_11 => m_X5_readRights_b46 k13 v_length v_at_8 a_chars y_11 x1
def m_X5_readRights_l13 (v_length : Int32) (a_chars : Nat → Int32) (n : Nat) : Int32 → Int32 → Int32 → Option (Int32 × Int32 × Int32) := fz (fun _ _ _ => none) (fun k13 v_at v_rights x1 => m_X5_readRights_b13 k13 v_length v_at a_chars v_rights x1) n
def m_X5_readRights (v_length : Int32) (v_at : Int32) (a_chars : Nat → Int32) (v_rights : Int32) : Option (Int32 × Int32 × Int32) := ob (m_X5_skip v_length v_at a_chars 45) fun (r_12, v_at_13) => if r_12 = 0 then m_X5_readRights_l13 v_length a_chars kF v_at_13 v_rights 0 else obl (1) (some (1, v_at_13, v_rights))
abbrev rm_X5_readRights : Room := { frames := 4, cells := 0, slots := 0, locals := 85 }
abbrev wy_X5_readRights : List Cond := .code yX5_readRights cX5_readRights 2 (some .boolean) :: gT
theorem cv_X5_readRights {R : Room} {s : State} {args : Array Value} {own : String} {index : Nat} {w0 : Cond} (hts : ∀ w ∈ w0 :: gT, w.before args s = true) (hl : Cond.methodLink own index yX5_readRights ∈ gT) (hR : 4 + 1 ≤ R.frames ∧ 8 + (2 + 11) + 85 ≤ R.locals) : CallW R s args own RX5 index yX5_readRights cX5_readRights 2 (some .boolean) wy_X5_readRights rm_X5_readRights 0 0 0 :=
  cwV 0 hts (gT_call w0 (pre := [.methodLink own index yX5_readRights, .instanceMethod yX5_readRights, .selects RX5 yX5_readRights yX5_readRights, .initialized RX5]) (gT_lc hl (gT_lc ly_yX5_readRights (gT_lc lx_yX5_readRights (gT_l1 li_RX5)))) lc_yX5_readRights) rfl rfl rfl (by decide +kernel) hR
set_option maxRecDepth 100000 in
set_option maxHeartbeats 4000000 in
theorem c_X5_readRights (l : Launch) (D : va_G) (qr : Nat → Nat) (qd : Nat → Nat) (ql : Nat → Nat) (qw : Nat → Nat) (cI : ClassId) (cJ : ClassId) (cC : ClassId) (tq : Nat → Nat) (v_wrongAt : Int32) (v_length : Int32) (v_at : Int32) (a_chars : Nat → Int32) (v_mover : Int32) (v_rights : Int32) (v_passed : Int32) (v_halves : Int32) (v_number : Int32) (v_balance : Int32) (a_men : Nat → Int32) (a_kinds : Nat → Int64) (a_sides : Nat → Int64) (a_rays : Nat → Int64) (a_knights : Nat → Int64) (a_kings : Nat → Int64) (a_pawns : Nat → Int64) (a_table : Nat → Int32) (rv : Int32) (v_at' : Int32) (v_rights' : Int32) (hm : m_X5_readRights v_length v_at a_chars v_rights = some (rv, v_at', v_rights')) : kEi l yX5_readRights wy_X5_readRights rm_X5_readRights D [(cI, .int), (cJ, .long), (cC, .char)] tq rv (wRe qr qd ql qw cI cJ cC v_wrongAt v_length v_at a_chars v_mover v_rights v_passed v_halves v_number v_balance a_men a_kinds a_sides a_rays a_knights a_kings a_pawns a_table) (wRe qr qd ql qw cI cJ cC v_wrongAt v_length v_at' a_chars v_mover v_rights' v_passed v_halves v_number v_balance a_men a_kinds a_sides a_rays a_knights a_kings a_pawns a_table) [.ref (qr 0)] := by
  refine kEi.of cX5_readRights 2 (some .boolean) (by decide) rfl (Or.inr rfl) (Nat.le_of_ble_eq_true rfl) ?_
  intro p e s m below meth c A Q C hJ hret
  have hin0 : ∀ w ∈ wsX00, w ∈ wy_X5_readRights := fun w h => List.mem_cons_of_mem _ (inG0 w h)
  have hin3 : ∀ w ∈ wsX30, w ∈ wy_X5_readRights := fun w h => List.mem_cons_of_mem _ (inG3 w h)
  have hin5 : ∀ w ∈ wsX50, w ∈ wy_X5_readRights := fun w h => List.mem_cons_of_mem _ (inG5 w h)
  have hin7 : ∀ w ∈ wsX70, w ∈ wy_X5_readRights := fun w h => List.mem_cons_of_mem _ (inG7 w h)
  have j67 : ∀ (v_at : Int32) (v_rights : Int32) (t0 : Int32), m_X5_readRights_b67  v_length v_at a_chars v_rights t0 = some (rv, v_at', v_rights') → kv p l e rm_X5_readRights s m ([.ref (qr 0)] : List Value).toArray below meth c D A 2 0 0 Q (wRe qr qd ql qw cI cJ cC v_wrongAt v_length v_at a_chars v_mover v_rights v_passed v_halves v_number v_balance a_men a_kinds a_sides a_rays a_knights a_kings a_pawns a_table) [] 67 [.int t0] := by
    intro v_at v_rights t0 h
    unfold m_X5_readRights_b67 at h
    obtain ⟨g_1, h⟩ := obl_e h
    cases h
    exact hret _ _ dX5_readRights_67 (fun _ => g_1)
  have l13 : ∀ (n13 : Nat) (v_at : Int32) (v_rights : Int32) (x1 : Int32), m_X5_readRights_l13  v_length a_chars n13 v_at v_rights x1 = some (rv, v_at', v_rights') → kv p l e rm_X5_readRights s m ([.ref (qr 0)] : List Value).toArray below meth c D A 2 0 0 Q (wRe qr qd ql qw cI cJ cC v_wrongAt v_length v_at a_chars v_mover v_rights v_passed v_halves v_number v_balance a_men a_kinds a_sides a_rays a_knights a_kings a_pawns a_table) [(0, .ref (qr 0)), (1, .int x1)] 13 [] := by
    intro n13
    induction n13 with
    | zero =>
      intro v_at v_rights x1 h
      exact kv_no h
    | succ n13 ih13 =>
      have j46 : ∀ (v_at : Int32) (v_rights : Int32) (x1 : Int32), m_X5_readRights_b46 (m_X5_readRights_l13  v_length a_chars n13) v_length v_at a_chars v_rights x1 = some (rv, v_at', v_rights') → kv p l e rm_X5_readRights s m ([.ref (qr 0)] : List Value).toArray below meth c D A 2 0 0 Q (wRe qr qd ql qw cI cJ cC v_wrongAt v_length v_at a_chars v_mover v_rights v_passed v_halves v_number v_balance a_men a_kinds a_sides a_rays a_knights a_kings a_pawns a_table) [(0, .ref (qr 0)), (1, .int x1)] 46 [] := by
        intro v_at v_rights x1 h
        unfold m_X5_readRights_b46 at h
        obtain ⟨x1_2, ex1_2, h⟩ := ol_e h
        refine kv_iinc C (v := x1_2) (lv2 := [(0, .ref (qr 0)), (1, .int x1_2)]) 1 [1, 0] dX5_readRights_46 rfl ex1_2.symm (by decide) rfl rfl ?_
        refine kv_goto C 13 dX5_readRights_49 (by decide) ?_
        exact kv_lv [0, 1] (lv2 := [(0, .ref (qr 0)), (1, .int x1_2)]) rfl (ih13 v_at v_rights x1_2 h)
      intro v_at v_rights x1 h
      replace h : m_X5_readRights_b13  (m_X5_readRights_l13  v_length a_chars n13) v_length v_at a_chars v_rights x1 = some (rv, v_at', v_rights') := h
      unfold m_X5_readRights_b13 at h
      refine kv_iload_n C 1 dX5_readRights_13 rfl rfl ?_
      refine kv_iconst C 4 dX5_readRights_14 (by decide) ?_
      refine kv_icmp_ge C 52 dX5_readRights_15 (by decide) (fun c_3 => ?_) (fun c_3 => ?_)
      · have h := oi_t h c_3
        refine kv_aload_n C 0 dX5_readRights_52 rfl rfl ?_
        refine kv_get C (Cn := RX5) (T := TX5) (N := 5) 0 0 hin5 rfl rfl (by decide) (C.ts _ (List.mem_cons_of_mem _ lf_RX5_9)) rfl rfl dX5_readRights_53 ?_
        refine kv_get C (Cn := RX0) (T := TX0) (N := 11) 2 6 hin0 rfl rfl (by decide) (C.ts _ (List.mem_cons_of_mem _ lf_RX5_111)) rfl rfl dX5_readRights_56 ?_
        refine kv_if_eq C 66 dX5_readRights_59 (by decide) (fun c_4 => ?_) (fun c_4 => ?_)
        · have h := oi_t h c_4
          refine kv_iconst C 0 dX5_readRights_66 (by decide) ?_
          exact kv_lv [] (lv2 := []) rfl (j67 v_at v_rights 0 h)
        · have h := oi_f h c_4
          refine kv_iconst C 1 dX5_readRights_62 (by decide) ?_
          refine kv_goto C 67 dX5_readRights_63 (by decide) ?_
          exact kv_lv [] (lv2 := []) rfl (j67 v_at v_rights 1 h)
      · have h := oi_f h c_3
        refine kv_aload_n C 0 dX5_readRights_18 rfl rfl ?_
        refine kv_ldcS C (q := tq (8 + 1)) (hJ.2.2.1 1 _ rfl).1 dX5_readRights_19 ?_
        refine kv_iload_n C 1 dX5_readRights_21 rfl rfl ?_
        obtain ⟨r_5, hm_6, h⟩ := ob_e h
        refine kv_eO0i C hJ [.int x1] (c_J0_charAt_5068e l D tq 1 RX5 105 "KQkq" [75, 81, 107, 113] rfl x1 r_5 hm_6) (cv_J0_charAt_5068e C.ts lm_RX5_107 ⟨Nat.le_of_ble_eq_true rfl, Nat.le_of_ble_eq_true rfl⟩) (hJ.2.2.1 1 _ rfl).2.1 rfl rfl (Nat.le_of_ble_eq_true rfl) dX5_readRights_22 ⟨Nat.zero_le _, Nat.zero_le _⟩ ?_
        obtain ⟨⟨r_7, v_at_8⟩, hm_9, h⟩ := ob_e h
        replace h : _ = _ := h
        refine kv_eVi (ws2 := (wRe qr qd ql qw cI cJ cC v_wrongAt v_length v_at_8 a_chars v_mover v_rights v_passed v_halves v_number v_balance a_men a_kinds a_sides a_rays a_knights a_kings a_pawns a_table)) C hJ [.int r_5] 0 (c_X5_skip l D qr qd ql qw cI cJ cC tq v_wrongAt v_length v_at a_chars v_mover v_rights v_passed v_halves v_number v_balance a_men a_kinds a_sides a_rays a_knights a_kings a_pawns a_table r_5 r_7 v_at_8 hm_9) (cv_X5_skip C.ts lm_RX5_60 ⟨Nat.le_of_ble_eq_true rfl, Nat.le_of_ble_eq_true rfl⟩) rfl rfl [0, 1, 2, 3, 4, 5, 6, 7, 8, 9, 10, 11, 12] [] [0, 1, 2] [0, 1, 2, 3, 4, 5, 6, 7, 8, 9, 10, 11, 12] rfl rfl rfl rfl rfl (by decide) rfl rfl rfl (Nat.le_of_ble_eq_true rfl) dX5_readRights_25 ⟨Nat.zero_le _, Nat.zero_le _⟩ rfl rfl rfl ?_
        refine kv_if_eq C 46 dX5_readRights_28 (by decide) (fun c_10 => ?_) (fun c_10 => ?_)
        · have h := oi_t h c_10
          exact kv_lv [0, 1] (lv2 := [(0, .ref (qr 0)), (1, .int x1)]) rfl (j46 v_at_8 v_rights x1 h)
        · have h := oi_f h c_10
          refine kv_aload_n C 0 dX5_readRights_31 rfl rfl ?_
          refine kv_get C (Cn := RX5) (T := TX5) (N := 5) 0 0 hin5 rfl rfl (by decide) (C.ts _ (List.mem_cons_of_mem _ lf_RX5_9)) rfl rfl dX5_readRights_32 ?_
          refine kv_dup C dX5_readRights_35 rfl ?_
          refine kv_get C (Cn := RX0) (T := TX0) (N := 11) 2 6 hin0 rfl rfl (by decide) (C.ts _ (List.mem_cons_of_mem _ lf_RX5_111)) rfl rfl dX5_readRights_36 ?_
          refine kv_iconst C 1 dX5_readRights_39 (by decide) ?_
          refine kv_iload_n C 1 dX5_readRights_40 rfl rfl ?_
          refine kv_ishl C dX5_readRights_41 ?_
          refine kv_ior C dX5_readRights_42 ?_
          obtain ⟨y_11, ey_11, h⟩ := ol_e h
          refine kv_top ey_11 ?_
          refine kv_put C (Cn := RX0) (T := TX0) (N := 11) (ty := .int) (ws1 := (wRe qr qd ql qw cI cJ cC v_wrongAt v_length v_at_8 a_chars v_mover y_11 v_passed v_halves v_number v_balance a_men a_kinds a_sides a_rays a_knights a_kings a_pawns a_table)) 2 6 hin0 tyX0 tyX0_ok nmX0 rfl rfl (by decide) (C.ts _ (List.mem_cons_of_mem _ lf_RX5_111)) rfl rfl (by decide +kernel) rfl rfl (Nat.le_of_ble_eq_true rfl) rfl dX5_readRights_43 ?_
          exact kv_lv [0, 1] (lv2 := [(0, .ref (qr 0)), (1, .int x1)]) rfl (j46 v_at_8 y_11 x1 h)
  unfold m_X5_readRights at hm
  have h := hm
  refine kv_lv [0] (lv2 := [(0, .ref (qr 0))]) rfl ?_
  refine kv_aload_n C 0 dX5_readRights_0 rfl rfl ?_
  refine kv_bipush C 45 dX5_readRights_1 (by decide) ?_
  obtain ⟨⟨r_12, v_at_13⟩, hm_14, h⟩ := ob_e h
  replace h : _ = _ := h
  refine kv_eVi (ws2 := (wRe qr qd ql qw cI cJ cC v_wrongAt v_length v_at_13 a_chars v_mover v_rights v_passed v_halves v_number v_balance a_men a_kinds a_sides a_rays a_knights a_kings a_pawns a_table)) C hJ [.int 45] 0 (c_X5_skip l D qr qd ql qw cI cJ cC tq v_wrongAt v_length v_at a_chars v_mover v_rights v_passed v_halves v_number v_balance a_men a_kinds a_sides a_rays a_knights a_kings a_pawns a_table 45 r_12 v_at_13 hm_14) (cv_X5_skip C.ts lm_RX5_60 ⟨Nat.le_of_ble_eq_true rfl, Nat.le_of_ble_eq_true rfl⟩) rfl rfl [0, 1, 2, 3, 4, 5, 6, 7, 8, 9, 10, 11, 12] [] [0, 1, 2] [0, 1, 2, 3, 4, 5, 6, 7, 8, 9, 10, 11, 12] rfl rfl rfl rfl rfl (by decide) rfl rfl rfl (Nat.le_of_ble_eq_true rfl) dX5_readRights_3 ⟨Nat.zero_le _, Nat.zero_le _⟩ rfl rfl rfl ?_
  refine kv_if_eq C 11 dX5_readRights_6 (by decide) (fun c_15 => ?_) (fun c_15 => ?_)
  · have h := oi_t h c_15
    refine kv_iconst C 0 dX5_readRights_11 (by decide) ?_
    refine kv_istore_n C (lv2 := [(0, .ref (qr 0)), (1, .int 0)]) [1, 0] dX5_readRights_12 rfl (by decide) rfl rfl ?_
    exact kv_lv [0, 1] (lv2 := [(0, .ref (qr 0)), (1, .int 0)]) rfl (l13 kF v_at_13 v_rights 0 h)
  · have h := oi_f h c_15
    refine kv_iconst C 1 dX5_readRights_9 (by decide) ?_
    obtain ⟨g_16, h⟩ := obl_e h
    cases h
    exact hret _ _ dX5_readRights_10 (fun _ => g_16)
def m_X5_readPassed_b59 (v_length : Int32) (v_at : Int32) (a_chars : Nat → Int32) (v_passed : Int32) : Option (Int32 × Int32 × Int32) := obl (0) (some (0, v_at, v_passed))
def m_X5_readPassed_b29 (v_length : Int32) (v_at : Int32) (a_chars : Nat → Int32) (v_passed : Int32) : Option (Int32 × Int32 × Int32) := obl (0) (some (0, v_at, v_passed))
def m_X5_readPassed (v_length : Int32) (v_at : Int32) (a_chars : Nat → Int32) (v_passed : Int32) : Option (Int32 × Int32 × Int32) := ob (m_X5_skip v_length v_at a_chars 45) fun (r_3, v_at_4) => if r_3 = 0 then ob (m_X5_next v_length v_at_4 a_chars ) fun r_7 => ol (r_7 - 97) fun x1_9 => if x1_9 < 0 then m_X5_readPassed_b29 v_length v_at_4 a_chars v_passed else if x1_9 ≤ 7 then ol (v_at_4 + 1) fun y_12 => ob (m_X5_next v_length y_12 a_chars ) fun r_13 => ol (r_13 - 49) fun x2_15 => if x2_15 < 0 then m_X5_readPassed_b59 v_length y_12 a_chars v_passed else if x2_15 ≤ 7 then ol (y_12 + 1) fun y_18 => ol (((8 : Int32) * x2_15) + x1_9) fun y_19 => obl (1) (some (1, y_18, y_19)) else m_X5_readPassed_b59 v_length y_12 a_chars v_passed else m_X5_readPassed_b29 v_length v_at_4 a_chars v_passed else obl (1) (some (1, v_at_4, v_passed))
abbrev rm_X5_readPassed : Room := { frames := 2, cells := 0, slots := 0, locals := 41 }
abbrev wy_X5_readPassed : List Cond := .code yX5_readPassed cX5_readPassed 3 (some .boolean) :: gT
theorem cv_X5_readPassed {R : Room} {s : State} {args : Array Value} {own : String} {index : Nat} {w0 : Cond} (hts : ∀ w ∈ w0 :: gT, w.before args s = true) (hl : Cond.methodLink own index yX5_readPassed ∈ gT) (hR : 2 + 1 ≤ R.frames ∧ 8 + (3 + 11) + 41 ≤ R.locals) : CallW R s args own RX5 index yX5_readPassed cX5_readPassed 3 (some .boolean) wy_X5_readPassed rm_X5_readPassed 0 0 0 :=
  cwV 0 hts (gT_call w0 (pre := [.methodLink own index yX5_readPassed, .instanceMethod yX5_readPassed, .selects RX5 yX5_readPassed yX5_readPassed, .initialized RX5]) (gT_lc hl (gT_lc ly_yX5_readPassed (gT_lc lx_yX5_readPassed (gT_l1 li_RX5)))) lc_yX5_readPassed) rfl rfl rfl (by decide +kernel) hR
set_option maxRecDepth 100000 in
set_option maxHeartbeats 4000000 in
theorem c_X5_readPassed (l : Launch) (D : va_G) (qr : Nat → Nat) (qd : Nat → Nat) (ql : Nat → Nat) (qw : Nat → Nat) (cI : ClassId) (cJ : ClassId) (cC : ClassId) (tq : Nat → Nat) (v_wrongAt : Int32) (v_length : Int32) (v_at : Int32) (a_chars : Nat → Int32) (v_mover : Int32) (v_rights : Int32) (v_passed : Int32) (v_halves : Int32) (v_number : Int32) (v_balance : Int32) (a_men : Nat → Int32) (a_kinds : Nat → Int64) (a_sides : Nat → Int64) (a_rays : Nat → Int64) (a_knights : Nat → Int64) (a_kings : Nat → Int64) (a_pawns : Nat → Int64) (a_table : Nat → Int32) (rv : Int32) (v_at' : Int32) (v_passed' : Int32) (hm : m_X5_readPassed v_length v_at a_chars v_passed = some (rv, v_at', v_passed')) : kEi l yX5_readPassed wy_X5_readPassed rm_X5_readPassed D [(cI, .int), (cJ, .long), (cC, .char)] tq rv (wRe qr qd ql qw cI cJ cC v_wrongAt v_length v_at a_chars v_mover v_rights v_passed v_halves v_number v_balance a_men a_kinds a_sides a_rays a_knights a_kings a_pawns a_table) (wRe qr qd ql qw cI cJ cC v_wrongAt v_length v_at' a_chars v_mover v_rights v_passed' v_halves v_number v_balance a_men a_kinds a_sides a_rays a_knights a_kings a_pawns a_table) [.ref (qr 0)] := by
  refine kEi.of cX5_readPassed 3 (some .boolean) (by decide) rfl (Or.inr rfl) (Nat.le_of_ble_eq_true rfl) ?_
  intro p e s m below meth c A Q C hJ hret
  have hin0 : ∀ w ∈ wsX00, w ∈ wy_X5_readPassed := fun w h => List.mem_cons_of_mem _ (inG0 w h)
  have hin3 : ∀ w ∈ wsX30, w ∈ wy_X5_readPassed := fun w h => List.mem_cons_of_mem _ (inG3 w h)
  have hin5 : ∀ w ∈ wsX50, w ∈ wy_X5_readPassed := fun w h => List.mem_cons_of_mem _ (inG5 w h)
  have hin7 : ∀ w ∈ wsX70, w ∈ wy_X5_readPassed := fun w h => List.mem_cons_of_mem _ (inG7 w h)
  have j59 : ∀ (v_at : Int32) (v_passed : Int32), m_X5_readPassed_b59  v_length v_at a_chars v_passed  = some (rv, v_at', v_passed') → kv p l e rm_X5_readPassed s m ([.ref (qr 0)] : List Value).toArray below meth c D A 3 0 0 Q (wRe qr qd ql qw cI cJ cC v_wrongAt v_length v_at a_chars v_mover v_rights v_passed v_halves v_number v_balance a_men a_kinds a_sides a_rays a_knights a_kings a_pawns a_table) [] 59 [] := by
    intro v_at v_passed h
    unfold m_X5_readPassed_b59 at h
    refine kv_iconst C 0 dX5_readPassed_59 (by decide) ?_
    obtain ⟨g_1, h⟩ := obl_e h
    cases h
    exact hret _ _ dX5_readPassed_60 (fun _ => g_1)
  have j29 : ∀ (v_at : Int32) (v_passed : Int32), m_X5_readPassed_b29  v_length v_at a_chars v_passed  = some (rv, v_at', v_passed') → kv p l e rm_X5_readPassed s m ([.ref (qr 0)] : List Value).toArray below meth c D A 3 0 0 Q (wRe qr qd ql qw cI cJ cC v_wrongAt v_length v_at a_chars v_mover v_rights v_passed v_halves v_number v_balance a_men a_kinds a_sides a_rays a_knights a_kings a_pawns a_table) [] 29 [] := by
    intro v_at v_passed h
    unfold m_X5_readPassed_b29 at h
    refine kv_iconst C 0 dX5_readPassed_29 (by decide) ?_
    obtain ⟨g_2, h⟩ := obl_e h
    cases h
    exact hret _ _ dX5_readPassed_30 (fun _ => g_2)
  unfold m_X5_readPassed at hm
  have h := hm
  refine kv_lv [0] (lv2 := [(0, .ref (qr 0))]) rfl ?_
  refine kv_aload_n C 0 dX5_readPassed_0 rfl rfl ?_
  refine kv_bipush C 45 dX5_readPassed_1 (by decide) ?_
  obtain ⟨⟨r_3, v_at_4⟩, hm_5, h⟩ := ob_e h
  replace h : _ = _ := h
  refine kv_eVi (ws2 := (wRe qr qd ql qw cI cJ cC v_wrongAt v_length v_at_4 a_chars v_mover v_rights v_passed v_halves v_number v_balance a_men a_kinds a_sides a_rays a_knights a_kings a_pawns a_table)) C hJ [.int 45] 0 (c_X5_skip l D qr qd ql qw cI cJ cC tq v_wrongAt v_length v_at a_chars v_mover v_rights v_passed v_halves v_number v_balance a_men a_kinds a_sides a_rays a_knights a_kings a_pawns a_table 45 r_3 v_at_4 hm_5) (cv_X5_skip C.ts lm_RX5_60 ⟨Nat.le_of_ble_eq_true rfl, Nat.le_of_ble_eq_true rfl⟩) rfl rfl [0, 1, 2, 3, 4, 5, 6, 7, 8, 9, 10, 11, 12] [] [0, 1, 2] [0, 1, 2, 3, 4, 5, 6, 7, 8, 9, 10, 11, 12] rfl rfl rfl rfl rfl (by decide) rfl rfl rfl (Nat.le_of_ble_eq_true rfl) dX5_readPassed_3 ⟨Nat.zero_le _, Nat.zero_le _⟩ rfl rfl rfl ?_
  refine kv_if_eq C 11 dX5_readPassed_6 (by decide) (fun c_6 => ?_) (fun c_6 => ?_)
  · have h := oi_t h c_6
    refine kv_aload_n C 0 dX5_readPassed_11 rfl rfl ?_
    obtain ⟨r_7, hm_8, h⟩ := ob_e h
    refine kv_eVi (ws2 := (wRe qr qd ql qw cI cJ cC v_wrongAt v_length v_at_4 a_chars v_mover v_rights v_passed v_halves v_number v_balance a_men a_kinds a_sides a_rays a_knights a_kings a_pawns a_table)) C hJ [] 0 (c_X5_next l D qr qd ql qw cI cJ cC tq v_wrongAt v_length v_at_4 a_chars v_mover v_rights v_passed v_halves v_number v_balance a_men a_kinds a_sides a_rays a_knights a_kings a_pawns a_table  r_7 hm_8) (cv_X5_next C.ts lm_RX5_79 ⟨Nat.le_of_ble_eq_true rfl, Nat.le_of_ble_eq_true rfl⟩) rfl rfl [0, 1, 2, 3, 4, 5, 6, 7, 8, 9, 10, 11, 12] [] [0, 1, 2] [0, 1, 2, 3, 4, 5, 6, 7, 8, 9, 10, 11, 12] rfl rfl rfl rfl rfl (by decide) rfl rfl rfl (Nat.le_of_ble_eq_true rfl) dX5_readPassed_12 ⟨Nat.zero_le _, Nat.zero_le _⟩ rfl rfl rfl ?_
    refine kv_bipush C 97 dX5_readPassed_15 (by decide) ?_
    refine kv_isub C dX5_readPassed_17 ?_
    obtain ⟨x1_9, ex1_9, h⟩ := ol_e h
    refine kv_top ex1_9 ?_
    refine kv_istore_n C (lv2 := [(0, .ref (qr 0)), (1, .int x1_9)]) [1, 0] dX5_readPassed_18 rfl (by decide) rfl rfl ?_
    refine kv_iload_n C 1 dX5_readPassed_19 rfl rfl ?_
    refine kv_if_lt C 29 dX5_readPassed_20 (by decide) (fun c_10 => ?_) (fun c_10 => ?_)
    · have h := oi_t h c_10
      exact kv_lv [] (lv2 := []) rfl (j29 v_at_4 v_passed h)
    · have h := oi_f h c_10
      refine kv_iload_n C 1 dX5_readPassed_23 rfl rfl ?_
      refine kv_bipush C 7 dX5_readPassed_24 (by decide) ?_
      refine kv_icmp_le C 31 dX5_readPassed_26 (by decide) (fun c_11 => ?_) (fun c_11 => ?_)
      · have h := oi_t h c_11
        refine kv_aload_n C 0 dX5_readPassed_31 rfl rfl ?_
        refine kv_dup C dX5_readPassed_32 rfl ?_
        refine kv_get C (Cn := RX5) (T := TX5) (N := 5) 0 4 hin5 rfl rfl (by decide) (C.ts _ (List.mem_cons_of_mem _ lf_RX5_37)) rfl rfl dX5_readPassed_33 ?_
        refine kv_iconst C 1 dX5_readPassed_36 (by decide) ?_
        refine kv_iadd C dX5_readPassed_37 ?_
        obtain ⟨y_12, ey_12, h⟩ := ol_e h
        refine kv_top ey_12 ?_
        refine kv_put C (Cn := RX5) (T := TX5) (N := 5) (ty := .int) (ws1 := (wRe qr qd ql qw cI cJ cC v_wrongAt v_length y_12 a_chars v_mover v_rights v_passed v_halves v_number v_balance a_men a_kinds a_sides a_rays a_knights a_kings a_pawns a_table)) 0 4 hin5 tyX5 tyX5_ok nmX5 rfl rfl (by decide) (C.ts _ (List.mem_cons_of_mem _ lf_RX5_37)) rfl rfl (by decide +kernel) rfl rfl (Nat.le_of_ble_eq_true rfl) rfl dX5_readPassed_38 ?_
        refine kv_aload_n C 0 dX5_readPassed_41 rfl rfl ?_
        obtain ⟨r_13, hm_14, h⟩ := ob_e h
        refine kv_eVi (ws2 := (wRe qr qd ql qw cI cJ cC v_wrongAt v_length y_12 a_chars v_mover v_rights v_passed v_halves v_number v_balance a_men a_kinds a_sides a_rays a_knights a_kings a_pawns a_table)) C hJ [] 0 (c_X5_next l D qr qd ql qw cI cJ cC tq v_wrongAt v_length y_12 a_chars v_mover v_rights v_passed v_halves v_number v_balance a_men a_kinds a_sides a_rays a_knights a_kings a_pawns a_table  r_13 hm_14) (cv_X5_next C.ts lm_RX5_79 ⟨Nat.le_of_ble_eq_true rfl, Nat.le_of_ble_eq_true rfl⟩) rfl rfl [0, 1, 2, 3, 4, 5, 6, 7, 8, 9, 10, 11, 12] [] [0, 1, 2] [0, 1, 2, 3, 4, 5, 6, 7, 8, 9, 10, 11, 12] rfl rfl rfl rfl rfl (by decide) rfl rfl rfl (Nat.le_of_ble_eq_true rfl) dX5_readPassed_42 ⟨Nat.zero_le _, Nat.zero_le _⟩ rfl rfl rfl ?_
        refine kv_bipush C 49 dX5_readPassed_45 (by decide) ?_
        refine kv_isub C dX5_readPassed_47 ?_
        obtain ⟨x2_15, ex2_15, h⟩ := ol_e h
        refine kv_top ex2_15 ?_
        refine kv_istore_n C (lv2 := [(0, .ref (qr 0)), (1, .int x1_9), (2, .int x2_15)]) [1, 2, 0] dX5_readPassed_48 rfl (by decide) rfl rfl ?_
        refine kv_iload_n C 2 dX5_readPassed_49 rfl rfl ?_
        refine kv_if_lt C 59 dX5_readPassed_50 (by decide) (fun c_16 => ?_) (fun c_16 => ?_)
        · have h := oi_t h c_16
          exact kv_lv [] (lv2 := []) rfl (j59 y_12 v_passed h)
        · have h := oi_f h c_16
          refine kv_iload_n C 2 dX5_readPassed_53 rfl rfl ?_
          refine kv_bipush C 7 dX5_readPassed_54 (by decide) ?_
          refine kv_icmp_le C 61 dX5_readPassed_56 (by decide) (fun c_17 => ?_) (fun c_17 => ?_)
          · have h := oi_t h c_17
            refine kv_aload_n C 0 dX5_readPassed_61 rfl rfl ?_
            refine kv_dup C dX5_readPassed_62 rfl ?_
            refine kv_get C (Cn := RX5) (T := TX5) (N := 5) 0 4 hin5 rfl rfl (by decide) (C.ts _ (List.mem_cons_of_mem _ lf_RX5_37)) rfl rfl dX5_readPassed_63 ?_
            refine kv_iconst C 1 dX5_readPassed_66 (by decide) ?_
            refine kv_iadd C dX5_readPassed_67 ?_
            obtain ⟨y_18, ey_18, h⟩ := ol_e h
            refine kv_top ey_18 ?_
            refine kv_put C (Cn := RX5) (T := TX5) (N := 5) (ty := .int) (ws1 := (wRe qr qd ql qw cI cJ cC v_wrongAt v_length y_18 a_chars v_mover v_rights v_passed v_halves v_number v_balance a_men a_kinds a_sides a_rays a_knights a_kings a_pawns a_table)) 0 4 hin5 tyX5 tyX5_ok nmX5 rfl rfl (by decide) (C.ts _ (List.mem_cons_of_mem _ lf_RX5_37)) rfl rfl (by decide +kernel) rfl rfl (Nat.le_of_ble_eq_true rfl) rfl dX5_readPassed_68 ?_
            refine kv_aload_n C 0 dX5_readPassed_71 rfl rfl ?_
            refine kv_get C (Cn := RX5) (T := TX5) (N := 5) 0 0 hin5 rfl rfl (by decide) (C.ts _ (List.mem_cons_of_mem _ lf_RX5_9)) rfl rfl dX5_readPassed_72 ?_
            refine kv_bipush C 8 dX5_readPassed_75 (by decide) ?_
            refine kv_iload_n C 2 dX5_readPassed_77 rfl rfl ?_
            refine kv_imul C dX5_readPassed_78 ?_
            refine kv_iload_n C 1 dX5_readPassed_79 rfl rfl ?_
            refine kv_iadd C dX5_readPassed_80 ?_
            obtain ⟨y_19, ey_19, h⟩ := ol_e h
            refine kv_top ey_19 ?_
            refine kv_put C (Cn := RX0) (T := TX0) (N := 11) (ty := .int) (ws1 := (wRe qr qd ql qw cI cJ cC v_wrongAt v_length y_18 a_chars v_mover v_rights y_19 v_halves v_number v_balance a_men a_kinds a_sides a_rays a_knights a_kings a_pawns a_table)) 2 7 hin0 tyX0 tyX0_ok nmX0 rfl rfl (by decide) (C.ts _ (List.mem_cons_of_mem _ lf_RX5_54)) rfl rfl (by decide +kernel) rfl rfl (Nat.le_of_ble_eq_true rfl) rfl dX5_readPassed_81 ?_
            refine kv_iconst C 1 dX5_readPassed_84 (by decide) ?_
            obtain ⟨g_20, h⟩ := obl_e h
            cases h
            exact hret _ _ dX5_readPassed_85 (fun _ => g_20)
          · have h := oi_f h c_17
            exact kv_lv [] (lv2 := []) rfl (j59 y_12 v_passed h)
      · have h := oi_f h c_11
        exact kv_lv [] (lv2 := []) rfl (j29 v_at_4 v_passed h)
  · have h := oi_f h c_6
    refine kv_iconst C 1 dX5_readPassed_9 (by decide) ?_
    obtain ⟨g_21, h⟩ := obl_e h
    cases h
    exact hret _ _ dX5_readPassed_10 (fun _ => g_21)
def m_X5_readUpwards_b77 (v_length : Int32) (v_at : Int32) (a_chars : Nat → Int32) (x2 : Int32) : Option (Int32 × Int32) := some (x2, v_at)
def m_X5_readUpwards_b22 (k22 : Int32 → Int32 → Option (Int32 × Int32)) (v_length : Int32) (v_at : Int32) (a_chars : Nat → Int32) (x2 : Int32) : Option (Int32 × Int32) := if x2 = 0 then m_X5_readUpwards_b77 v_length v_at a_chars x2 else if v_length ≤ v_at then m_X5_readUpwards_b77 v_length v_at a_chars x2 else ob (m_X5_nextDigit v_length v_at a_chars ) fun r_3 => if r_3 = (-1) then m_X5_readUpwards_b77 v_length v_at a_chars x2 else ob (m_X5_nextDigit v_length v_at a_chars ) fun r_6 => ol (((10 : Int32) * x2) + r_6) fun x2_8 => if x2_8 ≤ 9999 then ol (v_at + 1) fun y_10 => k22 y_10 x2_8 else some ((-1), v_at)
def m_X5_readUpwards_l22 (v_length : Int32) (a_chars : Nat → Int32) (n : Nat) : Int32 → Int32 → Option (Int32 × Int32) := fz (fun _ _ => none) (fun k22 v_at x2 => m_X5_readUpwards_b22 k22 v_length v_at a_chars x2) n
def m_X5_readUpwards (v_length : Int32) (v_at : Int32) (a_chars : Nat → Int32) (p0 : Int32) : Option (Int32 × Int32) := ob (m_X5_nextDigit v_length v_at a_chars ) fun r_11 => if p0 ≤ r_11 then ol (v_at + 1) fun y_14 => m_X5_readUpwards_l22 v_length a_chars kF y_14 r_11 else some ((-1), v_at)
abbrev rm_X5_readUpwards : Room := { frames := 2, cells := 0, slots := 0, locals := 41 }
abbrev wy_X5_readUpwards : List Cond := .code yX5_readUpwards cX5_readUpwards 3 (some .int) :: gT
theorem cv_X5_readUpwards {R : Room} {s : State} {args : Array Value} {own : String} {index : Nat} {w0 : Cond} (hts : ∀ w ∈ w0 :: gT, w.before args s = true) (hl : Cond.methodLink own index yX5_readUpwards ∈ gT) (hR : 2 + 1 ≤ R.frames ∧ 8 + (3 + 11) + 41 ≤ R.locals) : CallW R s args own RX5 index yX5_readUpwards cX5_readUpwards 3 (some .int) wy_X5_readUpwards rm_X5_readUpwards 0 0 1 :=
  cwV 1 hts (gT_call w0 (pre := [.methodLink own index yX5_readUpwards, .instanceMethod yX5_readUpwards, .selects RX5 yX5_readUpwards yX5_readUpwards, .initialized RX5]) (gT_lc hl (gT_lc ly_yX5_readUpwards (gT_lc lx_yX5_readUpwards (gT_l1 li_RX5)))) lc_yX5_readUpwards) rfl rfl rfl (by decide +kernel) hR
set_option maxRecDepth 100000 in
set_option maxHeartbeats 4000000 in
theorem c_X5_readUpwards (l : Launch) (D : va_G) (qr : Nat → Nat) (qd : Nat → Nat) (ql : Nat → Nat) (qw : Nat → Nat) (cI : ClassId) (cJ : ClassId) (cC : ClassId) (tq : Nat → Nat) (v_wrongAt : Int32) (v_length : Int32) (v_at : Int32) (a_chars : Nat → Int32) (v_mover : Int32) (v_rights : Int32) (v_passed : Int32) (v_halves : Int32) (v_number : Int32) (v_balance : Int32) (a_men : Nat → Int32) (a_kinds : Nat → Int64) (a_sides : Nat → Int64) (a_rays : Nat → Int64) (a_knights : Nat → Int64) (a_kings : Nat → Int64) (a_pawns : Nat → Int64) (a_table : Nat → Int32) (p0 : Int32) (rv : Int32) (v_at' : Int32) (hm : m_X5_readUpwards v_length v_at a_chars p0 = some (rv, v_at')) : kEi l yX5_readUpwards wy_X5_readUpwards rm_X5_readUpwards D [(cI, .int), (cJ, .long), (cC, .char)] tq rv (wRe qr qd ql qw cI cJ cC v_wrongAt v_length v_at a_chars v_mover v_rights v_passed v_halves v_number v_balance a_men a_kinds a_sides a_rays a_knights a_kings a_pawns a_table) (wRe qr qd ql qw cI cJ cC v_wrongAt v_length v_at' a_chars v_mover v_rights v_passed v_halves v_number v_balance a_men a_kinds a_sides a_rays a_knights a_kings a_pawns a_table) [.ref (qr 0), .int p0] := by
  refine kEi.of cX5_readUpwards 3 (some .int) (by decide) rfl (Or.inl rfl) (Nat.le_of_ble_eq_true rfl) ?_
  intro p e s m below meth c A Q C hJ hret
  have hin0 : ∀ w ∈ wsX00, w ∈ wy_X5_readUpwards := fun w h => List.mem_cons_of_mem _ (inG0 w h)
  have hin3 : ∀ w ∈ wsX30, w ∈ wy_X5_readUpwards := fun w h => List.mem_cons_of_mem _ (inG3 w h)
  have hin5 : ∀ w ∈ wsX50, w ∈ wy_X5_readUpwards := fun w h => List.mem_cons_of_mem _ (inG5 w h)
  have hin7 : ∀ w ∈ wsX70, w ∈ wy_X5_readUpwards := fun w h => List.mem_cons_of_mem _ (inG7 w h)
  have j77 : ∀ (v_at : Int32) (x2 : Int32), m_X5_readUpwards_b77  v_length v_at a_chars x2 = some (rv, v_at') → kv p l e rm_X5_readUpwards s m ([.ref (qr 0), .int p0] : List Value).toArray below meth c D A 3 0 0 Q (wRe qr qd ql qw cI cJ cC v_wrongAt v_length v_at a_chars v_mover v_rights v_passed v_halves v_number v_balance a_men a_kinds a_sides a_rays a_knights a_kings a_pawns a_table) [(2, .int x2)] 77 [] := by
    intro v_at x2 h
    unfold m_X5_readUpwards_b77 at h
    refine kv_iload_n C 0 dX5_readUpwards_77 rfl rfl ?_
    cases h
    exact hret _ _ dX5_readUpwards_78 (fun q => by cases q)
  have l22 : ∀ (n22 : Nat) (v_at : Int32) (x2 : Int32), m_X5_readUpwards_l22  v_length a_chars n22 v_at x2 = some (rv, v_at') → kv p l e rm_X5_readUpwards s m ([.ref (qr 0), .int p0] : List Value).toArray below meth c D A 3 0 0 Q (wRe qr qd ql qw cI cJ cC v_wrongAt v_length v_at a_chars v_mover v_rights v_passed v_halves v_number v_balance a_men a_kinds a_sides a_rays a_knights a_kings a_pawns a_table) [(0, .ref (qr 0)), (2, .int x2)] 22 [] := by
    intro n22
    induction n22 with
    | zero =>
      intro v_at x2 h
      exact kv_no h
    | succ n22 ih22 =>
      intro v_at x2 h
      replace h : m_X5_readUpwards_b22  (m_X5_readUpwards_l22  v_length a_chars n22) v_length v_at a_chars x2 = some (rv, v_at') := h
      unfold m_X5_readUpwards_b22 at h
      refine kv_iload_n C 1 dX5_readUpwards_22 rfl rfl ?_
      refine kv_if_eq C 77 dX5_readUpwards_23 (by decide) (fun c_1 => ?_) (fun c_1 => ?_)
      · have h := oi_t h c_1
        exact kv_lv [1] (lv2 := [(2, .int x2)]) rfl (j77 v_at x2 h)
      · have h := oi_f h c_1
        refine kv_aload_n C 0 dX5_readUpwards_26 rfl rfl ?_
        refine kv_get C (Cn := RX5) (T := TX5) (N := 5) 0 4 hin5 rfl rfl (by decide) (C.ts _ (List.mem_cons_of_mem _ lf_RX5_37)) rfl rfl dX5_readUpwards_27 ?_
        refine kv_aload_n C 0 dX5_readUpwards_30 rfl rfl ?_
        refine kv_get C (Cn := RX5) (T := TX5) (N := 5) 0 3 hin5 rfl rfl (by decide) (C.ts _ (List.mem_cons_of_mem _ lf_RX5_29)) rfl rfl dX5_readUpwards_31 ?_
        refine kv_icmp_ge C 77 dX5_readUpwards_34 (by decide) (fun c_2 => ?_) (fun c_2 => ?_)
        · have h := oi_t h c_2
          exact kv_lv [1] (lv2 := [(2, .int x2)]) rfl (j77 v_at x2 h)
        · have h := oi_f h c_2
          refine kv_aload_n C 0 dX5_readUpwards_37 rfl rfl ?_
          obtain ⟨r_3, hm_4, h⟩ := ob_e h
          refine kv_eVi (ws2 := (wRe qr qd ql qw cI cJ cC v_wrongAt v_length v_at a_chars v_mover v_rights v_passed v_halves v_number v_balance a_men a_kinds a_sides a_rays a_knights a_kings a_pawns a_table)) C hJ [] 0 (c_X5_nextDigit l D qr qd ql qw cI cJ cC tq v_wrongAt v_length v_at a_chars v_mover v_rights v_passed v_halves v_number v_balance a_men a_kinds a_sides a_rays a_knights a_kings a_pawns a_table  r_3 hm_4) (cv_X5_nextDigit C.ts lm_RX5_123 ⟨Nat.le_of_ble_eq_true rfl, Nat.le_of_ble_eq_true rfl⟩) rfl rfl [0, 1, 2, 3, 4, 5, 6, 7, 8, 9, 10, 11, 12] [] [0, 1, 2] [0, 1, 2, 3, 4, 5, 6, 7, 8, 9, 10, 11, 12] rfl rfl rfl rfl rfl (by decide) rfl rfl rfl (Nat.le_of_ble_eq_true rfl) dX5_readUpwards_38 ⟨Nat.zero_le _, Nat.zero_le _⟩ rfl rfl rfl ?_
          refine kv_iconst C (-1) dX5_readUpwards_41 (by decide) ?_
          refine kv_icmp_eq C 77 dX5_readUpwards_42 (by decide) (fun c_5 => ?_) (fun c_5 => ?_)
          · have h := oi_t h c_5
            exact kv_lv [1] (lv2 := [(2, .int x2)]) rfl (j77 v_at x2 h)
          · have h := oi_f h c_5
            refine kv_bipush C 10 dX5_readUpwards_45 (by decide) ?_
            refine kv_iload_n C 1 dX5_readUpwards_47 rfl rfl ?_
            refine kv_imul C dX5_readUpwards_48 ?_
            refine kv_aload_n C 0 dX5_readUpwards_49 rfl rfl ?_
            obtain ⟨r_6, hm_7, h⟩ := ob_e h
            refine kv_eVi (ws2 := (wRe qr qd ql qw cI cJ cC v_wrongAt v_length v_at a_chars v_mover v_rights v_passed v_halves v_number v_balance a_men a_kinds a_sides a_rays a_knights a_kings a_pawns a_table)) C hJ [] 0 (c_X5_nextDigit l D qr qd ql qw cI cJ cC tq v_wrongAt v_length v_at a_chars v_mover v_rights v_passed v_halves v_number v_balance a_men a_kinds a_sides a_rays a_knights a_kings a_pawns a_table  r_6 hm_7) (cv_X5_nextDigit C.ts lm_RX5_123 ⟨Nat.le_of_ble_eq_true rfl, Nat.le_of_ble_eq_true rfl⟩) rfl rfl [0, 1, 2, 3, 4, 5, 6, 7, 8, 9, 10, 11, 12] [] [0, 1, 2] [0, 1, 2, 3, 4, 5, 6, 7, 8, 9, 10, 11, 12] rfl rfl rfl rfl rfl (by decide) rfl rfl rfl (Nat.le_of_ble_eq_true rfl) dX5_readUpwards_50 ⟨Nat.zero_le _, Nat.zero_le _⟩ rfl rfl rfl ?_
            refine kv_iadd C dX5_readUpwards_53 ?_
            obtain ⟨x2_8, ex2_8, h⟩ := ol_e h
            refine kv_top ex2_8 ?_
            refine kv_istore_n C (lv2 := [(0, .ref (qr 0)), (2, .int x2_8)]) [1, 0] dX5_readUpwards_54 rfl (by decide) rfl rfl ?_
            refine kv_iload_n C 1 dX5_readUpwards_55 rfl rfl ?_
            refine kv_sipush C 9999 dX5_readUpwards_56 (by decide) ?_
            refine kv_icmp_le C 64 dX5_readUpwards_59 (by decide) (fun c_9 => ?_) (fun c_9 => ?_)
            · have h := oi_t h c_9
              refine kv_aload_n C 0 dX5_readUpwards_64 rfl rfl ?_
              refine kv_dup C dX5_readUpwards_65 rfl ?_
              refine kv_get C (Cn := RX5) (T := TX5) (N := 5) 0 4 hin5 rfl rfl (by decide) (C.ts _ (List.mem_cons_of_mem _ lf_RX5_37)) rfl rfl dX5_readUpwards_66 ?_
              refine kv_iconst C 1 dX5_readUpwards_69 (by decide) ?_
              refine kv_iadd C dX5_readUpwards_70 ?_
              obtain ⟨y_10, ey_10, h⟩ := ol_e h
              refine kv_top ey_10 ?_
              refine kv_put C (Cn := RX5) (T := TX5) (N := 5) (ty := .int) (ws1 := (wRe qr qd ql qw cI cJ cC v_wrongAt v_length y_10 a_chars v_mover v_rights v_passed v_halves v_number v_balance a_men a_kinds a_sides a_rays a_knights a_kings a_pawns a_table)) 0 4 hin5 tyX5 tyX5_ok nmX5 rfl rfl (by decide) (C.ts _ (List.mem_cons_of_mem _ lf_RX5_37)) rfl rfl (by decide +kernel) rfl rfl (Nat.le_of_ble_eq_true rfl) rfl dX5_readUpwards_71 ?_
              refine kv_goto C 22 dX5_readUpwards_74 (by decide) ?_
              exact kv_lv [0, 1] (lv2 := [(0, .ref (qr 0)), (2, .int x2_8)]) rfl (ih22 y_10 x2_8 h)
            · have h := oi_f h c_9
              refine kv_iconst C (-1) dX5_readUpwards_62 (by decide) ?_
              cases h
              exact hret _ _ dX5_readUpwards_63 (fun q => by cases q)
  unfold m_X5_readUpwards at hm
  have h := hm
  refine kv_lv [0, 1] (lv2 := [(0, .ref (qr 0)), (1, .int p0)]) rfl ?_
  refine kv_aload_n C 0 dX5_readUpwards_0 rfl rfl ?_
  obtain ⟨r_11, hm_12, h⟩ := ob_e h
  refine kv_eVi (ws2 := (wRe qr qd ql qw cI cJ cC v_wrongAt v_length v_at a_chars v_mover v_rights v_passed v_halves v_number v_balance a_men a_kinds a_sides a_rays a_knights a_kings a_pawns a_table)) C hJ [] 0 (c_X5_nextDigit l D qr qd ql qw cI cJ cC tq v_wrongAt v_length v_at a_chars v_mover v_rights v_passed v_halves v_number v_balance a_men a_kinds a_sides a_rays a_knights a_kings a_pawns a_table  r_11 hm_12) (cv_X5_nextDigit C.ts lm_RX5_123 ⟨Nat.le_of_ble_eq_true rfl, Nat.le_of_ble_eq_true rfl⟩) rfl rfl [0, 1, 2, 3, 4, 5, 6, 7, 8, 9, 10, 11, 12] [] [0, 1, 2] [0, 1, 2, 3, 4, 5, 6, 7, 8, 9, 10, 11, 12] rfl rfl rfl rfl rfl (by decide) rfl rfl rfl (Nat.le_of_ble_eq_true rfl) dX5_readUpwards_1 ⟨Nat.zero_le _, Nat.zero_le _⟩ rfl rfl rfl ?_
  refine kv_istore_n C (lv2 := [(0, .ref (qr 0)), (1, .int p0), (2, .int r_11)]) [1, 2, 0] dX5_readUpwards_4 rfl (by decide) rfl rfl ?_
  refine kv_iload_n C 2 dX5_readUpwards_5 rfl rfl ?_
  refine kv_iload_n C 1 dX5_readUpwards_6 rfl rfl ?_
  refine kv_icmp_ge C 12 dX5_readUpwards_7 (by decide) (fun c_13 => ?_) (fun c_13 => ?_)
  · have h := oi_t h c_13
    refine kv_aload_n C 0 dX5_readUpwards_12 rfl rfl ?_
    refine kv_dup C dX5_readUpwards_13 rfl ?_
    refine kv_get C (Cn := RX5) (T := TX5) (N := 5) 0 4 hin5 rfl rfl (by decide) (C.ts _ (List.mem_cons_of_mem _ lf_RX5_37)) rfl rfl dX5_readUpwards_14 ?_
    refine kv_iconst C 1 dX5_readUpwards_17 (by decide) ?_
    refine kv_iadd C dX5_readUpwards_18 ?_
    obtain ⟨y_14, ey_14, h⟩ := ol_e h
    refine kv_top ey_14 ?_
    refine kv_put C (Cn := RX5) (T := TX5) (N := 5) (ty := .int) (ws1 := (wRe qr qd ql qw cI cJ cC v_wrongAt v_length y_14 a_chars v_mover v_rights v_passed v_halves v_number v_balance a_men a_kinds a_sides a_rays a_knights a_kings a_pawns a_table)) 0 4 hin5 tyX5 tyX5_ok nmX5 rfl rfl (by decide) (C.ts _ (List.mem_cons_of_mem _ lf_RX5_37)) rfl rfl (by decide +kernel) rfl rfl (Nat.le_of_ble_eq_true rfl) rfl dX5_readUpwards_19 ?_
    exact kv_lv [0, 2] (lv2 := [(0, .ref (qr 0)), (2, .int r_11)]) rfl (l22 kF y_14 r_11 h)
  · have h := oi_f h c_13
    refine kv_iconst C (-1) dX5_readUpwards_10 (by decide) ?_
    cases h
    exact hret _ _ dX5_readUpwards_11 (fun q => by cases q)
def m_X5_readHalves_b28 (v_length : Int32) (v_at : Int32) (a_chars : Nat → Int32) (v_halves : Int32) (t0 : Int32) : Option (Int32 × Int32 × Int32) := obl (t0) (some (t0, v_at, v_halves))
def m_X5_readHalves (v_length : Int32) (v_at : Int32) (a_chars : Nat → Int32) (v_halves : Int32) : Option (Int32 × Int32 × Int32) := ob (m_X5_readUpwards v_length v_at a_chars 0) fun (r_2, v_at_3) => if r_2 = (-1) then m_X5_readHalves_b28 v_length v_at_3 a_chars r_2 0 else m_X5_readHalves_b28 v_length v_at_3 a_chars r_2 1
abbrev rm_X5_readHalves : Room := { frames := 3, cells := 0, slots := 0, locals := 63 }
abbrev wy_X5_readHalves : List Cond := .code yX5_readHalves cX5_readHalves 1 (some .boolean) :: gT
theorem cv_X5_readHalves {R : Room} {s : State} {args : Array Value} {own : String} {index : Nat} {w0 : Cond} (hts : ∀ w ∈ w0 :: gT, w.before args s = true) (hl : Cond.methodLink own index yX5_readHalves ∈ gT) (hR : 3 + 1 ≤ R.frames ∧ 8 + (1 + 11) + 63 ≤ R.locals) : CallW R s args own RX5 index yX5_readHalves cX5_readHalves 1 (some .boolean) wy_X5_readHalves rm_X5_readHalves 0 0 0 :=
  cwV 0 hts (gT_call w0 (pre := [.methodLink own index yX5_readHalves, .instanceMethod yX5_readHalves, .selects RX5 yX5_readHalves yX5_readHalves, .initialized RX5]) (gT_lc hl (gT_lc ly_yX5_readHalves (gT_lc lx_yX5_readHalves (gT_l1 li_RX5)))) lc_yX5_readHalves) rfl rfl rfl (by decide +kernel) hR
set_option maxRecDepth 100000 in
set_option maxHeartbeats 4000000 in
theorem c_X5_readHalves (l : Launch) (D : va_G) (qr : Nat → Nat) (qd : Nat → Nat) (ql : Nat → Nat) (qw : Nat → Nat) (cI : ClassId) (cJ : ClassId) (cC : ClassId) (tq : Nat → Nat) (v_wrongAt : Int32) (v_length : Int32) (v_at : Int32) (a_chars : Nat → Int32) (v_mover : Int32) (v_rights : Int32) (v_passed : Int32) (v_halves : Int32) (v_number : Int32) (v_balance : Int32) (a_men : Nat → Int32) (a_kinds : Nat → Int64) (a_sides : Nat → Int64) (a_rays : Nat → Int64) (a_knights : Nat → Int64) (a_kings : Nat → Int64) (a_pawns : Nat → Int64) (a_table : Nat → Int32) (rv : Int32) (v_at' : Int32) (v_halves' : Int32) (hm : m_X5_readHalves v_length v_at a_chars v_halves = some (rv, v_at', v_halves')) : kEi l yX5_readHalves wy_X5_readHalves rm_X5_readHalves D [(cI, .int), (cJ, .long), (cC, .char)] tq rv (wRe qr qd ql qw cI cJ cC v_wrongAt v_length v_at a_chars v_mover v_rights v_passed v_halves v_number v_balance a_men a_kinds a_sides a_rays a_knights a_kings a_pawns a_table) (wRe qr qd ql qw cI cJ cC v_wrongAt v_length v_at' a_chars v_mover v_rights v_passed v_halves' v_number v_balance a_men a_kinds a_sides a_rays a_knights a_kings a_pawns a_table) [.ref (qr 0)] := by
  refine kEi.of cX5_readHalves 1 (some .boolean) (by decide) rfl (Or.inr rfl) (Nat.le_of_ble_eq_true rfl) ?_
  intro p e s m below meth c A Q C hJ hret
  have hin0 : ∀ w ∈ wsX00, w ∈ wy_X5_readHalves := fun w h => List.mem_cons_of_mem _ (inG0 w h)
  have hin3 : ∀ w ∈ wsX30, w ∈ wy_X5_readHalves := fun w h => List.mem_cons_of_mem _ (inG3 w h)
  have hin5 : ∀ w ∈ wsX50, w ∈ wy_X5_readHalves := fun w h => List.mem_cons_of_mem _ (inG5 w h)
  have hin7 : ∀ w ∈ wsX70, w ∈ wy_X5_readHalves := fun w h => List.mem_cons_of_mem _ (inG7 w h)
  have j28 : ∀ (v_at : Int32) (v_halves : Int32) (t0 : Int32), m_X5_readHalves_b28  v_length v_at a_chars v_halves t0 = some (rv, v_at', v_halves') → kv p l e rm_X5_readHalves s m ([.ref (qr 0)] : List Value).toArray below meth c D A 1 0 0 Q (wRe qr qd ql qw cI cJ cC v_wrongAt v_length v_at a_chars v_mover v_rights v_passed v_halves v_number v_balance a_men a_kinds a_sides a_rays a_knights a_kings a_pawns a_table) [] 28 [.int t0] := by
    intro v_at v_halves t0 h
    unfold m_X5_readHalves_b28 at h
    obtain ⟨g_1, h⟩ := obl_e h
    cases h
    exact hret _ _ dX5_readHalves_28 (fun _ => g_1)
  unfold m_X5_readHalves at hm
  have h := hm
  refine kv_lv [0] (lv2 := [(0, .ref (qr 0))]) rfl ?_
  refine kv_aload_n C 0 dX5_readHalves_0 rfl rfl ?_
  refine kv_get C (Cn := RX5) (T := TX5) (N := 5) 0 0 hin5 rfl rfl (by decide) (C.ts _ (List.mem_cons_of_mem _ lf_RX5_9)) rfl rfl dX5_readHalves_1 ?_
  refine kv_aload_n C 0 dX5_readHalves_4 rfl rfl ?_
  refine kv_iconst C 0 dX5_readHalves_5 (by decide) ?_
  obtain ⟨⟨r_2, v_at_3⟩, hm_4, h⟩ := ob_e h
  replace h : _ = _ := h
  refine kv_eVi (ws2 := (wRe qr qd ql qw cI cJ cC v_wrongAt v_length v_at_3 a_chars v_mover v_rights v_passed v_halves v_number v_balance a_men a_kinds a_sides a_rays a_knights a_kings a_pawns a_table)) C hJ [.int 0] 0 (c_X5_readUpwards l D qr qd ql qw cI cJ cC tq v_wrongAt v_length v_at a_chars v_mover v_rights v_passed v_halves v_number v_balance a_men a_kinds a_sides a_rays a_knights a_kings a_pawns a_table 0 r_2 v_at_3 hm_4) (cv_X5_readUpwards C.ts lm_RX5_114 ⟨Nat.le_of_ble_eq_true rfl, Nat.le_of_ble_eq_true rfl⟩) rfl rfl [0, 1, 2, 3, 4, 5, 6, 7, 8, 9, 10, 11, 12] [] [0, 1, 2] [0, 1, 2, 3, 4, 5, 6, 7, 8, 9, 10, 11, 12] rfl rfl rfl rfl rfl (by decide) rfl rfl rfl (Nat.le_of_ble_eq_true rfl) dX5_readHalves_6 ⟨Nat.zero_le _, Nat.zero_le _⟩ rfl rfl rfl ?_
  refine kv_put C (Cn := RX0) (T := TX0) (N := 11) (ty := .int) (ws1 := (wRe qr qd ql qw cI cJ cC v_wrongAt v_length v_at_3 a_chars v_mover v_rights v_passed r_2 v_number v_balance a_men a_kinds a_sides a_rays a_knights a_kings a_pawns a_table)) 2 8 hin0 tyX0 tyX0_ok nmX0 rfl rfl (by decide) (C.ts _ (List.mem_cons_of_mem _ lf_RX5_117)) rfl rfl (by decide +kernel) rfl rfl (Nat.le_of_ble_eq_true rfl) rfl dX5_readHalves_9 ?_
  refine kv_aload_n C 0 dX5_readHalves_12 rfl rfl ?_
  refine kv_get C (Cn := RX5) (T := TX5) (N := 5) 0 0 hin5 rfl rfl (by decide) (C.ts _ (List.mem_cons_of_mem _ lf_RX5_9)) rfl rfl dX5_readHalves_13 ?_
  refine kv_get C (Cn := RX0) (T := TX0) (N := 11) 2 8 hin0 rfl rfl (by decide) (C.ts _ (List.mem_cons_of_mem _ lf_RX5_117)) rfl rfl dX5_readHalves_16 ?_
  refine kv_iconst C (-1) dX5_readHalves_19 (by decide) ?_
  refine kv_icmp_eq C 27 dX5_readHalves_20 (by decide) (fun c_5 => ?_) (fun c_5 => ?_)
  · have h := oi_t h c_5
    refine kv_iconst C 0 dX5_readHalves_27 (by decide) ?_
    exact kv_lv [] (lv2 := []) rfl (j28 v_at_3 r_2 0 h)
  · have h := oi_f h c_5
    refine kv_iconst C 1 dX5_readHalves_23 (by decide) ?_
    refine kv_goto C 28 dX5_readHalves_24 (by decide) ?_
    exact kv_lv [] (lv2 := []) rfl (j28 v_at_3 r_2 1 h)
def m_X5_readNumber_b28 (v_length : Int32) (v_at : Int32) (a_chars : Nat → Int32) (v_number : Int32) (t0 : Int32) : Option (Int32 × Int32 × Int32) := obl (t0) (some (t0, v_at, v_number))
def m_X5_readNumber (v_length : Int32) (v_at : Int32) (a_chars : Nat → Int32) (v_number : Int32) : Option (Int32 × Int32 × Int32) := ob (m_X5_readUpwards v_length v_at a_chars 1) fun (r_2, v_at_3) => if r_2 = (-1) then m_X5_readNumber_b28 v_length v_at_3 a_chars r_2 0 else m_X5_readNumber_b28 v_length v_at_3 a_chars r_2 1
abbrev rm_X5_readNumber : Room := { frames := 3, cells := 0, slots := 0, locals := 63 }
abbrev wy_X5_readNumber : List Cond := .code yX5_readNumber cX5_readNumber 1 (some .boolean) :: gT
theorem cv_X5_readNumber {R : Room} {s : State} {args : Array Value} {own : String} {index : Nat} {w0 : Cond} (hts : ∀ w ∈ w0 :: gT, w.before args s = true) (hl : Cond.methodLink own index yX5_readNumber ∈ gT) (hR : 3 + 1 ≤ R.frames ∧ 8 + (1 + 11) + 63 ≤ R.locals) : CallW R s args own RX5 index yX5_readNumber cX5_readNumber 1 (some .boolean) wy_X5_readNumber rm_X5_readNumber 0 0 0 :=
  cwV 0 hts (gT_call w0 (pre := [.methodLink own index yX5_readNumber, .instanceMethod yX5_readNumber, .selects RX5 yX5_readNumber yX5_readNumber, .initialized RX5]) (gT_lc hl (gT_lc ly_yX5_readNumber (gT_lc lx_yX5_readNumber (gT_l1 li_RX5)))) lc_yX5_readNumber) rfl rfl rfl (by decide +kernel) hR
set_option maxRecDepth 100000 in
set_option maxHeartbeats 4000000 in
theorem c_X5_readNumber (l : Launch) (D : va_G) (qr : Nat → Nat) (qd : Nat → Nat) (ql : Nat → Nat) (qw : Nat → Nat) (cI : ClassId) (cJ : ClassId) (cC : ClassId) (tq : Nat → Nat) (v_wrongAt : Int32) (v_length : Int32) (v_at : Int32) (a_chars : Nat → Int32) (v_mover : Int32) (v_rights : Int32) (v_passed : Int32) (v_halves : Int32) (v_number : Int32) (v_balance : Int32) (a_men : Nat → Int32) (a_kinds : Nat → Int64) (a_sides : Nat → Int64) (a_rays : Nat → Int64) (a_knights : Nat → Int64) (a_kings : Nat → Int64) (a_pawns : Nat → Int64) (a_table : Nat → Int32) (rv : Int32) (v_at' : Int32) (v_number' : Int32) (hm : m_X5_readNumber v_length v_at a_chars v_number = some (rv, v_at', v_number')) : kEi l yX5_readNumber wy_X5_readNumber rm_X5_readNumber D [(cI, .int), (cJ, .long), (cC, .char)] tq rv (wRe qr qd ql qw cI cJ cC v_wrongAt v_length v_at a_chars v_mover v_rights v_passed v_halves v_number v_balance a_men a_kinds a_sides a_rays a_knights a_kings a_pawns a_table) (wRe qr qd ql qw cI cJ cC v_wrongAt v_length v_at' a_chars v_mover v_rights v_passed v_halves v_number' v_balance a_men a_kinds a_sides a_rays a_knights a_kings a_pawns a_table) [.ref (qr 0)] := by
  refine kEi.of cX5_readNumber 1 (some .boolean) (by decide) rfl (Or.inr rfl) (Nat.le_of_ble_eq_true rfl) ?_
  intro p e s m below meth c A Q C hJ hret
  have hin0 : ∀ w ∈ wsX00, w ∈ wy_X5_readNumber := fun w h => List.mem_cons_of_mem _ (inG0 w h)
  have hin3 : ∀ w ∈ wsX30, w ∈ wy_X5_readNumber := fun w h => List.mem_cons_of_mem _ (inG3 w h)
  have hin5 : ∀ w ∈ wsX50, w ∈ wy_X5_readNumber := fun w h => List.mem_cons_of_mem _ (inG5 w h)
  have hin7 : ∀ w ∈ wsX70, w ∈ wy_X5_readNumber := fun w h => List.mem_cons_of_mem _ (inG7 w h)
  have j28 : ∀ (v_at : Int32) (v_number : Int32) (t0 : Int32), m_X5_readNumber_b28  v_length v_at a_chars v_number t0 = some (rv, v_at', v_number') → kv p l e rm_X5_readNumber s m ([.ref (qr 0)] : List Value).toArray below meth c D A 1 0 0 Q (wRe qr qd ql qw cI cJ cC v_wrongAt v_length v_at a_chars v_mover v_rights v_passed v_halves v_number v_balance a_men a_kinds a_sides a_rays a_knights a_kings a_pawns a_table) [] 28 [.int t0] := by
    intro v_at v_number t0 h
    unfold m_X5_readNumber_b28 at h
    obtain ⟨g_1, h⟩ := obl_e h
    cases h
    exact hret _ _ dX5_readNumber_28 (fun _ => g_1)
  unfold m_X5_readNumber at hm
  have h := hm
  refine kv_lv [0] (lv2 := [(0, .ref (qr 0))]) rfl ?_
  refine kv_aload_n C 0 dX5_readNumber_0 rfl rfl ?_
  refine kv_get C (Cn := RX5) (T := TX5) (N := 5) 0 0 hin5 rfl rfl (by decide) (C.ts _ (List.mem_cons_of_mem _ lf_RX5_9)) rfl rfl dX5_readNumber_1 ?_
  refine kv_aload_n C 0 dX5_readNumber_4 rfl rfl ?_
  refine kv_iconst C 1 dX5_readNumber_5 (by decide) ?_
  obtain ⟨⟨r_2, v_at_3⟩, hm_4, h⟩ := ob_e h
  replace h : _ = _ := h
  refine kv_eVi (ws2 := (wRe qr qd ql qw cI cJ cC v_wrongAt v_length v_at_3 a_chars v_mover v_rights v_passed v_halves v_number v_balance a_men a_kinds a_sides a_rays a_knights a_kings a_pawns a_table)) C hJ [.int 1] 0 (c_X5_readUpwards l D qr qd ql qw cI cJ cC tq v_wrongAt v_length v_at a_chars v_mover v_rights v_passed v_halves v_number v_balance a_men a_kinds a_sides a_rays a_knights a_kings a_pawns a_table 1 r_2 v_at_3 hm_4) (cv_X5_readUpwards C.ts lm_RX5_114 ⟨Nat.le_of_ble_eq_true rfl, Nat.le_of_ble_eq_true rfl⟩) rfl rfl [0, 1, 2, 3, 4, 5, 6, 7, 8, 9, 10, 11, 12] [] [0, 1, 2] [0, 1, 2, 3, 4, 5, 6, 7, 8, 9, 10, 11, 12] rfl rfl rfl rfl rfl (by decide) rfl rfl rfl (Nat.le_of_ble_eq_true rfl) dX5_readNumber_6 ⟨Nat.zero_le _, Nat.zero_le _⟩ rfl rfl rfl ?_
  refine kv_put C (Cn := RX0) (T := TX0) (N := 11) (ty := .int) (ws1 := (wRe qr qd ql qw cI cJ cC v_wrongAt v_length v_at_3 a_chars v_mover v_rights v_passed v_halves r_2 v_balance a_men a_kinds a_sides a_rays a_knights a_kings a_pawns a_table)) 2 9 hin0 tyX0 tyX0_ok nmX0 rfl rfl (by decide) (C.ts _ (List.mem_cons_of_mem _ lf_RX5_120)) rfl rfl (by decide +kernel) rfl rfl (Nat.le_of_ble_eq_true rfl) rfl dX5_readNumber_9 ?_
  refine kv_aload_n C 0 dX5_readNumber_12 rfl rfl ?_
  refine kv_get C (Cn := RX5) (T := TX5) (N := 5) 0 0 hin5 rfl rfl (by decide) (C.ts _ (List.mem_cons_of_mem _ lf_RX5_9)) rfl rfl dX5_readNumber_13 ?_
  refine kv_get C (Cn := RX0) (T := TX0) (N := 11) 2 9 hin0 rfl rfl (by decide) (C.ts _ (List.mem_cons_of_mem _ lf_RX5_120)) rfl rfl dX5_readNumber_16 ?_
  refine kv_iconst C (-1) dX5_readNumber_19 (by decide) ?_
  refine kv_icmp_eq C 27 dX5_readNumber_20 (by decide) (fun c_5 => ?_) (fun c_5 => ?_)
  · have h := oi_t h c_5
    refine kv_iconst C 0 dX5_readNumber_27 (by decide) ?_
    exact kv_lv [] (lv2 := []) rfl (j28 v_at_3 r_2 0 h)
  · have h := oi_f h c_5
    refine kv_iconst C 1 dX5_readNumber_23 (by decide) ?_
    refine kv_goto C 28 dX5_readNumber_24 (by decide) ?_
    exact kv_lv [] (lv2 := []) rfl (j28 v_at_3 r_2 1 h)
def m_X5_readAll_b100 (v_length : Int32) (v_at : Int32) (a_chars : Nat → Int32) (v_mover : Int32) (v_rights : Int32) (v_passed : Int32) (v_halves : Int32) (v_number : Int32) (v_balance : Int32) (a_men : Nat → Int32) (a_kinds : Nat → Int64) (a_sides : Nat → Int64) (a_table : Nat → Int32) (t0 : Int32) : Option (Int32 × Int32 × Int32 × Int32 × Int32 × Int32 × Int32 × Int32 × (Nat → Int32) × (Nat → Int64) × (Nat → Int64)) := obl (t0) (some (t0, v_at, v_mover, v_rights, v_passed, v_halves, v_number, v_balance, a_men, a_kinds, a_sides))
def m_X5_readAll_b99 (v_length : Int32) (v_at : Int32) (a_chars : Nat → Int32) (v_mover : Int32) (v_rights : Int32) (v_passed : Int32) (v_halves : Int32) (v_number : Int32) (v_balance : Int32) (a_men : Nat → Int32) (a_kinds : Nat → Int64) (a_sides : Nat → Int64) (a_table : Nat → Int32) : Option (Int32 × Int32 × Int32 × Int32 × Int32 × Int32 × Int32 × Int32 × (Nat → Int32) × (Nat → Int64) × (Nat → Int64)) := m_X5_readAll_b100 v_length v_at a_chars v_mover v_rights v_passed v_halves v_number v_balance a_men a_kinds a_sides a_table 0
def m_X5_readAll (v_length : Int32) (v_at : Int32) (a_chars : Nat → Int32) (v_mover : Int32) (v_rights : Int32) (v_passed : Int32) (v_halves : Int32) (v_number : Int32) (v_balance : Int32) (a_men : Nat → Int32) (a_kinds : Nat → Int64) (a_sides : Nat → Int64) (a_table : Nat → Int32) : Option (Int32 × Int32 × Int32 × Int32 × Int32 × Int32 × Int32 × Int32 × (Nat → Int32) × (Nat → Int64) × (Nat → Int64)) := ob (m_X5_readMen v_length v_at a_chars v_balance a_men a_kinds a_sides a_table ) fun (r_2, v_at_3, v_balance_4, a_men_5, a_kinds_6, a_sides_7) => if r_2 = 0 then m_X5_readAll_b99 v_length v_at_3 a_chars v_mover v_rights v_passed v_halves v_number v_balance_4 a_men_5 a_kinds_6 a_sides_7 a_table else ob (m_X5_skip v_length v_at_3 a_chars 32) fun (r_10, v_at_11) => if r_10 = 0 then m_X5_readAll_b99 v_length v_at_11 a_chars v_mover v_rights v_passed v_halves v_number v_balance_4 a_men_5 a_kinds_6 a_sides_7 a_table else ob (m_X5_readMover v_length v_at_11 a_chars v_mover ) fun (r_14, v_at_15, v_mover_16) => if r_14 = 0 then m_X5_readAll_b99 v_length v_at_15 a_chars v_mover_16 v_rights v_passed v_halves v_number v_balance_4 a_men_5 a_kinds_6 a_sides_7 a_table else ob (m_X5_skip v_length v_at_15 a_chars 32) fun (r_19, v_at_20) => if r_19 = 0 then m_X5_readAll_b99 v_length v_at_20 a_chars v_mover_16 v_rights v_passed v_halves v_number v_balance_4 a_men_5 a_kinds_6 a_sides_7 a_table else ob (m_X5_readRights v_length v_at_20 a_chars v_rights ) fun (r_23, v_at_24, v_rights_25) => if r_23 = 0 then m_X5_readAll_b99 v_length v_at_24 a_chars v_mover_16 v_rights_25 v_passed v_halves v_number v_balance_4 a_men_5 a_kinds_6 a_sides_7 a_table else ob (m_X5_skip v_length v_at_24 a_chars 32) fun (r_28, v_at_29) => if r_28 = 0 then m_X5_readAll_b99 v_length v_at_29 a_chars v_mover_16 v_rights_25 v_passed v_halves v_number v_balance_4 a_men_5 a_kinds_6 a_sides_7 a_table else ob (m_X5_readPassed v_length v_at_29 a_chars v_passed ) fun (r_32, v_at_33, v_passed_34) => if r_32 = 0 then m_X5_readAll_b99 v_length v_at_33 a_chars v_mover_16 v_rights_25 v_passed_34 v_halves v_number v_balance_4 a_men_5 a_kinds_6 a_sides_7 a_table else ob (m_X5_skip v_length v_at_33 a_chars 32) fun (r_37, v_at_38) => if r_37 = 0 then m_X5_readAll_b99 v_length v_at_38 a_chars v_mover_16 v_rights_25 v_passed_34 v_halves v_number v_balance_4 a_men_5 a_kinds_6 a_sides_7 a_table else ob (m_X5_readHalves v_length v_at_38 a_chars v_halves ) fun (r_41, v_at_42, v_halves_43) => if r_41 = 0 then m_X5_readAll_b99 v_length v_at_42 a_chars v_mover_16 v_rights_25 v_passed_34 v_halves_43 v_number v_balance_4 a_men_5 a_kinds_6 a_sides_7 a_table else ob (m_X5_skip v_length v_at_42 a_chars 32) fun (r_46, v_at_47) => if r_46 = 0 then m_X5_readAll_b99 v_length v_at_47 a_chars v_mover_16 v_rights_25 v_passed_34 v_halves_43 v_number v_balance_4 a_men_5 a_kinds_6 a_sides_7 a_table else ob (m_X5_readNumber v_length v_at_47 a_chars v_number ) fun (r_50, v_at_51, v_number_52) => if r_50 = 0 then m_X5_readAll_b99 v_length v_at_51 a_chars v_mover_16 v_rights_25 v_passed_34 v_halves_43 v_number_52 v_balance_4 a_men_5 a_kinds_6 a_sides_7 a_table else ob (m_X5_next v_length v_at_51 a_chars ) fun r_55 => if r_55 = (-1) then m_X5_readAll_b100 v_length v_at_51 a_chars v_mover_16 v_rights_25 v_passed_34 v_halves_43 v_number_52 v_balance_4 a_men_5 a_kinds_6 a_sides_7 a_table 1 else m_X5_readAll_b99 v_length v_at_51 a_chars v_mover_16 v_rights_25 v_passed_34 v_halves_43 v_number_52 v_balance_4 a_men_5 a_kinds_6 a_sides_7 a_table
abbrev rm_X5_readAll : Room := { frames := 7, cells := 0, slots := 0, locals := 158 }
abbrev wy_X5_readAll : List Cond := .code yX5_readAll cX5_readAll 1 (some .boolean) :: gT
theorem cv_X5_readAll {R : Room} {s : State} {args : Array Value} {own : String} {index : Nat} {w0 : Cond} (hts : ∀ w ∈ w0 :: gT, w.before args s = true) (hl : Cond.methodLink own index yX5_readAll ∈ gT) (hR : 7 + 1 ≤ R.frames ∧ 8 + (1 + 11) + 158 ≤ R.locals) : CallW R s args own RX5 index yX5_readAll cX5_readAll 1 (some .boolean) wy_X5_readAll rm_X5_readAll 0 0 0 :=
  cwV 0 hts (gT_call w0 (pre := [.methodLink own index yX5_readAll, .instanceMethod yX5_readAll, .selects RX5 yX5_readAll yX5_readAll, .initialized RX5]) (gT_lc hl (gT_lc ly_yX5_readAll (gT_lc lx_yX5_readAll (gT_l1 li_RX5)))) lc_yX5_readAll) rfl rfl rfl (by decide +kernel) hR
set_option maxRecDepth 100000 in
set_option maxHeartbeats 4000000 in
theorem c_X5_readAll (l : Launch) (D : va_G) (qr : Nat → Nat) (qd : Nat → Nat) (ql : Nat → Nat) (qw : Nat → Nat) (cI : ClassId) (cJ : ClassId) (cC : ClassId) (tq : Nat → Nat) (v_wrongAt : Int32) (v_length : Int32) (v_at : Int32) (a_chars : Nat → Int32) (v_mover : Int32) (v_rights : Int32) (v_passed : Int32) (v_halves : Int32) (v_number : Int32) (v_balance : Int32) (a_men : Nat → Int32) (a_kinds : Nat → Int64) (a_sides : Nat → Int64) (a_rays : Nat → Int64) (a_knights : Nat → Int64) (a_kings : Nat → Int64) (a_pawns : Nat → Int64) (a_table : Nat → Int32) (rv : Int32) (v_at' : Int32) (v_mover' : Int32) (v_rights' : Int32) (v_passed' : Int32) (v_halves' : Int32) (v_number' : Int32) (v_balance' : Int32) (a_men' : Nat → Int32) (a_kinds' : Nat → Int64) (a_sides' : Nat → Int64) (hm : m_X5_readAll v_length v_at a_chars v_mover v_rights v_passed v_halves v_number v_balance a_men a_kinds a_sides a_table = some (rv, v_at', v_mover', v_rights', v_passed', v_halves', v_number', v_balance', a_men', a_kinds', a_sides')) : kEi l yX5_readAll wy_X5_readAll rm_X5_readAll D [(cI, .int), (cJ, .long), (cC, .char)] tq rv (wRe qr qd ql qw cI cJ cC v_wrongAt v_length v_at a_chars v_mover v_rights v_passed v_halves v_number v_balance a_men a_kinds a_sides a_rays a_knights a_kings a_pawns a_table) (wRe qr qd ql qw cI cJ cC v_wrongAt v_length v_at' a_chars v_mover' v_rights' v_passed' v_halves' v_number' v_balance' a_men' a_kinds' a_sides' a_rays a_knights a_kings a_pawns a_table) [.ref (qr 0)] := by
  refine kEi.of cX5_readAll 1 (some .boolean) (by decide) rfl (Or.inr rfl) (Nat.le_of_ble_eq_true rfl) ?_
  intro p e s m below meth c A Q C hJ hret
  have hin0 : ∀ w ∈ wsX00, w ∈ wy_X5_readAll := fun w h => List.mem_cons_of_mem _ (inG0 w h)
  have hin3 : ∀ w ∈ wsX30, w ∈ wy_X5_readAll := fun w h => List.mem_cons_of_mem _ (inG3 w h)
  have hin5 : ∀ w ∈ wsX50, w ∈ wy_X5_readAll := fun w h => List.mem_cons_of_mem _ (inG5 w h)
  have hin7 : ∀ w ∈ wsX70, w ∈ wy_X5_readAll := fun w h => List.mem_cons_of_mem _ (inG7 w h)
  have j100 : ∀ (v_at : Int32) (v_mover : Int32) (v_rights : Int32) (v_passed : Int32) (v_halves : Int32) (v_number : Int32) (v_balance : Int32) (a_men : Nat → Int32) (a_kinds : Nat → Int64) (a_sides : Nat → Int64) (t0 : Int32), m_X5_readAll_b100  v_length v_at a_chars v_mover v_rights v_passed v_halves v_number v_balance a_men a_kinds a_sides a_table t0 = some (rv, v_at', v_mover', v_rights', v_passed', v_halves', v_number', v_balance', a_men', a_kinds', a_sides') → kv p l e rm_X5_readAll s m ([.ref (qr 0)] : List Value).toArray below meth c D A 1 0 0 Q (wRe qr qd ql qw cI cJ cC v_wrongAt v_length v_at a_chars v_mover v_rights v_passed v_halves v_number v_balance a_men a_kinds a_sides a_rays a_knights a_kings a_pawns a_table) [] 100 [.int t0] := by
    intro v_at v_mover v_rights v_passed v_halves v_number v_balance a_men a_kinds a_sides t0 h
    unfold m_X5_readAll_b100 at h
    obtain ⟨g_1, h⟩ := obl_e h
    cases h
    exact hret _ _ dX5_readAll_100 (fun _ => g_1)
  have j99 : ∀ (v_at : Int32) (v_mover : Int32) (v_rights : Int32) (v_passed : Int32) (v_halves : Int32) (v_number : Int32) (v_balance : Int32) (a_men : Nat → Int32) (a_kinds : Nat → Int64) (a_sides : Nat → Int64), m_X5_readAll_b99  v_length v_at a_chars v_mover v_rights v_passed v_halves v_number v_balance a_men a_kinds a_sides a_table  = some (rv, v_at', v_mover', v_rights', v_passed', v_halves', v_number', v_balance', a_men', a_kinds', a_sides') → kv p l e rm_X5_readAll s m ([.ref (qr 0)] : List Value).toArray below meth c D A 1 0 0 Q (wRe qr qd ql qw cI cJ cC v_wrongAt v_length v_at a_chars v_mover v_rights v_passed v_halves v_number v_balance a_men a_kinds a_sides a_rays a_knights a_kings a_pawns a_table) [] 99 [] := by
    intro v_at v_mover v_rights v_passed v_halves v_number v_balance a_men a_kinds a_sides h
    unfold m_X5_readAll_b99 at h
    refine kv_iconst C 0 dX5_readAll_99 (by decide) ?_
    exact kv_lv [] (lv2 := []) rfl (j100 v_at v_mover v_rights v_passed v_halves v_number v_balance a_men a_kinds a_sides 0 h)
  unfold m_X5_readAll at hm
  have h := hm
  refine kv_lv [0] (lv2 := [(0, .ref (qr 0))]) rfl ?_
  refine kv_aload_n C 0 dX5_readAll_0 rfl rfl ?_
  obtain ⟨⟨r_2, v_at_3, v_balance_4, a_men_5, a_kinds_6, a_sides_7⟩, hm_8, h⟩ := ob_e h
  replace h : _ = _ := h
  refine kv_eVi (ws2 := (wRe qr qd ql qw cI cJ cC v_wrongAt v_length v_at_3 a_chars v_mover v_rights v_passed v_halves v_number v_balance_4 a_men_5 a_kinds_6 a_sides_7 a_rays a_knights a_kings a_pawns a_table)) C hJ [] 0 (c_X5_readMen l D qr qd ql qw cI cJ cC tq v_wrongAt v_length v_at a_chars v_mover v_rights v_passed v_halves v_number v_balance a_men a_kinds a_sides a_rays a_knights a_kings a_pawns a_table  r_2 v_at_3 v_balance_4 a_men_5 a_kinds_6 a_sides_7 hm_8) (cv_X5_readMen C.ts lm_RX5_57 ⟨Nat.le_of_ble_eq_true rfl, Nat.le_of_ble_eq_true rfl⟩) rfl rfl [0, 1, 2, 3, 4, 5, 6, 7, 8, 9, 10, 11, 12] [] [0, 1, 2] [0, 1, 2, 3, 4, 5, 6, 7, 8, 9, 10, 11, 12] rfl rfl rfl rfl rfl (by decide) rfl rfl rfl (Nat.le_of_ble_eq_true rfl) dX5_readAll_1 ⟨Nat.zero_le _, Nat.zero_le _⟩ rfl rfl rfl ?_
  refine kv_if_eq C 99 dX5_readAll_4 (by decide) (fun c_9 => ?_) (fun c_9 => ?_)
  · have h := oi_t h c_9
    exact kv_lv [] (lv2 := []) rfl (j99 v_at_3 v_mover v_rights v_passed v_halves v_number v_balance_4 a_men_5 a_kinds_6 a_sides_7 h)
  · have h := oi_f h c_9
    refine kv_aload_n C 0 dX5_readAll_7 rfl rfl ?_
    refine kv_bipush C 32 dX5_readAll_8 (by decide) ?_
    obtain ⟨⟨r_10, v_at_11⟩, hm_12, h⟩ := ob_e h
    replace h : _ = _ := h
    refine kv_eVi (ws2 := (wRe qr qd ql qw cI cJ cC v_wrongAt v_length v_at_11 a_chars v_mover v_rights v_passed v_halves v_number v_balance_4 a_men_5 a_kinds_6 a_sides_7 a_rays a_knights a_kings a_pawns a_table)) C hJ [.int 32] 0 (c_X5_skip l D qr qd ql qw cI cJ cC tq v_wrongAt v_length v_at_3 a_chars v_mover v_rights v_passed v_halves v_number v_balance_4 a_men_5 a_kinds_6 a_sides_7 a_rays a_knights a_kings a_pawns a_table 32 r_10 v_at_11 hm_12) (cv_X5_skip C.ts lm_RX5_60 ⟨Nat.le_of_ble_eq_true rfl, Nat.le_of_ble_eq_true rfl⟩) rfl rfl [0, 1, 2, 3, 4, 5, 6, 7, 8, 9, 10, 11, 12] [] [0, 1, 2] [0, 1, 2, 3, 4, 5, 6, 7, 8, 9, 10, 11, 12] rfl rfl rfl rfl rfl (by decide) rfl rfl rfl (Nat.le_of_ble_eq_true rfl) dX5_readAll_10 ⟨Nat.zero_le _, Nat.zero_le _⟩ rfl rfl rfl ?_
    refine kv_if_eq C 99 dX5_readAll_13 (by decide) (fun c_13 => ?_) (fun c_13 => ?_)
    · have h := oi_t h c_13
      exact kv_lv [] (lv2 := []) rfl (j99 v_at_11 v_mover v_rights v_passed v_halves v_number v_balance_4 a_men_5 a_kinds_6 a_sides_7 h)
    · have h := oi_f h c_13
      refine kv_aload_n C 0 dX5_readAll_16 rfl rfl ?_
      obtain ⟨⟨r_14, v_at_15, v_mover_16⟩, hm_17, h⟩ := ob_e h
      replace h : _ = _ := h
      refine kv_eVi (ws2 := (wRe qr qd ql qw cI cJ cC v_wrongAt v_length v_at_15 a_chars v_mover_16 v_rights v_passed v_halves v_number v_balance_4 a_men_5 a_kinds_6 a_sides_7 a_rays a_knights a_kings a_pawns a_table)) C hJ [] 0 (c_X5_readMover l D qr qd ql qw cI cJ cC tq v_wrongAt v_length v_at_11 a_chars v_mover v_rights v_passed v_halves v_number v_balance_4 a_men_5 a_kinds_6 a_sides_7 a_rays a_knights a_kings a_pawns a_table  r_14 v_at_15 v_mover_16 hm_17) (cv_X5_readMover C.ts lm_RX5_64 ⟨Nat.le_of_ble_eq_true rfl, Nat.le_of_ble_eq_true rfl⟩) rfl rfl [0, 1, 2, 3, 4, 5, 6, 7, 8, 9, 10, 11, 12] [] [0, 1, 2] [0, 1, 2, 3, 4, 5, 6, 7, 8, 9, 10, 11, 12] rfl rfl rfl rfl rfl (by decide) rfl rfl rfl (Nat.le_of_ble_eq_true rfl) dX5_readAll_17 ⟨Nat.zero_le _, Nat.zero_le _⟩ rfl rfl rfl ?_
      refine kv_if_eq C 99 dX5_readAll_20 (by decide) (fun c_18 => ?_) (fun c_18 => ?_)
      · have h := oi_t h c_18
        exact kv_lv [] (lv2 := []) rfl (j99 v_at_15 v_mover_16 v_rights v_passed v_halves v_number v_balance_4 a_men_5 a_kinds_6 a_sides_7 h)
      · have h := oi_f h c_18
        refine kv_aload_n C 0 dX5_readAll_23 rfl rfl ?_
        refine kv_bipush C 32 dX5_readAll_24 (by decide) ?_
        obtain ⟨⟨r_19, v_at_20⟩, hm_21, h⟩ := ob_e h
        replace h : _ = _ := h
        refine kv_eVi (ws2 := (wRe qr qd ql qw cI cJ cC v_wrongAt v_length v_at_20 a_chars v_mover_16 v_rights v_passed v_halves v_number v_balance_4 a_men_5 a_kinds_6 a_sides_7 a_rays a_knights a_kings a_pawns a_table)) C hJ [.int 32] 0 (c_X5_skip l D qr qd ql qw cI cJ cC tq v_wrongAt v_length v_at_15 a_chars v_mover_16 v_rights v_passed v_halves v_number v_balance_4 a_men_5 a_kinds_6 a_sides_7 a_rays a_knights a_kings a_pawns a_table 32 r_19 v_at_20 hm_21) (cv_X5_skip C.ts lm_RX5_60 ⟨Nat.le_of_ble_eq_true rfl, Nat.le_of_ble_eq_true rfl⟩) rfl rfl [0, 1, 2, 3, 4, 5, 6, 7, 8, 9, 10, 11, 12] [] [0, 1, 2] [0, 1, 2, 3, 4, 5, 6, 7, 8, 9, 10, 11, 12] rfl rfl rfl rfl rfl (by decide) rfl rfl rfl (Nat.le_of_ble_eq_true rfl) dX5_readAll_26 ⟨Nat.zero_le _, Nat.zero_le _⟩ rfl rfl rfl ?_
        refine kv_if_eq C 99 dX5_readAll_29 (by decide) (fun c_22 => ?_) (fun c_22 => ?_)
        · have h := oi_t h c_22
          exact kv_lv [] (lv2 := []) rfl (j99 v_at_20 v_mover_16 v_rights v_passed v_halves v_number v_balance_4 a_men_5 a_kinds_6 a_sides_7 h)
        · have h := oi_f h c_22
          refine kv_aload_n C 0 dX5_readAll_32 rfl rfl ?_
          obtain ⟨⟨r_23, v_at_24, v_rights_25⟩, hm_26, h⟩ := ob_e h
          replace h : _ = _ := h
          refine kv_eVi (ws2 := (wRe qr qd ql qw cI cJ cC v_wrongAt v_length v_at_24 a_chars v_mover_16 v_rights_25 v_passed v_halves v_number v_balance_4 a_men_5 a_kinds_6 a_sides_7 a_rays a_knights a_kings a_pawns a_table)) C hJ [] 0 (c_X5_readRights l D qr qd ql qw cI cJ cC tq v_wrongAt v_length v_at_20 a_chars v_mover_16 v_rights v_passed v_halves v_number v_balance_4 a_men_5 a_kinds_6 a_sides_7 a_rays a_knights a_kings a_pawns a_table  r_23 v_at_24 v_rights_25 hm_26) (cv_X5_readRights C.ts lm_RX5_67 ⟨Nat.le_of_ble_eq_true rfl, Nat.le_of_ble_eq_true rfl⟩) rfl rfl [0, 1, 2, 3, 4, 5, 6, 7, 8, 9, 10, 11, 12] [] [0, 1, 2] [0, 1, 2, 3, 4, 5, 6, 7, 8, 9, 10, 11, 12] rfl rfl rfl rfl rfl (by decide) rfl rfl rfl (Nat.le_of_ble_eq_true rfl) dX5_readAll_33 ⟨Nat.zero_le _, Nat.zero_le _⟩ rfl rfl rfl ?_
          refine kv_if_eq C 99 dX5_readAll_36 (by decide) (fun c_27 => ?_) (fun c_27 => ?_)
          · have h := oi_t h c_27
            exact kv_lv [] (lv2 := []) rfl (j99 v_at_24 v_mover_16 v_rights_25 v_passed v_halves v_number v_balance_4 a_men_5 a_kinds_6 a_sides_7 h)
          · have h := oi_f h c_27
            refine kv_aload_n C 0 dX5_readAll_39 rfl rfl ?_
            refine kv_bipush C 32 dX5_readAll_40 (by decide) ?_
            obtain ⟨⟨r_28, v_at_29⟩, hm_30, h⟩ := ob_e h
            replace h : _ = _ := h
            refine kv_eVi (ws2 := (wRe qr qd ql qw cI cJ cC v_wrongAt v_length v_at_29 a_chars v_mover_16 v_rights_25 v_passed v_halves v_number v_balance_4 a_men_5 a_kinds_6 a_sides_7 a_rays a_knights a_kings a_pawns a_table)) C hJ [.int 32] 0 (c_X5_skip l D qr qd ql qw cI cJ cC tq v_wrongAt v_length v_at_24 a_chars v_mover_16 v_rights_25 v_passed v_halves v_number v_balance_4 a_men_5 a_kinds_6 a_sides_7 a_rays a_knights a_kings a_pawns a_table 32 r_28 v_at_29 hm_30) (cv_X5_skip C.ts lm_RX5_60 ⟨Nat.le_of_ble_eq_true rfl, Nat.le_of_ble_eq_true rfl⟩) rfl rfl [0, 1, 2, 3, 4, 5, 6, 7, 8, 9, 10, 11, 12] [] [0, 1, 2] [0, 1, 2, 3, 4, 5, 6, 7, 8, 9, 10, 11, 12] rfl rfl rfl rfl rfl (by decide) rfl rfl rfl (Nat.le_of_ble_eq_true rfl) dX5_readAll_42 ⟨Nat.zero_le _, Nat.zero_le _⟩ rfl rfl rfl ?_
            refine kv_if_eq C 99 dX5_readAll_45 (by decide) (fun c_31 => ?_) (fun c_31 => ?_)
            · have h := oi_t h c_31
              exact kv_lv [] (lv2 := []) rfl (j99 v_at_29 v_mover_16 v_rights_25 v_passed v_halves v_number v_balance_4 a_men_5 a_kinds_6 a_sides_7 h)
            · have h := oi_f h c_31
              refine kv_aload_n C 0 dX5_readAll_48 rfl rfl ?_
              obtain ⟨⟨r_32, v_at_33, v_passed_34⟩, hm_35, h⟩ := ob_e h
              replace h : _ = _ := h
              refine kv_eVi (ws2 := (wRe qr qd ql qw cI cJ cC v_wrongAt v_length v_at_33 a_chars v_mover_16 v_rights_25 v_passed_34 v_halves v_number v_balance_4 a_men_5 a_kinds_6 a_sides_7 a_rays a_knights a_kings a_pawns a_table)) C hJ [] 0 (c_X5_readPassed l D qr qd ql qw cI cJ cC tq v_wrongAt v_length v_at_29 a_chars v_mover_16 v_rights_25 v_passed v_halves v_number v_balance_4 a_men_5 a_kinds_6 a_sides_7 a_rays a_knights a_kings a_pawns a_table  r_32 v_at_33 v_passed_34 hm_35) (cv_X5_readPassed C.ts lm_RX5_70 ⟨Nat.le_of_ble_eq_true rfl, Nat.le_of_ble_eq_true rfl⟩) rfl rfl [0, 1, 2, 3, 4, 5, 6, 7, 8, 9, 10, 11, 12] [] [0, 1, 2] [0, 1, 2, 3, 4, 5, 6, 7, 8, 9, 10, 11, 12] rfl rfl rfl rfl rfl (by decide) rfl rfl rfl (Nat.le_of_ble_eq_true rfl) dX5_readAll_49 ⟨Nat.zero_le _, Nat.zero_le _⟩ rfl rfl rfl ?_
              refine kv_if_eq C 99 dX5_readAll_52 (by decide) (fun c_36 => ?_) (fun c_36 => ?_)
              · have h := oi_t h c_36
                exact kv_lv [] (lv2 := []) rfl (j99 v_at_33 v_mover_16 v_rights_25 v_passed_34 v_halves v_number v_balance_4 a_men_5 a_kinds_6 a_sides_7 h)
              · have h := oi_f h c_36
                refine kv_aload_n C 0 dX5_readAll_55 rfl rfl ?_
                refine kv_bipush C 32 dX5_readAll_56 (by decide) ?_
                obtain ⟨⟨r_37, v_at_38⟩, hm_39, h⟩ := ob_e h
                replace h : _ = _ := h
                refine kv_eVi (ws2 := (wRe qr qd ql qw cI cJ cC v_wrongAt v_length v_at_38 a_chars v_mover_16 v_rights_25 v_passed_34 v_halves v_number v_balance_4 a_men_5 a_kinds_6 a_sides_7 a_rays a_knights a_kings a_pawns a_table)) C hJ [.int 32] 0 (c_X5_skip l D qr qd ql qw cI cJ cC tq v_wrongAt v_length v_at_33 a_chars v_mover_16 v_rights_25 v_passed_34 v_halves v_number v_balance_4 a_men_5 a_kinds_6 a_sides_7 a_rays a_knights a_kings a_pawns a_table 32 r_37 v_at_38 hm_39) (cv_X5_skip C.ts lm_RX5_60 ⟨Nat.le_of_ble_eq_true rfl, Nat.le_of_ble_eq_true rfl⟩) rfl rfl [0, 1, 2, 3, 4, 5, 6, 7, 8, 9, 10, 11, 12] [] [0, 1, 2] [0, 1, 2, 3, 4, 5, 6, 7, 8, 9, 10, 11, 12] rfl rfl rfl rfl rfl (by decide) rfl rfl rfl (Nat.le_of_ble_eq_true rfl) dX5_readAll_58 ⟨Nat.zero_le _, Nat.zero_le _⟩ rfl rfl rfl ?_
                refine kv_if_eq C 99 dX5_readAll_61 (by decide) (fun c_40 => ?_) (fun c_40 => ?_)
                · have h := oi_t h c_40
                  exact kv_lv [] (lv2 := []) rfl (j99 v_at_38 v_mover_16 v_rights_25 v_passed_34 v_halves v_number v_balance_4 a_men_5 a_kinds_6 a_sides_7 h)
                · have h := oi_f h c_40
                  refine kv_aload_n C 0 dX5_readAll_64 rfl rfl ?_
                  obtain ⟨⟨r_41, v_at_42, v_halves_43⟩, hm_44, h⟩ := ob_e h
                  replace h : _ = _ := h
                  refine kv_eVi (ws2 := (wRe qr qd ql qw cI cJ cC v_wrongAt v_length v_at_42 a_chars v_mover_16 v_rights_25 v_passed_34 v_halves_43 v_number v_balance_4 a_men_5 a_kinds_6 a_sides_7 a_rays a_knights a_kings a_pawns a_table)) C hJ [] 0 (c_X5_readHalves l D qr qd ql qw cI cJ cC tq v_wrongAt v_length v_at_38 a_chars v_mover_16 v_rights_25 v_passed_34 v_halves v_number v_balance_4 a_men_5 a_kinds_6 a_sides_7 a_rays a_knights a_kings a_pawns a_table  r_41 v_at_42 v_halves_43 hm_44) (cv_X5_readHalves C.ts lm_RX5_73 ⟨Nat.le_of_ble_eq_true rfl, Nat.le_of_ble_eq_true rfl⟩) rfl rfl [0, 1, 2, 3, 4, 5, 6, 7, 8, 9, 10, 11, 12] [] [0, 1, 2] [0, 1, 2, 3, 4, 5, 6, 7, 8, 9, 10, 11, 12] rfl rfl rfl rfl rfl (by decide) rfl rfl rfl (Nat.le_of_ble_eq_true rfl) dX5_readAll_65 ⟨Nat.zero_le _, Nat.zero_le _⟩ rfl rfl rfl ?_
                  refine kv_if_eq C 99 dX5_readAll_68 (by decide) (fun c_45 => ?_) (fun c_45 => ?_)
                  · have h := oi_t h c_45
                    exact kv_lv [] (lv2 := []) rfl (j99 v_at_42 v_mover_16 v_rights_25 v_passed_34 v_halves_43 v_number v_balance_4 a_men_5 a_kinds_6 a_sides_7 h)
                  · have h := oi_f h c_45
                    refine kv_aload_n C 0 dX5_readAll_71 rfl rfl ?_
                    refine kv_bipush C 32 dX5_readAll_72 (by decide) ?_
                    obtain ⟨⟨r_46, v_at_47⟩, hm_48, h⟩ := ob_e h
                    replace h : _ = _ := h
                    refine kv_eVi (ws2 := (wRe qr qd ql qw cI cJ cC v_wrongAt v_length v_at_47 a_chars v_mover_16 v_rights_25 v_passed_34 v_halves_43 v_number v_balance_4 a_men_5 a_kinds_6 a_sides_7 a_rays a_knights a_kings a_pawns a_table)) C hJ [.int 32] 0 (c_X5_skip l D qr qd ql qw cI cJ cC tq v_wrongAt v_length v_at_42 a_chars v_mover_16 v_rights_25 v_passed_34 v_halves_43 v_number v_balance_4 a_men_5 a_kinds_6 a_sides_7 a_rays a_knights a_kings a_pawns a_table 32 r_46 v_at_47 hm_48) (cv_X5_skip C.ts lm_RX5_60 ⟨Nat.le_of_ble_eq_true rfl, Nat.le_of_ble_eq_true rfl⟩) rfl rfl [0, 1, 2, 3, 4, 5, 6, 7, 8, 9, 10, 11, 12] [] [0, 1, 2] [0, 1, 2, 3, 4, 5, 6, 7, 8, 9, 10, 11, 12] rfl rfl rfl rfl rfl (by decide) rfl rfl rfl (Nat.le_of_ble_eq_true rfl) dX5_readAll_74 ⟨Nat.zero_le _, Nat.zero_le _⟩ rfl rfl rfl ?_
                    refine kv_if_eq C 99 dX5_readAll_77 (by decide) (fun c_49 => ?_) (fun c_49 => ?_)
                    · have h := oi_t h c_49
                      exact kv_lv [] (lv2 := []) rfl (j99 v_at_47 v_mover_16 v_rights_25 v_passed_34 v_halves_43 v_number v_balance_4 a_men_5 a_kinds_6 a_sides_7 h)
                    · have h := oi_f h c_49
                      refine kv_aload_n C 0 dX5_readAll_80 rfl rfl ?_
                      obtain ⟨⟨r_50, v_at_51, v_number_52⟩, hm_53, h⟩ := ob_e h
                      replace h : _ = _ := h
                      refine kv_eVi (ws2 := (wRe qr qd ql qw cI cJ cC v_wrongAt v_length v_at_51 a_chars v_mover_16 v_rights_25 v_passed_34 v_halves_43 v_number_52 v_balance_4 a_men_5 a_kinds_6 a_sides_7 a_rays a_knights a_kings a_pawns a_table)) C hJ [] 0 (c_X5_readNumber l D qr qd ql qw cI cJ cC tq v_wrongAt v_length v_at_47 a_chars v_mover_16 v_rights_25 v_passed_34 v_halves_43 v_number v_balance_4 a_men_5 a_kinds_6 a_sides_7 a_rays a_knights a_kings a_pawns a_table  r_50 v_at_51 v_number_52 hm_53) (cv_X5_readNumber C.ts lm_RX5_76 ⟨Nat.le_of_ble_eq_true rfl, Nat.le_of_ble_eq_true rfl⟩) rfl rfl [0, 1, 2, 3, 4, 5, 6, 7, 8, 9, 10, 11, 12] [] [0, 1, 2] [0, 1, 2, 3, 4, 5, 6, 7, 8, 9, 10, 11, 12] rfl rfl rfl rfl rfl (by decide) rfl rfl rfl (Nat.le_of_ble_eq_true rfl) dX5_readAll_81 ⟨Nat.zero_le _, Nat.zero_le _⟩ rfl rfl rfl ?_
                      refine kv_if_eq C 99 dX5_readAll_84 (by decide) (fun c_54 => ?_) (fun c_54 => ?_)
                      · have h := oi_t h c_54
                        exact kv_lv [] (lv2 := []) rfl (j99 v_at_51 v_mover_16 v_rights_25 v_passed_34 v_halves_43 v_number_52 v_balance_4 a_men_5 a_kinds_6 a_sides_7 h)
                      · have h := oi_f h c_54
                        refine kv_aload_n C 0 dX5_readAll_87 rfl rfl ?_
                        obtain ⟨r_55, hm_56, h⟩ := ob_e h
                        refine kv_eVi (ws2 := (wRe qr qd ql qw cI cJ cC v_wrongAt v_length v_at_51 a_chars v_mover_16 v_rights_25 v_passed_34 v_halves_43 v_number_52 v_balance_4 a_men_5 a_kinds_6 a_sides_7 a_rays a_knights a_kings a_pawns a_table)) C hJ [] 0 (c_X5_next l D qr qd ql qw cI cJ cC tq v_wrongAt v_length v_at_51 a_chars v_mover_16 v_rights_25 v_passed_34 v_halves_43 v_number_52 v_balance_4 a_men_5 a_kinds_6 a_sides_7 a_rays a_knights a_kings a_pawns a_table  r_55 hm_56) (cv_X5_next C.ts lm_RX5_79 ⟨Nat.le_of_ble_eq_true rfl, Nat.le_of_ble_eq_true rfl⟩) rfl rfl [0, 1, 2, 3, 4, 5, 6, 7, 8, 9, 10, 11, 12] [] [0, 1, 2] [0, 1, 2, 3, 4, 5, 6, 7, 8, 9, 10, 11, 12] rfl rfl rfl rfl rfl (by decide) rfl rfl rfl (Nat.le_of_ble_eq_true rfl) dX5_readAll_88 ⟨Nat.zero_le _, Nat.zero_le _⟩ rfl rfl rfl ?_
                        refine kv_iconst C (-1) dX5_readAll_91 (by decide) ?_
                        refine kv_icmp_ne C 99 dX5_readAll_92 (by decide) (fun c_57 => ?_) (fun c_57 => ?_)
                        · have h := oi_f h c_57
                          exact kv_lv [] (lv2 := []) rfl (j99 v_at_51 v_mover_16 v_rights_25 v_passed_34 v_halves_43 v_number_52 v_balance_4 a_men_5 a_kinds_6 a_sides_7 h)
                        · have h := oi_t h c_57
                          refine kv_iconst C 1 dX5_readAll_95 (by decide) ?_
                          refine kv_goto C 100 dX5_readAll_96 (by decide) ?_
                          exact kv_lv [] (lv2 := []) rfl (j100 v_at_51 v_mover_16 v_rights_25 v_passed_34 v_halves_43 v_number_52 v_balance_4 a_men_5 a_kinds_6 a_sides_7 1 h)
def m_X5_hasRoomFor_b17 (v_length : Int32) (t0 : Int32) : Option (Int32) := obl (t0) (some t0)
def m_X5_hasRoomFor (v_length : Int32) (p0 : Int32) : Option (Int32) := if 128 < (v_length + p0) then m_X5_hasRoomFor_b17 v_length 0 else m_X5_hasRoomFor_b17 v_length 1
abbrev rm_X5_hasRoomFor : Room := { frames := 0, cells := 0, slots := 0, locals := 0 }
abbrev wy_X5_hasRoomFor : List Cond := .code yX5_hasRoomFor cX5_hasRoomFor 2 (some .boolean) :: gT
theorem cv_X5_hasRoomFor {R : Room} {s : State} {args : Array Value} {own : String} {index : Nat} {w0 : Cond} (hts : ∀ w ∈ w0 :: gT, w.before args s = true) (hl : Cond.methodLink own index yX5_hasRoomFor ∈ gT) (hR : 0 + 1 ≤ R.frames ∧ 8 + (2 + 11) + 0 ≤ R.locals) : CallW R s args own RX5 index yX5_hasRoomFor cX5_hasRoomFor 2 (some .boolean) wy_X5_hasRoomFor rm_X5_hasRoomFor 0 0 1 :=
  cwV 1 hts (gT_call w0 (pre := [.methodLink own index yX5_hasRoomFor, .instanceMethod yX5_hasRoomFor, .selects RX5 yX5_hasRoomFor yX5_hasRoomFor, .initialized RX5]) (gT_lc hl (gT_lc ly_yX5_hasRoomFor (gT_lc lx_yX5_hasRoomFor (gT_l1 li_RX5)))) lc_yX5_hasRoomFor) rfl rfl rfl (by decide +kernel) hR
set_option maxRecDepth 100000 in
set_option maxHeartbeats 4000000 in
theorem c_X5_hasRoomFor (l : Launch) (D : va_G) (qr : Nat → Nat) (qd : Nat → Nat) (ql : Nat → Nat) (qw : Nat → Nat) (cI : ClassId) (cJ : ClassId) (cC : ClassId) (tq : Nat → Nat) (v_wrongAt : Int32) (v_length : Int32) (v_at : Int32) (a_chars : Nat → Int32) (v_mover : Int32) (v_rights : Int32) (v_passed : Int32) (v_halves : Int32) (v_number : Int32) (v_balance : Int32) (a_men : Nat → Int32) (a_kinds : Nat → Int64) (a_sides : Nat → Int64) (a_rays : Nat → Int64) (a_knights : Nat → Int64) (a_kings : Nat → Int64) (a_pawns : Nat → Int64) (a_table : Nat → Int32) (p0 : Int32) (rv : Int32) (hm : m_X5_hasRoomFor v_length p0 = some rv) : kEi l yX5_hasRoomFor wy_X5_hasRoomFor rm_X5_hasRoomFor D [(cI, .int), (cJ, .long), (cC, .char)] tq rv (wRe qr qd ql qw cI cJ cC v_wrongAt v_length v_at a_chars v_mover v_rights v_passed v_halves v_number v_balance a_men a_kinds a_sides a_rays a_knights a_kings a_pawns a_table) (wRe qr qd ql qw cI cJ cC v_wrongAt v_length v_at a_chars v_mover v_rights v_passed v_halves v_number v_balance a_men a_kinds a_sides a_rays a_knights a_kings a_pawns a_table) [.ref (qr 0), .int p0] := by
  refine kEi.of cX5_hasRoomFor 2 (some .boolean) (by decide) rfl (Or.inr rfl) (Nat.le_of_ble_eq_true rfl) ?_
  intro p e s m below meth c A Q C hJ hret
  have hin0 : ∀ w ∈ wsX00, w ∈ wy_X5_hasRoomFor := fun w h => List.mem_cons_of_mem _ (inG0 w h)
  have hin3 : ∀ w ∈ wsX30, w ∈ wy_X5_hasRoomFor := fun w h => List.mem_cons_of_mem _ (inG3 w h)
  have hin5 : ∀ w ∈ wsX50, w ∈ wy_X5_hasRoomFor := fun w h => List.mem_cons_of_mem _ (inG5 w h)
  have hin7 : ∀ w ∈ wsX70, w ∈ wy_X5_hasRoomFor := fun w h => List.mem_cons_of_mem _ (inG7 w h)
  have j17 : ∀ (t0 : Int32), m_X5_hasRoomFor_b17  v_length t0 = some rv → kv p l e rm_X5_hasRoomFor s m ([.ref (qr 0), .int p0] : List Value).toArray below meth c D A 2 0 0 Q (wRe qr qd ql qw cI cJ cC v_wrongAt v_length v_at a_chars v_mover v_rights v_passed v_halves v_number v_balance a_men a_kinds a_sides a_rays a_knights a_kings a_pawns a_table) [] 17 [.int t0] := by
    intro t0 h
    unfold m_X5_hasRoomFor_b17 at h
    obtain ⟨g_1, h⟩ := obl_e h
    cases h
    exact hret _ _ dX5_hasRoomFor_17 (fun _ => g_1)
  unfold m_X5_hasRoomFor at hm
  have h := hm
  refine kv_lv [0, 1] (lv2 := [(0, .ref (qr 0)), (1, .int p0)]) rfl ?_
  refine kv_aload_n C 0 dX5_hasRoomFor_0 rfl rfl ?_
  refine kv_get C (Cn := RX5) (T := TX5) (N := 5) 0 3 hin5 rfl rfl (by decide) (C.ts _ (List.mem_cons_of_mem _ lf_RX5_29)) rfl rfl dX5_hasRoomFor_1 ?_
  refine kv_iload_n C 1 dX5_hasRoomFor_4 rfl rfl ?_
  refine kv_iadd C dX5_hasRoomFor_5 ?_
  refine kv_sipush C 128 dX5_hasRoomFor_6 (by decide) ?_
  refine kv_icmp_gt C 16 dX5_hasRoomFor_9 (by decide) (fun c_2 => ?_) (fun c_2 => ?_)
  · have h := oi_t h c_2
    refine kv_iconst C 0 dX5_hasRoomFor_16 (by decide) ?_
    exact kv_lv [] (lv2 := []) rfl (j17 0 h)
  · have h := oi_f h c_2
    refine kv_iconst C 1 dX5_hasRoomFor_12 (by decide) ?_
    refine kv_goto C 17 dX5_hasRoomFor_13 (by decide) ?_
    exact kv_lv [] (lv2 := []) rfl (j17 1 h)
def m_X5_add_b3 (k3 : Int32 → (Nat → Int32) → Int64 → Int32 → Int32 → Option (Int32 × Int32 × (Nat → Int32))) (v_length : Int32) (a_chars : Nat → Int32) (x1 : Int64) (x3 : Int32) (x4 : Int32) : Option (Int32 × Int32 × (Nat → Int32)) := if x3 ≤ x4 then some (v_length, v_length, a_chars) else ob (m_X5_byteOf x1 x4) fun r_2 => ol ((r_2.toUInt32 % 65536).toInt32) fun y_4 => oin (v_length) 128 (ol (upd a_chars (v_length.toNatClampNeg) (vp_nar .char y_4)) fun a_chars_6 => ol (v_length + 1) fun y_7 => ol (x4 + 1) fun x4_8 => k3 y_7 a_chars_6 x1 x3 x4_8)
def m_X5_add_l3 (n : Nat) : Int32 → (Nat → Int32) → Int64 → Int32 → Int32 → Option (Int32 × Int32 × (Nat → Int32)) := fz (fun _ _ _ _ _ => none) (fun k3 v_length a_chars x1 x3 x4 => m_X5_add_b3 k3 v_length a_chars x1 x3 x4) n
def m_X5_add (v_length : Int32) (a_chars : Nat → Int32) (p0 : Int64) (p1 : Int32) : Option (Int32 × Int32 × (Nat → Int32)) := m_X5_add_l3 kF v_length a_chars p0 p1 0
abbrev rm_X5_add : Room := { frames := 1, cells := 0, slots := 0, locals := 22 }
abbrev wy_X5_add : List Cond := .code yX5_add cX5_add 5 (some .int) :: gT
theorem cv_X5_add {R : Room} {s : State} {args : Array Value} {own : String} {index : Nat} {w0 : Cond} (hts : ∀ w ∈ w0 :: gT, w.before args s = true) (hl : Cond.methodLink own index yX5_add ∈ gT) (hR : 1 + 1 ≤ R.frames ∧ 8 + (5 + 11) + 22 ≤ R.locals) : CallW R s args own RX5 index yX5_add cX5_add 5 (some .int) wy_X5_add rm_X5_add 0 0 2 :=
  cwV 2 hts (gT_call w0 (pre := [.methodLink own index yX5_add, .instanceMethod yX5_add, .selects RX5 yX5_add yX5_add, .initialized RX5]) (gT_lc hl (gT_lc ly_yX5_add (gT_lc lx_yX5_add (gT_l1 li_RX5)))) lc_yX5_add) rfl rfl rfl (by decide +kernel) hR
set_option maxRecDepth 100000 in
set_option maxHeartbeats 4000000 in
theorem c_X5_add (l : Launch) (D : va_G) (qr : Nat → Nat) (qd : Nat → Nat) (ql : Nat → Nat) (qw : Nat → Nat) (cI : ClassId) (cJ : ClassId) (cC : ClassId) (tq : Nat → Nat) (v_wrongAt : Int32) (v_length : Int32) (v_at : Int32) (a_chars : Nat → Int32) (v_mover : Int32) (v_rights : Int32) (v_passed : Int32) (v_halves : Int32) (v_number : Int32) (v_balance : Int32) (a_men : Nat → Int32) (a_kinds : Nat → Int64) (a_sides : Nat → Int64) (a_rays : Nat → Int64) (a_knights : Nat → Int64) (a_kings : Nat → Int64) (a_pawns : Nat → Int64) (a_table : Nat → Int32) (p0 : Int64) (p1 : Int32) (rv : Int32) (v_length' : Int32) (a_chars' : Nat → Int32) (hm : m_X5_add v_length a_chars p0 p1 = some (rv, v_length', a_chars')) : kEi l yX5_add wy_X5_add rm_X5_add D [(cI, .int), (cJ, .long), (cC, .char)] tq rv (wRe qr qd ql qw cI cJ cC v_wrongAt v_length v_at a_chars v_mover v_rights v_passed v_halves v_number v_balance a_men a_kinds a_sides a_rays a_knights a_kings a_pawns a_table) (wRe qr qd ql qw cI cJ cC v_wrongAt v_length' v_at a_chars' v_mover v_rights v_passed v_halves v_number v_balance a_men a_kinds a_sides a_rays a_knights a_kings a_pawns a_table) [.ref (qr 0), .long p0, .int p1] := by
  refine kEi.of cX5_add 5 (some .int) (by decide) rfl (Or.inl rfl) (Nat.le_of_ble_eq_true rfl) ?_
  intro p e s m below meth c A Q C hJ hret
  have hin0 : ∀ w ∈ wsX00, w ∈ wy_X5_add := fun w h => List.mem_cons_of_mem _ (inG0 w h)
  have hin3 : ∀ w ∈ wsX30, w ∈ wy_X5_add := fun w h => List.mem_cons_of_mem _ (inG3 w h)
  have hin5 : ∀ w ∈ wsX50, w ∈ wy_X5_add := fun w h => List.mem_cons_of_mem _ (inG5 w h)
  have hin7 : ∀ w ∈ wsX70, w ∈ wy_X5_add := fun w h => List.mem_cons_of_mem _ (inG7 w h)
  have l3 : ∀ (n3 : Nat) (v_length : Int32) (a_chars : Nat → Int32) (x1 : Int64) (x3 : Int32) (x4 : Int32), m_X5_add_l3   n3 v_length a_chars x1 x3 x4 = some (rv, v_length', a_chars') → kv p l e rm_X5_add s m ([.ref (qr 0), .long p0, .int p1] : List Value).toArray below meth c D A 5 0 0 Q (wRe qr qd ql qw cI cJ cC v_wrongAt v_length v_at a_chars v_mover v_rights v_passed v_halves v_number v_balance a_men a_kinds a_sides a_rays a_knights a_kings a_pawns a_table) [(0, .ref (qr 0)), (1, .long x1), (3, .int x3), (4, .int x4)] 3 [] := by
    intro n3
    induction n3 with
    | zero =>
      intro v_length a_chars x1 x3 x4 h
      exact kv_no h
    | succ n3 ih3 =>
      intro v_length a_chars x1 x3 x4 h
      replace h : m_X5_add_b3  (m_X5_add_l3   n3) v_length a_chars x1 x3 x4 = some (rv, v_length', a_chars') := h
      unfold m_X5_add_b3 at h
      refine kv_iload C 3 dX5_add_3 rfl ?_
      refine kv_iload_n C 2 dX5_add_5 rfl rfl ?_
      refine kv_icmp_ge C 41 dX5_add_6 (by decide) (fun c_1 => ?_) (fun c_1 => ?_)
      · have h := oi_t h c_1
        refine kv_aload_n C 0 dX5_add_41 rfl rfl ?_
        refine kv_get C (Cn := RX5) (T := TX5) (N := 5) 0 3 hin5 rfl rfl (by decide) (C.ts _ (List.mem_cons_of_mem _ lf_RX5_29)) rfl rfl dX5_add_42 ?_
        cases h
        exact hret _ _ dX5_add_45 (fun q => by cases q)
      · have h := oi_f h c_1
        refine kv_aload_n C 0 dX5_add_9 rfl rfl ?_
        refine kv_get C (Cn := RX5) (T := TX5) (N := 5) 0 2 hin5 rfl rfl (by decide) (C.ts _ (List.mem_cons_of_mem _ lf_RX5_19)) rfl rfl dX5_add_10 ?_
        refine kv_aload_n C 0 dX5_add_13 rfl rfl ?_
        refine kv_get C (Cn := RX5) (T := TX5) (N := 5) 0 3 hin5 rfl rfl (by decide) (C.ts _ (List.mem_cons_of_mem _ lf_RX5_29)) rfl rfl dX5_add_14 ?_
        refine kv_lload_n C 1 dX5_add_17 rfl rfl ?_
        refine kv_iload C 3 dX5_add_18 rfl ?_
        obtain ⟨r_2, hm_3, h⟩ := ob_e h
        refine kv_callS0i C [.long x1, .int x4] (c_X5_byteOf l D x1 x4 r_2 hm_3) (cs_X5_byteOf C.ts lm_RX5_23 ⟨Nat.le_of_ble_eq_true rfl, Nat.le_of_ble_eq_true rfl⟩) rfl rfl (Nat.le_of_ble_eq_true rfl) dX5_add_20 ⟨Nat.zero_le _, Nat.zero_le _⟩ ?_
        refine kv_i2c C dX5_add_23 ?_
        obtain ⟨y_4, ey_4, h⟩ := ol_e h
        refine kv_top ey_4 ?_
        obtain ⟨g_5, h⟩ := oin_e h
        obtain ⟨a_chars_6, ea_chars_6, h⟩ := ol_e h
        refine kv_cast2 C (ws1 := (wRe qr qd ql qw cI cJ cC v_wrongAt v_length v_at a_chars_6 v_mover v_rights v_passed v_halves v_number v_balance a_men a_kinds a_sides a_rays a_knights a_kings a_pawns a_table)) 1 2 rfl rfl g_5 ea_chars_6 rfl dX5_add_24 ?_
        refine kv_aload_n C 0 dX5_add_25 rfl rfl ?_
        refine kv_dup C dX5_add_26 rfl ?_
        refine kv_get C (Cn := RX5) (T := TX5) (N := 5) 0 3 hin5 rfl rfl (by decide) (C.ts _ (List.mem_cons_of_mem _ lf_RX5_29)) rfl rfl dX5_add_27 ?_
        refine kv_iconst C 1 dX5_add_30 (by decide) ?_
        refine kv_iadd C dX5_add_31 ?_
        obtain ⟨y_7, ey_7, h⟩ := ol_e h
        refine kv_top ey_7 ?_
        refine kv_put C (Cn := RX5) (T := TX5) (N := 5) (ty := .int) (ws1 := (wRe qr qd ql qw cI cJ cC v_wrongAt y_7 v_at a_chars_6 v_mover v_rights v_passed v_halves v_number v_balance a_men a_kinds a_sides a_rays a_knights a_kings a_pawns a_table)) 0 3 hin5 tyX5 tyX5_ok nmX5 rfl rfl (by decide) (C.ts _ (List.mem_cons_of_mem _ lf_RX5_29)) rfl rfl (by decide +kernel) rfl rfl (Nat.le_of_ble_eq_true rfl) rfl dX5_add_32 ?_
        obtain ⟨x4_8, ex4_8, h⟩ := ol_e h
        refine kv_iinc C (v := x4_8) (lv2 := [(0, .ref (qr 0)), (1, .long x1), (3, .int x3), (4, .int x4_8)]) 3 [1, 2, 3, 0] dX5_add_35 rfl ex4_8.symm (by decide) rfl rfl ?_
        refine kv_goto C 3 dX5_add_38 (by decide) ?_
        exact kv_lv [0, 1, 2, 3] (lv2 := [(0, .ref (qr 0)), (1, .long x1), (3, .int x3), (4, .int x4_8)]) rfl (ih3 y_7 a_chars_6 x1 x3 x4_8 h)
  unfold m_X5_add at hm
  have h := hm
  refine kv_lv [0, 1, 2] (lv2 := [(0, .ref (qr 0)), (1, .long p0), (3, .int p1)]) rfl ?_
  refine kv_iconst C 0 dX5_add_0 (by decide) ?_
  refine kv_istore C (lv2 := [(0, .ref (qr 0)), (1, .long p0), (3, .int p1), (4, .int 0)]) [1, 2, 3, 0] dX5_add_1 (by decide) rfl rfl ?_
  exact kv_lv [0, 1, 2, 3] (lv2 := [(0, .ref (qr 0)), (1, .long p0), (3, .int p1), (4, .int 0)]) rfl (l3 kF v_length a_chars p0 p1 0 h)
def m_X5_useUp_b76 (v_wrongAt : Int32) (v_length : Int32) (v_at : Int32) (a_chars : Nat → Int32) (v_mover : Int32) (v_rights : Int32) (v_passed : Int32) (v_halves : Int32) (v_number : Int32) (v_balance : Int32) (a_men : Nat → Int32) (a_kinds : Nat → Int64) (a_sides : Nat → Int64) (a_rays : Nat → Int64) (a_knights : Nat → Int64) (a_kings : Nat → Int64) (a_pawns : Nat → Int64) (a_table : Nat → Int32) (x2 : Int32) : Option (Int32 × Int32 × Int32 × Int32 × Int32 × Int32 × Int32 × Int32 × Int32 × Int32 × (Nat → Int32) × (Nat → Int64) × (Nat → Int64)) := some (x2, v_wrongAt, v_length, v_at, v_mover, v_rights, v_passed, v_halves, v_number, v_balance, a_men, a_kinds, a_sides)
def m_X5_useUp_b30 (v_wrongAt : Int32) (v_length : Int32) (v_at : Int32) (a_chars : Nat → Int32) (v_mover : Int32) (v_rights : Int32) (v_passed : Int32) (v_halves : Int32) (v_number : Int32) (v_balance : Int32) (a_men : Nat → Int32) (a_kinds : Nat → Int64) (a_sides : Nat → Int64) (a_rays : Nat → Int64) (a_knights : Nat → Int64) (a_kings : Nat → Int64) (a_pawns : Nat → Int64) (a_table : Nat → Int32) (x1 : Int32) (t1 : Int32) : Option (Int32 × Int32 × Int32 × Int32 × Int32 × Int32 × Int32 × Int32 × Int32 × Int32 × (Nat → Int32) × (Nat → Int64) × (Nat → Int64)) := if x1 = 0 then some (1, t1, 0, v_at, v_mover, v_rights, v_passed, v_halves, v_number, v_balance, a_men, a_kinds, a_sides) else ob (m_X1_of v_mover v_rights v_passed a_men a_kinds a_sides a_rays a_knights a_kings a_pawns ) fun r_2 => if r_2 = 0 then ob (m_X0_passers v_mover v_passed a_kinds a_sides a_rays a_knights a_kings a_pawns ) fun r_5 => if (lg_cmp r_5 0) = 0 then m_X5_useUp_b76 t1 0 v_at a_chars v_mover v_rights (-1) v_halves v_number v_balance a_men a_kinds a_sides a_rays a_knights a_kings a_pawns a_table r_2 else m_X5_useUp_b76 t1 0 v_at a_chars v_mover v_rights v_passed v_halves v_number v_balance a_men a_kinds a_sides a_rays a_knights a_kings a_pawns a_table r_2 else m_X5_useUp_b76 t1 0 v_at a_chars v_mover v_rights v_passed v_halves v_number v_balance a_men a_kinds a_sides a_rays a_knights a_kings a_pawns a_table r_2
def m_X5_useUp (v_wrongAt : Int32) (v_length : Int32) (v_at : Int32) (a_chars : Nat → Int32) (v_mover : Int32) (v_rights : Int32) (v_passed : Int32) (v_halves : Int32) (v_number : Int32) (v_balance : Int32) (a_men : Nat → Int32) (a_kinds : Nat → Int64) (a_sides : Nat → Int64) (a_rays : Nat → Int64) (a_knights : Nat → Int64) (a_kings : Nat → Int64) (a_pawns : Nat → Int64) (a_table : Nat → Int32) : Option (Int32 × Int32 × Int32 × Int32 × Int32 × Int32 × Int32 × Int32 × Int32 × Int32 × (Nat → Int32) × (Nat → Int64) × (Nat → Int64)) := ob (m_X0_clear v_mover v_rights v_passed v_halves v_number v_balance a_men a_kinds a_sides ) fun (v_mover_8, v_rights_9, v_passed_10, v_halves_11, v_number_12, v_balance_13, a_men_14, a_kinds_15, a_sides_16) => ob (m_X5_readAll v_length 0 a_chars v_mover_8 v_rights_9 v_passed_10 v_halves_11 v_number_12 v_balance_13 a_men_14 a_kinds_15 a_sides_16 a_table ) fun (r_18, v_at_19, v_mover_20, v_rights_21, v_passed_22, v_halves_23, v_number_24, v_balance_25, a_men_26, a_kinds_27, a_sides_28) => if r_18 = 0 then m_X5_useUp_b30 v_wrongAt v_length v_at_19 a_chars v_mover_20 v_rights_21 v_passed_22 v_halves_23 v_number_24 v_balance_25 a_men_26 a_kinds_27 a_sides_28 a_rays a_knights a_kings a_pawns a_table r_18 v_at_19 else m_X5_useUp_b30 v_wrongAt v_length v_at_19 a_chars v_mover_20 v_rights_21 v_passed_22 v_halves_23 v_number_24 v_balance_25 a_men_26 a_kinds_27 a_sides_28 a_rays a_knights a_kings a_pawns a_table r_18 (-1)
abbrev rm_X5_useUp : Room := { frames := 8, cells := 0, slots := 0, locals := 178 }
abbrev wy_X5_useUp : List Cond := .code yX5_useUp cX5_useUp 3 (some .int) :: gT
theorem cv_X5_useUp {R : Room} {s : State} {args : Array Value} {own : String} {index : Nat} {w0 : Cond} (hts : ∀ w ∈ w0 :: gT, w.before args s = true) (hl : Cond.methodLink own index yX5_useUp ∈ gT) (hR : 8 + 1 ≤ R.frames ∧ 8 + (3 + 11) + 178 ≤ R.locals) : CallW R s args own RX5 index yX5_useUp cX5_useUp 3 (some .int) wy_X5_useUp rm_X5_useUp 0 0 0 :=
  cwV 0 hts (gT_call w0 (pre := [.methodLink own index yX5_useUp, .instanceMethod yX5_useUp, .selects RX5 yX5_useUp yX5_useUp, .initialized RX5]) (gT_lc hl (gT_lc ly_yX5_useUp (gT_lc lx_yX5_useUp (gT_l1 li_RX5)))) lc_yX5_useUp) rfl rfl rfl (by decide +kernel) hR
set_option maxRecDepth 100000 in
set_option maxHeartbeats 4000000 in
theorem c_X5_useUp (l : Launch) (D : va_G) (qr : Nat → Nat) (qd : Nat → Nat) (ql : Nat → Nat) (qw : Nat → Nat) (cI : ClassId) (cJ : ClassId) (cC : ClassId) (tq : Nat → Nat) (v_wrongAt : Int32) (v_length : Int32) (v_at : Int32) (a_chars : Nat → Int32) (v_mover : Int32) (v_rights : Int32) (v_passed : Int32) (v_halves : Int32) (v_number : Int32) (v_balance : Int32) (a_men : Nat → Int32) (a_kinds : Nat → Int64) (a_sides : Nat → Int64) (a_rays : Nat → Int64) (a_knights : Nat → Int64) (a_kings : Nat → Int64) (a_pawns : Nat → Int64) (a_table : Nat → Int32) (rv : Int32) (v_wrongAt' : Int32) (v_length' : Int32) (v_at' : Int32) (v_mover' : Int32) (v_rights' : Int32) (v_passed' : Int32) (v_halves' : Int32) (v_number' : Int32) (v_balance' : Int32) (a_men' : Nat → Int32) (a_kinds' : Nat → Int64) (a_sides' : Nat → Int64) (hm : m_X5_useUp v_wrongAt v_length v_at a_chars v_mover v_rights v_passed v_halves v_number v_balance a_men a_kinds a_sides a_rays a_knights a_kings a_pawns a_table = some (rv, v_wrongAt', v_length', v_at', v_mover', v_rights', v_passed', v_halves', v_number', v_balance', a_men', a_kinds', a_sides')) : kEi l yX5_useUp wy_X5_useUp rm_X5_useUp D [(cI, .int), (cJ, .long), (cC, .char)] tq rv (wRe qr qd ql qw cI cJ cC v_wrongAt v_length v_at a_chars v_mover v_rights v_passed v_halves v_number v_balance a_men a_kinds a_sides a_rays a_knights a_kings a_pawns a_table) (wRe qr qd ql qw cI cJ cC v_wrongAt' v_length' v_at' a_chars v_mover' v_rights' v_passed' v_halves' v_number' v_balance' a_men' a_kinds' a_sides' a_rays a_knights a_kings a_pawns a_table) [.ref (qr 0)] := by
  refine kEi.of cX5_useUp 3 (some .int) (by decide) rfl (Or.inl rfl) (Nat.le_of_ble_eq_true rfl) ?_
  intro p e s m below meth c A Q C hJ hret
  have hin0 : ∀ w ∈ wsX00, w ∈ wy_X5_useUp := fun w h => List.mem_cons_of_mem _ (inG0 w h)
  have hin3 : ∀ w ∈ wsX30, w ∈ wy_X5_useUp := fun w h => List.mem_cons_of_mem _ (inG3 w h)
  have hin5 : ∀ w ∈ wsX50, w ∈ wy_X5_useUp := fun w h => List.mem_cons_of_mem _ (inG5 w h)
  have hin7 : ∀ w ∈ wsX70, w ∈ wy_X5_useUp := fun w h => List.mem_cons_of_mem _ (inG7 w h)
  have j76 : ∀ (v_wrongAt : Int32) (v_length : Int32) (v_at : Int32) (v_mover : Int32) (v_rights : Int32) (v_passed : Int32) (v_halves : Int32) (v_number : Int32) (v_balance : Int32) (a_men : Nat → Int32) (a_kinds : Nat → Int64) (a_sides : Nat → Int64) (x2 : Int32), m_X5_useUp_b76  v_wrongAt v_length v_at a_chars v_mover v_rights v_passed v_halves v_number v_balance a_men a_kinds a_sides a_rays a_knights a_kings a_pawns a_table x2 = some (rv, v_wrongAt', v_length', v_at', v_mover', v_rights', v_passed', v_halves', v_number', v_balance', a_men', a_kinds', a_sides') → kv p l e rm_X5_useUp s m ([.ref (qr 0)] : List Value).toArray below meth c D A 3 0 0 Q (wRe qr qd ql qw cI cJ cC v_wrongAt v_length v_at a_chars v_mover v_rights v_passed v_halves v_number v_balance a_men a_kinds a_sides a_rays a_knights a_kings a_pawns a_table) [(2, .int x2)] 76 [] := by
    intro v_wrongAt v_length v_at v_mover v_rights v_passed v_halves v_number v_balance a_men a_kinds a_sides x2 h
    unfold m_X5_useUp_b76 at h
    refine kv_iload_n C 0 dX5_useUp_76 rfl rfl ?_
    cases h
    exact hret _ _ dX5_useUp_77 (fun q => by cases q)
  have j30 : ∀ (v_wrongAt : Int32) (v_length : Int32) (v_at : Int32) (v_mover : Int32) (v_rights : Int32) (v_passed : Int32) (v_halves : Int32) (v_number : Int32) (v_balance : Int32) (a_men : Nat → Int32) (a_kinds : Nat → Int64) (a_sides : Nat → Int64) (x1 : Int32) (t1 : Int32), m_X5_useUp_b30  v_wrongAt v_length v_at a_chars v_mover v_rights v_passed v_halves v_number v_balance a_men a_kinds a_sides a_rays a_knights a_kings a_pawns a_table x1 t1 = some (rv, v_wrongAt', v_length', v_at', v_mover', v_rights', v_passed', v_halves', v_number', v_balance', a_men', a_kinds', a_sides') → kv p l e rm_X5_useUp s m ([.ref (qr 0)] : List Value).toArray below meth c D A 3 0 0 Q (wRe qr qd ql qw cI cJ cC v_wrongAt v_length v_at a_chars v_mover v_rights v_passed v_halves v_number v_balance a_men a_kinds a_sides a_rays a_knights a_kings a_pawns a_table) [(0, .ref (qr 0)), (1, .int x1)] 30 [.int t1, .ref (qr 0)] := by
    intro v_wrongAt v_length v_at v_mover v_rights v_passed v_halves v_number v_balance a_men a_kinds a_sides x1 t1 h
    unfold m_X5_useUp_b30 at h
    refine kv_put C (Cn := RX5) (T := TX5) (N := 5) (ty := .int) (ws1 := (wRe qr qd ql qw cI cJ cC t1 v_length v_at a_chars v_mover v_rights v_passed v_halves v_number v_balance a_men a_kinds a_sides a_rays a_knights a_kings a_pawns a_table)) 0 1 hin5 tyX5 tyX5_ok nmX5 rfl rfl (by decide) (C.ts _ (List.mem_cons_of_mem _ lf_RX5_15)) rfl rfl (by decide +kernel) rfl rfl (Nat.le_of_ble_eq_true rfl) rfl dX5_useUp_30 ?_
    refine kv_aload_n C 0 dX5_useUp_33 rfl rfl ?_
    refine kv_iconst C 0 dX5_useUp_34 (by decide) ?_
    refine kv_put C (Cn := RX5) (T := TX5) (N := 5) (ty := .int) (ws1 := (wRe qr qd ql qw cI cJ cC t1 0 v_at a_chars v_mover v_rights v_passed v_halves v_number v_balance a_men a_kinds a_sides a_rays a_knights a_kings a_pawns a_table)) 0 3 hin5 tyX5 tyX5_ok nmX5 rfl rfl (by decide) (C.ts _ (List.mem_cons_of_mem _ lf_RX5_29)) rfl rfl (by decide +kernel) rfl rfl (Nat.le_of_ble_eq_true rfl) rfl dX5_useUp_35 ?_
    refine kv_iload_n C 1 dX5_useUp_38 rfl rfl ?_
    refine kv_if_ne C 44 dX5_useUp_39 (by decide) (fun c_1 => ?_) (fun c_1 => ?_)
    · have h := oi_f h c_1
      refine kv_aload_n C 0 dX5_useUp_44 rfl rfl ?_
      refine kv_get C (Cn := RX5) (T := TX5) (N := 5) 0 0 hin5 rfl rfl (by decide) (C.ts _ (List.mem_cons_of_mem _ lf_RX5_9)) rfl rfl dX5_useUp_45 ?_
      obtain ⟨r_2, hm_3, h⟩ := ob_e h
      refine kv_eSi (ws2 := (wRe qr qd ql qw cI cJ cC t1 0 v_at a_chars v_mover v_rights v_passed v_halves v_number v_balance a_men a_kinds a_sides a_rays a_knights a_kings a_pawns a_table)) C hJ [.ref (qd 0)] (c_X1_of l D qd ql qw cI cJ tq v_mover v_rights v_passed v_halves v_number v_balance a_men a_kinds a_sides a_rays a_knights a_kings a_pawns a_table  r_2 hm_3) (cs_X1_of C.ts lm_RX5_44 ⟨Nat.le_of_ble_eq_true rfl, Nat.le_of_ble_eq_true rfl⟩) [2, 3, 4, 5, 6, 7, 8, 9, 10, 11, 12] [0, 1] [0, 1] [0, 1, 2, 3, 4, 5, 6, 7, 8, 9, 10, 11, 12] rfl rfl rfl rfl rfl (by decide) rfl rfl rfl (Nat.le_of_ble_eq_true rfl) dX5_useUp_48 ⟨Nat.zero_le _, Nat.zero_le _⟩ rfl rfl rfl ?_
      refine kv_istore_n C (lv2 := [(0, .ref (qr 0)), (2, .int r_2)]) [1, 0] dX5_useUp_51 rfl (by decide) rfl rfl ?_
      refine kv_iload_n C 1 dX5_useUp_52 rfl rfl ?_
      refine kv_if_ne C 76 dX5_useUp_53 (by decide) (fun c_4 => ?_) (fun c_4 => ?_)
      · have h := oi_f h c_4
        exact kv_lv [1] (lv2 := [(2, .int r_2)]) rfl (j76 t1 0 v_at v_mover v_rights v_passed v_halves v_number v_balance a_men a_kinds a_sides r_2 h)
      · have h := oi_t h c_4
        refine kv_aload_n C 0 dX5_useUp_56 rfl rfl ?_
        refine kv_get C (Cn := RX5) (T := TX5) (N := 5) 0 0 hin5 rfl rfl (by decide) (C.ts _ (List.mem_cons_of_mem _ lf_RX5_9)) rfl rfl dX5_useUp_57 ?_
        obtain ⟨r_5, hm_6, h⟩ := ob_e h
        refine kv_eVl (ws2 := (wRe qr qd ql qw cI cJ cC t1 0 v_at a_chars v_mover v_rights v_passed v_halves v_number v_balance a_men a_kinds a_sides a_rays a_knights a_kings a_pawns a_table)) C hJ [] 0 (c_X0_passers l D qd ql qw cI cJ tq v_mover v_rights v_passed v_halves v_number v_balance a_men a_kinds a_sides a_rays a_knights a_kings a_pawns a_table  r_5 hm_6) (cv_X0_passers C.ts lm_RX5_50 ⟨Nat.le_of_ble_eq_true rfl, Nat.le_of_ble_eq_true rfl⟩) rfl rfl [2, 3, 4, 5, 6, 7, 8, 9, 10, 11, 12] [0, 1] [0, 1] [0, 1, 2, 3, 4, 5, 6, 7, 8, 9, 10, 11, 12] rfl rfl rfl rfl rfl (by decide) rfl rfl rfl (Nat.le_of_ble_eq_true rfl) dX5_useUp_60 ⟨Nat.zero_le _, Nat.zero_le _⟩ rfl rfl rfl ?_
        refine kv_lconst C 0 dX5_useUp_63 (by decide) ?_
        refine kv_lcmp C dX5_useUp_64 ?_
        refine kv_if_ne C 76 dX5_useUp_65 (by decide) (fun c_7 => ?_) (fun c_7 => ?_)
        · have h := oi_f h c_7
          exact kv_lv [1] (lv2 := [(2, .int r_2)]) rfl (j76 t1 0 v_at v_mover v_rights v_passed v_halves v_number v_balance a_men a_kinds a_sides r_2 h)
        · have h := oi_t h c_7
          refine kv_aload_n C 0 dX5_useUp_68 rfl rfl ?_
          refine kv_get C (Cn := RX5) (T := TX5) (N := 5) 0 0 hin5 rfl rfl (by decide) (C.ts _ (List.mem_cons_of_mem _ lf_RX5_9)) rfl rfl dX5_useUp_69 ?_
          refine kv_iconst C (-1) dX5_useUp_72 (by decide) ?_
          refine kv_put C (Cn := RX0) (T := TX0) (N := 11) (ty := .int) (ws1 := (wRe qr qd ql qw cI cJ cC t1 0 v_at a_chars v_mover v_rights (-1) v_halves v_number v_balance a_men a_kinds a_sides a_rays a_knights a_kings a_pawns a_table)) 2 7 hin0 tyX0 tyX0_ok nmX0 rfl rfl (by decide) (C.ts _ (List.mem_cons_of_mem _ lf_RX5_54)) rfl rfl (by decide +kernel) rfl rfl (Nat.le_of_ble_eq_true rfl) rfl dX5_useUp_73 ?_
          exact kv_lv [1] (lv2 := [(2, .int r_2)]) rfl (j76 t1 0 v_at v_mover v_rights (-1) v_halves v_number v_balance a_men a_kinds a_sides r_2 h)
    · have h := oi_t h c_1
      refine kv_iconst C 1 dX5_useUp_42 (by decide) ?_
      cases h
      exact hret _ _ dX5_useUp_43 (fun q => by cases q)
  unfold m_X5_useUp at hm
  have h := hm
  refine kv_lv [0] (lv2 := [(0, .ref (qr 0))]) rfl ?_
  refine kv_aload_n C 0 dX5_useUp_0 rfl rfl ?_
  refine kv_get C (Cn := RX5) (T := TX5) (N := 5) 0 0 hin5 rfl rfl (by decide) (C.ts _ (List.mem_cons_of_mem _ lf_RX5_9)) rfl rfl dX5_useUp_1 ?_
  obtain ⟨⟨v_mover_8, v_rights_9, v_passed_10, v_halves_11, v_number_12, v_balance_13, a_men_14, a_kinds_15, a_sides_16⟩, hm_17, h⟩ := ob_e h
  replace h : _ = _ := h
  refine kv_eVv (ws2 := (wRe qr qd ql qw cI cJ cC v_wrongAt v_length v_at a_chars v_mover_8 v_rights_9 v_passed_10 v_halves_11 v_number_12 v_balance_13 a_men_14 a_kinds_15 a_sides_16 a_rays a_knights a_kings a_pawns a_table)) C hJ [] 0 (c_X0_clear l D qd ql qw cI cJ tq v_mover v_rights v_passed v_halves v_number v_balance a_men a_kinds a_sides a_rays a_knights a_kings a_pawns a_table  v_mover_8 v_rights_9 v_passed_10 v_halves_11 v_number_12 v_balance_13 a_men_14 a_kinds_15 a_sides_16 hm_17) (cv_X0_clear C.ts lm_RX5_32 ⟨Nat.le_of_ble_eq_true rfl, Nat.le_of_ble_eq_true rfl⟩) rfl rfl [2, 3, 4, 5, 6, 7, 8, 9, 10, 11, 12] [0, 1] [0, 1] [0, 1, 2, 3, 4, 5, 6, 7, 8, 9, 10, 11, 12] rfl rfl rfl rfl rfl (by decide) rfl rfl rfl (Nat.le_of_ble_eq_true rfl) dX5_useUp_4 ⟨Nat.zero_le _, Nat.zero_le _⟩ rfl rfl rfl ?_
  refine kv_aload_n C 0 dX5_useUp_7 rfl rfl ?_
  refine kv_iconst C 0 dX5_useUp_8 (by decide) ?_
  refine kv_put C (Cn := RX5) (T := TX5) (N := 5) (ty := .int) (ws1 := (wRe qr qd ql qw cI cJ cC v_wrongAt v_length 0 a_chars v_mover_8 v_rights_9 v_passed_10 v_halves_11 v_number_12 v_balance_13 a_men_14 a_kinds_15 a_sides_16 a_rays a_knights a_kings a_pawns a_table)) 0 4 hin5 tyX5 tyX5_ok nmX5 rfl rfl (by decide) (C.ts _ (List.mem_cons_of_mem _ lf_RX5_37)) rfl rfl (by decide +kernel) rfl rfl (Nat.le_of_ble_eq_true rfl) rfl dX5_useUp_9 ?_
  refine kv_aload_n C 0 dX5_useUp_12 rfl rfl ?_
  obtain ⟨⟨r_18, v_at_19, v_mover_20, v_rights_21, v_passed_22, v_halves_23, v_number_24, v_balance_25, a_men_26, a_kinds_27, a_sides_28⟩, hm_29, h⟩ := ob_e h
  replace h : _ = _ := h
  refine kv_eVi (ws2 := (wRe qr qd ql qw cI cJ cC v_wrongAt v_length v_at_19 a_chars v_mover_20 v_rights_21 v_passed_22 v_halves_23 v_number_24 v_balance_25 a_men_26 a_kinds_27 a_sides_28 a_rays a_knights a_kings a_pawns a_table)) C hJ [] 0 (c_X5_readAll l D qr qd ql qw cI cJ cC tq v_wrongAt v_length 0 a_chars v_mover_8 v_rights_9 v_passed_10 v_halves_11 v_number_12 v_balance_13 a_men_14 a_kinds_15 a_sides_16 a_rays a_knights a_kings a_pawns a_table  r_18 v_at_19 v_mover_20 v_rights_21 v_passed_22 v_halves_23 v_number_24 v_balance_25 a_men_26 a_kinds_27 a_sides_28 hm_29) (cv_X5_readAll C.ts lm_RX5_40 ⟨Nat.le_of_ble_eq_true rfl, Nat.le_of_ble_eq_true rfl⟩) rfl rfl [0, 1, 2, 3, 4, 5, 6, 7, 8, 9, 10, 11, 12] [] [0, 1, 2] [0, 1, 2, 3, 4, 5, 6, 7, 8, 9, 10, 11, 12] rfl rfl rfl rfl rfl (by decide) rfl rfl rfl (Nat.le_of_ble_eq_true rfl) dX5_useUp_13 ⟨Nat.zero_le _, Nat.zero_le _⟩ rfl rfl rfl ?_
  refine kv_istore_n C (lv2 := [(0, .ref (qr 0)), (1, .int r_18)]) [1, 0] dX5_useUp_16 rfl (by decide) rfl rfl ?_
  refine kv_aload_n C 0 dX5_useUp_17 rfl rfl ?_
  refine kv_iload_n C 1 dX5_useUp_18 rfl rfl ?_
  refine kv_if_eq C 26 dX5_useUp_19 (by decide) (fun c_30 => ?_) (fun c_30 => ?_)
  · have h := oi_t h c_30
    refine kv_aload_n C 0 dX5_useUp_26 rfl rfl ?_
    refine kv_get C (Cn := RX5) (T := TX5) (N := 5) 0 4 hin5 rfl rfl (by decide) (C.ts _ (List.mem_cons_of_mem _ lf_RX5_37)) rfl rfl dX5_useUp_27 ?_
    exact kv_lv [0, 1] (lv2 := [(0, .ref (qr 0)), (1, .int r_18)]) rfl (j30 v_wrongAt v_length v_at_19 v_mover_20 v_rights_21 v_passed_22 v_halves_23 v_number_24 v_balance_25 a_men_26 a_kinds_27 a_sides_28 r_18 v_at_19 h)
  · have h := oi_f h c_30
    refine kv_iconst C (-1) dX5_useUp_22 (by decide) ?_
    refine kv_goto C 30 dX5_useUp_23 (by decide) ?_
    exact kv_lv [0, 1] (lv2 := [(0, .ref (qr 0)), (1, .int r_18)]) rfl (j30 v_wrongAt v_length v_at_19 v_mover_20 v_rights_21 v_passed_22 v_halves_23 v_number_24 v_balance_25 a_men_26 a_kinds_27 a_sides_28 r_18 (-1) h)
