/-! The class: X1_hasWrongCount, X1_hasWrongRight, X1_hasWrongPassed, X1_of, X2_becomesAnother, X2_lookAlong, X2_lookAround, X2_pawnGoals, X2_goalsOf, X2_goalsByRight, X2_kingGoals, X2_survey, X2_hasNone, X2_count, X2_list -/
def m_X1_hasWrongCount_b37 (a_kinds : Nat → Int64) (a_sides : Nat → Int64) (t0 : Int32) : Option (Int32) := obl (t0) (some t0)
def m_X1_hasWrongCount_b32 (a_kinds : Nat → Int64) (a_sides : Nat → Int64) : Option (Int32) := m_X1_hasWrongCount_b37 a_kinds a_sides 1
def m_X1_hasWrongCount (a_kinds : Nat → Int64) (a_sides : Nat → Int64) (p1 : Int32) : Option (Int32) := oin (p1) 2 (ol (a_sides p1.toNatClampNeg) fun x2_3 => ob (m_J13_bitCount_95d88 (x2_3 &&& (a_kinds (Int32.toNatClampNeg 6)))) fun r_4 => if r_4 = 1 then ob (m_J13_bitCount_95d88 x2_3) fun r_7 => if r_7 ≤ 16 then m_X1_hasWrongCount_b37 a_kinds a_sides 0 else m_X1_hasWrongCount_b32 a_kinds a_sides else m_X1_hasWrongCount_b32 a_kinds a_sides)
abbrev rm_X1_hasWrongCount : Room := { frames := 1, cells := 0, slots := 0, locals := 21 }
abbrev wy_X1_hasWrongCount : List Cond := .code yX1_hasWrongCount cX1_hasWrongCount 4 (some .boolean) :: gT
theorem cs_X1_hasWrongCount {R : Room} {s : State} {args : Array Value} {own : String} {index : Nat} {w0 : Cond} (hts : ∀ w ∈ w0 :: gT, w.before args s = true) (hl : Cond.methodLink own index yX1_hasWrongCount ∈ gT) (hR : 1 + 1 ≤ R.frames ∧ 8 + (4 + 11) + 21 ≤ R.locals) : CallB R s args own index yX1_hasWrongCount cX1_hasWrongCount 4 (some .boolean) wy_X1_hasWrongCount rm_X1_hasWrongCount 0 0 2 ∧ (Cond.static yX1_hasWrongCount).before args s = true :=
  va_cwS 2 hts (gT_call w0 (pre := [.methodLink own index yX1_hasWrongCount, .static yX1_hasWrongCount, .initialized yX1_hasWrongCount.cls]) (gT_lc hl (gT_lc ls_yX1_hasWrongCount (gT_l1 li_RX1))) lc_yX1_hasWrongCount) rfl rfl rfl (by decide +kernel) hR
set_option maxRecDepth 100000 in
set_option maxHeartbeats 4000000 in
theorem c_X1_hasWrongCount (l : Launch) (D : va_G) (qb : Nat → Nat) (ql : Nat → Nat) (qw : Nat → Nat) (cI : ClassId) (cJ : ClassId) (tq : Nat → Nat) (v_mover : Int32) (v_rights : Int32) (v_passed : Int32) (v_halves : Int32) (v_number : Int32) (v_balance : Int32) (a_men : Nat → Int32) (a_kinds : Nat → Int64) (a_sides : Nat → Int64) (a_rays : Nat → Int64) (a_knights : Nat → Int64) (a_kings : Nat → Int64) (a_pawns : Nat → Int64) (a_table : Nat → Int32) (p1 : Int32) (rv : Int32) (hm : m_X1_hasWrongCount a_kinds a_sides p1 = some rv) : kEi l yX1_hasWrongCount wy_X1_hasWrongCount rm_X1_hasWrongCount D [(cI, .int), (cJ, .long)] tq rv (wBo qb ql qw cI cJ v_mover v_rights v_passed v_halves v_number v_balance a_men a_kinds a_sides a_rays a_knights a_kings a_pawns a_table) (wBo qb ql qw cI cJ v_mover v_rights v_passed v_halves v_number v_balance a_men a_kinds a_sides a_rays a_knights a_kings a_pawns a_table) [.ref (qb 0), .int p1] := by
  refine kEi.of cX1_hasWrongCount 4 (some .boolean) (by decide) rfl (Or.inr rfl) (Nat.le_of_ble_eq_true rfl) ?_
  intro p e s m below meth c A Q C hJ hret
  have hin0 : ∀ w ∈ wsX00, w ∈ wy_X1_hasWrongCount := fun w h => List.mem_cons_of_mem _ (inG0 w h)
  have hin3 : ∀ w ∈ wsX30, w ∈ wy_X1_hasWrongCount := fun w h => List.mem_cons_of_mem _ (inG3 w h)
  have hin7 : ∀ w ∈ wsX70, w ∈ wy_X1_hasWrongCount := fun w h => List.mem_cons_of_mem _ (inG7 w h)
  have j37 : ∀ (t0 : Int32), m_X1_hasWrongCount_b37  a_kinds a_sides t0 = some rv → kv p l e rm_X1_hasWrongCount s m ([.ref (qb 0), .int p1] : List Value).toArray below meth c D A 4 0 0 Q (wBo qb ql qw cI cJ v_mover v_rights v_passed v_halves v_number v_balance a_men a_kinds a_sides a_rays a_knights a_kings a_pawns a_table) [] 37 [.int t0] := by
    intro t0 h
    unfold m_X1_hasWrongCount_b37 at h
    obtain ⟨g_1, h⟩ := obl_e h
    cases h
    exact hret _ _ dX1_hasWrongCount_37 (fun _ => g_1)
  have j32 : m_X1_hasWrongCount_b32  a_kinds a_sides  = some rv → kv p l e rm_X1_hasWrongCount s m ([.ref (qb 0), .int p1] : List Value).toArray below meth c D A 4 0 0 Q (wBo qb ql qw cI cJ v_mover v_rights v_passed v_halves v_number v_balance a_men a_kinds a_sides a_rays a_knights a_kings a_pawns a_table) [] 32 [] := by
    intro  h
    unfold m_X1_hasWrongCount_b32 at h
    refine kv_iconst C 1 dX1_hasWrongCount_32 (by decide) ?_
    refine kv_goto C 37 dX1_hasWrongCount_33 (by decide) ?_
    exact kv_lv [] (lv2 := []) rfl (j37 1 h)
  unfold m_X1_hasWrongCount at hm
  have h := hm
  refine kv_lv [0, 1] (lv2 := [(0, .ref (qb 0)), (1, .int p1)]) rfl ?_
  refine kv_aload_n C 0 dX1_hasWrongCount_0 rfl rfl ?_
  refine kv_get C (Cn := RX0) (T := TX0) (N := 11) 0 4 hin0 rfl rfl (by decide) (C.ts _ (List.mem_cons_of_mem _ lf_RX1_41)) rfl rfl dX1_hasWrongCount_1 ?_
  refine kv_iload_n C 1 dX1_hasWrongCount_4 rfl rfl ?_
  obtain ⟨g_2, h⟩ := oin_e h
  refine kv_lald C 3 1 rfl rfl g_2 dX1_hasWrongCount_5 ?_
  obtain ⟨x2_3, ex2_3, h⟩ := ol_e h
  refine kv_topl ex2_3 ?_
  refine kv_lstore_n C (lv2 := [(0, .ref (qb 0)), (2, .long x2_3)]) [1, 0] dX1_hasWrongCount_6 rfl (by decide) rfl rfl ?_
  refine kv_lload_n C 1 dX1_hasWrongCount_7 rfl rfl ?_
  refine kv_aload_n C 0 dX1_hasWrongCount_8 rfl rfl ?_
  refine kv_get C (Cn := RX0) (T := TX0) (N := 11) 0 3 hin0 rfl rfl (by decide) (C.ts _ (List.mem_cons_of_mem _ lf_RX1_15)) rfl rfl dX1_hasWrongCount_9 ?_
  refine kv_bipush C 6 dX1_hasWrongCount_12 (by decide) ?_
  refine kv_lald C 2 1 rfl rfl (by unfold vp_in; decide) dX1_hasWrongCount_14 ?_
  refine kv_land C dX1_hasWrongCount_15 ?_
  obtain ⟨r_4, hm_5, h⟩ := ob_e h
  refine kv_callS0i C [.long (x2_3 &&& (a_kinds (Int32.toNatClampNeg 6)))] (c_J13_bitCount_95d88 l D (x2_3 &&& (a_kinds (Int32.toNatClampNeg 6))) r_4 hm_5) (cs_J13_bitCount_95d88 C.ts lm_RX1_44 ⟨Nat.le_of_ble_eq_true rfl, Nat.le_of_ble_eq_true rfl⟩) rfl rfl (Nat.le_of_ble_eq_true rfl) dX1_hasWrongCount_16 ⟨Nat.zero_le _, Nat.zero_le _⟩ ?_
  refine kv_iconst C 1 dX1_hasWrongCount_19 (by decide) ?_
  refine kv_icmp_ne C 32 dX1_hasWrongCount_20 (by decide) (fun c_6 => ?_) (fun c_6 => ?_)
  · have h := oi_f h c_6
    exact kv_lv [] (lv2 := []) rfl (j32  h)
  · have h := oi_t h c_6
    refine kv_lload_n C 1 dX1_hasWrongCount_23 rfl rfl ?_
    obtain ⟨r_7, hm_8, h⟩ := ob_e h
    refine kv_callS0i C [.long x2_3] (c_J13_bitCount_95d88 l D x2_3 r_7 hm_8) (cs_J13_bitCount_95d88 C.ts lm_RX1_44 ⟨Nat.le_of_ble_eq_true rfl, Nat.le_of_ble_eq_true rfl⟩) rfl rfl (Nat.le_of_ble_eq_true rfl) dX1_hasWrongCount_24 ⟨Nat.zero_le _, Nat.zero_le _⟩ ?_
    refine kv_bipush C 16 dX1_hasWrongCount_27 (by decide) ?_
    refine kv_icmp_le C 36 dX1_hasWrongCount_29 (by decide) (fun c_9 => ?_) (fun c_9 => ?_)
    · have h := oi_t h c_9
      refine kv_iconst C 0 dX1_hasWrongCount_36 (by decide) ?_
      exact kv_lv [] (lv2 := []) rfl (j37 0 h)
    · have h := oi_f h c_9
      exact kv_lv [] (lv2 := []) rfl (j32  h)
def m_X1_hasWrongRight_b93 (v_rights : Int32) (a_men : Nat → Int32) (t0 : Int32) : Option (Int32) := obl (t0) (some t0)
def m_X1_hasWrongRight_b92 (v_rights : Int32) (a_men : Nat → Int32) : Option (Int32) := m_X1_hasWrongRight_b93 v_rights a_men 0
def m_X1_hasWrongRight_b88 (v_rights : Int32) (a_men : Nat → Int32) : Option (Int32) := m_X1_hasWrongRight_b93 v_rights a_men 1
def m_X1_hasWrongRight_b69 (v_rights : Int32) (a_men : Nat → Int32) (x2 : Int32) (x3 : Int32) (x4 : Int32) : Option (Int32) := if (x2 &&& 2) = 0 then m_X1_hasWrongRight_b92 v_rights a_men else oin (x3) 64 (if (a_men x3.toNatClampNeg) = (x4 * 4) then m_X1_hasWrongRight_b92 v_rights a_men else m_X1_hasWrongRight_b88 v_rights a_men)
def m_X1_hasWrongRight_b47 (v_rights : Int32) (a_men : Nat → Int32) (x2 : Int32) (x3 : Int32) (x4 : Int32) : Option (Int32) := if (x2 &&& 1) = 0 then m_X1_hasWrongRight_b69 v_rights a_men x2 x3 x4 else oin (x3 + 7) 64 (if (a_men (x3 + 7).toNatClampNeg) = (x4 * 4) then m_X1_hasWrongRight_b69 v_rights a_men x2 x3 x4 else m_X1_hasWrongRight_b88 v_rights a_men)
def m_X1_hasWrongRight_b25 (v_rights : Int32) (a_men : Nat → Int32) (x2 : Int32) (x3 : Int32) (t0 : Int32) : Option (Int32) := if x2 = 0 then m_X1_hasWrongRight_b47 v_rights a_men x2 x3 t0 else oin (x3 + 4) 64 (if (a_men (x3 + 4).toNatClampNeg) = (t0 * 6) then m_X1_hasWrongRight_b47 v_rights a_men x2 x3 t0 else m_X1_hasWrongRight_b88 v_rights a_men)
def m_X1_hasWrongRight (v_rights : Int32) (a_men : Nat → Int32) (p1 : Int32) : Option (Int32) := ol ((v_rights >>> (((2 : Int32) * p1) &&& 31)) &&& 3) fun x2_11 => ol ((56 : Int32) * p1) fun x3_12 => if p1 = 0 then m_X1_hasWrongRight_b25 v_rights a_men x2_11 x3_12 1 else m_X1_hasWrongRight_b25 v_rights a_men x2_11 x3_12 (-1)
abbrev rm_X1_hasWrongRight : Room := { frames := 0, cells := 0, slots := 0, locals := 0 }
abbrev wy_X1_hasWrongRight : List Cond := .code yX1_hasWrongRight cX1_hasWrongRight 5 (some .boolean) :: gT
theorem cs_X1_hasWrongRight {R : Room} {s : State} {args : Array Value} {own : String} {index : Nat} {w0 : Cond} (hts : ∀ w ∈ w0 :: gT, w.before args s = true) (hl : Cond.methodLink own index yX1_hasWrongRight ∈ gT) (hR : 0 + 1 ≤ R.frames ∧ 8 + (5 + 11) + 0 ≤ R.locals) : CallB R s args own index yX1_hasWrongRight cX1_hasWrongRight 5 (some .boolean) wy_X1_hasWrongRight rm_X1_hasWrongRight 0 0 2 ∧ (Cond.static yX1_hasWrongRight).before args s = true :=
  va_cwS 2 hts (gT_call w0 (pre := [.methodLink own index yX1_hasWrongRight, .static yX1_hasWrongRight, .initialized yX1_hasWrongRight.cls]) (gT_lc hl (gT_lc ls_yX1_hasWrongRight (gT_l1 li_RX1))) lc_yX1_hasWrongRight) rfl rfl rfl (by decide +kernel) hR
set_option maxRecDepth 100000 in
set_option maxHeartbeats 4000000 in
theorem c_X1_hasWrongRight (l : Launch) (D : va_G) (qb : Nat → Nat) (ql : Nat → Nat) (qw : Nat → Nat) (cI : ClassId) (cJ : ClassId) (tq : Nat → Nat) (v_mover : Int32) (v_rights : Int32) (v_passed : Int32) (v_halves : Int32) (v_number : Int32) (v_balance : Int32) (a_men : Nat → Int32) (a_kinds : Nat → Int64) (a_sides : Nat → Int64) (a_rays : Nat → Int64) (a_knights : Nat → Int64) (a_kings : Nat → Int64) (a_pawns : Nat → Int64) (a_table : Nat → Int32) (p1 : Int32) (rv : Int32) (hm : m_X1_hasWrongRight v_rights a_men p1 = some rv) : kEi l yX1_hasWrongRight wy_X1_hasWrongRight rm_X1_hasWrongRight D [(cI, .int), (cJ, .long)] tq rv (wBo qb ql qw cI cJ v_mover v_rights v_passed v_halves v_number v_balance a_men a_kinds a_sides a_rays a_knights a_kings a_pawns a_table) (wBo qb ql qw cI cJ v_mover v_rights v_passed v_halves v_number v_balance a_men a_kinds a_sides a_rays a_knights a_kings a_pawns a_table) [.ref (qb 0), .int p1] := by
  refine kEi.of cX1_hasWrongRight 5 (some .boolean) (by decide) rfl (Or.inr rfl) (Nat.le_of_ble_eq_true rfl) ?_
  intro p e s m below meth c A Q C hJ hret
  have hin0 : ∀ w ∈ wsX00, w ∈ wy_X1_hasWrongRight := fun w h => List.mem_cons_of_mem _ (inG0 w h)
  have hin3 : ∀ w ∈ wsX30, w ∈ wy_X1_hasWrongRight := fun w h => List.mem_cons_of_mem _ (inG3 w h)
  have hin7 : ∀ w ∈ wsX70, w ∈ wy_X1_hasWrongRight := fun w h => List.mem_cons_of_mem _ (inG7 w h)
  have j93 : ∀ (t0 : Int32), m_X1_hasWrongRight_b93  v_rights a_men t0 = some rv → kv p l e rm_X1_hasWrongRight s m ([.ref (qb 0), .int p1] : List Value).toArray below meth c D A 5 0 0 Q (wBo qb ql qw cI cJ v_mover v_rights v_passed v_halves v_number v_balance a_men a_kinds a_sides a_rays a_knights a_kings a_pawns a_table) [] 93 [.int t0] := by
    intro t0 h
    unfold m_X1_hasWrongRight_b93 at h
    obtain ⟨g_1, h⟩ := obl_e h
    cases h
    exact hret _ _ dX1_hasWrongRight_93 (fun _ => g_1)
  have j92 : m_X1_hasWrongRight_b92  v_rights a_men  = some rv → kv p l e rm_X1_hasWrongRight s m ([.ref (qb 0), .int p1] : List Value).toArray below meth c D A 5 0 0 Q (wBo qb ql qw cI cJ v_mover v_rights v_passed v_halves v_number v_balance a_men a_kinds a_sides a_rays a_knights a_kings a_pawns a_table) [] 92 [] := by
    intro  h
    unfold m_X1_hasWrongRight_b92 at h
    refine kv_iconst C 0 dX1_hasWrongRight_92 (by decide) ?_
    exact kv_lv [] (lv2 := []) rfl (j93 0 h)
  have j88 : m_X1_hasWrongRight_b88  v_rights a_men  = some rv → kv p l e rm_X1_hasWrongRight s m ([.ref (qb 0), .int p1] : List Value).toArray below meth c D A 5 0 0 Q (wBo qb ql qw cI cJ v_mover v_rights v_passed v_halves v_number v_balance a_men a_kinds a_sides a_rays a_knights a_kings a_pawns a_table) [] 88 [] := by
    intro  h
    unfold m_X1_hasWrongRight_b88 at h
    refine kv_iconst C 1 dX1_hasWrongRight_88 (by decide) ?_
    refine kv_goto C 93 dX1_hasWrongRight_89 (by decide) ?_
    exact kv_lv [] (lv2 := []) rfl (j93 1 h)
  have j69 : ∀ (x2 : Int32) (x3 : Int32) (x4 : Int32), m_X1_hasWrongRight_b69  v_rights a_men x2 x3 x4 = some rv → kv p l e rm_X1_hasWrongRight s m ([.ref (qb 0), .int p1] : List Value).toArray below meth c D A 5 0 0 Q (wBo qb ql qw cI cJ v_mover v_rights v_passed v_halves v_number v_balance a_men a_kinds a_sides a_rays a_knights a_kings a_pawns a_table) [(0, .ref (qb 0)), (2, .int x2), (3, .int x3), (4, .int x4)] 69 [] := by
    intro x2 x3 x4 h
    unfold m_X1_hasWrongRight_b69 at h
    refine kv_iload_n C 1 dX1_hasWrongRight_69 rfl rfl ?_
    refine kv_iconst C 2 dX1_hasWrongRight_70 (by decide) ?_
    refine kv_iand C dX1_hasWrongRight_71 ?_
    refine kv_if_eq C 92 dX1_hasWrongRight_72 (by decide) (fun c_2 => ?_) (fun c_2 => ?_)
    · have h := oi_t h c_2
      exact kv_lv [] (lv2 := []) rfl (j92  h)
    · have h := oi_f h c_2
      refine kv_aload_n C 0 dX1_hasWrongRight_75 rfl rfl ?_
      refine kv_get C (Cn := RX0) (T := TX0) (N := 11) 0 2 hin0 rfl rfl (by decide) (C.ts _ (List.mem_cons_of_mem _ lf_RX1_53)) rfl rfl dX1_hasWrongRight_76 ?_
      refine kv_iload_n C 2 dX1_hasWrongRight_79 rfl rfl ?_
      obtain ⟨g_3, h⟩ := oin_e h
      refine kv_iald C 1 0 rfl rfl g_3 dX1_hasWrongRight_80 ?_
      refine kv_iload C 3 dX1_hasWrongRight_81 rfl ?_
      refine kv_iconst C 4 dX1_hasWrongRight_83 (by decide) ?_
      refine kv_imul C dX1_hasWrongRight_84 ?_
      refine kv_icmp_eq C 92 dX1_hasWrongRight_85 (by decide) (fun c_4 => ?_) (fun c_4 => ?_)
      · have h := oi_t h c_4
        exact kv_lv [] (lv2 := []) rfl (j92  h)
      · have h := oi_f h c_4
        exact kv_lv [] (lv2 := []) rfl (j88  h)
  have j47 : ∀ (x2 : Int32) (x3 : Int32) (x4 : Int32), m_X1_hasWrongRight_b47  v_rights a_men x2 x3 x4 = some rv → kv p l e rm_X1_hasWrongRight s m ([.ref (qb 0), .int p1] : List Value).toArray below meth c D A 5 0 0 Q (wBo qb ql qw cI cJ v_mover v_rights v_passed v_halves v_number v_balance a_men a_kinds a_sides a_rays a_knights a_kings a_pawns a_table) [(0, .ref (qb 0)), (2, .int x2), (3, .int x3), (4, .int x4)] 47 [] := by
    intro x2 x3 x4 h
    unfold m_X1_hasWrongRight_b47 at h
    refine kv_iload_n C 1 dX1_hasWrongRight_47 rfl rfl ?_
    refine kv_iconst C 1 dX1_hasWrongRight_48 (by decide) ?_
    refine kv_iand C dX1_hasWrongRight_49 ?_
    refine kv_if_eq C 69 dX1_hasWrongRight_50 (by decide) (fun c_5 => ?_) (fun c_5 => ?_)
    · have h := oi_t h c_5
      exact kv_lv [0, 1, 2, 3] (lv2 := [(0, .ref (qb 0)), (2, .int x2), (3, .int x3), (4, .int x4)]) rfl (j69 x2 x3 x4 h)
    · have h := oi_f h c_5
      refine kv_aload_n C 0 dX1_hasWrongRight_53 rfl rfl ?_
      refine kv_get C (Cn := RX0) (T := TX0) (N := 11) 0 2 hin0 rfl rfl (by decide) (C.ts _ (List.mem_cons_of_mem _ lf_RX1_53)) rfl rfl dX1_hasWrongRight_54 ?_
      refine kv_iload_n C 2 dX1_hasWrongRight_57 rfl rfl ?_
      refine kv_bipush C 7 dX1_hasWrongRight_58 (by decide) ?_
      refine kv_iadd C dX1_hasWrongRight_60 ?_
      obtain ⟨g_6, h⟩ := oin_e h
      refine kv_iald C 1 0 rfl rfl g_6 dX1_hasWrongRight_61 ?_
      refine kv_iload C 3 dX1_hasWrongRight_62 rfl ?_
      refine kv_iconst C 4 dX1_hasWrongRight_64 (by decide) ?_
      refine kv_imul C dX1_hasWrongRight_65 ?_
      refine kv_icmp_ne C 88 dX1_hasWrongRight_66 (by decide) (fun c_7 => ?_) (fun c_7 => ?_)
      · have h := oi_f h c_7
        exact kv_lv [] (lv2 := []) rfl (j88  h)
      · have h := oi_t h c_7
        exact kv_lv [0, 1, 2, 3] (lv2 := [(0, .ref (qb 0)), (2, .int x2), (3, .int x3), (4, .int x4)]) rfl (j69 x2 x3 x4 h)
  have j25 : ∀ (x2 : Int32) (x3 : Int32) (t0 : Int32), m_X1_hasWrongRight_b25  v_rights a_men x2 x3 t0 = some rv → kv p l e rm_X1_hasWrongRight s m ([.ref (qb 0), .int p1] : List Value).toArray below meth c D A 5 0 0 Q (wBo qb ql qw cI cJ v_mover v_rights v_passed v_halves v_number v_balance a_men a_kinds a_sides a_rays a_knights a_kings a_pawns a_table) [(0, .ref (qb 0)), (2, .int x2), (3, .int x3)] 25 [.int t0] := by
    intro x2 x3 t0 h
    unfold m_X1_hasWrongRight_b25 at h
    refine kv_istore C (lv2 := [(0, .ref (qb 0)), (2, .int x2), (3, .int x3), (4, .int t0)]) [1, 2, 3, 0] dX1_hasWrongRight_25 (by decide) rfl rfl ?_
    refine kv_iload_n C 1 dX1_hasWrongRight_27 rfl rfl ?_
    refine kv_if_eq C 47 dX1_hasWrongRight_28 (by decide) (fun c_8 => ?_) (fun c_8 => ?_)
    · have h := oi_t h c_8
      exact kv_lv [0, 1, 2, 3] (lv2 := [(0, .ref (qb 0)), (2, .int x2), (3, .int x3), (4, .int t0)]) rfl (j47 x2 x3 t0 h)
    · have h := oi_f h c_8
      refine kv_aload_n C 0 dX1_hasWrongRight_31 rfl rfl ?_
      refine kv_get C (Cn := RX0) (T := TX0) (N := 11) 0 2 hin0 rfl rfl (by decide) (C.ts _ (List.mem_cons_of_mem _ lf_RX1_53)) rfl rfl dX1_hasWrongRight_32 ?_
      refine kv_iload_n C 2 dX1_hasWrongRight_35 rfl rfl ?_
      refine kv_iconst C 4 dX1_hasWrongRight_36 (by decide) ?_
      refine kv_iadd C dX1_hasWrongRight_37 ?_
      obtain ⟨g_9, h⟩ := oin_e h
      refine kv_iald C 1 0 rfl rfl g_9 dX1_hasWrongRight_38 ?_
      refine kv_iload C 3 dX1_hasWrongRight_39 rfl ?_
      refine kv_bipush C 6 dX1_hasWrongRight_41 (by decide) ?_
      refine kv_imul C dX1_hasWrongRight_43 ?_
      refine kv_icmp_ne C 88 dX1_hasWrongRight_44 (by decide) (fun c_10 => ?_) (fun c_10 => ?_)
      · have h := oi_f h c_10
        exact kv_lv [] (lv2 := []) rfl (j88  h)
      · have h := oi_t h c_10
        exact kv_lv [0, 1, 2, 3] (lv2 := [(0, .ref (qb 0)), (2, .int x2), (3, .int x3), (4, .int t0)]) rfl (j47 x2 x3 t0 h)
  unfold m_X1_hasWrongRight at hm
  have h := hm
  refine kv_lv [0, 1] (lv2 := [(0, .ref (qb 0)), (1, .int p1)]) rfl ?_
  refine kv_aload_n C 0 dX1_hasWrongRight_0 rfl rfl ?_
  refine kv_get C (Cn := RX0) (T := TX0) (N := 11) 0 6 hin0 rfl rfl (by decide) (C.ts _ (List.mem_cons_of_mem _ lf_RX1_50)) rfl rfl dX1_hasWrongRight_1 ?_
  refine kv_iconst C 2 dX1_hasWrongRight_4 (by decide) ?_
  refine kv_iload_n C 1 dX1_hasWrongRight_5 rfl rfl ?_
  refine kv_imul C dX1_hasWrongRight_6 ?_
  refine kv_ishr C dX1_hasWrongRight_7 ?_
  refine kv_iconst C 3 dX1_hasWrongRight_8 (by decide) ?_
  refine kv_iand C dX1_hasWrongRight_9 ?_
  obtain ⟨x2_11, ex2_11, h⟩ := ol_e h
  refine kv_top ex2_11 ?_
  refine kv_istore_n C (lv2 := [(0, .ref (qb 0)), (1, .int p1), (2, .int x2_11)]) [1, 2, 0] dX1_hasWrongRight_10 rfl (by decide) rfl rfl ?_
  refine kv_bipush C 56 dX1_hasWrongRight_11 (by decide) ?_
  refine kv_iload_n C 1 dX1_hasWrongRight_13 rfl rfl ?_
  refine kv_imul C dX1_hasWrongRight_14 ?_
  obtain ⟨x3_12, ex3_12, h⟩ := ol_e h
  refine kv_top ex3_12 ?_
  refine kv_istore_n C (lv2 := [(0, .ref (qb 0)), (1, .int p1), (2, .int x2_11), (3, .int x3_12)]) [1, 2, 3, 0] dX1_hasWrongRight_15 rfl (by decide) rfl rfl ?_
  refine kv_iload_n C 1 dX1_hasWrongRight_16 rfl rfl ?_
  refine kv_if_ne C 24 dX1_hasWrongRight_17 (by decide) (fun c_13 => ?_) (fun c_13 => ?_)
  · have h := oi_f h c_13
    refine kv_iconst C (-1) dX1_hasWrongRight_24 (by decide) ?_
    exact kv_lv [0, 2, 3] (lv2 := [(0, .ref (qb 0)), (2, .int x2_11), (3, .int x3_12)]) rfl (j25 x2_11 x3_12 (-1) h)
  · have h := oi_t h c_13
    refine kv_iconst C 1 dX1_hasWrongRight_20 (by decide) ?_
    refine kv_goto C 25 dX1_hasWrongRight_21 (by decide) ?_
    exact kv_lv [0, 2, 3] (lv2 := [(0, .ref (qb 0)), (2, .int x2_11), (3, .int x3_12)]) rfl (j25 x2_11 x3_12 1 h)
def m_X1_hasWrongPassed_b82 (v_mover : Int32) (v_passed : Int32) (a_men : Nat → Int32) (t0 : Int32) : Option (Int32) := obl (t0) (some t0)
def m_X1_hasWrongPassed_b77 (v_mover : Int32) (v_passed : Int32) (a_men : Nat → Int32) : Option (Int32) := m_X1_hasWrongPassed_b82 v_mover v_passed a_men 1
def m_X1_hasWrongPassed_b42 (v_mover : Int32) (v_passed : Int32) (a_men : Nat → Int32) (x1 : Int32) (x2 : Int32) (x3 : Int32) (t0 : Int32) (t1 : Int32) : Option (Int32) := if t0 = t1 then oin (x1) 64 (if (a_men x1.toNatClampNeg) = 0 then oin (x1 + x2) 64 (if (a_men (x1 + x2).toNatClampNeg) = 0 then oin (x1 - x2) 64 (if (a_men (x1 - x2).toNatClampNeg) = x3 then m_X1_hasWrongPassed_b82 v_mover v_passed a_men 0 else m_X1_hasWrongPassed_b77 v_mover v_passed a_men) else m_X1_hasWrongPassed_b77 v_mover v_passed a_men) else m_X1_hasWrongPassed_b77 v_mover v_passed a_men) else m_X1_hasWrongPassed_b77 v_mover v_passed a_men
def m_X1_hasWrongPassed_b25 (v_mover : Int32) (v_passed : Int32) (a_men : Nat → Int32) (x1 : Int32) (x2 : Int32) (t0 : Int32) : Option (Int32) := if v_mover = 0 then m_X1_hasWrongPassed_b42 v_mover v_passed a_men x1 x2 t0 (x1 / 8) 5 else m_X1_hasWrongPassed_b42 v_mover v_passed a_men x1 x2 t0 (x1 / 8) 2
def m_X1_hasWrongPassed (v_mover : Int32) (v_passed : Int32) (a_men : Nat → Int32) : Option (Int32) := ob (m_X9_upOf v_mover) fun r_10 => if v_mover = 0 then m_X1_hasWrongPassed_b25 v_mover v_passed a_men v_passed r_10 (-1) else m_X1_hasWrongPassed_b25 v_mover v_passed a_men v_passed r_10 1
abbrev rm_X1_hasWrongPassed : Room := { frames := 1, cells := 0, slots := 0, locals := 20 }
abbrev wy_X1_hasWrongPassed : List Cond := .code yX1_hasWrongPassed cX1_hasWrongPassed 4 (some .boolean) :: gT
theorem cs_X1_hasWrongPassed {R : Room} {s : State} {args : Array Value} {own : String} {index : Nat} {w0 : Cond} (hts : ∀ w ∈ w0 :: gT, w.before args s = true) (hl : Cond.methodLink own index yX1_hasWrongPassed ∈ gT) (hR : 1 + 1 ≤ R.frames ∧ 8 + (4 + 11) + 20 ≤ R.locals) : CallB R s args own index yX1_hasWrongPassed cX1_hasWrongPassed 4 (some .boolean) wy_X1_hasWrongPassed rm_X1_hasWrongPassed 0 0 1 ∧ (Cond.static yX1_hasWrongPassed).before args s = true :=
  va_cwS 1 hts (gT_call w0 (pre := [.methodLink own index yX1_hasWrongPassed, .static yX1_hasWrongPassed, .initialized yX1_hasWrongPassed.cls]) (gT_lc hl (gT_lc ls_yX1_hasWrongPassed (gT_l1 li_RX1))) lc_yX1_hasWrongPassed) rfl rfl rfl (by decide +kernel) hR
set_option maxRecDepth 100000 in
set_option maxHeartbeats 4000000 in
theorem c_X1_hasWrongPassed (l : Launch) (D : va_G) (qb : Nat → Nat) (ql : Nat → Nat) (qw : Nat → Nat) (cI : ClassId) (cJ : ClassId) (tq : Nat → Nat) (v_mover : Int32) (v_rights : Int32) (v_passed : Int32) (v_halves : Int32) (v_number : Int32) (v_balance : Int32) (a_men : Nat → Int32) (a_kinds : Nat → Int64) (a_sides : Nat → Int64) (a_rays : Nat → Int64) (a_knights : Nat → Int64) (a_kings : Nat → Int64) (a_pawns : Nat → Int64) (a_table : Nat → Int32) (rv : Int32) (hm : m_X1_hasWrongPassed v_mover v_passed a_men = some rv) : kEi l yX1_hasWrongPassed wy_X1_hasWrongPassed rm_X1_hasWrongPassed D [(cI, .int), (cJ, .long)] tq rv (wBo qb ql qw cI cJ v_mover v_rights v_passed v_halves v_number v_balance a_men a_kinds a_sides a_rays a_knights a_kings a_pawns a_table) (wBo qb ql qw cI cJ v_mover v_rights v_passed v_halves v_number v_balance a_men a_kinds a_sides a_rays a_knights a_kings a_pawns a_table) [.ref (qb 0)] := by
  refine kEi.of cX1_hasWrongPassed 4 (some .boolean) (by decide) rfl (Or.inr rfl) (Nat.le_of_ble_eq_true rfl) ?_
  intro p e s m below meth c A Q C hJ hret
  have hin0 : ∀ w ∈ wsX00, w ∈ wy_X1_hasWrongPassed := fun w h => List.mem_cons_of_mem _ (inG0 w h)
  have hin3 : ∀ w ∈ wsX30, w ∈ wy_X1_hasWrongPassed := fun w h => List.mem_cons_of_mem _ (inG3 w h)
  have hin7 : ∀ w ∈ wsX70, w ∈ wy_X1_hasWrongPassed := fun w h => List.mem_cons_of_mem _ (inG7 w h)
  have j82 : ∀ (t0 : Int32), m_X1_hasWrongPassed_b82  v_mover v_passed a_men t0 = some rv → kv p l e rm_X1_hasWrongPassed s m ([.ref (qb 0)] : List Value).toArray below meth c D A 4 0 0 Q (wBo qb ql qw cI cJ v_mover v_rights v_passed v_halves v_number v_balance a_men a_kinds a_sides a_rays a_knights a_kings a_pawns a_table) [] 82 [.int t0] := by
    intro t0 h
    unfold m_X1_hasWrongPassed_b82 at h
    obtain ⟨g_1, h⟩ := obl_e h
    cases h
    exact hret _ _ dX1_hasWrongPassed_82 (fun _ => g_1)
  have j77 : m_X1_hasWrongPassed_b77  v_mover v_passed a_men  = some rv → kv p l e rm_X1_hasWrongPassed s m ([.ref (qb 0)] : List Value).toArray below meth c D A 4 0 0 Q (wBo qb ql qw cI cJ v_mover v_rights v_passed v_halves v_number v_balance a_men a_kinds a_sides a_rays a_knights a_kings a_pawns a_table) [] 77 [] := by
    intro  h
    unfold m_X1_hasWrongPassed_b77 at h
    refine kv_iconst C 1 dX1_hasWrongPassed_77 (by decide) ?_
    refine kv_goto C 82 dX1_hasWrongPassed_78 (by decide) ?_
    exact kv_lv [] (lv2 := []) rfl (j82 1 h)
  have j42 : ∀ (x1 : Int32) (x2 : Int32) (x3 : Int32) (t0 : Int32) (t1 : Int32), m_X1_hasWrongPassed_b42  v_mover v_passed a_men x1 x2 x3 t0 t1 = some rv → kv p l e rm_X1_hasWrongPassed s m ([.ref (qb 0)] : List Value).toArray below meth c D A 4 0 0 Q (wBo qb ql qw cI cJ v_mover v_rights v_passed v_halves v_number v_balance a_men a_kinds a_sides a_rays a_knights a_kings a_pawns a_table) [(0, .ref (qb 0)), (1, .int x1), (2, .int x2), (3, .int x3)] 42 [.int t1, .int t0] := by
    intro x1 x2 x3 t0 t1 h
    unfold m_X1_hasWrongPassed_b42 at h
    refine kv_icmp_ne C 77 dX1_hasWrongPassed_42 (by decide) (fun c_2 => ?_) (fun c_2 => ?_)
    · have h := oi_f h c_2
      exact kv_lv [] (lv2 := []) rfl (j77  h)
    · have h := oi_t h c_2
      refine kv_aload_n C 0 dX1_hasWrongPassed_45 rfl rfl ?_
      refine kv_get C (Cn := RX0) (T := TX0) (N := 11) 0 2 hin0 rfl rfl (by decide) (C.ts _ (List.mem_cons_of_mem _ lf_RX1_53)) rfl rfl dX1_hasWrongPassed_46 ?_
      refine kv_iload_n C 1 dX1_hasWrongPassed_49 rfl rfl ?_
      obtain ⟨g_3, h⟩ := oin_e h
      refine kv_iald C 1 0 rfl rfl g_3 dX1_hasWrongPassed_50 ?_
      refine kv_if_ne C 77 dX1_hasWrongPassed_51 (by decide) (fun c_4 => ?_) (fun c_4 => ?_)
      · have h := oi_f h c_4
        exact kv_lv [] (lv2 := []) rfl (j77  h)
      · have h := oi_t h c_4
        refine kv_aload_n C 0 dX1_hasWrongPassed_54 rfl rfl ?_
        refine kv_get C (Cn := RX0) (T := TX0) (N := 11) 0 2 hin0 rfl rfl (by decide) (C.ts _ (List.mem_cons_of_mem _ lf_RX1_53)) rfl rfl dX1_hasWrongPassed_55 ?_
        refine kv_iload_n C 1 dX1_hasWrongPassed_58 rfl rfl ?_
        refine kv_iload_n C 2 dX1_hasWrongPassed_59 rfl rfl ?_
        refine kv_iadd C dX1_hasWrongPassed_60 ?_
        obtain ⟨g_5, h⟩ := oin_e h
        refine kv_iald C 1 0 rfl rfl g_5 dX1_hasWrongPassed_61 ?_
        refine kv_if_ne C 77 dX1_hasWrongPassed_62 (by decide) (fun c_6 => ?_) (fun c_6 => ?_)
        · have h := oi_f h c_6
          exact kv_lv [] (lv2 := []) rfl (j77  h)
        · have h := oi_t h c_6
          refine kv_aload_n C 0 dX1_hasWrongPassed_65 rfl rfl ?_
          refine kv_get C (Cn := RX0) (T := TX0) (N := 11) 0 2 hin0 rfl rfl (by decide) (C.ts _ (List.mem_cons_of_mem _ lf_RX1_53)) rfl rfl dX1_hasWrongPassed_66 ?_
          refine kv_iload_n C 1 dX1_hasWrongPassed_69 rfl rfl ?_
          refine kv_iload_n C 2 dX1_hasWrongPassed_70 rfl rfl ?_
          refine kv_isub C dX1_hasWrongPassed_71 ?_
          obtain ⟨g_7, h⟩ := oin_e h
          refine kv_iald C 1 0 rfl rfl g_7 dX1_hasWrongPassed_72 ?_
          refine kv_iload_n C 3 dX1_hasWrongPassed_73 rfl rfl ?_
          refine kv_icmp_eq C 81 dX1_hasWrongPassed_74 (by decide) (fun c_8 => ?_) (fun c_8 => ?_)
          · have h := oi_t h c_8
            refine kv_iconst C 0 dX1_hasWrongPassed_81 (by decide) ?_
            exact kv_lv [] (lv2 := []) rfl (j82 0 h)
          · have h := oi_f h c_8
            exact kv_lv [] (lv2 := []) rfl (j77  h)
  have j25 : ∀ (x1 : Int32) (x2 : Int32) (t0 : Int32), m_X1_hasWrongPassed_b25  v_mover v_passed a_men x1 x2 t0 = some rv → kv p l e rm_X1_hasWrongPassed s m ([.ref (qb 0)] : List Value).toArray below meth c D A 4 0 0 Q (wBo qb ql qw cI cJ v_mover v_rights v_passed v_halves v_number v_balance a_men a_kinds a_sides a_rays a_knights a_kings a_pawns a_table) [(0, .ref (qb 0)), (1, .int x1), (2, .int x2)] 25 [.int t0] := by
    intro x1 x2 t0 h
    unfold m_X1_hasWrongPassed_b25 at h
    refine kv_istore_n C (lv2 := [(0, .ref (qb 0)), (1, .int x1), (2, .int x2), (3, .int t0)]) [1, 2, 3, 0] dX1_hasWrongPassed_25 rfl (by decide) rfl rfl ?_
    refine kv_iload_n C 1 dX1_hasWrongPassed_26 rfl rfl ?_
    refine kv_bipush C 8 dX1_hasWrongPassed_27 (by decide) ?_
    refine kv_idiv C dX1_hasWrongPassed_29 (by decide) ?_
    refine kv_aload_n C 0 dX1_hasWrongPassed_30 rfl rfl ?_
    refine kv_get C (Cn := RX0) (T := TX0) (N := 11) 0 5 hin0 rfl rfl (by decide) (C.ts _ (List.mem_cons_of_mem _ lf_RX1_23)) rfl rfl dX1_hasWrongPassed_31 ?_
    refine kv_if_ne C 41 dX1_hasWrongPassed_34 (by decide) (fun c_9 => ?_) (fun c_9 => ?_)
    · have h := oi_f h c_9
      refine kv_iconst C 2 dX1_hasWrongPassed_41 (by decide) ?_
      exact kv_lv [0, 1, 2, 3] (lv2 := [(0, .ref (qb 0)), (1, .int x1), (2, .int x2), (3, .int t0)]) rfl (j42 x1 x2 t0 (x1 / 8) 2 h)
    · have h := oi_t h c_9
      refine kv_iconst C 5 dX1_hasWrongPassed_37 (by decide) ?_
      refine kv_goto C 42 dX1_hasWrongPassed_38 (by decide) ?_
      exact kv_lv [0, 1, 2, 3] (lv2 := [(0, .ref (qb 0)), (1, .int x1), (2, .int x2), (3, .int t0)]) rfl (j42 x1 x2 t0 (x1 / 8) 5 h)
  unfold m_X1_hasWrongPassed at hm
  have h := hm
  refine kv_lv [0] (lv2 := [(0, .ref (qb 0))]) rfl ?_
  refine kv_aload_n C 0 dX1_hasWrongPassed_0 rfl rfl ?_
  refine kv_get C (Cn := RX0) (T := TX0) (N := 11) 0 7 hin0 rfl rfl (by decide) (C.ts _ (List.mem_cons_of_mem _ lf_RX1_34)) rfl rfl dX1_hasWrongPassed_1 ?_
  refine kv_istore_n C (lv2 := [(0, .ref (qb 0)), (1, .int v_passed)]) [1, 0] dX1_hasWrongPassed_4 rfl (by decide) rfl rfl ?_
  refine kv_aload_n C 0 dX1_hasWrongPassed_5 rfl rfl ?_
  refine kv_get C (Cn := RX0) (T := TX0) (N := 11) 0 5 hin0 rfl rfl (by decide) (C.ts _ (List.mem_cons_of_mem _ lf_RX1_23)) rfl rfl dX1_hasWrongPassed_6 ?_
  obtain ⟨r_10, hm_11, h⟩ := ob_e h
  refine kv_SN0i C [.int v_mover] (c_X9_upOf l D v_mover r_10 hm_11) (cn_X9_upOf C.ts (hJ.1 _ (List.mem_of_getElem? (i := 1) rfl)) ⟨Nat.le_of_ble_eq_true rfl, Nat.le_of_ble_eq_true rfl⟩) rfl rfl (Nat.le_of_ble_eq_true rfl) dX1_hasWrongPassed_9 ⟨Nat.zero_le _, Nat.zero_le _⟩ ?_
  refine kv_istore_n C (lv2 := [(0, .ref (qb 0)), (1, .int v_passed), (2, .int r_10)]) [1, 2, 0] dX1_hasWrongPassed_12 rfl (by decide) rfl rfl ?_
  refine kv_aload_n C 0 dX1_hasWrongPassed_13 rfl rfl ?_
  refine kv_get C (Cn := RX0) (T := TX0) (N := 11) 0 5 hin0 rfl rfl (by decide) (C.ts _ (List.mem_cons_of_mem _ lf_RX1_23)) rfl rfl dX1_hasWrongPassed_14 ?_
  refine kv_if_ne C 24 dX1_hasWrongPassed_17 (by decide) (fun c_12 => ?_) (fun c_12 => ?_)
  · have h := oi_f h c_12
    refine kv_iconst C 1 dX1_hasWrongPassed_24 (by decide) ?_
    exact kv_lv [0, 1, 2] (lv2 := [(0, .ref (qb 0)), (1, .int v_passed), (2, .int r_10)]) rfl (j25 v_passed r_10 1 h)
  · have h := oi_t h c_12
    refine kv_iconst C (-1) dX1_hasWrongPassed_20 (by decide) ?_
    refine kv_goto C 25 dX1_hasWrongPassed_21 (by decide) ?_
    exact kv_lv [0, 1, 2] (lv2 := [(0, .ref (qb 0)), (1, .int v_passed), (2, .int r_10)]) rfl (j25 v_passed r_10 (-1) h)
def m_X1_of_b89 (v_mover : Int32) (v_rights : Int32) (v_passed : Int32) (a_men : Nat → Int32) (a_kinds : Nat → Int64) (a_sides : Nat → Int64) (a_rays : Nat → Int64) (a_knights : Nat → Int64) (a_kings : Nat → Int64) (a_pawns : Nat → Int64) (t0 : Int32) : Option (Int32) := some t0
def m_X1_of_b88 (v_mover : Int32) (v_rights : Int32) (v_passed : Int32) (a_men : Nat → Int32) (a_kinds : Nat → Int64) (a_sides : Nat → Int64) (a_rays : Nat → Int64) (a_knights : Nat → Int64) (a_kings : Nat → Int64) (a_pawns : Nat → Int64) : Option (Int32) := m_X1_of_b89 v_mover v_rights v_passed a_men a_kinds a_sides a_rays a_knights a_kings a_pawns 0
def m_X1_of_b66 (v_mover : Int32) (v_rights : Int32) (v_passed : Int32) (a_men : Nat → Int32) (a_kinds : Nat → Int64) (a_sides : Nat → Int64) (a_rays : Nat → Int64) (a_knights : Nat → Int64) (a_kings : Nat → Int64) (a_pawns : Nat → Int64) : Option (Int32) := some 5
def m_X1_of_b16 (v_mover : Int32) (v_rights : Int32) (v_passed : Int32) (a_men : Nat → Int32) (a_kinds : Nat → Int64) (a_sides : Nat → Int64) (a_rays : Nat → Int64) (a_knights : Nat → Int64) (a_kings : Nat → Int64) (a_pawns : Nat → Int64) : Option (Int32) := some 2
def m_X1_of (v_mover : Int32) (v_rights : Int32) (v_passed : Int32) (a_men : Nat → Int32) (a_kinds : Nat → Int64) (a_sides : Nat → Int64) (a_rays : Nat → Int64) (a_knights : Nat → Int64) (a_kings : Nat → Int64) (a_pawns : Nat → Int64) : Option (Int32) := ob (m_X1_hasWrongCount a_kinds a_sides 0) fun r_1 => if r_1 = 0 then ob (m_X1_hasWrongCount a_kinds a_sides 1) fun r_4 => if r_4 = 0 then if (lg_cmp ((a_kinds (Int32.toNatClampNeg 1)) &&& (-72057594037927681)) 0) = 0 then ob (m_X0_isInCheck a_kinds a_sides a_rays a_knights a_kings a_pawns ((1 : Int32) - v_mover)) fun r_8 => if r_8 = 0 then ob (m_X1_hasWrongRight v_rights a_men 0) fun r_11 => if r_11 = 0 then ob (m_X1_hasWrongRight v_rights a_men 1) fun r_14 => if r_14 = 0 then if v_passed = (-1) then m_X1_of_b88 v_mover v_rights v_passed a_men a_kinds a_sides a_rays a_knights a_kings a_pawns else ob (m_X1_hasWrongPassed v_mover v_passed a_men ) fun r_18 => if r_18 = 0 then m_X1_of_b88 v_mover v_rights v_passed a_men a_kinds a_sides a_rays a_knights a_kings a_pawns else m_X1_of_b89 v_mover v_rights v_passed a_men a_kinds a_sides a_rays a_knights a_kings a_pawns 6 else m_X1_of_b66 v_mover v_rights v_passed a_men a_kinds a_sides a_rays a_knights a_kings a_pawns else m_X1_of_b66 v_mover v_rights v_passed a_men a_kinds a_sides a_rays a_knights a_kings a_pawns else some 4 else some 3 else m_X1_of_b16 v_mover v_rights v_passed a_men a_kinds a_sides a_rays a_knights a_kings a_pawns else m_X1_of_b16 v_mover v_rights v_passed a_men a_kinds a_sides a_rays a_knights a_kings a_pawns
abbrev rm_X1_of : Room := { frames := 4, cells := 0, slots := 0, locals := 84 }
abbrev wy_X1_of : List Cond := .code yX1_of cX1_of 1 (some .int) :: gT
theorem cs_X1_of {R : Room} {s : State} {args : Array Value} {own : String} {index : Nat} {w0 : Cond} (hts : ∀ w ∈ w0 :: gT, w.before args s = true) (hl : Cond.methodLink own index yX1_of ∈ gT) (hR : 4 + 1 ≤ R.frames ∧ 8 + (1 + 11) + 84 ≤ R.locals) : CallB R s args own index yX1_of cX1_of 1 (some .int) wy_X1_of rm_X1_of 0 0 1 ∧ (Cond.static yX1_of).before args s = true :=
  va_cwS 1 hts (gT_call w0 (pre := [.methodLink own index yX1_of, .static yX1_of, .initialized yX1_of.cls]) (gT_lc hl (gT_lc ls_yX1_of (gT_l1 li_RX1))) lc_yX1_of) rfl rfl rfl (by decide +kernel) hR
set_option maxRecDepth 100000 in
set_option maxHeartbeats 4000000 in
theorem c_X1_of (l : Launch) (D : va_G) (qb : Nat → Nat) (ql : Nat → Nat) (qw : Nat → Nat) (cI : ClassId) (cJ : ClassId) (tq : Nat → Nat) (v_mover : Int32) (v_rights : Int32) (v_passed : Int32) (v_halves : Int32) (v_number : Int32) (v_balance : Int32) (a_men : Nat → Int32) (a_kinds : Nat → Int64) (a_sides : Nat → Int64) (a_rays : Nat → Int64) (a_knights : Nat → Int64) (a_kings : Nat → Int64) (a_pawns : Nat → Int64) (a_table : Nat → Int32) (rv : Int32) (hm : m_X1_of v_mover v_rights v_passed a_men a_kinds a_sides a_rays a_knights a_kings a_pawns = some rv) : kEi l yX1_of wy_X1_of rm_X1_of D [(cI, .int), (cJ, .long)] tq rv (wBo qb ql qw cI cJ v_mover v_rights v_passed v_halves v_number v_balance a_men a_kinds a_sides a_rays a_knights a_kings a_pawns a_table) (wBo qb ql qw cI cJ v_mover v_rights v_passed v_halves v_number v_balance a_men a_kinds a_sides a_rays a_knights a_kings a_pawns a_table) [.ref (qb 0)] := by
  refine kEi.of cX1_of 1 (some .int) (by decide) rfl (Or.inl rfl) (Nat.le_of_ble_eq_true rfl) ?_
  intro p e s m below meth c A Q C hJ hret
  have hin0 : ∀ w ∈ wsX00, w ∈ wy_X1_of := fun w h => List.mem_cons_of_mem _ (inG0 w h)
  have hin3 : ∀ w ∈ wsX30, w ∈ wy_X1_of := fun w h => List.mem_cons_of_mem _ (inG3 w h)
  have hin7 : ∀ w ∈ wsX70, w ∈ wy_X1_of := fun w h => List.mem_cons_of_mem _ (inG7 w h)
  have j89 : ∀ (t0 : Int32), m_X1_of_b89  v_mover v_rights v_passed a_men a_kinds a_sides a_rays a_knights a_kings a_pawns t0 = some rv → kv p l e rm_X1_of s m ([.ref (qb 0)] : List Value).toArray below meth c D A 1 0 0 Q (wBo qb ql qw cI cJ v_mover v_rights v_passed v_halves v_number v_balance a_men a_kinds a_sides a_rays a_knights a_kings a_pawns a_table) [] 89 [.int t0] := by
    intro t0 h
    unfold m_X1_of_b89 at h
    cases h
    exact hret _ _ dX1_of_89 (fun q => by cases q)
  have j88 : m_X1_of_b88  v_mover v_rights v_passed a_men a_kinds a_sides a_rays a_knights a_kings a_pawns  = some rv → kv p l e rm_X1_of s m ([.ref (qb 0)] : List Value).toArray below meth c D A 1 0 0 Q (wBo qb ql qw cI cJ v_mover v_rights v_passed v_halves v_number v_balance a_men a_kinds a_sides a_rays a_knights a_kings a_pawns a_table) [] 88 [] := by
    intro  h
    unfold m_X1_of_b88 at h
    refine kv_iconst C 0 dX1_of_88 (by decide) ?_
    exact kv_lv [] (lv2 := []) rfl (j89 0 h)
  have j66 : m_X1_of_b66  v_mover v_rights v_passed a_men a_kinds a_sides a_rays a_knights a_kings a_pawns  = some rv → kv p l e rm_X1_of s m ([.ref (qb 0)] : List Value).toArray below meth c D A 1 0 0 Q (wBo qb ql qw cI cJ v_mover v_rights v_passed v_halves v_number v_balance a_men a_kinds a_sides a_rays a_knights a_kings a_pawns a_table) [] 66 [] := by
    intro  h
    unfold m_X1_of_b66 at h
    refine kv_iconst C 5 dX1_of_66 (by decide) ?_
    cases h
    exact hret _ _ dX1_of_67 (fun q => by cases q)
  have j16 : m_X1_of_b16  v_mover v_rights v_passed a_men a_kinds a_sides a_rays a_knights a_kings a_pawns  = some rv → kv p l e rm_X1_of s m ([.ref (qb 0)] : List Value).toArray below meth c D A 1 0 0 Q (wBo qb ql qw cI cJ v_mover v_rights v_passed v_halves v_number v_balance a_men a_kinds a_sides a_rays a_knights a_kings a_pawns a_table) [] 16 [] := by
    intro  h
    unfold m_X1_of_b16 at h
    refine kv_iconst C 2 dX1_of_16 (by decide) ?_
    cases h
    exact hret _ _ dX1_of_17 (fun q => by cases q)
  unfold m_X1_of at hm
  have h := hm
  refine kv_lv [0] (lv2 := [(0, .ref (qb 0))]) rfl ?_
  refine kv_aload_n C 0 dX1_of_0 rfl rfl ?_
  refine kv_iconst C 0 dX1_of_1 (by decide) ?_
  obtain ⟨r_1, hm_2, h⟩ := ob_e h
  refine kv_eSi (ws2 := (wBo qb ql qw cI cJ v_mover v_rights v_passed v_halves v_number v_balance a_men a_kinds a_sides a_rays a_knights a_kings a_pawns a_table)) C hJ [.ref (qb 0), .int 0] (c_X1_hasWrongCount l D qb ql qw cI cJ tq v_mover v_rights v_passed v_halves v_number v_balance a_men a_kinds a_sides a_rays a_knights a_kings a_pawns a_table 0 r_1 hm_2) (cs_X1_hasWrongCount C.ts lm_RX1_9 ⟨Nat.le_of_ble_eq_true rfl, Nat.le_of_ble_eq_true rfl⟩) [0, 1, 2, 3, 4, 5, 6, 7, 8, 9, 10] [] [0, 1] [0, 1, 2, 3, 4, 5, 6, 7, 8, 9, 10] rfl rfl rfl rfl rfl (by decide) rfl rfl rfl (Nat.le_of_ble_eq_true rfl) dX1_of_2 ⟨Nat.zero_le _, Nat.zero_le _⟩ rfl rfl rfl ?_
  refine kv_if_ne C 16 dX1_of_5 (by decide) (fun c_3 => ?_) (fun c_3 => ?_)
  · have h := oi_f h c_3
    exact kv_lv [] (lv2 := []) rfl (j16  h)
  · have h := oi_t h c_3
    refine kv_aload_n C 0 dX1_of_8 rfl rfl ?_
    refine kv_iconst C 1 dX1_of_9 (by decide) ?_
    obtain ⟨r_4, hm_5, h⟩ := ob_e h
    refine kv_eSi (ws2 := (wBo qb ql qw cI cJ v_mover v_rights v_passed v_halves v_number v_balance a_men a_kinds a_sides a_rays a_knights a_kings a_pawns a_table)) C hJ [.ref (qb 0), .int 1] (c_X1_hasWrongCount l D qb ql qw cI cJ tq v_mover v_rights v_passed v_halves v_number v_balance a_men a_kinds a_sides a_rays a_knights a_kings a_pawns a_table 1 r_4 hm_5) (cs_X1_hasWrongCount C.ts lm_RX1_9 ⟨Nat.le_of_ble_eq_true rfl, Nat.le_of_ble_eq_true rfl⟩) [0, 1, 2, 3, 4, 5, 6, 7, 8, 9, 10] [] [0, 1] [0, 1, 2, 3, 4, 5, 6, 7, 8, 9, 10] rfl rfl rfl rfl rfl (by decide) rfl rfl rfl (Nat.le_of_ble_eq_true rfl) dX1_of_10 ⟨Nat.zero_le _, Nat.zero_le _⟩ rfl rfl rfl ?_
    refine kv_if_eq C 18 dX1_of_13 (by decide) (fun c_6 => ?_) (fun c_6 => ?_)
    · have h := oi_t h c_6
      refine kv_aload_n C 0 dX1_of_18 rfl rfl ?_
      refine kv_get C (Cn := RX0) (T := TX0) (N := 11) 0 3 hin0 rfl rfl (by decide) (C.ts _ (List.mem_cons_of_mem _ lf_RX1_15)) rfl rfl dX1_of_19 ?_
      refine kv_iconst C 1 dX1_of_22 (by decide) ?_
      refine kv_lald C 2 1 rfl rfl (by unfold vp_in; decide) dX1_of_23 ?_
      refine kv_ldc2 C (C.ts _ (List.mem_cons_of_mem _ lkl_RX1_21)) dX1_of_24 ?_
      refine kv_land C dX1_of_27 ?_
      refine kv_lconst C 0 dX1_of_28 (by decide) ?_
      refine kv_lcmp C dX1_of_29 ?_
      refine kv_if_eq C 35 dX1_of_30 (by decide) (fun c_7 => ?_) (fun c_7 => ?_)
      · have h := oi_t h c_7
        refine kv_aload_n C 0 dX1_of_35 rfl rfl ?_
        refine kv_iconst C 1 dX1_of_36 (by decide) ?_
        refine kv_aload_n C 0 dX1_of_37 rfl rfl ?_
        refine kv_get C (Cn := RX0) (T := TX0) (N := 11) 0 5 hin0 rfl rfl (by decide) (C.ts _ (List.mem_cons_of_mem _ lf_RX1_23)) rfl rfl dX1_of_38 ?_
        refine kv_isub C dX1_of_41 ?_
        obtain ⟨r_8, hm_9, h⟩ := ob_e h
        refine kv_eVi (ws2 := (wBo qb ql qw cI cJ v_mover v_rights v_passed v_halves v_number v_balance a_men a_kinds a_sides a_rays a_knights a_kings a_pawns a_table)) C hJ [.int ((1 : Int32) - v_mover)] 0 (c_X0_isInCheck l D qb ql qw cI cJ tq v_mover v_rights v_passed v_halves v_number v_balance a_men a_kinds a_sides a_rays a_knights a_kings a_pawns a_table ((1 : Int32) - v_mover) r_8 hm_9) (cv_X0_isInCheck C.ts lm_RX1_27 ⟨Nat.le_of_ble_eq_true rfl, Nat.le_of_ble_eq_true rfl⟩) rfl rfl [0, 1, 2, 3, 4, 5, 6, 7, 8, 9, 10] [] [0, 1] [0, 1, 2, 3, 4, 5, 6, 7, 8, 9, 10] rfl rfl rfl rfl rfl (by decide) rfl rfl rfl (Nat.le_of_ble_eq_true rfl) dX1_of_42 ⟨Nat.zero_le _, Nat.zero_le _⟩ rfl rfl rfl ?_
        refine kv_if_eq C 50 dX1_of_45 (by decide) (fun c_10 => ?_) (fun c_10 => ?_)
        · have h := oi_t h c_10
          refine kv_aload_n C 0 dX1_of_50 rfl rfl ?_
          refine kv_iconst C 0 dX1_of_51 (by decide) ?_
          obtain ⟨r_11, hm_12, h⟩ := ob_e h
          refine kv_eSi (ws2 := (wBo qb ql qw cI cJ v_mover v_rights v_passed v_halves v_number v_balance a_men a_kinds a_sides a_rays a_knights a_kings a_pawns a_table)) C hJ [.ref (qb 0), .int 0] (c_X1_hasWrongRight l D qb ql qw cI cJ tq v_mover v_rights v_passed v_halves v_number v_balance a_men a_kinds a_sides a_rays a_knights a_kings a_pawns a_table 0 r_11 hm_12) (cs_X1_hasWrongRight C.ts lm_RX1_31 ⟨Nat.le_of_ble_eq_true rfl, Nat.le_of_ble_eq_true rfl⟩) [0, 1, 2, 3, 4, 5, 6, 7, 8, 9, 10] [] [0, 1] [0, 1, 2, 3, 4, 5, 6, 7, 8, 9, 10] rfl rfl rfl rfl rfl (by decide) rfl rfl rfl (Nat.le_of_ble_eq_true rfl) dX1_of_52 ⟨Nat.zero_le _, Nat.zero_le _⟩ rfl rfl rfl ?_
          refine kv_if_ne C 66 dX1_of_55 (by decide) (fun c_13 => ?_) (fun c_13 => ?_)
          · have h := oi_f h c_13
            exact kv_lv [] (lv2 := []) rfl (j66  h)
          · have h := oi_t h c_13
            refine kv_aload_n C 0 dX1_of_58 rfl rfl ?_
            refine kv_iconst C 1 dX1_of_59 (by decide) ?_
            obtain ⟨r_14, hm_15, h⟩ := ob_e h
            refine kv_eSi (ws2 := (wBo qb ql qw cI cJ v_mover v_rights v_passed v_halves v_number v_balance a_men a_kinds a_sides a_rays a_knights a_kings a_pawns a_table)) C hJ [.ref (qb 0), .int 1] (c_X1_hasWrongRight l D qb ql qw cI cJ tq v_mover v_rights v_passed v_halves v_number v_balance a_men a_kinds a_sides a_rays a_knights a_kings a_pawns a_table 1 r_14 hm_15) (cs_X1_hasWrongRight C.ts lm_RX1_31 ⟨Nat.le_of_ble_eq_true rfl, Nat.le_of_ble_eq_true rfl⟩) [0, 1, 2, 3, 4, 5, 6, 7, 8, 9, 10] [] [0, 1] [0, 1, 2, 3, 4, 5, 6, 7, 8, 9, 10] rfl rfl rfl rfl rfl (by decide) rfl rfl rfl (Nat.le_of_ble_eq_true rfl) dX1_of_60 ⟨Nat.zero_le _, Nat.zero_le _⟩ rfl rfl rfl ?_
            refine kv_if_eq C 68 dX1_of_63 (by decide) (fun c_16 => ?_) (fun c_16 => ?_)
            · have h := oi_t h c_16
              refine kv_aload_n C 0 dX1_of_68 rfl rfl ?_
              refine kv_get C (Cn := RX0) (T := TX0) (N := 11) 0 7 hin0 rfl rfl (by decide) (C.ts _ (List.mem_cons_of_mem _ lf_RX1_34)) rfl rfl dX1_of_69 ?_
              refine kv_iconst C (-1) dX1_of_72 (by decide) ?_
              refine kv_icmp_eq C 88 dX1_of_73 (by decide) (fun c_17 => ?_) (fun c_17 => ?_)
              · have h := oi_t h c_17
                exact kv_lv [] (lv2 := []) rfl (j88  h)
              · have h := oi_f h c_17
                refine kv_aload_n C 0 dX1_of_76 rfl rfl ?_
                obtain ⟨r_18, hm_19, h⟩ := ob_e h
                refine kv_eSi (ws2 := (wBo qb ql qw cI cJ v_mover v_rights v_passed v_halves v_number v_balance a_men a_kinds a_sides a_rays a_knights a_kings a_pawns a_table)) C hJ [.ref (qb 0)] (c_X1_hasWrongPassed l D qb ql qw cI cJ tq v_mover v_rights v_passed v_halves v_number v_balance a_men a_kinds a_sides a_rays a_knights a_kings a_pawns a_table  r_18 hm_19) (cs_X1_hasWrongPassed C.ts lm_RX1_37 ⟨Nat.le_of_ble_eq_true rfl, Nat.le_of_ble_eq_true rfl⟩) [0, 1, 2, 3, 4, 5, 6, 7, 8, 9, 10] [] [0, 1] [0, 1, 2, 3, 4, 5, 6, 7, 8, 9, 10] rfl rfl rfl rfl rfl (by decide) rfl rfl rfl (Nat.le_of_ble_eq_true rfl) dX1_of_77 ⟨Nat.zero_le _, Nat.zero_le _⟩ rfl rfl rfl ?_
                refine kv_if_eq C 88 dX1_of_80 (by decide) (fun c_20 => ?_) (fun c_20 => ?_)
                · have h := oi_t h c_20
                  exact kv_lv [] (lv2 := []) rfl (j88  h)
                · have h := oi_f h c_20
                  refine kv_bipush C 6 dX1_of_83 (by decide) ?_
                  refine kv_goto C 89 dX1_of_85 (by decide) ?_
                  exact kv_lv [] (lv2 := []) rfl (j89 6 h)
            · have h := oi_f h c_16
              exact kv_lv [] (lv2 := []) rfl (j66  h)
        · have h := oi_f h c_10
          refine kv_iconst C 4 dX1_of_48 (by decide) ?_
          cases h
          exact hret _ _ dX1_of_49 (fun q => by cases q)
      · have h := oi_f h c_7
        refine kv_iconst C 3 dX1_of_33 (by decide) ?_
        cases h
        exact hret _ _ dX1_of_34 (fun q => by cases q)
    · have h := oi_f h c_6
      exact kv_lv [] (lv2 := []) rfl (j16  h)
def m_X2_becomesAnother_b44 (v_mover : Int32) (a_men : Nat → Int32) (t0 : Int32) : Option (Int32) := obl (t0) (some t0)
def m_X2_becomesAnother_b43 (v_mover : Int32) (a_men : Nat → Int32) : Option (Int32) := m_X2_becomesAnother_b44 v_mover a_men 0
def m_X2_becomesAnother_b36 (v_mover : Int32) (a_men : Nat → Int32) (t0 : Int32) (t1 : Int32) : Option (Int32) := if t0 = t1 then m_X2_becomesAnother_b44 v_mover a_men 1 else m_X2_becomesAnother_b43 v_mover a_men
def m_X2_becomesAnother (v_mover : Int32) (a_men : Nat → Int32) (p0 : Int32) : Option (Int32) := oin (p0) 64 (ob (m_J9_abs_0f7a4 (a_men p0.toNatClampNeg)) fun r_4 => if r_4 = 1 then if v_mover = 0 then m_X2_becomesAnother_b36 v_mover a_men (p0 / 8) 6 else m_X2_becomesAnother_b36 v_mover a_men (p0 / 8) 1 else m_X2_becomesAnother_b43 v_mover a_men)
abbrev rm_X2_becomesAnother : Room := { frames := 1, cells := 0, slots := 0, locals := 20 }
abbrev wy_X2_becomesAnother : List Cond := .code yX2_becomesAnother cX2_becomesAnother 2 (some .boolean) :: gT
theorem cv_X2_becomesAnother {R : Room} {s : State} {args : Array Value} {own : String} {index : Nat} {w0 : Cond} (hts : ∀ w ∈ w0 :: gT, w.before args s = true) (hl : Cond.methodLink own index yX2_becomesAnother ∈ gT) (hR : 1 + 1 ≤ R.frames ∧ 8 + (2 + 11) + 20 ≤ R.locals) : CallW R s args own RX2 index yX2_becomesAnother cX2_becomesAnother 2 (some .boolean) wy_X2_becomesAnother rm_X2_becomesAnother 0 0 1 :=
  cwV 1 hts (gT_call w0 (pre := [.methodLink own index yX2_becomesAnother, .instanceMethod yX2_becomesAnother, .selects RX2 yX2_becomesAnother yX2_becomesAnother, .initialized RX2]) (gT_lc hl (gT_lc ly_yX2_becomesAnother (gT_lc lx_yX2_becomesAnother (gT_l1 li_RX2)))) lc_yX2_becomesAnother) rfl rfl rfl (by decide +kernel) hR
set_option maxRecDepth 100000 in
set_option maxHeartbeats 4000000 in
theorem c_X2_becomesAnother (l : Launch) (D : va_G) (qa : Nat → Nat) (qb : Nat → Nat) (ql : Nat → Nat) (qw : Nat → Nat) (cI : ClassId) (cJ : ClassId) (tq : Nat → Nat) (v_standing : Int32) (v_own : Int64) (v_all : Int64) (v_king : Int32) (v_saving : Int64) (v_pinned : Int64) (v_passers : Int64) (a_stands : Nat → Int32) (a_goals : Nat → Int64) (v_mover : Int32) (v_rights : Int32) (v_passed : Int32) (v_halves : Int32) (v_number : Int32) (v_balance : Int32) (a_men : Nat → Int32) (a_kinds : Nat → Int64) (a_sides : Nat → Int64) (a_rays : Nat → Int64) (a_knights : Nat → Int64) (a_kings : Nat → Int64) (a_pawns : Nat → Int64) (a_table : Nat → Int32) (p0 : Int32) (rv : Int32) (hm : m_X2_becomesAnother v_mover a_men p0 = some rv) : kEi l yX2_becomesAnother wy_X2_becomesAnother rm_X2_becomesAnother D [(cI, .int), (cJ, .long)] tq rv (wLa qa qb ql qw cI cJ v_standing v_own v_all v_king v_saving v_pinned v_passers a_stands a_goals v_mover v_rights v_passed v_halves v_number v_balance a_men a_kinds a_sides a_rays a_knights a_kings a_pawns a_table) (wLa qa qb ql qw cI cJ v_standing v_own v_all v_king v_saving v_pinned v_passers a_stands a_goals v_mover v_rights v_passed v_halves v_number v_balance a_men a_kinds a_sides a_rays a_knights a_kings a_pawns a_table) [.ref (qa 0), .int p0] := by
  refine kEi.of cX2_becomesAnother 2 (some .boolean) (by decide) rfl (Or.inr rfl) (Nat.le_of_ble_eq_true rfl) ?_
  intro p e s m below meth c A Q C hJ hret
  have hin0 : ∀ w ∈ wsX00, w ∈ wy_X2_becomesAnother := fun w h => List.mem_cons_of_mem _ (inG0 w h)
  have hin2 : ∀ w ∈ wsX20, w ∈ wy_X2_becomesAnother := fun w h => List.mem_cons_of_mem _ (inG2 w h)
  have hin3 : ∀ w ∈ wsX30, w ∈ wy_X2_becomesAnother := fun w h => List.mem_cons_of_mem _ (inG3 w h)
  have hin7 : ∀ w ∈ wsX70, w ∈ wy_X2_becomesAnother := fun w h => List.mem_cons_of_mem _ (inG7 w h)
  have j44 : ∀ (t0 : Int32), m_X2_becomesAnother_b44  v_mover a_men t0 = some rv → kv p l e rm_X2_becomesAnother s m ([.ref (qa 0), .int p0] : List Value).toArray below meth c D A 2 0 0 Q (wLa qa qb ql qw cI cJ v_standing v_own v_all v_king v_saving v_pinned v_passers a_stands a_goals v_mover v_rights v_passed v_halves v_number v_balance a_men a_kinds a_sides a_rays a_knights a_kings a_pawns a_table) [] 44 [.int t0] := by
    intro t0 h
    unfold m_X2_becomesAnother_b44 at h
    obtain ⟨g_1, h⟩ := obl_e h
    cases h
    exact hret _ _ dX2_becomesAnother_44 (fun _ => g_1)
  have j43 : m_X2_becomesAnother_b43  v_mover a_men  = some rv → kv p l e rm_X2_becomesAnother s m ([.ref (qa 0), .int p0] : List Value).toArray below meth c D A 2 0 0 Q (wLa qa qb ql qw cI cJ v_standing v_own v_all v_king v_saving v_pinned v_passers a_stands a_goals v_mover v_rights v_passed v_halves v_number v_balance a_men a_kinds a_sides a_rays a_knights a_kings a_pawns a_table) [] 43 [] := by
    intro  h
    unfold m_X2_becomesAnother_b43 at h
    refine kv_iconst C 0 dX2_becomesAnother_43 (by decide) ?_
    exact kv_lv [] (lv2 := []) rfl (j44 0 h)
  have j36 : ∀ (t0 : Int32) (t1 : Int32), m_X2_becomesAnother_b36  v_mover a_men t0 t1 = some rv → kv p l e rm_X2_becomesAnother s m ([.ref (qa 0), .int p0] : List Value).toArray below meth c D A 2 0 0 Q (wLa qa qb ql qw cI cJ v_standing v_own v_all v_king v_saving v_pinned v_passers a_stands a_goals v_mover v_rights v_passed v_halves v_number v_balance a_men a_kinds a_sides a_rays a_knights a_kings a_pawns a_table) [] 36 [.int t1, .int t0] := by
    intro t0 t1 h
    unfold m_X2_becomesAnother_b36 at h
    refine kv_icmp_ne C 43 dX2_becomesAnother_36 (by decide) (fun c_2 => ?_) (fun c_2 => ?_)
    · have h := oi_f h c_2
      exact kv_lv [] (lv2 := []) rfl (j43  h)
    · have h := oi_t h c_2
      refine kv_iconst C 1 dX2_becomesAnother_39 (by decide) ?_
      refine kv_goto C 44 dX2_becomesAnother_40 (by decide) ?_
      exact kv_lv [] (lv2 := []) rfl (j44 1 h)
  unfold m_X2_becomesAnother at hm
  have h := hm
  refine kv_lv [0, 1] (lv2 := [(0, .ref (qa 0)), (1, .int p0)]) rfl ?_
  refine kv_aload_n C 0 dX2_becomesAnother_0 rfl rfl ?_
  refine kv_get C (Cn := RX2) (T := TX2) (N := 11) 0 0 hin2 rfl rfl (by decide) (C.ts _ (List.mem_cons_of_mem _ lf_RX2_9)) rfl rfl dX2_becomesAnother_1 ?_
  refine kv_get C (Cn := RX0) (T := TX0) (N := 11) 3 2 hin0 rfl rfl (by decide) (C.ts _ (List.mem_cons_of_mem _ lf_RX2_79)) rfl rfl dX2_becomesAnother_4 ?_
  refine kv_iload_n C 1 dX2_becomesAnother_7 rfl rfl ?_
  obtain ⟨g_3, h⟩ := oin_e h
  refine kv_iald C 4 0 rfl rfl g_3 dX2_becomesAnother_8 ?_
  obtain ⟨r_4, hm_5, h⟩ := ob_e h
  refine kv_callS0i C [.int (a_men p0.toNatClampNeg)] (c_J9_abs_0f7a4 l D (a_men p0.toNatClampNeg) r_4 hm_5) (cs_J9_abs_0f7a4 C.ts lm_RX2_82 ⟨Nat.le_of_ble_eq_true rfl, Nat.le_of_ble_eq_true rfl⟩) rfl rfl (Nat.le_of_ble_eq_true rfl) dX2_becomesAnother_9 ⟨Nat.zero_le _, Nat.zero_le _⟩ ?_
  refine kv_iconst C 1 dX2_becomesAnother_12 (by decide) ?_
  refine kv_icmp_ne C 43 dX2_becomesAnother_13 (by decide) (fun c_6 => ?_) (fun c_6 => ?_)
  · have h := oi_f h c_6
    exact kv_lv [] (lv2 := []) rfl (j43  h)
  · have h := oi_t h c_6
    refine kv_iload_n C 1 dX2_becomesAnother_16 rfl rfl ?_
    refine kv_bipush C 8 dX2_becomesAnother_17 (by decide) ?_
    refine kv_idiv C dX2_becomesAnother_19 (by decide) ?_
    refine kv_aload_n C 0 dX2_becomesAnother_20 rfl rfl ?_
    refine kv_get C (Cn := RX2) (T := TX2) (N := 11) 0 0 hin2 rfl rfl (by decide) (C.ts _ (List.mem_cons_of_mem _ lf_RX2_9)) rfl rfl dX2_becomesAnother_21 ?_
    refine kv_get C (Cn := RX0) (T := TX0) (N := 11) 3 5 hin0 rfl rfl (by decide) (C.ts _ (List.mem_cons_of_mem _ lf_RX2_86)) rfl rfl dX2_becomesAnother_24 ?_
    refine kv_if_ne C 35 dX2_becomesAnother_27 (by decide) (fun c_7 => ?_) (fun c_7 => ?_)
    · have h := oi_f h c_7
      refine kv_iconst C 1 dX2_becomesAnother_35 (by decide) ?_
      exact kv_lv [] (lv2 := []) rfl (j36 (p0 / 8) 1 h)
    · have h := oi_t h c_7
      refine kv_bipush C 6 dX2_becomesAnother_30 (by decide) ?_
      refine kv_goto C 36 dX2_becomesAnother_32 (by decide) ?_
      exact kv_lv [] (lv2 := []) rfl (j36 (p0 / 8) 6 h)
def m_X2_lookAlong_b89 (v_own : Int64) (v_all : Int64) (v_king : Int32) (v_saving : Int64) (v_pinned : Int64) (a_rays : Nat → Int64) : Option (Int64 × Int64) := some (v_saving, v_pinned)
def m_X2_lookAlong (v_own : Int64) (v_all : Int64) (v_king : Int32) (v_saving : Int64) (v_pinned : Int64) (a_rays : Nat → Int64) (p0 : Int32) (p1 : Int64) : Option (Int64 × Int64) := ob (m_X3_along a_rays p0 v_king v_all) fun r_1 => if (lg_cmp (r_1 &&& p1) 0) = 0 then ol (r_1 &&& v_own) fun x6_4 => ob (m_X3_along a_rays p0 v_king (v_all &&& (x6_4 ^^^ (-1)))) fun r_5 => if (lg_cmp (r_5 &&& p1) 0) = 0 then m_X2_lookAlong_b89 v_own v_all v_king v_saving v_pinned a_rays else ol (v_pinned ||| x6_4) fun y_8 => m_X2_lookAlong_b89 v_own v_all v_king v_saving y_8 a_rays else ol (v_saving &&& r_1) fun y_9 => some (y_9, v_pinned)
abbrev rm_X2_lookAlong : Room := { frames := 1, cells := 0, slots := 0, locals := 28 }
abbrev wy_X2_lookAlong : List Cond := .code yX2_lookAlong cX2_lookAlong 8 none :: gT
theorem cv_X2_lookAlong {R : Room} {s : State} {args : Array Value} {own : String} {index : Nat} {w0 : Cond} (hts : ∀ w ∈ w0 :: gT, w.before args s = true) (hl : Cond.methodLink own index yX2_lookAlong ∈ gT) (hR : 1 + 1 ≤ R.frames ∧ 8 + (8 + 11) + 28 ≤ R.locals) : CallW R s args own RX2 index yX2_lookAlong cX2_lookAlong 8 none wy_X2_lookAlong rm_X2_lookAlong 0 0 2 :=
  cwV 2 hts (gT_call w0 (pre := [.methodLink own index yX2_lookAlong, .instanceMethod yX2_lookAlong, .selects RX2 yX2_lookAlong yX2_lookAlong, .initialized RX2]) (gT_lc hl (gT_lc ly_yX2_lookAlong (gT_lc lx_yX2_lookAlong (gT_l1 li_RX2)))) lc_yX2_lookAlong) rfl rfl rfl (by decide +kernel) hR
set_option maxRecDepth 100000 in
set_option maxHeartbeats 4000000 in
theorem c_X2_lookAlong (l : Launch) (D : va_G) (qa : Nat → Nat) (qb : Nat → Nat) (ql : Nat → Nat) (qw : Nat → Nat) (cI : ClassId) (cJ : ClassId) (tq : Nat → Nat) (v_standing : Int32) (v_own : Int64) (v_all : Int64) (v_king : Int32) (v_saving : Int64) (v_pinned : Int64) (v_passers : Int64) (a_stands : Nat → Int32) (a_goals : Nat → Int64) (v_mover : Int32) (v_rights : Int32) (v_passed : Int32) (v_halves : Int32) (v_number : Int32) (v_balance : Int32) (a_men : Nat → Int32) (a_kinds : Nat → Int64) (a_sides : Nat → Int64) (a_rays : Nat → Int64) (a_knights : Nat → Int64) (a_kings : Nat → Int64) (a_pawns : Nat → Int64) (a_table : Nat → Int32) (p0 : Int32) (p1 : Int64) (v_saving' : Int64) (v_pinned' : Int64) (hm : m_X2_lookAlong v_own v_all v_king v_saving v_pinned a_rays p0 p1 = some (v_saving', v_pinned')) : kEv l yX2_lookAlong wy_X2_lookAlong rm_X2_lookAlong D [(cI, .int), (cJ, .long)] tq (wLa qa qb ql qw cI cJ v_standing v_own v_all v_king v_saving v_pinned v_passers a_stands a_goals v_mover v_rights v_passed v_halves v_number v_balance a_men a_kinds a_sides a_rays a_knights a_kings a_pawns a_table) (wLa qa qb ql qw cI cJ v_standing v_own v_all v_king v_saving' v_pinned' v_passers a_stands a_goals v_mover v_rights v_passed v_halves v_number v_balance a_men a_kinds a_sides a_rays a_knights a_kings a_pawns a_table) [.ref (qa 0), .int p0, .long p1] := by
  refine kEv.of cX2_lookAlong 8 none (by decide) rfl rfl (Nat.le_of_ble_eq_true rfl) ?_
  intro p e s m below meth c A Q C hJ hret
  have hin0 : ∀ w ∈ wsX00, w ∈ wy_X2_lookAlong := fun w h => List.mem_cons_of_mem _ (inG0 w h)
  have hin2 : ∀ w ∈ wsX20, w ∈ wy_X2_lookAlong := fun w h => List.mem_cons_of_mem _ (inG2 w h)
  have hin3 : ∀ w ∈ wsX30, w ∈ wy_X2_lookAlong := fun w h => List.mem_cons_of_mem _ (inG3 w h)
  have hin7 : ∀ w ∈ wsX70, w ∈ wy_X2_lookAlong := fun w h => List.mem_cons_of_mem _ (inG7 w h)
  have j89 : ∀ (v_saving : Int64) (v_pinned : Int64), m_X2_lookAlong_b89  v_own v_all v_king v_saving v_pinned a_rays  = some (v_saving', v_pinned') → kv p l e rm_X2_lookAlong s m ([.ref (qa 0), .int p0, .long p1] : List Value).toArray below meth c D A 8 0 0 Q (wLa qa qb ql qw cI cJ v_standing v_own v_all v_king v_saving v_pinned v_passers a_stands a_goals v_mover v_rights v_passed v_halves v_number v_balance a_men a_kinds a_sides a_rays a_knights a_kings a_pawns a_table) [] 89 [] := by
    intro v_saving v_pinned h
    unfold m_X2_lookAlong_b89 at h
    cases h
    exact hret _ _ dX2_lookAlong_89
  unfold m_X2_lookAlong at hm
  have h := hm
  refine kv_lv [0, 1, 2] (lv2 := [(0, .ref (qa 0)), (1, .int p0), (2, .long p1)]) rfl ?_
  refine kv_aload_n C 0 dX2_lookAlong_0 rfl rfl ?_
  refine kv_get C (Cn := RX2) (T := TX2) (N := 11) 0 1 hin2 rfl rfl (by decide) (C.ts _ (List.mem_cons_of_mem _ lf_RX2_15)) rfl rfl dX2_lookAlong_1 ?_
  refine kv_iload_n C 1 dX2_lookAlong_4 rfl rfl ?_
  refine kv_aload_n C 0 dX2_lookAlong_5 rfl rfl ?_
  refine kv_get C (Cn := RX2) (T := TX2) (N := 11) 0 7 hin2 rfl rfl (by decide) (C.ts _ (List.mem_cons_of_mem _ lf_RX2_57)) rfl rfl dX2_lookAlong_6 ?_
  refine kv_aload_n C 0 dX2_lookAlong_9 rfl rfl ?_
  refine kv_get C (Cn := RX2) (T := TX2) (N := 11) 0 6 hin2 rfl rfl (by decide) (C.ts _ (List.mem_cons_of_mem _ lf_RX2_95)) rfl rfl dX2_lookAlong_10 ?_
  obtain ⟨r_1, hm_2, h⟩ := ob_e h
  refine kv_eVl (ws2 := (wLa qa qb ql qw cI cJ v_standing v_own v_all v_king v_saving v_pinned v_passers a_stands a_goals v_mover v_rights v_passed v_halves v_number v_balance a_men a_kinds a_sides a_rays a_knights a_kings a_pawns a_table)) C hJ [.int p0, .int v_king, .long v_all] 0 (c_X3_along l D ql cJ tq a_rays a_knights a_kings a_pawns p0 v_king v_all r_1 hm_2) (cv_X3_along C.ts lm_RX2_127 ⟨Nat.le_of_ble_eq_true rfl, Nat.le_of_ble_eq_true rfl⟩) rfl rfl [7, 8, 9, 10, 11] [0, 1, 2, 3, 4, 5, 6, 12, 13] [1] [0, 1, 2, 3, 4, 5, 6, 9, 10, 11, 12, 13, 7, 8] rfl rfl rfl rfl rfl (by decide) rfl rfl rfl (Nat.le_of_ble_eq_true rfl) dX2_lookAlong_13 ⟨Nat.zero_le _, Nat.zero_le _⟩ rfl rfl rfl ?_
  refine kv_lstore C (lv2 := [(0, .ref (qa 0)), (1, .int p0), (2, .long p1), (4, .long r_1)]) [1, 2, 3, 0] dX2_lookAlong_16 (by decide) rfl rfl ?_
  refine kv_lload C 3 dX2_lookAlong_18 rfl ?_
  refine kv_lload_n C 2 dX2_lookAlong_20 rfl rfl ?_
  refine kv_land C dX2_lookAlong_21 ?_
  refine kv_lconst C 0 dX2_lookAlong_22 (by decide) ?_
  refine kv_lcmp C dX2_lookAlong_23 ?_
  refine kv_if_eq C 39 dX2_lookAlong_24 (by decide) (fun c_3 => ?_) (fun c_3 => ?_)
  · have h := oi_t h c_3
    refine kv_lload C 3 dX2_lookAlong_39 rfl ?_
    refine kv_aload_n C 0 dX2_lookAlong_41 rfl rfl ?_
    refine kv_get C (Cn := RX2) (T := TX2) (N := 11) 0 5 hin2 rfl rfl (by decide) (C.ts _ (List.mem_cons_of_mem _ lf_RX2_39)) rfl rfl dX2_lookAlong_42 ?_
    refine kv_land C dX2_lookAlong_45 ?_
    obtain ⟨x6_4, ex6_4, h⟩ := ol_e h
    refine kv_topl ex6_4 ?_
    refine kv_lstore C (lv2 := [(0, .ref (qa 0)), (1, .int p0), (2, .long p1), (6, .long x6_4)]) [1, 2, 3, 0] dX2_lookAlong_46 (by decide) rfl rfl ?_
    refine kv_aload_n C 0 dX2_lookAlong_48 rfl rfl ?_
    refine kv_get C (Cn := RX2) (T := TX2) (N := 11) 0 1 hin2 rfl rfl (by decide) (C.ts _ (List.mem_cons_of_mem _ lf_RX2_15)) rfl rfl dX2_lookAlong_49 ?_
    refine kv_iload_n C 1 dX2_lookAlong_52 rfl rfl ?_
    refine kv_aload_n C 0 dX2_lookAlong_53 rfl rfl ?_
    refine kv_get C (Cn := RX2) (T := TX2) (N := 11) 0 7 hin2 rfl rfl (by decide) (C.ts _ (List.mem_cons_of_mem _ lf_RX2_57)) rfl rfl dX2_lookAlong_54 ?_
    refine kv_aload_n C 0 dX2_lookAlong_57 rfl rfl ?_
    refine kv_get C (Cn := RX2) (T := TX2) (N := 11) 0 6 hin2 rfl rfl (by decide) (C.ts _ (List.mem_cons_of_mem _ lf_RX2_95)) rfl rfl dX2_lookAlong_58 ?_
    refine kv_lload C 3 dX2_lookAlong_61 rfl ?_
    refine kv_ldc2 C (C.ts _ (List.mem_cons_of_mem _ lkl_RX2_101)) dX2_lookAlong_63 ?_
    refine kv_lxor C dX2_lookAlong_66 ?_
    refine kv_land C dX2_lookAlong_67 ?_
    obtain ⟨r_5, hm_6, h⟩ := ob_e h
    refine kv_eVl (ws2 := (wLa qa qb ql qw cI cJ v_standing v_own v_all v_king v_saving v_pinned v_passers a_stands a_goals v_mover v_rights v_passed v_halves v_number v_balance a_men a_kinds a_sides a_rays a_knights a_kings a_pawns a_table)) C hJ [.int p0, .int v_king, .long (v_all &&& (x6_4 ^^^ (-1)))] 0 (c_X3_along l D ql cJ tq a_rays a_knights a_kings a_pawns p0 v_king (v_all &&& (x6_4 ^^^ (-1))) r_5 hm_6) (cv_X3_along C.ts lm_RX2_127 ⟨Nat.le_of_ble_eq_true rfl, Nat.le_of_ble_eq_true rfl⟩) rfl rfl [7, 8, 9, 10, 11] [0, 1, 2, 3, 4, 5, 6, 12, 13] [1] [0, 1, 2, 3, 4, 5, 6, 9, 10, 11, 12, 13, 7, 8] rfl rfl rfl rfl rfl (by decide) rfl rfl rfl (Nat.le_of_ble_eq_true rfl) dX2_lookAlong_68 ⟨Nat.zero_le _, Nat.zero_le _⟩ rfl rfl rfl ?_
    refine kv_lload_n C 2 dX2_lookAlong_71 rfl rfl ?_
    refine kv_land C dX2_lookAlong_72 ?_
    refine kv_lconst C 0 dX2_lookAlong_73 (by decide) ?_
    refine kv_lcmp C dX2_lookAlong_74 ?_
    refine kv_if_eq C 89 dX2_lookAlong_75 (by decide) (fun c_7 => ?_) (fun c_7 => ?_)
    · have h := oi_t h c_7
      exact kv_lv [] (lv2 := []) rfl (j89 v_saving v_pinned h)
    · have h := oi_f h c_7
      refine kv_aload_n C 0 dX2_lookAlong_78 rfl rfl ?_
      refine kv_dup C dX2_lookAlong_79 rfl ?_
      refine kv_get C (Cn := RX2) (T := TX2) (N := 11) 0 9 hin2 rfl rfl (by decide) (C.ts _ (List.mem_cons_of_mem _ lf_RX2_106)) rfl rfl dX2_lookAlong_80 ?_
      refine kv_lload C 3 dX2_lookAlong_83 rfl ?_
      refine kv_lor C dX2_lookAlong_85 ?_
      obtain ⟨y_8, ey_8, h⟩ := ol_e h
      refine kv_topl ey_8 ?_
      refine kv_put C (Cn := RX2) (T := TX2) (N := 11) (ty := .long) (ws1 := (wLa qa qb ql qw cI cJ v_standing v_own v_all v_king v_saving y_8 v_passers a_stands a_goals v_mover v_rights v_passed v_halves v_number v_balance a_men a_kinds a_sides a_rays a_knights a_kings a_pawns a_table)) 0 9 hin2 tyX2 tyX2_ok nmX2 rfl rfl (by decide) (C.ts _ (List.mem_cons_of_mem _ lf_RX2_106)) rfl rfl (by decide +kernel) rfl rfl (Nat.le_of_ble_eq_true rfl) rfl dX2_lookAlong_86 ?_
      exact kv_lv [] (lv2 := []) rfl (j89 v_saving y_8 h)
  · have h := oi_f h c_3
    refine kv_aload_n C 0 dX2_lookAlong_27 rfl rfl ?_
    refine kv_dup C dX2_lookAlong_28 rfl ?_
    refine kv_get C (Cn := RX2) (T := TX2) (N := 11) 0 8 hin2 rfl rfl (by decide) (C.ts _ (List.mem_cons_of_mem _ lf_RX2_103)) rfl rfl dX2_lookAlong_29 ?_
    refine kv_lload C 3 dX2_lookAlong_32 rfl ?_
    refine kv_land C dX2_lookAlong_34 ?_
    obtain ⟨y_9, ey_9, h⟩ := ol_e h
    refine kv_topl ey_9 ?_
    refine kv_put C (Cn := RX2) (T := TX2) (N := 11) (ty := .long) (ws1 := (wLa qa qb ql qw cI cJ v_standing v_own v_all v_king y_9 v_pinned v_passers a_stands a_goals v_mover v_rights v_passed v_halves v_number v_balance a_men a_kinds a_sides a_rays a_knights a_kings a_pawns a_table)) 0 8 hin2 tyX2 tyX2_ok nmX2 rfl rfl (by decide) (C.ts _ (List.mem_cons_of_mem _ lf_RX2_103)) rfl rfl (by decide +kernel) rfl rfl (Nat.le_of_ble_eq_true rfl) rfl dX2_lookAlong_35 ?_
    cases h
    exact hret _ _ dX2_lookAlong_38
def m_X2_lookAround_b233 (k176 : Int64 → Int64 → Int32 → Int64 → Int64 → Int64 → Int64 → Int32 → Option (Int64 × Int64 × Int32 × Int64 × Int64)) (v_own : Int64) (v_all : Int64) (v_king : Int32) (v_saving : Int64) (v_pinned : Int64) (v_mover : Int32) (a_kinds : Nat → Int64) (a_sides : Nat → Int64) (a_rays : Nat → Int64) (a_knights : Nat → Int64) (a_pawns : Nat → Int64) (x7 : Int64) (x9 : Int64) (x11 : Int32) : Option (Int64 × Int64 × Int32 × Int64 × Int64) := ol (x11 + 1) fun x11_1 => k176 v_own v_all v_king v_saving v_pinned x7 x9 x11_1
def m_X2_lookAround_b215 (k176 : Int64 → Int64 → Int32 → Int64 → Int64 → Int64 → Int64 → Int32 → Option (Int64 × Int64 × Int32 × Int64 × Int64)) (v_own : Int64) (v_all : Int64) (v_king : Int32) (v_saving : Int64) (v_pinned : Int64) (v_mover : Int32) (a_kinds : Nat → Int64) (a_sides : Nat → Int64) (a_rays : Nat → Int64) (a_knights : Nat → Int64) (a_pawns : Nat → Int64) (x7 : Int64) (x9 : Int64) (x11 : Int32) (t0 : Int64) (t1 : Int64) : Option (Int64 × Int64 × Int32 × Int64 × Int64) := ol (t0 &&& t1) fun x12_2 => if (lg_cmp x12_2 0) = 0 then m_X2_lookAround_b233 k176 v_own v_all v_king v_saving v_pinned v_mover a_kinds a_sides a_rays a_knights a_pawns x7 x9 x11 else ob (m_X2_lookAlong v_own v_all v_king v_saving v_pinned a_rays x11 x12_2) fun (v_saving_4, v_pinned_5) => m_X2_lookAround_b233 k176 v_own v_all v_king v_saving_4 v_pinned_5 v_mover a_kinds a_sides a_rays a_knights a_pawns x7 x9 x11
def m_X2_lookAround_b176 (k176 : Int64 → Int64 → Int32 → Int64 → Int64 → Int64 → Int64 → Int32 → Option (Int64 × Int64 × Int32 × Int64 × Int64)) (v_own : Int64) (v_all : Int64) (v_king : Int32) (v_saving : Int64) (v_pinned : Int64) (v_mover : Int32) (a_kinds : Nat → Int64) (a_sides : Nat → Int64) (a_rays : Nat → Int64) (a_knights : Nat → Int64) (a_pawns : Nat → Int64) (x7 : Int64) (x9 : Int64) (x11 : Int32) : Option (Int64 × Int64 × Int32 × Int64 × Int64) := if 8 ≤ x11 then some (v_own, v_all, v_king, v_saving, v_pinned) else oin ((x11 * 64) + v_king) 512 (if (x11 &&& 2) = 0 then m_X2_lookAround_b215 k176 v_own v_all v_king v_saving v_pinned v_mover a_kinds a_sides a_rays a_knights a_pawns x7 x9 x11 (a_rays ((x11 * 64) + v_king).toNatClampNeg) x7 else m_X2_lookAround_b215 k176 v_own v_all v_king v_saving v_pinned v_mover a_kinds a_sides a_rays a_knights a_pawns x7 x9 x11 (a_rays ((x11 * 64) + v_king).toNatClampNeg) x9)
def m_X2_lookAround_l176 (v_mover : Int32) (a_kinds : Nat → Int64) (a_sides : Nat → Int64) (a_rays : Nat → Int64) (a_knights : Nat → Int64) (a_pawns : Nat → Int64) (n : Nat) : Int64 → Int64 → Int32 → Int64 → Int64 → Int64 → Int64 → Int32 → Option (Int64 × Int64 × Int32 × Int64 × Int64) := fz (fun _ _ _ _ _ _ _ _ => none) (fun k176 v_own v_all v_king v_saving v_pinned x7 x9 x11 => m_X2_lookAround_b176 k176 v_own v_all v_king v_saving v_pinned v_mover a_kinds a_sides a_rays a_knights a_pawns x7 x9 x11) n
def m_X2_lookAround_b151 (v_own : Int64) (v_all : Int64) (v_king : Int32) (v_saving : Int64) (v_pinned : Int64) (v_mover : Int32) (a_kinds : Nat → Int64) (a_sides : Nat → Int64) (a_rays : Nat → Int64) (a_knights : Nat → Int64) (a_pawns : Nat → Int64) (x3 : Int64) : Option (Int64 × Int64 × Int32 × Int64 × Int64) := ol (x3 &&& ((a_kinds (Int32.toNatClampNeg 4)) ||| (a_kinds (Int32.toNatClampNeg 5)))) fun x7_10 => ol (x3 &&& ((a_kinds (Int32.toNatClampNeg 3)) ||| (a_kinds (Int32.toNatClampNeg 5)))) fun x9_11 => m_X2_lookAround_l176 v_mover a_kinds a_sides a_rays a_knights a_pawns kF v_own v_all v_king v_saving v_pinned x7_10 x9_11 0
def m_X2_lookAround_b148 (v_own : Int64) (v_all : Int64) (v_king : Int32) (v_saving : Int64) (v_pinned : Int64) (v_mover : Int32) (a_kinds : Nat → Int64) (a_sides : Nat → Int64) (a_rays : Nat → Int64) (a_knights : Nat → Int64) (a_pawns : Nat → Int64) (x3 : Int64) (t1 : Int64) : Option (Int64 × Int64 × Int32 × Int64 × Int64) := m_X2_lookAround_b151 v_own v_all v_king t1 v_pinned v_mover a_kinds a_sides a_rays a_knights a_pawns x3
def m_X2_lookAround (v_own : Int64) (v_all : Int64) (v_king : Int32) (v_saving : Int64) (v_pinned : Int64) (v_mover : Int32) (a_kinds : Nat → Int64) (a_sides : Nat → Int64) (a_rays : Nat → Int64) (a_knights : Nat → Int64) (a_pawns : Nat → Int64) : Option (Int64 × Int64 × Int32 × Int64 × Int64) := oin (v_mover) 2 (ol (a_sides v_mover.toNatClampNeg) fun y_13 => ob (m_X0_everyone a_sides ) fun r_14 => ob (m_X0_kingOf a_kinds a_sides v_mover) fun r_16 => oin ((1 : Int32) - v_mover) 2 (ol (a_sides ((1 : Int32) - v_mover).toNatClampNeg) fun x3_19 => oin (r_16) 64 (oin ((v_mover * 64) + r_16) 128 (ol (((a_knights r_16.toNatClampNeg) &&& (a_kinds (Int32.toNatClampNeg 2))) ||| ((a_pawns ((v_mover * 64) + r_16).toNatClampNeg) &&& (a_kinds (Int32.toNatClampNeg 1)))) fun x5_22 => ol (x5_22 &&& x3_19) fun x5_23 => if (lg_cmp x5_23 0) = 0 then m_X2_lookAround_b151 y_13 r_14 r_16 (-1) 0 v_mover a_kinds a_sides a_rays a_knights a_pawns x3_19 else if (lg_cmp (x5_23 &&& (x5_23 - 1)) 0) = 0 then m_X2_lookAround_b148 y_13 r_14 r_16 (-1) 0 v_mover a_kinds a_sides a_rays a_knights a_pawns x3_19 x5_23 else m_X2_lookAround_b148 y_13 r_14 r_16 (-1) 0 v_mover a_kinds a_sides a_rays a_knights a_pawns x3_19 0))))
abbrev rm_X2_lookAround : Room := { frames := 3, cells := 0, slots := 0, locals := 63 }
abbrev wy_X2_lookAround : List Cond := .code yX2_lookAround cX2_lookAround 14 none :: gT
theorem cv_X2_lookAround {R : Room} {s : State} {args : Array Value} {own : String} {index : Nat} {w0 : Cond} (hts : ∀ w ∈ w0 :: gT, w.before args s = true) (hl : Cond.methodLink own index yX2_lookAround ∈ gT) (hR : 3 + 1 ≤ R.frames ∧ 8 + (14 + 11) + 63 ≤ R.locals) : CallW R s args own RX2 index yX2_lookAround cX2_lookAround 14 none wy_X2_lookAround rm_X2_lookAround 0 0 0 :=
  cwV 0 hts (gT_call w0 (pre := [.methodLink own index yX2_lookAround, .instanceMethod yX2_lookAround, .selects RX2 yX2_lookAround yX2_lookAround, .initialized RX2]) (gT_lc hl (gT_lc ly_yX2_lookAround (gT_lc lx_yX2_lookAround (gT_l1 li_RX2)))) lc_yX2_lookAround) rfl rfl rfl (by decide +kernel) hR
set_option maxRecDepth 100000 in
set_option maxHeartbeats 4000000 in
theorem c_X2_lookAround (l : Launch) (D : va_G) (qa : Nat → Nat) (qb : Nat → Nat) (ql : Nat → Nat) (qw : Nat → Nat) (cI : ClassId) (cJ : ClassId) (tq : Nat → Nat) (v_standing : Int32) (v_own : Int64) (v_all : Int64) (v_king : Int32) (v_saving : Int64) (v_pinned : Int64) (v_passers : Int64) (a_stands : Nat → Int32) (a_goals : Nat → Int64) (v_mover : Int32) (v_rights : Int32) (v_passed : Int32) (v_halves : Int32) (v_number : Int32) (v_balance : Int32) (a_men : Nat → Int32) (a_kinds : Nat → Int64) (a_sides : Nat → Int64) (a_rays : Nat → Int64) (a_knights : Nat → Int64) (a_kings : Nat → Int64) (a_pawns : Nat → Int64) (a_table : Nat → Int32) (v_own' : Int64) (v_all' : Int64) (v_king' : Int32) (v_saving' : Int64) (v_pinned' : Int64) (hm : m_X2_lookAround v_own v_all v_king v_saving v_pinned v_mover a_kinds a_sides a_rays a_knights a_pawns = some (v_own', v_all', v_king', v_saving', v_pinned')) : kEv l yX2_lookAround wy_X2_lookAround rm_X2_lookAround D [(cI, .int), (cJ, .long)] tq (wLa qa qb ql qw cI cJ v_standing v_own v_all v_king v_saving v_pinned v_passers a_stands a_goals v_mover v_rights v_passed v_halves v_number v_balance a_men a_kinds a_sides a_rays a_knights a_kings a_pawns a_table) (wLa qa qb ql qw cI cJ v_standing v_own' v_all' v_king' v_saving' v_pinned' v_passers a_stands a_goals v_mover v_rights v_passed v_halves v_number v_balance a_men a_kinds a_sides a_rays a_knights a_kings a_pawns a_table) [.ref (qa 0)] := by
  refine kEv.of cX2_lookAround 14 none (by decide) rfl rfl (Nat.le_of_ble_eq_true rfl) ?_
  intro p e s m below meth c A Q C hJ hret
  have hin0 : ∀ w ∈ wsX00, w ∈ wy_X2_lookAround := fun w h => List.mem_cons_of_mem _ (inG0 w h)
  have hin2 : ∀ w ∈ wsX20, w ∈ wy_X2_lookAround := fun w h => List.mem_cons_of_mem _ (inG2 w h)
  have hin3 : ∀ w ∈ wsX30, w ∈ wy_X2_lookAround := fun w h => List.mem_cons_of_mem _ (inG3 w h)
  have hin7 : ∀ w ∈ wsX70, w ∈ wy_X2_lookAround := fun w h => List.mem_cons_of_mem _ (inG7 w h)
  have l176 : ∀ (n176 : Nat) (v_own : Int64) (v_all : Int64) (v_king : Int32) (v_saving : Int64) (v_pinned : Int64) (x7 : Int64) (x9 : Int64) (x11 : Int32), m_X2_lookAround_l176  v_mover a_kinds a_sides a_rays a_knights a_pawns n176 v_own v_all v_king v_saving v_pinned x7 x9 x11 = some (v_own', v_all', v_king', v_saving', v_pinned') → kv p l e rm_X2_lookAround s m ([.ref (qa 0)] : List Value).toArray below meth c D A 14 0 0 Q (wLa qa qb ql qw cI cJ v_standing v_own v_all v_king v_saving v_pinned v_passers a_stands a_goals v_mover v_rights v_passed v_halves v_number v_balance a_men a_kinds a_sides a_rays a_knights a_kings a_pawns a_table) [(0, .ref (qa 0)), (7, .long x7), (9, .long x9), (11, .int x11)] 176 [] := by
    intro n176
    induction n176 with
    | zero =>
      intro v_own v_all v_king v_saving v_pinned x7 x9 x11 h
      exact kv_no h
    | succ n176 ih176 =>
      have j233 : ∀ (v_own : Int64) (v_all : Int64) (v_king : Int32) (v_saving : Int64) (v_pinned : Int64) (x7 : Int64) (x9 : Int64) (x11 : Int32), m_X2_lookAround_b233 (m_X2_lookAround_l176  v_mover a_kinds a_sides a_rays a_knights a_pawns n176) v_own v_all v_king v_saving v_pinned v_mover a_kinds a_sides a_rays a_knights a_pawns x7 x9 x11 = some (v_own', v_all', v_king', v_saving', v_pinned') → kv p l e rm_X2_lookAround s m ([.ref (qa 0)] : List Value).toArray below meth c D A 14 0 0 Q (wLa qa qb ql qw cI cJ v_standing v_own v_all v_king v_saving v_pinned v_passers a_stands a_goals v_mover v_rights v_passed v_halves v_number v_balance a_men a_kinds a_sides a_rays a_knights a_kings a_pawns a_table) [(0, .ref (qa 0)), (7, .long x7), (9, .long x9), (11, .int x11)] 233 [] := by
        intro v_own v_all v_king v_saving v_pinned x7 x9 x11 h
        unfold m_X2_lookAround_b233 at h
        obtain ⟨x11_1, ex11_1, h⟩ := ol_e h
        refine kv_iinc C (v := x11_1) (lv2 := [(0, .ref (qa 0)), (7, .long x7), (9, .long x9), (11, .int x11_1)]) 3 [1, 2, 3, 0] dX2_lookAround_233 rfl ex11_1.symm (by decide) rfl rfl ?_
        refine kv_goto C 176 dX2_lookAround_236 (by decide) ?_
        exact kv_lv [0, 1, 2, 3] (lv2 := [(0, .ref (qa 0)), (7, .long x7), (9, .long x9), (11, .int x11_1)]) rfl (ih176 v_own v_all v_king v_saving v_pinned x7 x9 x11_1 h)
      have j215 : ∀ (v_own : Int64) (v_all : Int64) (v_king : Int32) (v_saving : Int64) (v_pinned : Int64) (x7 : Int64) (x9 : Int64) (x11 : Int32) (t0 : Int64) (t1 : Int64), m_X2_lookAround_b215 (m_X2_lookAround_l176  v_mover a_kinds a_sides a_rays a_knights a_pawns n176) v_own v_all v_king v_saving v_pinned v_mover a_kinds a_sides a_rays a_knights a_pawns x7 x9 x11 t0 t1 = some (v_own', v_all', v_king', v_saving', v_pinned') → kv p l e rm_X2_lookAround s m ([.ref (qa 0)] : List Value).toArray below meth c D A 14 0 0 Q (wLa qa qb ql qw cI cJ v_standing v_own v_all v_king v_saving v_pinned v_passers a_stands a_goals v_mover v_rights v_passed v_halves v_number v_balance a_men a_kinds a_sides a_rays a_knights a_kings a_pawns a_table) [(0, .ref (qa 0)), (7, .long x7), (9, .long x9), (11, .int x11)] 215 [.long t1, .long t0] := by
        intro v_own v_all v_king v_saving v_pinned x7 x9 x11 t0 t1 h
        unfold m_X2_lookAround_b215 at h
        refine kv_land C dX2_lookAround_215 ?_
        obtain ⟨x12_2, ex12_2, h⟩ := ol_e h
        refine kv_topl ex12_2 ?_
        refine kv_lstore C (lv2 := [(0, .ref (qa 0)), (7, .long x7), (9, .long x9), (11, .int x11), (12, .long x12_2)]) [1, 2, 3, 4, 0] dX2_lookAround_216 (by decide) rfl rfl ?_
        refine kv_lload C 4 dX2_lookAround_218 rfl ?_
        refine kv_lconst C 0 dX2_lookAround_220 (by decide) ?_
        refine kv_lcmp C dX2_lookAround_221 ?_
        refine kv_if_eq C 233 dX2_lookAround_222 (by decide) (fun c_3 => ?_) (fun c_3 => ?_)
        · have h := oi_t h c_3
          exact kv_lv [0, 1, 2, 3] (lv2 := [(0, .ref (qa 0)), (7, .long x7), (9, .long x9), (11, .int x11)]) rfl (j233 v_own v_all v_king v_saving v_pinned x7 x9 x11 h)
        · have h := oi_f h c_3
          refine kv_aload_n C 0 dX2_lookAround_225 rfl rfl ?_
          refine kv_iload C 3 dX2_lookAround_226 rfl ?_
          refine kv_lload C 4 dX2_lookAround_228 rfl ?_
          obtain ⟨⟨v_saving_4, v_pinned_5⟩, hm_6, h⟩ := ob_e h
          replace h : _ = _ := h
          refine kv_eVv (ws2 := (wLa qa qb ql qw cI cJ v_standing v_own v_all v_king v_saving_4 v_pinned_5 v_passers a_stands a_goals v_mover v_rights v_passed v_halves v_number v_balance a_men a_kinds a_sides a_rays a_knights a_kings a_pawns a_table)) C hJ [.int x11, .long x12_2] 0 (c_X2_lookAlong l D qa qb ql qw cI cJ tq v_standing v_own v_all v_king v_saving v_pinned v_passers a_stands a_goals v_mover v_rights v_passed v_halves v_number v_balance a_men a_kinds a_sides a_rays a_knights a_kings a_pawns a_table x11 x12_2 v_saving_4 v_pinned_5 hm_6) (cv_X2_lookAlong C.ts lm_RX2_123 ⟨Nat.le_of_ble_eq_true rfl, Nat.le_of_ble_eq_true rfl⟩) rfl rfl [0, 1, 2, 3, 4, 5, 6, 7, 8, 9, 10, 11, 12, 13] [] [0, 1] [0, 1, 2, 3, 4, 5, 6, 7, 8, 9, 10, 11, 12, 13] rfl rfl rfl rfl rfl (by decide) rfl rfl rfl (Nat.le_of_ble_eq_true rfl) dX2_lookAround_230 ⟨Nat.zero_le _, Nat.zero_le _⟩ rfl rfl rfl ?_
          exact kv_lv [0, 1, 2, 3] (lv2 := [(0, .ref (qa 0)), (7, .long x7), (9, .long x9), (11, .int x11)]) rfl (j233 v_own v_all v_king v_saving_4 v_pinned_5 x7 x9 x11 h)
      intro v_own v_all v_king v_saving v_pinned x7 x9 x11 h
      replace h : m_X2_lookAround_b176  (m_X2_lookAround_l176  v_mover a_kinds a_sides a_rays a_knights a_pawns n176) v_own v_all v_king v_saving v_pinned v_mover a_kinds a_sides a_rays a_knights a_pawns x7 x9 x11 = some (v_own', v_all', v_king', v_saving', v_pinned') := h
      unfold m_X2_lookAround_b176 at h
      refine kv_iload C 3 dX2_lookAround_176 rfl ?_
      refine kv_bipush C 8 dX2_lookAround_178 (by decide) ?_
      refine kv_icmp_ge C 239 dX2_lookAround_180 (by decide) (fun c_7 => ?_) (fun c_7 => ?_)
      · have h := oi_t h c_7
        cases h
        exact hret _ _ dX2_lookAround_239
      · have h := oi_f h c_7
        refine kv_aload_n C 0 dX2_lookAround_183 rfl rfl ?_
        refine kv_get C (Cn := RX2) (T := TX2) (N := 11) 0 1 hin2 rfl rfl (by decide) (C.ts _ (List.mem_cons_of_mem _ lf_RX2_15)) rfl rfl dX2_lookAround_184 ?_
        refine kv_get C (Cn := RX3) (T := TX3) (N := 4) 7 0 hin3 rfl rfl (by decide) (C.ts _ (List.mem_cons_of_mem _ lf_RX2_120)) rfl rfl dX2_lookAround_187 ?_
        refine kv_iload C 3 dX2_lookAround_190 rfl ?_
        refine kv_bipush C 64 dX2_lookAround_192 (by decide) ?_
        refine kv_imul C dX2_lookAround_194 ?_
        refine kv_aload_n C 0 dX2_lookAround_195 rfl rfl ?_
        refine kv_get C (Cn := RX2) (T := TX2) (N := 11) 0 7 hin2 rfl rfl (by decide) (C.ts _ (List.mem_cons_of_mem _ lf_RX2_57)) rfl rfl dX2_lookAround_196 ?_
        refine kv_iadd C dX2_lookAround_199 ?_
        obtain ⟨g_8, h⟩ := oin_e h
        refine kv_lald C 8 1 rfl rfl g_8 dX2_lookAround_200 ?_
        refine kv_iload C 3 dX2_lookAround_201 rfl ?_
        refine kv_iconst C 2 dX2_lookAround_203 (by decide) ?_
        refine kv_iand C dX2_lookAround_204 ?_
        refine kv_if_eq C 213 dX2_lookAround_205 (by decide) (fun c_9 => ?_) (fun c_9 => ?_)
        · have h := oi_t h c_9
          refine kv_lload C 1 dX2_lookAround_213 rfl ?_
          exact kv_lv [0, 1, 2, 3] (lv2 := [(0, .ref (qa 0)), (7, .long x7), (9, .long x9), (11, .int x11)]) rfl (j215 v_own v_all v_king v_saving v_pinned x7 x9 x11 (a_rays ((x11 * 64) + v_king).toNatClampNeg) x7 h)
        · have h := oi_f h c_9
          refine kv_lload C 2 dX2_lookAround_208 rfl ?_
          refine kv_goto C 215 dX2_lookAround_210 (by decide) ?_
          exact kv_lv [0, 1, 2, 3] (lv2 := [(0, .ref (qa 0)), (7, .long x7), (9, .long x9), (11, .int x11)]) rfl (j215 v_own v_all v_king v_saving v_pinned x7 x9 x11 (a_rays ((x11 * 64) + v_king).toNatClampNeg) x9 h)
  have j151 : ∀ (v_own : Int64) (v_all : Int64) (v_king : Int32) (v_saving : Int64) (v_pinned : Int64) (x3 : Int64), m_X2_lookAround_b151  v_own v_all v_king v_saving v_pinned v_mover a_kinds a_sides a_rays a_knights a_pawns x3 = some (v_own', v_all', v_king', v_saving', v_pinned') → kv p l e rm_X2_lookAround s m ([.ref (qa 0)] : List Value).toArray below meth c D A 14 0 0 Q (wLa qa qb ql qw cI cJ v_standing v_own v_all v_king v_saving v_pinned v_passers a_stands a_goals v_mover v_rights v_passed v_halves v_number v_balance a_men a_kinds a_sides a_rays a_knights a_kings a_pawns a_table) [(0, .ref (qa 0)), (2, .ref (qb 2)), (3, .long x3)] 151 [] := by
    intro v_own v_all v_king v_saving v_pinned x3 h
    unfold m_X2_lookAround_b151 at h
    refine kv_lload_n C 2 dX2_lookAround_151 rfl rfl ?_
    refine kv_aload_n C 1 dX2_lookAround_152 rfl rfl ?_
    refine kv_iconst C 4 dX2_lookAround_153 (by decide) ?_
    refine kv_lald C 5 1 rfl rfl (by unfold vp_in; decide) dX2_lookAround_154 ?_
    refine kv_aload_n C 1 dX2_lookAround_155 rfl rfl ?_
    refine kv_iconst C 5 dX2_lookAround_156 (by decide) ?_
    refine kv_lald C 5 1 rfl rfl (by unfold vp_in; decide) dX2_lookAround_157 ?_
    refine kv_lor C dX2_lookAround_158 ?_
    refine kv_land C dX2_lookAround_159 ?_
    obtain ⟨x7_10, ex7_10, h⟩ := ol_e h
    refine kv_topl ex7_10 ?_
    refine kv_lstore C (lv2 := [(0, .ref (qa 0)), (2, .ref (qb 2)), (3, .long x3), (7, .long x7_10)]) [1, 2, 3, 0] dX2_lookAround_160 (by decide) rfl rfl ?_
    refine kv_lload_n C 2 dX2_lookAround_162 rfl rfl ?_
    refine kv_aload_n C 1 dX2_lookAround_163 rfl rfl ?_
    refine kv_iconst C 3 dX2_lookAround_164 (by decide) ?_
    refine kv_lald C 5 1 rfl rfl (by unfold vp_in; decide) dX2_lookAround_165 ?_
    refine kv_aload_n C 1 dX2_lookAround_166 rfl rfl ?_
    refine kv_iconst C 5 dX2_lookAround_167 (by decide) ?_
    refine kv_lald C 5 1 rfl rfl (by unfold vp_in; decide) dX2_lookAround_168 ?_
    refine kv_lor C dX2_lookAround_169 ?_
    refine kv_land C dX2_lookAround_170 ?_
    obtain ⟨x9_11, ex9_11, h⟩ := ol_e h
    refine kv_topl ex9_11 ?_
    refine kv_lstore C (lv2 := [(0, .ref (qa 0)), (7, .long x7_10), (9, .long x9_11)]) [1, 4, 0] dX2_lookAround_171 (by decide) rfl rfl ?_
    refine kv_iconst C 0 dX2_lookAround_173 (by decide) ?_
    refine kv_istore C (lv2 := [(0, .ref (qa 0)), (7, .long x7_10), (9, .long x9_11), (11, .int 0)]) [1, 2, 3, 0] dX2_lookAround_174 (by decide) rfl rfl ?_
    exact kv_lv [0, 1, 2, 3] (lv2 := [(0, .ref (qa 0)), (7, .long x7_10), (9, .long x9_11), (11, .int 0)]) rfl (l176 kF v_own v_all v_king v_saving v_pinned x7_10 x9_11 0 h)
  have j148 : ∀ (v_own : Int64) (v_all : Int64) (v_king : Int32) (v_saving : Int64) (v_pinned : Int64) (x3 : Int64) (t1 : Int64), m_X2_lookAround_b148  v_own v_all v_king v_saving v_pinned v_mover a_kinds a_sides a_rays a_knights a_pawns x3 t1 = some (v_own', v_all', v_king', v_saving', v_pinned') → kv p l e rm_X2_lookAround s m ([.ref (qa 0)] : List Value).toArray below meth c D A 14 0 0 Q (wLa qa qb ql qw cI cJ v_standing v_own v_all v_king v_saving v_pinned v_passers a_stands a_goals v_mover v_rights v_passed v_halves v_number v_balance a_men a_kinds a_sides a_rays a_knights a_kings a_pawns a_table) [(0, .ref (qa 0)), (2, .ref (qb 2)), (3, .long x3)] 148 [.long t1, .ref (qa 0)] := by
    intro v_own v_all v_king v_saving v_pinned x3 t1 h
    unfold m_X2_lookAround_b148 at h
    refine kv_put C (Cn := RX2) (T := TX2) (N := 11) (ty := .long) (ws1 := (wLa qa qb ql qw cI cJ v_standing v_own v_all v_king t1 v_pinned v_passers a_stands a_goals v_mover v_rights v_passed v_halves v_number v_balance a_men a_kinds a_sides a_rays a_knights a_kings a_pawns a_table)) 0 8 hin2 tyX2 tyX2_ok nmX2 rfl rfl (by decide) (C.ts _ (List.mem_cons_of_mem _ lf_RX2_103)) rfl rfl (by decide +kernel) rfl rfl (Nat.le_of_ble_eq_true rfl) rfl dX2_lookAround_148 ?_
    exact kv_lv [0, 1, 2] (lv2 := [(0, .ref (qa 0)), (2, .ref (qb 2)), (3, .long x3)]) rfl (j151 v_own v_all v_king t1 v_pinned x3 h)
  unfold m_X2_lookAround at hm
  have h := hm
  refine kv_lv [0] (lv2 := [(0, .ref (qa 0))]) rfl ?_
  refine kv_aload_n C 0 dX2_lookAround_0 rfl rfl ?_
  refine kv_get C (Cn := RX2) (T := TX2) (N := 11) 0 0 hin2 rfl rfl (by decide) (C.ts _ (List.mem_cons_of_mem _ lf_RX2_9)) rfl rfl dX2_lookAround_1 ?_
  refine kv_get C (Cn := RX0) (T := TX0) (N := 11) 3 5 hin0 rfl rfl (by decide) (C.ts _ (List.mem_cons_of_mem _ lf_RX2_86)) rfl rfl dX2_lookAround_4 ?_
  refine kv_istore_n C (lv2 := [(0, .ref (qa 0)), (1, .int v_mover)]) [1, 0] dX2_lookAround_7 rfl (by decide) rfl rfl ?_
  refine kv_aload_n C 0 dX2_lookAround_8 rfl rfl ?_
  refine kv_aload_n C 0 dX2_lookAround_9 rfl rfl ?_
  refine kv_get C (Cn := RX2) (T := TX2) (N := 11) 0 0 hin2 rfl rfl (by decide) (C.ts _ (List.mem_cons_of_mem _ lf_RX2_9)) rfl rfl dX2_lookAround_10 ?_
  refine kv_get C (Cn := RX0) (T := TX0) (N := 11) 3 4 hin0 rfl rfl (by decide) (C.ts _ (List.mem_cons_of_mem _ lf_RX2_89)) rfl rfl dX2_lookAround_13 ?_
  refine kv_iload_n C 1 dX2_lookAround_16 rfl rfl ?_
  obtain ⟨g_12, h⟩ := oin_e h
  refine kv_lald C 6 1 rfl rfl g_12 dX2_lookAround_17 ?_
  obtain ⟨y_13, ey_13, h⟩ := ol_e h
  refine kv_topl ey_13 ?_
  refine kv_put C (Cn := RX2) (T := TX2) (N := 11) (ty := .long) (ws1 := (wLa qa qb ql qw cI cJ v_standing y_13 v_all v_king v_saving v_pinned v_passers a_stands a_goals v_mover v_rights v_passed v_halves v_number v_balance a_men a_kinds a_sides a_rays a_knights a_kings a_pawns a_table)) 0 5 hin2 tyX2 tyX2_ok nmX2 rfl rfl (by decide) (C.ts _ (List.mem_cons_of_mem _ lf_RX2_39)) rfl rfl (by decide +kernel) rfl rfl (Nat.le_of_ble_eq_true rfl) rfl dX2_lookAround_18 ?_
  refine kv_aload_n C 0 dX2_lookAround_21 rfl rfl ?_
  refine kv_aload_n C 0 dX2_lookAround_22 rfl rfl ?_
  refine kv_get C (Cn := RX2) (T := TX2) (N := 11) 0 0 hin2 rfl rfl (by decide) (C.ts _ (List.mem_cons_of_mem _ lf_RX2_9)) rfl rfl dX2_lookAround_23 ?_
  obtain ⟨r_14, hm_15, h⟩ := ob_e h
  refine kv_eVl (ws2 := (wLa qa qb ql qw cI cJ v_standing y_13 v_all v_king v_saving v_pinned v_passers a_stands a_goals v_mover v_rights v_passed v_halves v_number v_balance a_men a_kinds a_sides a_rays a_knights a_kings a_pawns a_table)) C hJ [] 0 (c_X0_everyone l D qb ql qw cI cJ tq v_mover v_rights v_passed v_halves v_number v_balance a_men a_kinds a_sides a_rays a_knights a_kings a_pawns a_table  r_14 hm_15) (cv_X0_everyone C.ts lm_RX2_92 ⟨Nat.le_of_ble_eq_true rfl, Nat.le_of_ble_eq_true rfl⟩) rfl rfl [3, 4, 5, 6, 7, 8, 9, 10, 11, 12, 13] [0, 1, 2] [0, 1] [0, 1, 2, 3, 4, 5, 6, 7, 8, 9, 10, 11, 12, 13] rfl rfl rfl rfl rfl (by decide) rfl rfl rfl (Nat.le_of_ble_eq_true rfl) dX2_lookAround_26 ⟨Nat.zero_le _, Nat.zero_le _⟩ rfl rfl rfl ?_
  refine kv_put C (Cn := RX2) (T := TX2) (N := 11) (ty := .long) (ws1 := (wLa qa qb ql qw cI cJ v_standing y_13 r_14 v_king v_saving v_pinned v_passers a_stands a_goals v_mover v_rights v_passed v_halves v_number v_balance a_men a_kinds a_sides a_rays a_knights a_kings a_pawns a_table)) 0 6 hin2 tyX2 tyX2_ok nmX2 rfl rfl (by decide) (C.ts _ (List.mem_cons_of_mem _ lf_RX2_95)) rfl rfl (by decide +kernel) rfl rfl (Nat.le_of_ble_eq_true rfl) rfl dX2_lookAround_29 ?_
  refine kv_aload_n C 0 dX2_lookAround_32 rfl rfl ?_
  refine kv_aload_n C 0 dX2_lookAround_33 rfl rfl ?_
  refine kv_get C (Cn := RX2) (T := TX2) (N := 11) 0 0 hin2 rfl rfl (by decide) (C.ts _ (List.mem_cons_of_mem _ lf_RX2_9)) rfl rfl dX2_lookAround_34 ?_
  refine kv_iload_n C 1 dX2_lookAround_37 rfl rfl ?_
  obtain ⟨r_16, hm_17, h⟩ := ob_e h
  refine kv_eVi (ws2 := (wLa qa qb ql qw cI cJ v_standing y_13 r_14 v_king v_saving v_pinned v_passers a_stands a_goals v_mover v_rights v_passed v_halves v_number v_balance a_men a_kinds a_sides a_rays a_knights a_kings a_pawns a_table)) C hJ [.int v_mover] 0 (c_X0_kingOf l D qb ql qw cI cJ tq v_mover v_rights v_passed v_halves v_number v_balance a_men a_kinds a_sides a_rays a_knights a_kings a_pawns a_table v_mover r_16 hm_17) (cv_X0_kingOf C.ts lm_RX2_98 ⟨Nat.le_of_ble_eq_true rfl, Nat.le_of_ble_eq_true rfl⟩) rfl rfl [3, 4, 5, 6, 7, 8, 9, 10, 11, 12, 13] [0, 1, 2] [0, 1] [0, 1, 2, 3, 4, 5, 6, 7, 8, 9, 10, 11, 12, 13] rfl rfl rfl rfl rfl (by decide) rfl rfl rfl (Nat.le_of_ble_eq_true rfl) dX2_lookAround_38 ⟨Nat.zero_le _, Nat.zero_le _⟩ rfl rfl rfl ?_
  refine kv_put C (Cn := RX2) (T := TX2) (N := 11) (ty := .int) (ws1 := (wLa qa qb ql qw cI cJ v_standing y_13 r_14 r_16 v_saving v_pinned v_passers a_stands a_goals v_mover v_rights v_passed v_halves v_number v_balance a_men a_kinds a_sides a_rays a_knights a_kings a_pawns a_table)) 0 7 hin2 tyX2 tyX2_ok nmX2 rfl rfl (by decide) (C.ts _ (List.mem_cons_of_mem _ lf_RX2_57)) rfl rfl (by decide +kernel) rfl rfl (Nat.le_of_ble_eq_true rfl) rfl dX2_lookAround_41 ?_
  refine kv_aload_n C 0 dX2_lookAround_44 rfl rfl ?_
  refine kv_ldc2 C (C.ts _ (List.mem_cons_of_mem _ lkl_RX2_101)) dX2_lookAround_45 ?_
  refine kv_put C (Cn := RX2) (T := TX2) (N := 11) (ty := .long) (ws1 := (wLa qa qb ql qw cI cJ v_standing y_13 r_14 r_16 (-1) v_pinned v_passers a_stands a_goals v_mover v_rights v_passed v_halves v_number v_balance a_men a_kinds a_sides a_rays a_knights a_kings a_pawns a_table)) 0 8 hin2 tyX2 tyX2_ok nmX2 rfl rfl (by decide) (C.ts _ (List.mem_cons_of_mem _ lf_RX2_103)) rfl rfl (by decide +kernel) rfl rfl (Nat.le_of_ble_eq_true rfl) rfl dX2_lookAround_48 ?_
  refine kv_aload_n C 0 dX2_lookAround_51 rfl rfl ?_
  refine kv_lconst C 0 dX2_lookAround_52 (by decide) ?_
  refine kv_put C (Cn := RX2) (T := TX2) (N := 11) (ty := .long) (ws1 := (wLa qa qb ql qw cI cJ v_standing y_13 r_14 r_16 (-1) 0 v_passers a_stands a_goals v_mover v_rights v_passed v_halves v_number v_balance a_men a_kinds a_sides a_rays a_knights a_kings a_pawns a_table)) 0 9 hin2 tyX2 tyX2_ok nmX2 rfl rfl (by decide) (C.ts _ (List.mem_cons_of_mem _ lf_RX2_106)) rfl rfl (by decide +kernel) rfl rfl (Nat.le_of_ble_eq_true rfl) rfl dX2_lookAround_53 ?_
  refine kv_aload_n C 0 dX2_lookAround_56 rfl rfl ?_
  refine kv_get C (Cn := RX2) (T := TX2) (N := 11) 0 0 hin2 rfl rfl (by decide) (C.ts _ (List.mem_cons_of_mem _ lf_RX2_9)) rfl rfl dX2_lookAround_57 ?_
  refine kv_get C (Cn := RX0) (T := TX0) (N := 11) 3 3 hin0 rfl rfl (by decide) (C.ts _ (List.mem_cons_of_mem _ lf_RX2_109)) rfl rfl dX2_lookAround_60 ?_
  refine kv_astore_n C (lv2 := [(0, .ref (qa 0)), (1, .int v_mover), (2, .ref (qb 2))]) [1, 2, 0] dX2_lookAround_63 rfl (by decide) rfl rfl ?_
  refine kv_aload_n C 0 dX2_lookAround_64 rfl rfl ?_
  refine kv_get C (Cn := RX2) (T := TX2) (N := 11) 0 0 hin2 rfl rfl (by decide) (C.ts _ (List.mem_cons_of_mem _ lf_RX2_9)) rfl rfl dX2_lookAround_65 ?_
  refine kv_get C (Cn := RX0) (T := TX0) (N := 11) 3 4 hin0 rfl rfl (by decide) (C.ts _ (List.mem_cons_of_mem _ lf_RX2_89)) rfl rfl dX2_lookAround_68 ?_
  refine kv_iconst C 1 dX2_lookAround_71 (by decide) ?_
  refine kv_iload_n C 1 dX2_lookAround_72 rfl rfl ?_
  refine kv_isub C dX2_lookAround_73 ?_
  obtain ⟨g_18, h⟩ := oin_e h
  refine kv_lald C 6 1 rfl rfl g_18 dX2_lookAround_74 ?_
  obtain ⟨x3_19, ex3_19, h⟩ := ol_e h
  refine kv_topl ex3_19 ?_
  refine kv_lstore_n C (lv2 := [(0, .ref (qa 0)), (1, .int v_mover), (2, .ref (qb 2)), (3, .long x3_19)]) [1, 2, 3, 0] dX2_lookAround_75 rfl (by decide) rfl rfl ?_
  refine kv_aload_n C 0 dX2_lookAround_76 rfl rfl ?_
  refine kv_get C (Cn := RX2) (T := TX2) (N := 11) 0 1 hin2 rfl rfl (by decide) (C.ts _ (List.mem_cons_of_mem _ lf_RX2_15)) rfl rfl dX2_lookAround_77 ?_
  refine kv_get C (Cn := RX3) (T := TX3) (N := 4) 7 1 hin3 rfl rfl (by decide) (C.ts _ (List.mem_cons_of_mem _ lf_RX2_112)) rfl rfl dX2_lookAround_80 ?_
  refine kv_aload_n C 0 dX2_lookAround_83 rfl rfl ?_
  refine kv_get C (Cn := RX2) (T := TX2) (N := 11) 0 7 hin2 rfl rfl (by decide) (C.ts _ (List.mem_cons_of_mem _ lf_RX2_57)) rfl rfl dX2_lookAround_84 ?_
  obtain ⟨g_20, h⟩ := oin_e h
  refine kv_lald C 9 1 rfl rfl g_20 dX2_lookAround_87 ?_
  refine kv_aload_n C 2 dX2_lookAround_88 rfl rfl ?_
  refine kv_iconst C 2 dX2_lookAround_89 (by decide) ?_
  refine kv_lald C 5 1 rfl rfl (by unfold vp_in; decide) dX2_lookAround_90 ?_
  refine kv_land C dX2_lookAround_91 ?_
  refine kv_aload_n C 0 dX2_lookAround_92 rfl rfl ?_
  refine kv_get C (Cn := RX2) (T := TX2) (N := 11) 0 1 hin2 rfl rfl (by decide) (C.ts _ (List.mem_cons_of_mem _ lf_RX2_15)) rfl rfl dX2_lookAround_93 ?_
  refine kv_get C (Cn := RX3) (T := TX3) (N := 4) 7 3 hin3 rfl rfl (by decide) (C.ts _ (List.mem_cons_of_mem _ lf_RX2_117)) rfl rfl dX2_lookAround_96 ?_
  refine kv_iload_n C 1 dX2_lookAround_99 rfl rfl ?_
  refine kv_bipush C 64 dX2_lookAround_100 (by decide) ?_
  refine kv_imul C dX2_lookAround_102 ?_
  refine kv_aload_n C 0 dX2_lookAround_103 rfl rfl ?_
  refine kv_get C (Cn := RX2) (T := TX2) (N := 11) 0 7 hin2 rfl rfl (by decide) (C.ts _ (List.mem_cons_of_mem _ lf_RX2_57)) rfl rfl dX2_lookAround_104 ?_
  refine kv_iadd C dX2_lookAround_107 ?_
  obtain ⟨g_21, h⟩ := oin_e h
  refine kv_lald C 11 1 rfl rfl g_21 dX2_lookAround_108 ?_
  refine kv_aload_n C 2 dX2_lookAround_109 rfl rfl ?_
  refine kv_iconst C 1 dX2_lookAround_110 (by decide) ?_
  refine kv_lald C 5 1 rfl rfl (by unfold vp_in; decide) dX2_lookAround_111 ?_
  refine kv_land C dX2_lookAround_112 ?_
  refine kv_lor C dX2_lookAround_113 ?_
  obtain ⟨x5_22, ex5_22, h⟩ := ol_e h
  refine kv_topl ex5_22 ?_
  refine kv_lstore C (lv2 := [(0, .ref (qa 0)), (2, .ref (qb 2)), (3, .long x3_19), (5, .long x5_22)]) [1, 3, 4, 0] dX2_lookAround_114 (by decide) rfl rfl ?_
  refine kv_lload C 3 dX2_lookAround_116 rfl ?_
  refine kv_lload_n C 2 dX2_lookAround_118 rfl rfl ?_
  refine kv_land C dX2_lookAround_119 ?_
  obtain ⟨x5_23, ex5_23, h⟩ := ol_e h
  refine kv_topl ex5_23 ?_
  refine kv_lstore C (lv2 := [(0, .ref (qa 0)), (2, .ref (qb 2)), (3, .long x3_19), (5, .long x5_23)]) [1, 2, 3, 0] dX2_lookAround_120 (by decide) rfl rfl ?_
  refine kv_lload C 3 dX2_lookAround_122 rfl ?_
  refine kv_lconst C 0 dX2_lookAround_124 (by decide) ?_
  refine kv_lcmp C dX2_lookAround_125 ?_
  refine kv_if_eq C 151 dX2_lookAround_126 (by decide) (fun c_24 => ?_) (fun c_24 => ?_)
  · have h := oi_t h c_24
    exact kv_lv [0, 1, 2] (lv2 := [(0, .ref (qa 0)), (2, .ref (qb 2)), (3, .long x3_19)]) rfl (j151 y_13 r_14 r_16 (-1) 0 x3_19 h)
  · have h := oi_f h c_24
    refine kv_aload_n C 0 dX2_lookAround_129 rfl rfl ?_
    refine kv_lload C 3 dX2_lookAround_130 rfl ?_
    refine kv_lload C 3 dX2_lookAround_132 rfl ?_
    refine kv_lconst C 1 dX2_lookAround_134 (by decide) ?_
    refine kv_lsub C dX2_lookAround_135 ?_
    refine kv_land C dX2_lookAround_136 ?_
    refine kv_lconst C 0 dX2_lookAround_137 (by decide) ?_
    refine kv_lcmp C dX2_lookAround_138 ?_
    refine kv_if_ne C 147 dX2_lookAround_139 (by decide) (fun c_25 => ?_) (fun c_25 => ?_)
    · have h := oi_f h c_25
      refine kv_lconst C 0 dX2_lookAround_147 (by decide) ?_
      exact kv_lv [0, 1, 2] (lv2 := [(0, .ref (qa 0)), (2, .ref (qb 2)), (3, .long x3_19)]) rfl (j148 y_13 r_14 r_16 (-1) 0 x3_19 0 h)
    · have h := oi_t h c_25
      refine kv_lload C 3 dX2_lookAround_142 rfl ?_
      refine kv_goto C 148 dX2_lookAround_144 (by decide) ?_
      exact kv_lv [0, 1, 2] (lv2 := [(0, .ref (qa 0)), (2, .ref (qb 2)), (3, .long x3_19)]) rfl (j148 y_13 r_14 r_16 (-1) 0 x3_19 x5_23 h)
def m_X2_pawnGoals_b108 (v_all : Int64) (v_mover : Int32) (a_sides : Nat → Int64) (a_pawns : Nat → Int64) (x4 : Int64) : Option (Int64) := some x4
def m_X2_pawnGoals_b84 (v_all : Int64) (v_mover : Int32) (a_sides : Nat → Int64) (a_pawns : Nat → Int64) (x1 : Int32) (x3 : Int32) (x4 : Int64) (t0 : Int32) (t1 : Int32) : Option (Int64) := if t0 = t1 then ol (x4 ||| (((1 : Int64) <<< ((x1 + ((2 : Int32) * x3)).toInt64 &&& 63)) &&& (v_all ^^^ (-1)))) fun x4_2 => m_X2_pawnGoals_b108 v_all v_mover a_sides a_pawns x4_2 else m_X2_pawnGoals_b108 v_all v_mover a_sides a_pawns x4
def m_X2_pawnGoals (v_all : Int64) (v_mover : Int32) (a_sides : Nat → Int64) (a_pawns : Nat → Int64) (p0 : Int32) : Option (Int64) := ob (m_X9_upOf v_mover) fun r_3 => oin ((v_mover * 64) + p0) 128 (oin ((1 : Int32) - v_mover) 2 (ol ((a_pawns ((v_mover * 64) + p0).toNatClampNeg) &&& (a_sides ((1 : Int32) - v_mover).toNatClampNeg)) fun x4_7 => ol ((1 : Int64) <<< ((p0 + r_3).toInt64 &&& 63)) fun x6_8 => if (lg_cmp (v_all &&& x6_8) 0) = 0 then ol (x4_7 ||| x6_8) fun x4_10 => if v_mover = 0 then m_X2_pawnGoals_b84 v_all v_mover a_sides a_pawns p0 r_3 x4_10 (p0 / 8) 1 else m_X2_pawnGoals_b84 v_all v_mover a_sides a_pawns p0 r_3 x4_10 (p0 / 8) 6 else some x4_7))
abbrev rm_X2_pawnGoals : Room := { frames := 1, cells := 0, slots := 0, locals := 20 }
abbrev wy_X2_pawnGoals : List Cond := .code yX2_pawnGoals cX2_pawnGoals 8 (some .long) :: gT
theorem cv_X2_pawnGoals {R : Room} {s : State} {args : Array Value} {own : String} {index : Nat} {w0 : Cond} (hts : ∀ w ∈ w0 :: gT, w.before args s = true) (hl : Cond.methodLink own index yX2_pawnGoals ∈ gT) (hR : 1 + 1 ≤ R.frames ∧ 8 + (8 + 11) + 20 ≤ R.locals) : CallW R s args own RX2 index yX2_pawnGoals cX2_pawnGoals 8 (some .long) wy_X2_pawnGoals rm_X2_pawnGoals 0 0 1 :=
  cwV 1 hts (gT_call w0 (pre := [.methodLink own index yX2_pawnGoals, .instanceMethod yX2_pawnGoals, .selects RX2 yX2_pawnGoals yX2_pawnGoals, .initialized RX2]) (gT_lc hl (gT_lc ly_yX2_pawnGoals (gT_lc lx_yX2_pawnGoals (gT_l1 li_RX2)))) lc_yX2_pawnGoals) rfl rfl rfl (by decide +kernel) hR
set_option maxRecDepth 100000 in
set_option maxHeartbeats 4000000 in
theorem c_X2_pawnGoals (l : Launch) (D : va_G) (qa : Nat → Nat) (qb : Nat → Nat) (ql : Nat → Nat) (qw : Nat → Nat) (cI : ClassId) (cJ : ClassId) (tq : Nat → Nat) (v_standing : Int32) (v_own : Int64) (v_all : Int64) (v_king : Int32) (v_saving : Int64) (v_pinned : Int64) (v_passers : Int64) (a_stands : Nat → Int32) (a_goals : Nat → Int64) (v_mover : Int32) (v_rights : Int32) (v_passed : Int32) (v_halves : Int32) (v_number : Int32) (v_balance : Int32) (a_men : Nat → Int32) (a_kinds : Nat → Int64) (a_sides : Nat → Int64) (a_rays : Nat → Int64) (a_knights : Nat → Int64) (a_kings : Nat → Int64) (a_pawns : Nat → Int64) (a_table : Nat → Int32) (p0 : Int32) (rv : Int64) (hm : m_X2_pawnGoals v_all v_mover a_sides a_pawns p0 = some rv) : kEl l yX2_pawnGoals wy_X2_pawnGoals rm_X2_pawnGoals D [(cI, .int), (cJ, .long)] tq rv (wLa qa qb ql qw cI cJ v_standing v_own v_all v_king v_saving v_pinned v_passers a_stands a_goals v_mover v_rights v_passed v_halves v_number v_balance a_men a_kinds a_sides a_rays a_knights a_kings a_pawns a_table) (wLa qa qb ql qw cI cJ v_standing v_own v_all v_king v_saving v_pinned v_passers a_stands a_goals v_mover v_rights v_passed v_halves v_number v_balance a_men a_kinds a_sides a_rays a_knights a_kings a_pawns a_table) [.ref (qa 0), .int p0] := by
  refine kEl.of cX2_pawnGoals 8 (some .long) (by decide) rfl rfl (Nat.le_of_ble_eq_true rfl) ?_
  intro p e s m below meth c A Q C hJ hret
  have hin0 : ∀ w ∈ wsX00, w ∈ wy_X2_pawnGoals := fun w h => List.mem_cons_of_mem _ (inG0 w h)
  have hin2 : ∀ w ∈ wsX20, w ∈ wy_X2_pawnGoals := fun w h => List.mem_cons_of_mem _ (inG2 w h)
  have hin3 : ∀ w ∈ wsX30, w ∈ wy_X2_pawnGoals := fun w h => List.mem_cons_of_mem _ (inG3 w h)
  have hin7 : ∀ w ∈ wsX70, w ∈ wy_X2_pawnGoals := fun w h => List.mem_cons_of_mem _ (inG7 w h)
  have j108 : ∀ (x4 : Int64), m_X2_pawnGoals_b108  v_all v_mover a_sides a_pawns x4 = some rv → kv p l e rm_X2_pawnGoals s m ([.ref (qa 0), .int p0] : List Value).toArray below meth c D A 8 0 0 Q (wLa qa qb ql qw cI cJ v_standing v_own v_all v_king v_saving v_pinned v_passers a_stands a_goals v_mover v_rights v_passed v_halves v_number v_balance a_men a_kinds a_sides a_rays a_knights a_kings a_pawns a_table) [(4, .long x4)] 108 [] := by
    intro x4 h
    unfold m_X2_pawnGoals_b108 at h
    refine kv_lload C 0 dX2_pawnGoals_108 rfl ?_
    cases h
    exact hret _ _ dX2_pawnGoals_110
  have j84 : ∀ (x1 : Int32) (x3 : Int32) (x4 : Int64) (t0 : Int32) (t1 : Int32), m_X2_pawnGoals_b84  v_all v_mover a_sides a_pawns x1 x3 x4 t0 t1 = some rv → kv p l e rm_X2_pawnGoals s m ([.ref (qa 0), .int p0] : List Value).toArray below meth c D A 8 0 0 Q (wLa qa qb ql qw cI cJ v_standing v_own v_all v_king v_saving v_pinned v_passers a_stands a_goals v_mover v_rights v_passed v_halves v_number v_balance a_men a_kinds a_sides a_rays a_knights a_kings a_pawns a_table) [(0, .ref (qa 0)), (1, .int x1), (3, .int x3), (4, .long x4)] 84 [.int t1, .int t0] := by
    intro x1 x3 x4 t0 t1 h
    unfold m_X2_pawnGoals_b84 at h
    refine kv_icmp_ne C 108 dX2_pawnGoals_84 (by decide) (fun c_1 => ?_) (fun c_1 => ?_)
    · have h := oi_f h c_1
      exact kv_lv [3] (lv2 := [(4, .long x4)]) rfl (j108 x4 h)
    · have h := oi_t h c_1
      refine kv_lload C 3 dX2_pawnGoals_87 rfl ?_
      refine kv_lconst C 1 dX2_pawnGoals_89 (by decide) ?_
      refine kv_iload_n C 1 dX2_pawnGoals_90 rfl rfl ?_
      refine kv_iconst C 2 dX2_pawnGoals_91 (by decide) ?_
      refine kv_iload_n C 2 dX2_pawnGoals_92 rfl rfl ?_
      refine kv_imul C dX2_pawnGoals_93 ?_
      refine kv_iadd C dX2_pawnGoals_94 ?_
      refine kv_lshl C dX2_pawnGoals_95 ?_
      refine kv_aload_n C 0 dX2_pawnGoals_96 rfl rfl ?_
      refine kv_get C (Cn := RX2) (T := TX2) (N := 11) 0 6 hin2 rfl rfl (by decide) (C.ts _ (List.mem_cons_of_mem _ lf_RX2_95)) rfl rfl dX2_pawnGoals_97 ?_
      refine kv_ldc2 C (C.ts _ (List.mem_cons_of_mem _ lkl_RX2_101)) dX2_pawnGoals_100 ?_
      refine kv_lxor C dX2_pawnGoals_103 ?_
      refine kv_land C dX2_pawnGoals_104 ?_
      refine kv_lor C dX2_pawnGoals_105 ?_
      obtain ⟨x4_2, ex4_2, h⟩ := ol_e h
      refine kv_topl ex4_2 ?_
      refine kv_lstore C (lv2 := [(4, .long x4_2)]) [0] dX2_pawnGoals_106 (by decide) rfl rfl ?_
      exact kv_lv [0] (lv2 := [(4, .long x4_2)]) rfl (j108 x4_2 h)
  unfold m_X2_pawnGoals at hm
  have h := hm
  refine kv_lv [0, 1] (lv2 := [(0, .ref (qa 0)), (1, .int p0)]) rfl ?_
  refine kv_aload_n C 0 dX2_pawnGoals_0 rfl rfl ?_
  refine kv_get C (Cn := RX2) (T := TX2) (N := 11) 0 0 hin2 rfl rfl (by decide) (C.ts _ (List.mem_cons_of_mem _ lf_RX2_9)) rfl rfl dX2_pawnGoals_1 ?_
  refine kv_get C (Cn := RX0) (T := TX0) (N := 11) 3 5 hin0 rfl rfl (by decide) (C.ts _ (List.mem_cons_of_mem _ lf_RX2_86)) rfl rfl dX2_pawnGoals_4 ?_
  refine kv_istore_n C (lv2 := [(0, .ref (qa 0)), (1, .int p0), (2, .int v_mover)]) [1, 2, 0] dX2_pawnGoals_7 rfl (by decide) rfl rfl ?_
  refine kv_iload_n C 2 dX2_pawnGoals_8 rfl rfl ?_
  obtain ⟨r_3, hm_4, h⟩ := ob_e h
  refine kv_SN0i C [.int v_mover] (c_X9_upOf l D v_mover r_3 hm_4) (cn_X9_upOf C.ts (hJ.1 _ (List.mem_of_getElem? (i := 4) rfl)) ⟨Nat.le_of_ble_eq_true rfl, Nat.le_of_ble_eq_true rfl⟩) rfl rfl (Nat.le_of_ble_eq_true rfl) dX2_pawnGoals_9 ⟨Nat.zero_le _, Nat.zero_le _⟩ ?_
  refine kv_istore_n C (lv2 := [(0, .ref (qa 0)), (1, .int p0), (2, .int v_mover), (3, .int r_3)]) [1, 2, 3, 0] dX2_pawnGoals_12 rfl (by decide) rfl rfl ?_
  refine kv_aload_n C 0 dX2_pawnGoals_13 rfl rfl ?_
  refine kv_get C (Cn := RX2) (T := TX2) (N := 11) 0 1 hin2 rfl rfl (by decide) (C.ts _ (List.mem_cons_of_mem _ lf_RX2_15)) rfl rfl dX2_pawnGoals_14 ?_
  refine kv_get C (Cn := RX3) (T := TX3) (N := 4) 7 3 hin3 rfl rfl (by decide) (C.ts _ (List.mem_cons_of_mem _ lf_RX2_117)) rfl rfl dX2_pawnGoals_17 ?_
  refine kv_iload_n C 2 dX2_pawnGoals_20 rfl rfl ?_
  refine kv_bipush C 64 dX2_pawnGoals_21 (by decide) ?_
  refine kv_imul C dX2_pawnGoals_23 ?_
  refine kv_iload_n C 1 dX2_pawnGoals_24 rfl rfl ?_
  refine kv_iadd C dX2_pawnGoals_25 ?_
  obtain ⟨g_5, h⟩ := oin_e h
  refine kv_lald C 11 1 rfl rfl g_5 dX2_pawnGoals_26 ?_
  refine kv_aload_n C 0 dX2_pawnGoals_27 rfl rfl ?_
  refine kv_get C (Cn := RX2) (T := TX2) (N := 11) 0 0 hin2 rfl rfl (by decide) (C.ts _ (List.mem_cons_of_mem _ lf_RX2_9)) rfl rfl dX2_pawnGoals_28 ?_
  refine kv_get C (Cn := RX0) (T := TX0) (N := 11) 3 4 hin0 rfl rfl (by decide) (C.ts _ (List.mem_cons_of_mem _ lf_RX2_89)) rfl rfl dX2_pawnGoals_31 ?_
  refine kv_iconst C 1 dX2_pawnGoals_34 (by decide) ?_
  refine kv_iload_n C 2 dX2_pawnGoals_35 rfl rfl ?_
  refine kv_isub C dX2_pawnGoals_36 ?_
  obtain ⟨g_6, h⟩ := oin_e h
  refine kv_lald C 6 1 rfl rfl g_6 dX2_pawnGoals_37 ?_
  refine kv_land C dX2_pawnGoals_38 ?_
  obtain ⟨x4_7, ex4_7, h⟩ := ol_e h
  refine kv_topl ex4_7 ?_
  refine kv_lstore C (lv2 := [(0, .ref (qa 0)), (1, .int p0), (2, .int v_mover), (3, .int r_3), (4, .long x4_7)]) [1, 2, 3, 4, 0] dX2_pawnGoals_39 (by decide) rfl rfl ?_
  refine kv_lconst C 1 dX2_pawnGoals_41 (by decide) ?_
  refine kv_iload_n C 1 dX2_pawnGoals_42 rfl rfl ?_
  refine kv_iload_n C 3 dX2_pawnGoals_43 rfl rfl ?_
  refine kv_iadd C dX2_pawnGoals_44 ?_
  refine kv_lshl C dX2_pawnGoals_45 ?_
  obtain ⟨x6_8, ex6_8, h⟩ := ol_e h
  refine kv_topl ex6_8 ?_
  refine kv_lstore C (lv2 := [(0, .ref (qa 0)), (1, .int p0), (2, .int v_mover), (3, .int r_3), (4, .long x4_7), (6, .long x6_8)]) [1, 2, 3, 4, 5, 0] dX2_pawnGoals_46 (by decide) rfl rfl ?_
  refine kv_aload_n C 0 dX2_pawnGoals_48 rfl rfl ?_
  refine kv_get C (Cn := RX2) (T := TX2) (N := 11) 0 6 hin2 rfl rfl (by decide) (C.ts _ (List.mem_cons_of_mem _ lf_RX2_95)) rfl rfl dX2_pawnGoals_49 ?_
  refine kv_lload C 5 dX2_pawnGoals_52 rfl ?_
  refine kv_land C dX2_pawnGoals_54 ?_
  refine kv_lconst C 0 dX2_pawnGoals_55 (by decide) ?_
  refine kv_lcmp C dX2_pawnGoals_56 ?_
  refine kv_if_eq C 63 dX2_pawnGoals_57 (by decide) (fun c_9 => ?_) (fun c_9 => ?_)
  · have h := oi_t h c_9
    refine kv_lload C 4 dX2_pawnGoals_63 rfl ?_
    refine kv_lload C 5 dX2_pawnGoals_65 rfl ?_
    refine kv_lor C dX2_pawnGoals_67 ?_
    obtain ⟨x4_10, ex4_10, h⟩ := ol_e h
    refine kv_topl ex4_10 ?_
    refine kv_lstore C (lv2 := [(0, .ref (qa 0)), (1, .int p0), (2, .int v_mover), (3, .int r_3), (4, .long x4_10)]) [1, 2, 3, 4, 0] dX2_pawnGoals_68 (by decide) rfl rfl ?_
    refine kv_iload_n C 1 dX2_pawnGoals_70 rfl rfl ?_
    refine kv_bipush C 8 dX2_pawnGoals_71 (by decide) ?_
    refine kv_idiv C dX2_pawnGoals_73 (by decide) ?_
    refine kv_iload_n C 2 dX2_pawnGoals_74 rfl rfl ?_
    refine kv_if_ne C 82 dX2_pawnGoals_75 (by decide) (fun c_11 => ?_) (fun c_11 => ?_)
    · have h := oi_f h c_11
      refine kv_bipush C 6 dX2_pawnGoals_82 (by decide) ?_
      exact kv_lv [0, 1, 3, 4] (lv2 := [(0, .ref (qa 0)), (1, .int p0), (3, .int r_3), (4, .long x4_10)]) rfl (j84 p0 r_3 x4_10 (p0 / 8) 6 h)
    · have h := oi_t h c_11
      refine kv_iconst C 1 dX2_pawnGoals_78 (by decide) ?_
      refine kv_goto C 84 dX2_pawnGoals_79 (by decide) ?_
      exact kv_lv [0, 1, 3, 4] (lv2 := [(0, .ref (qa 0)), (1, .int p0), (3, .int r_3), (4, .long x4_10)]) rfl (j84 p0 r_3 x4_10 (p0 / 8) 1 h)
  · have h := oi_f h c_9
    refine kv_lload C 4 dX2_pawnGoals_60 rfl ?_
    cases h
    exact hret _ _ dX2_pawnGoals_62
def m_X2_goalsOf_b109 (v_own : Int64) (v_all : Int64) (v_king : Int32) (v_saving : Int64) (v_pinned : Int64) (v_passers : Int64) (v_mover : Int32) (v_passed : Int32) (a_men : Nat → Int32) (a_sides : Nat → Int64) (a_rays : Nat → Int64) (a_knights : Nat → Int64) (a_pawns : Nat → Int64) (x3 : Int64) : Option (Int64) := some x3
def m_X2_goalsOf_b84 (v_own : Int64) (v_all : Int64) (v_king : Int32) (v_saving : Int64) (v_pinned : Int64) (v_passers : Int64) (v_mover : Int32) (v_passed : Int32) (a_men : Nat → Int32) (a_sides : Nat → Int64) (a_rays : Nat → Int64) (a_knights : Nat → Int64) (a_pawns : Nat → Int64) (x1 : Int32) (x3 : Int64) : Option (Int64) := if (lg_cmp (((v_passers.toUInt64 >>> (x1.toInt64.toUInt64 &&& Int64.toUInt64 63)).toInt64) &&& 1) 0) = 0 then m_X2_goalsOf_b109 v_own v_all v_king v_saving v_pinned v_passers v_mover v_passed a_men a_sides a_rays a_knights a_pawns x3 else ol (x3 ||| ((1 : Int64) <<< (v_passed.toInt64 &&& 63))) fun x3_2 => m_X2_goalsOf_b109 v_own v_all v_king v_saving v_pinned v_passers v_mover v_passed a_men a_sides a_rays a_knights a_pawns x3_2
def m_X2_goalsOf_b48 (v_own : Int64) (v_all : Int64) (v_king : Int32) (v_saving : Int64) (v_pinned : Int64) (v_passers : Int64) (v_mover : Int32) (v_passed : Int32) (a_men : Nat → Int32) (a_sides : Nat → Int64) (a_rays : Nat → Int64) (a_knights : Nat → Int64) (a_pawns : Nat → Int64) (x1 : Int32) (t0 : Int64) : Option (Int64) := ol (t0 &&& v_saving) fun x3_3 => if (lg_cmp (((v_pinned.toUInt64 >>> (x1.toInt64.toUInt64 &&& Int64.toUInt64 63)).toInt64) &&& 1) 0) = 0 then m_X2_goalsOf_b84 v_own v_all v_king v_saving v_pinned v_passers v_mover v_passed a_men a_sides a_rays a_knights a_pawns x1 x3_3 else ob (m_X3_rayThrough a_rays v_king x1) fun r_5 => ol (x3_3 &&& r_5) fun x3_7 => m_X2_goalsOf_b84 v_own v_all v_king v_saving v_pinned v_passers v_mover v_passed a_men a_sides a_rays a_knights a_pawns x1 x3_7
def m_X2_goalsOf (v_own : Int64) (v_all : Int64) (v_king : Int32) (v_saving : Int64) (v_pinned : Int64) (v_passers : Int64) (v_mover : Int32) (v_passed : Int32) (a_men : Nat → Int32) (a_sides : Nat → Int64) (a_rays : Nat → Int64) (a_knights : Nat → Int64) (a_pawns : Nat → Int64) (p0 : Int32) : Option (Int64) := oin (p0) 64 (ob (m_J9_abs_0f7a4 (a_men p0.toNatClampNeg)) fun r_9 => if r_9 = 1 then ob (m_X2_pawnGoals v_all v_mover a_sides a_pawns p0) fun r_14 => m_X2_goalsOf_b48 v_own v_all v_king v_saving v_pinned v_passers v_mover v_passed a_men a_sides a_rays a_knights a_pawns p0 r_14 else ob (m_X3_reach a_rays a_knights r_9 p0 v_all) fun r_12 => m_X2_goalsOf_b48 v_own v_all v_king v_saving v_pinned v_passers v_mover v_passed a_men a_sides a_rays a_knights a_pawns p0 (r_12 &&& (v_own ^^^ (-1))))
abbrev rm_X2_goalsOf : Room := { frames := 2, cells := 0, slots := 0, locals := 55 }
abbrev wy_X2_goalsOf : List Cond := .code yX2_goalsOf cX2_goalsOf 5 (some .long) :: gT
theorem cv_X2_goalsOf {R : Room} {s : State} {args : Array Value} {own : String} {index : Nat} {w0 : Cond} (hts : ∀ w ∈ w0 :: gT, w.before args s = true) (hl : Cond.methodLink own index yX2_goalsOf ∈ gT) (hR : 2 + 1 ≤ R.frames ∧ 8 + (5 + 11) + 55 ≤ R.locals) : CallW R s args own RX2 index yX2_goalsOf cX2_goalsOf 5 (some .long) wy_X2_goalsOf rm_X2_goalsOf 0 0 1 :=
  cwV 1 hts (gT_call w0 (pre := [.methodLink own index yX2_goalsOf, .instanceMethod yX2_goalsOf, .selects RX2 yX2_goalsOf yX2_goalsOf, .initialized RX2]) (gT_lc hl (gT_lc ly_yX2_goalsOf (gT_lc lx_yX2_goalsOf (gT_l1 li_RX2)))) lc_yX2_goalsOf) rfl rfl rfl (by decide +kernel) hR
set_option maxRecDepth 100000 in
set_option maxHeartbeats 4000000 in
theorem c_X2_goalsOf (l : Launch) (D : va_G) (qa : Nat → Nat) (qb : Nat → Nat) (ql : Nat → Nat) (qw : Nat → Nat) (cI : ClassId) (cJ : ClassId) (tq : Nat → Nat) (v_standing : Int32) (v_own : Int64) (v_all : Int64) (v_king : Int32) (v_saving : Int64) (v_pinned : Int64) (v_passers : Int64) (a_stands : Nat → Int32) (a_goals : Nat → Int64) (v_mover : Int32) (v_rights : Int32) (v_passed : Int32) (v_halves : Int32) (v_number : Int32) (v_balance : Int32) (a_men : Nat → Int32) (a_kinds : Nat → Int64) (a_sides : Nat → Int64) (a_rays : Nat → Int64) (a_knights : Nat → Int64) (a_kings : Nat → Int64) (a_pawns : Nat → Int64) (a_table : Nat → Int32) (p0 : Int32) (rv : Int64) (hm : m_X2_goalsOf v_own v_all v_king v_saving v_pinned v_passers v_mover v_passed a_men a_sides a_rays a_knights a_pawns p0 = some rv) : kEl l yX2_goalsOf wy_X2_goalsOf rm_X2_goalsOf D [(cI, .int), (cJ, .long)] tq rv (wLa qa qb ql qw cI cJ v_standing v_own v_all v_king v_saving v_pinned v_passers a_stands a_goals v_mover v_rights v_passed v_halves v_number v_balance a_men a_kinds a_sides a_rays a_knights a_kings a_pawns a_table) (wLa qa qb ql qw cI cJ v_standing v_own v_all v_king v_saving v_pinned v_passers a_stands a_goals v_mover v_rights v_passed v_halves v_number v_balance a_men a_kinds a_sides a_rays a_knights a_kings a_pawns a_table) [.ref (qa 0), .int p0] := by
  refine kEl.of cX2_goalsOf 5 (some .long) (by decide) rfl rfl (Nat.le_of_ble_eq_true rfl) ?_
  intro p e s m below meth c A Q C hJ hret
  have hin0 : ∀ w ∈ wsX00, w ∈ wy_X2_goalsOf := fun w h => List.mem_cons_of_mem _ (inG0 w h)
  have hin2 : ∀ w ∈ wsX20, w ∈ wy_X2_goalsOf := fun w h => List.mem_cons_of_mem _ (inG2 w h)
  have hin3 : ∀ w ∈ wsX30, w ∈ wy_X2_goalsOf := fun w h => List.mem_cons_of_mem _ (inG3 w h)
  have hin7 : ∀ w ∈ wsX70, w ∈ wy_X2_goalsOf := fun w h => List.mem_cons_of_mem _ (inG7 w h)
  have j109 : ∀ (x3 : Int64), m_X2_goalsOf_b109  v_own v_all v_king v_saving v_pinned v_passers v_mover v_passed a_men a_sides a_rays a_knights a_pawns x3 = some rv → kv p l e rm_X2_goalsOf s m ([.ref (qa 0), .int p0] : List Value).toArray below meth c D A 5 0 0 Q (wLa qa qb ql qw cI cJ v_standing v_own v_all v_king v_saving v_pinned v_passers a_stands a_goals v_mover v_rights v_passed v_halves v_number v_balance a_men a_kinds a_sides a_rays a_knights a_kings a_pawns a_table) [(3, .long x3)] 109 [] := by
    intro x3 h
    unfold m_X2_goalsOf_b109 at h
    refine kv_lload_n C 0 dX2_goalsOf_109 rfl rfl ?_
    cases h
    exact hret _ _ dX2_goalsOf_110
  have j84 : ∀ (x1 : Int32) (x3 : Int64), m_X2_goalsOf_b84  v_own v_all v_king v_saving v_pinned v_passers v_mover v_passed a_men a_sides a_rays a_knights a_pawns x1 x3 = some rv → kv p l e rm_X2_goalsOf s m ([.ref (qa 0), .int p0] : List Value).toArray below meth c D A 5 0 0 Q (wLa qa qb ql qw cI cJ v_standing v_own v_all v_king v_saving v_pinned v_passers a_stands a_goals v_mover v_rights v_passed v_halves v_number v_balance a_men a_kinds a_sides a_rays a_knights a_kings a_pawns a_table) [(0, .ref (qa 0)), (1, .int x1), (3, .long x3)] 84 [] := by
    intro x1 x3 h
    unfold m_X2_goalsOf_b84 at h
    refine kv_aload_n C 0 dX2_goalsOf_84 rfl rfl ?_
    refine kv_get C (Cn := RX2) (T := TX2) (N := 11) 0 10 hin2 rfl rfl (by decide) (C.ts _ (List.mem_cons_of_mem _ lf_RX2_36)) rfl rfl dX2_goalsOf_85 ?_
    refine kv_iload_n C 1 dX2_goalsOf_88 rfl rfl ?_
    refine kv_lushr C dX2_goalsOf_89 ?_
    refine kv_lconst C 1 dX2_goalsOf_90 (by decide) ?_
    refine kv_land C dX2_goalsOf_91 ?_
    refine kv_lconst C 0 dX2_goalsOf_92 (by decide) ?_
    refine kv_lcmp C dX2_goalsOf_93 ?_
    refine kv_if_eq C 109 dX2_goalsOf_94 (by decide) (fun c_1 => ?_) (fun c_1 => ?_)
    · have h := oi_t h c_1
      exact kv_lv [2] (lv2 := [(3, .long x3)]) rfl (j109 x3 h)
    · have h := oi_f h c_1
      refine kv_lload_n C 2 dX2_goalsOf_97 rfl rfl ?_
      refine kv_lconst C 1 dX2_goalsOf_98 (by decide) ?_
      refine kv_aload_n C 0 dX2_goalsOf_99 rfl rfl ?_
      refine kv_get C (Cn := RX2) (T := TX2) (N := 11) 0 0 hin2 rfl rfl (by decide) (C.ts _ (List.mem_cons_of_mem _ lf_RX2_9)) rfl rfl dX2_goalsOf_100 ?_
      refine kv_get C (Cn := RX0) (T := TX0) (N := 11) 3 7 hin0 rfl rfl (by decide) (C.ts _ (List.mem_cons_of_mem _ lf_RX2_141)) rfl rfl dX2_goalsOf_103 ?_
      refine kv_lshl C dX2_goalsOf_106 ?_
      refine kv_lor C dX2_goalsOf_107 ?_
      obtain ⟨x3_2, ex3_2, h⟩ := ol_e h
      refine kv_topl ex3_2 ?_
      refine kv_lstore_n C (lv2 := [(3, .long x3_2)]) [0] dX2_goalsOf_108 rfl (by decide) rfl rfl ?_
      exact kv_lv [0] (lv2 := [(3, .long x3_2)]) rfl (j109 x3_2 h)
  have j48 : ∀ (x1 : Int32) (t0 : Int64), m_X2_goalsOf_b48  v_own v_all v_king v_saving v_pinned v_passers v_mover v_passed a_men a_sides a_rays a_knights a_pawns x1 t0 = some rv → kv p l e rm_X2_goalsOf s m ([.ref (qa 0), .int p0] : List Value).toArray below meth c D A 5 0 0 Q (wLa qa qb ql qw cI cJ v_standing v_own v_all v_king v_saving v_pinned v_passers a_stands a_goals v_mover v_rights v_passed v_halves v_number v_balance a_men a_kinds a_sides a_rays a_knights a_kings a_pawns a_table) [(0, .ref (qa 0)), (1, .int x1)] 48 [.long t0] := by
    intro x1 t0 h
    unfold m_X2_goalsOf_b48 at h
    refine kv_lstore_n C (lv2 := [(0, .ref (qa 0)), (1, .int x1), (3, .long t0)]) [1, 2, 0] dX2_goalsOf_48 rfl (by decide) rfl rfl ?_
    refine kv_lload_n C 2 dX2_goalsOf_49 rfl rfl ?_
    refine kv_aload_n C 0 dX2_goalsOf_50 rfl rfl ?_
    refine kv_get C (Cn := RX2) (T := TX2) (N := 11) 0 8 hin2 rfl rfl (by decide) (C.ts _ (List.mem_cons_of_mem _ lf_RX2_103)) rfl rfl dX2_goalsOf_51 ?_
    refine kv_land C dX2_goalsOf_54 ?_
    obtain ⟨x3_3, ex3_3, h⟩ := ol_e h
    refine kv_topl ex3_3 ?_
    refine kv_lstore_n C (lv2 := [(0, .ref (qa 0)), (1, .int x1), (3, .long x3_3)]) [1, 2, 0] dX2_goalsOf_55 rfl (by decide) rfl rfl ?_
    refine kv_aload_n C 0 dX2_goalsOf_56 rfl rfl ?_
    refine kv_get C (Cn := RX2) (T := TX2) (N := 11) 0 9 hin2 rfl rfl (by decide) (C.ts _ (List.mem_cons_of_mem _ lf_RX2_106)) rfl rfl dX2_goalsOf_57 ?_
    refine kv_iload_n C 1 dX2_goalsOf_60 rfl rfl ?_
    refine kv_lushr C dX2_goalsOf_61 ?_
    refine kv_lconst C 1 dX2_goalsOf_62 (by decide) ?_
    refine kv_land C dX2_goalsOf_63 ?_
    refine kv_lconst C 0 dX2_goalsOf_64 (by decide) ?_
    refine kv_lcmp C dX2_goalsOf_65 ?_
    refine kv_if_eq C 84 dX2_goalsOf_66 (by decide) (fun c_4 => ?_) (fun c_4 => ?_)
    · have h := oi_t h c_4
      exact kv_lv [0, 1, 2] (lv2 := [(0, .ref (qa 0)), (1, .int x1), (3, .long x3_3)]) rfl (j84 x1 x3_3 h)
    · have h := oi_f h c_4
      refine kv_lload_n C 2 dX2_goalsOf_69 rfl rfl ?_
      refine kv_aload_n C 0 dX2_goalsOf_70 rfl rfl ?_
      refine kv_get C (Cn := RX2) (T := TX2) (N := 11) 0 1 hin2 rfl rfl (by decide) (C.ts _ (List.mem_cons_of_mem _ lf_RX2_15)) rfl rfl dX2_goalsOf_71 ?_
      refine kv_aload_n C 0 dX2_goalsOf_74 rfl rfl ?_
      refine kv_get C (Cn := RX2) (T := TX2) (N := 11) 0 7 hin2 rfl rfl (by decide) (C.ts _ (List.mem_cons_of_mem _ lf_RX2_57)) rfl rfl dX2_goalsOf_75 ?_
      refine kv_iload_n C 1 dX2_goalsOf_78 rfl rfl ?_
      obtain ⟨r_5, hm_6, h⟩ := ob_e h
      refine kv_eVl (ws2 := (wLa qa qb ql qw cI cJ v_standing v_own v_all v_king v_saving v_pinned v_passers a_stands a_goals v_mover v_rights v_passed v_halves v_number v_balance a_men a_kinds a_sides a_rays a_knights a_kings a_pawns a_table)) C hJ [.int v_king, .int x1] 0 (c_X3_rayThrough l D ql cJ tq a_rays a_knights a_kings a_pawns v_king x1 r_5 hm_6) (cv_X3_rayThrough C.ts lm_RX2_137 ⟨Nat.le_of_ble_eq_true rfl, Nat.le_of_ble_eq_true rfl⟩) rfl rfl [7, 8, 9, 10, 11] [0, 1, 2, 3, 4, 5, 6, 12, 13] [1] [0, 1, 2, 3, 4, 5, 6, 9, 10, 11, 12, 13, 7, 8] rfl rfl rfl rfl rfl (by decide) rfl rfl rfl (Nat.le_of_ble_eq_true rfl) dX2_goalsOf_79 ⟨Nat.zero_le _, Nat.zero_le _⟩ rfl rfl rfl ?_
      refine kv_land C dX2_goalsOf_82 ?_
      obtain ⟨x3_7, ex3_7, h⟩ := ol_e h
      refine kv_topl ex3_7 ?_
      refine kv_lstore_n C (lv2 := [(0, .ref (qa 0)), (1, .int x1), (3, .long x3_7)]) [1, 2, 0] dX2_goalsOf_83 rfl (by decide) rfl rfl ?_
      exact kv_lv [0, 1, 2] (lv2 := [(0, .ref (qa 0)), (1, .int x1), (3, .long x3_7)]) rfl (j84 x1 x3_7 h)
  unfold m_X2_goalsOf at hm
  have h := hm
  refine kv_lv [0, 1] (lv2 := [(0, .ref (qa 0)), (1, .int p0)]) rfl ?_
  refine kv_aload_n C 0 dX2_goalsOf_0 rfl rfl ?_
  refine kv_get C (Cn := RX2) (T := TX2) (N := 11) 0 0 hin2 rfl rfl (by decide) (C.ts _ (List.mem_cons_of_mem _ lf_RX2_9)) rfl rfl dX2_goalsOf_1 ?_
  refine kv_get C (Cn := RX0) (T := TX0) (N := 11) 3 2 hin0 rfl rfl (by decide) (C.ts _ (List.mem_cons_of_mem _ lf_RX2_79)) rfl rfl dX2_goalsOf_4 ?_
  refine kv_iload_n C 1 dX2_goalsOf_7 rfl rfl ?_
  obtain ⟨g_8, h⟩ := oin_e h
  refine kv_iald C 4 0 rfl rfl g_8 dX2_goalsOf_8 ?_
  obtain ⟨r_9, hm_10, h⟩ := ob_e h
  refine kv_callS0i C [.int (a_men p0.toNatClampNeg)] (c_J9_abs_0f7a4 l D (a_men p0.toNatClampNeg) r_9 hm_10) (cs_J9_abs_0f7a4 C.ts lm_RX2_82 ⟨Nat.le_of_ble_eq_true rfl, Nat.le_of_ble_eq_true rfl⟩) rfl rfl (Nat.le_of_ble_eq_true rfl) dX2_goalsOf_9 ⟨Nat.zero_le _, Nat.zero_le _⟩ ?_
  refine kv_istore_n C (lv2 := [(0, .ref (qa 0)), (1, .int p0), (2, .int r_9)]) [1, 2, 0] dX2_goalsOf_12 rfl (by decide) rfl rfl ?_
  refine kv_iload_n C 2 dX2_goalsOf_13 rfl rfl ?_
  refine kv_iconst C 1 dX2_goalsOf_14 (by decide) ?_
  refine kv_icmp_ne C 26 dX2_goalsOf_15 (by decide) (fun c_11 => ?_) (fun c_11 => ?_)
  · have h := oi_f h c_11
    refine kv_aload_n C 0 dX2_goalsOf_26 rfl rfl ?_
    refine kv_get C (Cn := RX2) (T := TX2) (N := 11) 0 1 hin2 rfl rfl (by decide) (C.ts _ (List.mem_cons_of_mem _ lf_RX2_15)) rfl rfl dX2_goalsOf_27 ?_
    refine kv_iload_n C 2 dX2_goalsOf_30 rfl rfl ?_
    refine kv_iload_n C 1 dX2_goalsOf_31 rfl rfl ?_
    refine kv_aload_n C 0 dX2_goalsOf_32 rfl rfl ?_
    refine kv_get C (Cn := RX2) (T := TX2) (N := 11) 0 6 hin2 rfl rfl (by decide) (C.ts _ (List.mem_cons_of_mem _ lf_RX2_95)) rfl rfl dX2_goalsOf_33 ?_
    obtain ⟨r_12, hm_13, h⟩ := ob_e h
    refine kv_eVl (ws2 := (wLa qa qb ql qw cI cJ v_standing v_own v_all v_king v_saving v_pinned v_passers a_stands a_goals v_mover v_rights v_passed v_halves v_number v_balance a_men a_kinds a_sides a_rays a_knights a_kings a_pawns a_table)) C hJ [.int r_9, .int p0, .long v_all] 0 (c_X3_reach l D ql cJ tq a_rays a_knights a_kings a_pawns r_9 p0 v_all r_12 hm_13) (cv_X3_reach C.ts lm_RX2_134 ⟨Nat.le_of_ble_eq_true rfl, Nat.le_of_ble_eq_true rfl⟩) rfl rfl [7, 8, 9, 10, 11] [0, 1, 2, 3, 4, 5, 6, 12, 13] [1] [0, 1, 2, 3, 4, 5, 6, 9, 10, 11, 12, 13, 7, 8] rfl rfl rfl rfl rfl (by decide) rfl rfl rfl (Nat.le_of_ble_eq_true rfl) dX2_goalsOf_36 ⟨Nat.zero_le _, Nat.zero_le _⟩ rfl rfl rfl ?_
    refine kv_aload_n C 0 dX2_goalsOf_39 rfl rfl ?_
    refine kv_get C (Cn := RX2) (T := TX2) (N := 11) 0 5 hin2 rfl rfl (by decide) (C.ts _ (List.mem_cons_of_mem _ lf_RX2_39)) rfl rfl dX2_goalsOf_40 ?_
    refine kv_ldc2 C (C.ts _ (List.mem_cons_of_mem _ lkl_RX2_101)) dX2_goalsOf_43 ?_
    refine kv_lxor C dX2_goalsOf_46 ?_
    refine kv_land C dX2_goalsOf_47 ?_
    exact kv_lv [0, 1] (lv2 := [(0, .ref (qa 0)), (1, .int p0)]) rfl (j48 p0 (r_12 &&& (v_own ^^^ (-1))) h)
  · have h := oi_t h c_11
    refine kv_aload_n C 0 dX2_goalsOf_18 rfl rfl ?_
    refine kv_iload_n C 1 dX2_goalsOf_19 rfl rfl ?_
    obtain ⟨r_14, hm_15, h⟩ := ob_e h
    refine kv_eVl (ws2 := (wLa qa qb ql qw cI cJ v_standing v_own v_all v_king v_saving v_pinned v_passers a_stands a_goals v_mover v_rights v_passed v_halves v_number v_balance a_men a_kinds a_sides a_rays a_knights a_kings a_pawns a_table)) C hJ [.int p0] 0 (c_X2_pawnGoals l D qa qb ql qw cI cJ tq v_standing v_own v_all v_king v_saving v_pinned v_passers a_stands a_goals v_mover v_rights v_passed v_halves v_number v_balance a_men a_kinds a_sides a_rays a_knights a_kings a_pawns a_table p0 r_14 hm_15) (cv_X2_pawnGoals C.ts lm_RX2_131 ⟨Nat.le_of_ble_eq_true rfl, Nat.le_of_ble_eq_true rfl⟩) rfl rfl [0, 1, 2, 3, 4, 5, 6, 7, 8, 9, 10, 11, 12, 13] [] [0, 1] [0, 1, 2, 3, 4, 5, 6, 7, 8, 9, 10, 11, 12, 13] rfl rfl rfl rfl rfl (by decide) rfl rfl rfl (Nat.le_of_ble_eq_true rfl) dX2_goalsOf_20 ⟨Nat.zero_le _, Nat.zero_le _⟩ rfl rfl rfl ?_
    refine kv_goto C 48 dX2_goalsOf_23 (by decide) ?_
    exact kv_lv [0, 1] (lv2 := [(0, .ref (qa 0)), (1, .int p0)]) rfl (j48 p0 r_14 h)
def m_X2_goalsByRight_b202 (v_all : Int64) (v_mover : Int32) (v_rights : Int32) (a_kinds : Nat → Int64) (a_sides : Nat → Int64) (a_rays : Nat → Int64) (a_knights : Nat → Int64) (a_kings : Nat → Int64) (a_pawns : Nat → Int64) (x8 : Int64) : Option (Int64) := some x8
def m_X2_goalsByRight_b160 (v_all : Int64) (v_mover : Int32) (v_rights : Int32) (a_kinds : Nat → Int64) (a_sides : Nat → Int64) (a_rays : Nat → Int64) (a_knights : Nat → Int64) (a_kings : Nat → Int64) (a_pawns : Nat → Int64) (x3 : Int32) (x4 : Int32) (x5 : Int32) (x7 : Int32) (x8 : Int64) : Option (Int64) := if (x5 &&& 2) = 0 then m_X2_goalsByRight_b202 v_all v_mover v_rights a_kinds a_sides a_rays a_knights a_kings a_pawns x8 else if x7 = 0 then m_X2_goalsByRight_b202 v_all v_mover v_rights a_kinds a_sides a_rays a_knights a_kings a_pawns x8 else ob (m_X0_isStruck a_kinds a_sides a_rays a_knights a_kings a_pawns (x4 + 2) x3 v_all) fun r_3 => if r_3 = 0 then ol (x8 ||| ((1 : Int64) <<< ((x4 + 2).toInt64 &&& 63))) fun x8_6 => m_X2_goalsByRight_b202 v_all v_mover v_rights a_kinds a_sides a_rays a_knights a_kings a_pawns x8_6 else m_X2_goalsByRight_b202 v_all v_mover v_rights a_kinds a_sides a_rays a_knights a_kings a_pawns x8
def m_X2_goalsByRight_b111 (v_all : Int64) (v_mover : Int32) (v_rights : Int32) (a_kinds : Nat → Int64) (a_sides : Nat → Int64) (a_rays : Nat → Int64) (a_knights : Nat → Int64) (a_kings : Nat → Int64) (a_pawns : Nat → Int64) (x3 : Int32) (x4 : Int32) (x5 : Int32) (x6 : Int32) (t0 : Int32) : Option (Int64) := if (x5 &&& 1) = 0 then m_X2_goalsByRight_b160 v_all v_mover v_rights a_kinds a_sides a_rays a_knights a_kings a_pawns x3 x4 x5 t0 0 else if x6 = 0 then m_X2_goalsByRight_b160 v_all v_mover v_rights a_kinds a_sides a_rays a_knights a_kings a_pawns x3 x4 x5 t0 0 else ob (m_X0_isStruck a_kinds a_sides a_rays a_knights a_kings a_pawns (x4 + 6) x3 v_all) fun r_9 => if r_9 = 0 then ol ((0 : Int64) ||| ((1 : Int64) <<< ((x4 + 6).toInt64 &&& 63))) fun x8_12 => m_X2_goalsByRight_b160 v_all v_mover v_rights a_kinds a_sides a_rays a_knights a_kings a_pawns x3 x4 x5 t0 x8_12 else m_X2_goalsByRight_b160 v_all v_mover v_rights a_kinds a_sides a_rays a_knights a_kings a_pawns x3 x4 x5 t0 0
def m_X2_goalsByRight_b110 (v_all : Int64) (v_mover : Int32) (v_rights : Int32) (a_kinds : Nat → Int64) (a_sides : Nat → Int64) (a_rays : Nat → Int64) (a_knights : Nat → Int64) (a_kings : Nat → Int64) (a_pawns : Nat → Int64) (x3 : Int32) (x4 : Int32) (x5 : Int32) (x6 : Int32) : Option (Int64) := m_X2_goalsByRight_b111 v_all v_mover v_rights a_kinds a_sides a_rays a_knights a_kings a_pawns x3 x4 x5 x6 0
def m_X2_goalsByRight_b75 (v_all : Int64) (v_mover : Int32) (v_rights : Int32) (a_kinds : Nat → Int64) (a_sides : Nat → Int64) (a_rays : Nat → Int64) (a_knights : Nat → Int64) (a_kings : Nat → Int64) (a_pawns : Nat → Int64) (x1 : Int64) (x3 : Int32) (x4 : Int32) (x5 : Int32) (t0 : Int32) : Option (Int64) := if (lg_cmp (v_all &&& ((14 : Int64) <<< (x4.toInt64 &&& 63))) 0) = 0 then if (lg_cmp (((x1.toUInt64 >>> ((x4 + 3).toInt64.toUInt64 &&& Int64.toUInt64 63)).toInt64) &&& 1) 0) = 0 then m_X2_goalsByRight_b110 v_all v_mover v_rights a_kinds a_sides a_rays a_knights a_kings a_pawns x3 x4 x5 t0 else m_X2_goalsByRight_b111 v_all v_mover v_rights a_kinds a_sides a_rays a_knights a_kings a_pawns x3 x4 x5 t0 1 else m_X2_goalsByRight_b110 v_all v_mover v_rights a_kinds a_sides a_rays a_knights a_kings a_pawns x3 x4 x5 t0
def m_X2_goalsByRight_b74 (v_all : Int64) (v_mover : Int32) (v_rights : Int32) (a_kinds : Nat → Int64) (a_sides : Nat → Int64) (a_rays : Nat → Int64) (a_knights : Nat → Int64) (a_kings : Nat → Int64) (a_pawns : Nat → Int64) (x1 : Int64) (x3 : Int32) (x4 : Int32) (x5 : Int32) : Option (Int64) := m_X2_goalsByRight_b75 v_all v_mover v_rights a_kinds a_sides a_rays a_knights a_kings a_pawns x1 x3 x4 x5 0
def m_X2_goalsByRight (v_all : Int64) (v_mover : Int32) (v_rights : Int32) (a_kinds : Nat → Int64) (a_sides : Nat → Int64) (a_rays : Nat → Int64) (a_knights : Nat → Int64) (a_kings : Nat → Int64) (a_pawns : Nat → Int64) (p0 : Int64) : Option (Int64) := ol ((1 : Int32) - v_mover) fun x3_15 => ol ((56 : Int32) * v_mover) fun x4_16 => ol (v_rights >>> (((2 : Int32) * v_mover) &&& 31)) fun x5_17 => if (lg_cmp (v_all &&& ((96 : Int64) <<< (x4_16.toInt64 &&& 63))) 0) = 0 then if (lg_cmp (((p0.toUInt64 >>> ((x4_16 + 5).toInt64.toUInt64 &&& Int64.toUInt64 63)).toInt64) &&& 1) 0) = 0 then m_X2_goalsByRight_b74 v_all v_mover v_rights a_kinds a_sides a_rays a_knights a_kings a_pawns p0 x3_15 x4_16 x5_17 else m_X2_goalsByRight_b75 v_all v_mover v_rights a_kinds a_sides a_rays a_knights a_kings a_pawns p0 x3_15 x4_16 x5_17 1 else m_X2_goalsByRight_b74 v_all v_mover v_rights a_kinds a_sides a_rays a_knights a_kings a_pawns p0 x3_15 x4_16 x5_17
abbrev rm_X2_goalsByRight : Room := { frames := 2, cells := 0, slots := 0, locals := 63 }
abbrev wy_X2_goalsByRight : List Cond := .code yX2_goalsByRight cX2_goalsByRight 10 (some .long) :: gT
theorem cv_X2_goalsByRight {R : Room} {s : State} {args : Array Value} {own : String} {index : Nat} {w0 : Cond} (hts : ∀ w ∈ w0 :: gT, w.before args s = true) (hl : Cond.methodLink own index yX2_goalsByRight ∈ gT) (hR : 2 + 1 ≤ R.frames ∧ 8 + (10 + 11) + 63 ≤ R.locals) : CallW R s args own RX2 index yX2_goalsByRight cX2_goalsByRight 10 (some .long) wy_X2_goalsByRight rm_X2_goalsByRight 0 0 1 :=
  cwV 1 hts (gT_call w0 (pre := [.methodLink own index yX2_goalsByRight, .instanceMethod yX2_goalsByRight, .selects RX2 yX2_goalsByRight yX2_goalsByRight, .initialized RX2]) (gT_lc hl (gT_lc ly_yX2_goalsByRight (gT_lc lx_yX2_goalsByRight (gT_l1 li_RX2)))) lc_yX2_goalsByRight) rfl rfl rfl (by decide +kernel) hR
set_option maxRecDepth 100000 in
set_option maxHeartbeats 4000000 in
theorem c_X2_goalsByRight (l : Launch) (D : va_G) (qa : Nat → Nat) (qb : Nat → Nat) (ql : Nat → Nat) (qw : Nat → Nat) (cI : ClassId) (cJ : ClassId) (tq : Nat → Nat) (v_standing : Int32) (v_own : Int64) (v_all : Int64) (v_king : Int32) (v_saving : Int64) (v_pinned : Int64) (v_passers : Int64) (a_stands : Nat → Int32) (a_goals : Nat → Int64) (v_mover : Int32) (v_rights : Int32) (v_passed : Int32) (v_halves : Int32) (v_number : Int32) (v_balance : Int32) (a_men : Nat → Int32) (a_kinds : Nat → Int64) (a_sides : Nat → Int64) (a_rays : Nat → Int64) (a_knights : Nat → Int64) (a_kings : Nat → Int64) (a_pawns : Nat → Int64) (a_table : Nat → Int32) (p0 : Int64) (rv : Int64) (hm : m_X2_goalsByRight v_all v_mover v_rights a_kinds a_sides a_rays a_knights a_kings a_pawns p0 = some rv) : kEl l yX2_goalsByRight wy_X2_goalsByRight rm_X2_goalsByRight D [(cI, .int), (cJ, .long)] tq rv (wLa qa qb ql qw cI cJ v_standing v_own v_all v_king v_saving v_pinned v_passers a_stands a_goals v_mover v_rights v_passed v_halves v_number v_balance a_men a_kinds a_sides a_rays a_knights a_kings a_pawns a_table) (wLa qa qb ql qw cI cJ v_standing v_own v_all v_king v_saving v_pinned v_passers a_stands a_goals v_mover v_rights v_passed v_halves v_number v_balance a_men a_kinds a_sides a_rays a_knights a_kings a_pawns a_table) [.ref (qa 0), .long p0] := by
  refine kEl.of cX2_goalsByRight 10 (some .long) (by decide) rfl rfl (Nat.le_of_ble_eq_true rfl) ?_
  intro p e s m below meth c A Q C hJ hret
  have hin0 : ∀ w ∈ wsX00, w ∈ wy_X2_goalsByRight := fun w h => List.mem_cons_of_mem _ (inG0 w h)
  have hin2 : ∀ w ∈ wsX20, w ∈ wy_X2_goalsByRight := fun w h => List.mem_cons_of_mem _ (inG2 w h)
  have hin3 : ∀ w ∈ wsX30, w ∈ wy_X2_goalsByRight := fun w h => List.mem_cons_of_mem _ (inG3 w h)
  have hin7 : ∀ w ∈ wsX70, w ∈ wy_X2_goalsByRight := fun w h => List.mem_cons_of_mem _ (inG7 w h)
  have j202 : ∀ (x8 : Int64), m_X2_goalsByRight_b202  v_all v_mover v_rights a_kinds a_sides a_rays a_knights a_kings a_pawns x8 = some rv → kv p l e rm_X2_goalsByRight s m ([.ref (qa 0), .long p0] : List Value).toArray below meth c D A 10 0 0 Q (wLa qa qb ql qw cI cJ v_standing v_own v_all v_king v_saving v_pinned v_passers a_stands a_goals v_mover v_rights v_passed v_halves v_number v_balance a_men a_kinds a_sides a_rays a_knights a_kings a_pawns a_table) [(8, .long x8)] 202 [] := by
    intro x8 h
    unfold m_X2_goalsByRight_b202 at h
    refine kv_lload C 0 dX2_goalsByRight_202 rfl ?_
    cases h
    exact hret _ _ dX2_goalsByRight_204
  have j160 : ∀ (x3 : Int32) (x4 : Int32) (x5 : Int32) (x7 : Int32) (x8 : Int64), m_X2_goalsByRight_b160  v_all v_mover v_rights a_kinds a_sides a_rays a_knights a_kings a_pawns x3 x4 x5 x7 x8 = some rv → kv p l e rm_X2_goalsByRight s m ([.ref (qa 0), .long p0] : List Value).toArray below meth c D A 10 0 0 Q (wLa qa qb ql qw cI cJ v_standing v_own v_all v_king v_saving v_pinned v_passers a_stands a_goals v_mover v_rights v_passed v_halves v_number v_balance a_men a_kinds a_sides a_rays a_knights a_kings a_pawns a_table) [(0, .ref (qa 0)), (3, .int x3), (4, .int x4), (5, .int x5), (7, .int x7), (8, .long x8)] 160 [] := by
    intro x3 x4 x5 x7 x8 h
    unfold m_X2_goalsByRight_b160 at h
    refine kv_iload C 3 dX2_goalsByRight_160 rfl ?_
    refine kv_iconst C 2 dX2_goalsByRight_162 (by decide) ?_
    refine kv_iand C dX2_goalsByRight_163 ?_
    refine kv_if_eq C 202 dX2_goalsByRight_164 (by decide) (fun c_1 => ?_) (fun c_1 => ?_)
    · have h := oi_t h c_1
      exact kv_lv [5] (lv2 := [(8, .long x8)]) rfl (j202 x8 h)
    · have h := oi_f h c_1
      refine kv_iload C 4 dX2_goalsByRight_167 rfl ?_
      refine kv_if_eq C 202 dX2_goalsByRight_169 (by decide) (fun c_2 => ?_) (fun c_2 => ?_)
      · have h := oi_t h c_2
        exact kv_lv [5] (lv2 := [(8, .long x8)]) rfl (j202 x8 h)
      · have h := oi_f h c_2
        refine kv_aload_n C 0 dX2_goalsByRight_172 rfl rfl ?_
        refine kv_get C (Cn := RX2) (T := TX2) (N := 11) 0 0 hin2 rfl rfl (by decide) (C.ts _ (List.mem_cons_of_mem _ lf_RX2_9)) rfl rfl dX2_goalsByRight_173 ?_
        refine kv_iload C 2 dX2_goalsByRight_176 rfl ?_
        refine kv_iconst C 2 dX2_goalsByRight_178 (by decide) ?_
        refine kv_iadd C dX2_goalsByRight_179 ?_
        refine kv_iload_n C 1 dX2_goalsByRight_180 rfl rfl ?_
        refine kv_aload_n C 0 dX2_goalsByRight_181 rfl rfl ?_
        refine kv_get C (Cn := RX2) (T := TX2) (N := 11) 0 6 hin2 rfl rfl (by decide) (C.ts _ (List.mem_cons_of_mem _ lf_RX2_95)) rfl rfl dX2_goalsByRight_182 ?_
        obtain ⟨r_3, hm_4, h⟩ := ob_e h
        refine kv_eVi (ws2 := (wLa qa qb ql qw cI cJ v_standing v_own v_all v_king v_saving v_pinned v_passers a_stands a_goals v_mover v_rights v_passed v_halves v_number v_balance a_men a_kinds a_sides a_rays a_knights a_kings a_pawns a_table)) C hJ [.int (x4 + 2), .int x3, .long v_all] 0 (c_X0_isStruck l D qb ql qw cI cJ tq v_mover v_rights v_passed v_halves v_number v_balance a_men a_kinds a_sides a_rays a_knights a_kings a_pawns a_table (x4 + 2) x3 v_all r_3 hm_4) (cv_X0_isStruck C.ts lm_RX2_150 ⟨Nat.le_of_ble_eq_true rfl, Nat.le_of_ble_eq_true rfl⟩) rfl rfl [3, 4, 5, 6, 7, 8, 9, 10, 11, 12, 13] [0, 1, 2] [0, 1] [0, 1, 2, 3, 4, 5, 6, 7, 8, 9, 10, 11, 12, 13] rfl rfl rfl rfl rfl (by decide) rfl rfl rfl (Nat.le_of_ble_eq_true rfl) dX2_goalsByRight_185 ⟨Nat.zero_le _, Nat.zero_le _⟩ rfl rfl rfl ?_
        refine kv_if_ne C 202 dX2_goalsByRight_188 (by decide) (fun c_5 => ?_) (fun c_5 => ?_)
        · have h := oi_f h c_5
          exact kv_lv [5] (lv2 := [(8, .long x8)]) rfl (j202 x8 h)
        · have h := oi_t h c_5
          refine kv_lload C 5 dX2_goalsByRight_191 rfl ?_
          refine kv_lconst C 1 dX2_goalsByRight_193 (by decide) ?_
          refine kv_iload C 2 dX2_goalsByRight_194 rfl ?_
          refine kv_iconst C 2 dX2_goalsByRight_196 (by decide) ?_
          refine kv_iadd C dX2_goalsByRight_197 ?_
          refine kv_lshl C dX2_goalsByRight_198 ?_
          refine kv_lor C dX2_goalsByRight_199 ?_
          obtain ⟨x8_6, ex8_6, h⟩ := ol_e h
          refine kv_topl ex8_6 ?_
          refine kv_lstore C (lv2 := [(8, .long x8_6)]) [0] dX2_goalsByRight_200 (by decide) rfl rfl ?_
          exact kv_lv [0] (lv2 := [(8, .long x8_6)]) rfl (j202 x8_6 h)
  have j111 : ∀ (x3 : Int32) (x4 : Int32) (x5 : Int32) (x6 : Int32) (t0 : Int32), m_X2_goalsByRight_b111  v_all v_mover v_rights a_kinds a_sides a_rays a_knights a_kings a_pawns x3 x4 x5 x6 t0 = some rv → kv p l e rm_X2_goalsByRight s m ([.ref (qa 0), .long p0] : List Value).toArray below meth c D A 10 0 0 Q (wLa qa qb ql qw cI cJ v_standing v_own v_all v_king v_saving v_pinned v_passers a_stands a_goals v_mover v_rights v_passed v_halves v_number v_balance a_men a_kinds a_sides a_rays a_knights a_kings a_pawns a_table) [(0, .ref (qa 0)), (3, .int x3), (4, .int x4), (5, .int x5), (6, .int x6)] 111 [.int t0] := by
    intro x3 x4 x5 x6 t0 h
    unfold m_X2_goalsByRight_b111 at h
    refine kv_istore C (lv2 := [(0, .ref (qa 0)), (3, .int x3), (4, .int x4), (5, .int x5), (6, .int x6), (7, .int t0)]) [1, 2, 3, 4, 5, 0] dX2_goalsByRight_111 (by decide) rfl rfl ?_
    refine kv_lconst C 0 dX2_goalsByRight_113 (by decide) ?_
    refine kv_lstore C (lv2 := [(0, .ref (qa 0)), (3, .int x3), (4, .int x4), (5, .int x5), (6, .int x6), (7, .int t0), (8, .long 0)]) [1, 2, 3, 4, 5, 6, 0] dX2_goalsByRight_114 (by decide) rfl rfl ?_
    refine kv_iload C 3 dX2_goalsByRight_116 rfl ?_
    refine kv_iconst C 1 dX2_goalsByRight_118 (by decide) ?_
    refine kv_iand C dX2_goalsByRight_119 ?_
    refine kv_if_eq C 160 dX2_goalsByRight_120 (by decide) (fun c_7 => ?_) (fun c_7 => ?_)
    · have h := oi_t h c_7
      exact kv_lv [0, 1, 2, 3, 5, 6] (lv2 := [(0, .ref (qa 0)), (3, .int x3), (4, .int x4), (5, .int x5), (7, .int t0), (8, .long 0)]) rfl (j160 x3 x4 x5 t0 0 h)
    · have h := oi_f h c_7
      refine kv_iload C 4 dX2_goalsByRight_123 rfl ?_
      refine kv_if_eq C 160 dX2_goalsByRight_125 (by decide) (fun c_8 => ?_) (fun c_8 => ?_)
      · have h := oi_t h c_8
        exact kv_lv [0, 1, 2, 3, 5, 6] (lv2 := [(0, .ref (qa 0)), (3, .int x3), (4, .int x4), (5, .int x5), (7, .int t0), (8, .long 0)]) rfl (j160 x3 x4 x5 t0 0 h)
      · have h := oi_f h c_8
        refine kv_aload_n C 0 dX2_goalsByRight_128 rfl rfl ?_
        refine kv_get C (Cn := RX2) (T := TX2) (N := 11) 0 0 hin2 rfl rfl (by decide) (C.ts _ (List.mem_cons_of_mem _ lf_RX2_9)) rfl rfl dX2_goalsByRight_129 ?_
        refine kv_iload C 2 dX2_goalsByRight_132 rfl ?_
        refine kv_bipush C 6 dX2_goalsByRight_134 (by decide) ?_
        refine kv_iadd C dX2_goalsByRight_136 ?_
        refine kv_iload_n C 1 dX2_goalsByRight_137 rfl rfl ?_
        refine kv_aload_n C 0 dX2_goalsByRight_138 rfl rfl ?_
        refine kv_get C (Cn := RX2) (T := TX2) (N := 11) 0 6 hin2 rfl rfl (by decide) (C.ts _ (List.mem_cons_of_mem _ lf_RX2_95)) rfl rfl dX2_goalsByRight_139 ?_
        obtain ⟨r_9, hm_10, h⟩ := ob_e h
        refine kv_eVi (ws2 := (wLa qa qb ql qw cI cJ v_standing v_own v_all v_king v_saving v_pinned v_passers a_stands a_goals v_mover v_rights v_passed v_halves v_number v_balance a_men a_kinds a_sides a_rays a_knights a_kings a_pawns a_table)) C hJ [.int (x4 + 6), .int x3, .long v_all] 0 (c_X0_isStruck l D qb ql qw cI cJ tq v_mover v_rights v_passed v_halves v_number v_balance a_men a_kinds a_sides a_rays a_knights a_kings a_pawns a_table (x4 + 6) x3 v_all r_9 hm_10) (cv_X0_isStruck C.ts lm_RX2_150 ⟨Nat.le_of_ble_eq_true rfl, Nat.le_of_ble_eq_true rfl⟩) rfl rfl [3, 4, 5, 6, 7, 8, 9, 10, 11, 12, 13] [0, 1, 2] [0, 1] [0, 1, 2, 3, 4, 5, 6, 7, 8, 9, 10, 11, 12, 13] rfl rfl rfl rfl rfl (by decide) rfl rfl rfl (Nat.le_of_ble_eq_true rfl) dX2_goalsByRight_142 ⟨Nat.zero_le _, Nat.zero_le _⟩ rfl rfl rfl ?_
        refine kv_if_ne C 160 dX2_goalsByRight_145 (by decide) (fun c_11 => ?_) (fun c_11 => ?_)
        · have h := oi_f h c_11
          exact kv_lv [0, 1, 2, 3, 5, 6] (lv2 := [(0, .ref (qa 0)), (3, .int x3), (4, .int x4), (5, .int x5), (7, .int t0), (8, .long 0)]) rfl (j160 x3 x4 x5 t0 0 h)
        · have h := oi_t h c_11
          refine kv_lload C 6 dX2_goalsByRight_148 rfl ?_
          refine kv_lconst C 1 dX2_goalsByRight_150 (by decide) ?_
          refine kv_iload C 2 dX2_goalsByRight_151 rfl ?_
          refine kv_bipush C 6 dX2_goalsByRight_153 (by decide) ?_
          refine kv_iadd C dX2_goalsByRight_155 ?_
          refine kv_lshl C dX2_goalsByRight_156 ?_
          refine kv_lor C dX2_goalsByRight_157 ?_
          obtain ⟨x8_12, ex8_12, h⟩ := ol_e h
          refine kv_topl ex8_12 ?_
          refine kv_lstore C (lv2 := [(0, .ref (qa 0)), (3, .int x3), (4, .int x4), (5, .int x5), (7, .int t0), (8, .long x8_12)]) [1, 2, 3, 4, 6, 0] dX2_goalsByRight_158 (by decide) rfl rfl ?_
          exact kv_lv [0, 1, 2, 3, 4, 5] (lv2 := [(0, .ref (qa 0)), (3, .int x3), (4, .int x4), (5, .int x5), (7, .int t0), (8, .long x8_12)]) rfl (j160 x3 x4 x5 t0 x8_12 h)
  have j110 : ∀ (x3 : Int32) (x4 : Int32) (x5 : Int32) (x6 : Int32), m_X2_goalsByRight_b110  v_all v_mover v_rights a_kinds a_sides a_rays a_knights a_kings a_pawns x3 x4 x5 x6 = some rv → kv p l e rm_X2_goalsByRight s m ([.ref (qa 0), .long p0] : List Value).toArray below meth c D A 10 0 0 Q (wLa qa qb ql qw cI cJ v_standing v_own v_all v_king v_saving v_pinned v_passers a_stands a_goals v_mover v_rights v_passed v_halves v_number v_balance a_men a_kinds a_sides a_rays a_knights a_kings a_pawns a_table) [(0, .ref (qa 0)), (3, .int x3), (4, .int x4), (5, .int x5), (6, .int x6)] 110 [] := by
    intro x3 x4 x5 x6 h
    unfold m_X2_goalsByRight_b110 at h
    refine kv_iconst C 0 dX2_goalsByRight_110 (by decide) ?_
    exact kv_lv [0, 1, 2, 3, 4] (lv2 := [(0, .ref (qa 0)), (3, .int x3), (4, .int x4), (5, .int x5), (6, .int x6)]) rfl (j111 x3 x4 x5 x6 0 h)
  have j75 : ∀ (x1 : Int64) (x3 : Int32) (x4 : Int32) (x5 : Int32) (t0 : Int32), m_X2_goalsByRight_b75  v_all v_mover v_rights a_kinds a_sides a_rays a_knights a_kings a_pawns x1 x3 x4 x5 t0 = some rv → kv p l e rm_X2_goalsByRight s m ([.ref (qa 0), .long p0] : List Value).toArray below meth c D A 10 0 0 Q (wLa qa qb ql qw cI cJ v_standing v_own v_all v_king v_saving v_pinned v_passers a_stands a_goals v_mover v_rights v_passed v_halves v_number v_balance a_men a_kinds a_sides a_rays a_knights a_kings a_pawns a_table) [(0, .ref (qa 0)), (1, .long x1), (3, .int x3), (4, .int x4), (5, .int x5)] 75 [.int t0] := by
    intro x1 x3 x4 x5 t0 h
    unfold m_X2_goalsByRight_b75 at h
    refine kv_istore C (lv2 := [(0, .ref (qa 0)), (1, .long x1), (3, .int x3), (4, .int x4), (5, .int x5), (6, .int t0)]) [1, 2, 3, 4, 5, 0] dX2_goalsByRight_75 (by decide) rfl rfl ?_
    refine kv_aload_n C 0 dX2_goalsByRight_77 rfl rfl ?_
    refine kv_get C (Cn := RX2) (T := TX2) (N := 11) 0 6 hin2 rfl rfl (by decide) (C.ts _ (List.mem_cons_of_mem _ lf_RX2_95)) rfl rfl dX2_goalsByRight_78 ?_
    refine kv_ldc2 C (C.ts _ (List.mem_cons_of_mem _ lkl_RX2_163)) dX2_goalsByRight_81 ?_
    refine kv_iload C 3 dX2_goalsByRight_84 rfl ?_
    refine kv_lshl C dX2_goalsByRight_86 ?_
    refine kv_land C dX2_goalsByRight_87 ?_
    refine kv_lconst C 0 dX2_goalsByRight_88 (by decide) ?_
    refine kv_lcmp C dX2_goalsByRight_89 ?_
    refine kv_if_ne C 110 dX2_goalsByRight_90 (by decide) (fun c_13 => ?_) (fun c_13 => ?_)
    · have h := oi_f h c_13
      exact kv_lv [0, 2, 3, 4, 5] (lv2 := [(0, .ref (qa 0)), (3, .int x3), (4, .int x4), (5, .int x5), (6, .int t0)]) rfl (j110 x3 x4 x5 t0 h)
    · have h := oi_t h c_13
      refine kv_lload_n C 1 dX2_goalsByRight_93 rfl rfl ?_
      refine kv_iload C 3 dX2_goalsByRight_94 rfl ?_
      refine kv_iconst C 3 dX2_goalsByRight_96 (by decide) ?_
      refine kv_iadd C dX2_goalsByRight_97 ?_
      refine kv_lushr C dX2_goalsByRight_98 ?_
      refine kv_lconst C 1 dX2_goalsByRight_99 (by decide) ?_
      refine kv_land C dX2_goalsByRight_100 ?_
      refine kv_lconst C 0 dX2_goalsByRight_101 (by decide) ?_
      refine kv_lcmp C dX2_goalsByRight_102 ?_
      refine kv_if_eq C 110 dX2_goalsByRight_103 (by decide) (fun c_14 => ?_) (fun c_14 => ?_)
      · have h := oi_t h c_14
        exact kv_lv [0, 2, 3, 4, 5] (lv2 := [(0, .ref (qa 0)), (3, .int x3), (4, .int x4), (5, .int x5), (6, .int t0)]) rfl (j110 x3 x4 x5 t0 h)
      · have h := oi_f h c_14
        refine kv_iconst C 1 dX2_goalsByRight_106 (by decide) ?_
        refine kv_goto C 111 dX2_goalsByRight_107 (by decide) ?_
        exact kv_lv [0, 2, 3, 4, 5] (lv2 := [(0, .ref (qa 0)), (3, .int x3), (4, .int x4), (5, .int x5), (6, .int t0)]) rfl (j111 x3 x4 x5 t0 1 h)
  have j74 : ∀ (x1 : Int64) (x3 : Int32) (x4 : Int32) (x5 : Int32), m_X2_goalsByRight_b74  v_all v_mover v_rights a_kinds a_sides a_rays a_knights a_kings a_pawns x1 x3 x4 x5 = some rv → kv p l e rm_X2_goalsByRight s m ([.ref (qa 0), .long p0] : List Value).toArray below meth c D A 10 0 0 Q (wLa qa qb ql qw cI cJ v_standing v_own v_all v_king v_saving v_pinned v_passers a_stands a_goals v_mover v_rights v_passed v_halves v_number v_balance a_men a_kinds a_sides a_rays a_knights a_kings a_pawns a_table) [(0, .ref (qa 0)), (1, .long x1), (3, .int x3), (4, .int x4), (5, .int x5)] 74 [] := by
    intro x1 x3 x4 x5 h
    unfold m_X2_goalsByRight_b74 at h
    refine kv_iconst C 0 dX2_goalsByRight_74 (by decide) ?_
    exact kv_lv [0, 1, 2, 3, 4] (lv2 := [(0, .ref (qa 0)), (1, .long x1), (3, .int x3), (4, .int x4), (5, .int x5)]) rfl (j75 x1 x3 x4 x5 0 h)
  unfold m_X2_goalsByRight at hm
  have h := hm
  refine kv_lv [0, 1] (lv2 := [(0, .ref (qa 0)), (1, .long p0)]) rfl ?_
  refine kv_iconst C 1 dX2_goalsByRight_0 (by decide) ?_
  refine kv_aload_n C 0 dX2_goalsByRight_1 rfl rfl ?_
  refine kv_get C (Cn := RX2) (T := TX2) (N := 11) 0 0 hin2 rfl rfl (by decide) (C.ts _ (List.mem_cons_of_mem _ lf_RX2_9)) rfl rfl dX2_goalsByRight_2 ?_
  refine kv_get C (Cn := RX0) (T := TX0) (N := 11) 3 5 hin0 rfl rfl (by decide) (C.ts _ (List.mem_cons_of_mem _ lf_RX2_86)) rfl rfl dX2_goalsByRight_5 ?_
  refine kv_isub C dX2_goalsByRight_8 ?_
  obtain ⟨x3_15, ex3_15, h⟩ := ol_e h
  refine kv_top ex3_15 ?_
  refine kv_istore_n C (lv2 := [(0, .ref (qa 0)), (1, .long p0), (3, .int x3_15)]) [1, 2, 0] dX2_goalsByRight_9 rfl (by decide) rfl rfl ?_
  refine kv_bipush C 56 dX2_goalsByRight_10 (by decide) ?_
  refine kv_aload_n C 0 dX2_goalsByRight_12 rfl rfl ?_
  refine kv_get C (Cn := RX2) (T := TX2) (N := 11) 0 0 hin2 rfl rfl (by decide) (C.ts _ (List.mem_cons_of_mem _ lf_RX2_9)) rfl rfl dX2_goalsByRight_13 ?_
  refine kv_get C (Cn := RX0) (T := TX0) (N := 11) 3 5 hin0 rfl rfl (by decide) (C.ts _ (List.mem_cons_of_mem _ lf_RX2_86)) rfl rfl dX2_goalsByRight_16 ?_
  refine kv_imul C dX2_goalsByRight_19 ?_
  obtain ⟨x4_16, ex4_16, h⟩ := ol_e h
  refine kv_top ex4_16 ?_
  refine kv_istore C (lv2 := [(0, .ref (qa 0)), (1, .long p0), (3, .int x3_15), (4, .int x4_16)]) [1, 2, 3, 0] dX2_goalsByRight_20 (by decide) rfl rfl ?_
  refine kv_aload_n C 0 dX2_goalsByRight_22 rfl rfl ?_
  refine kv_get C (Cn := RX2) (T := TX2) (N := 11) 0 0 hin2 rfl rfl (by decide) (C.ts _ (List.mem_cons_of_mem _ lf_RX2_9)) rfl rfl dX2_goalsByRight_23 ?_
  refine kv_get C (Cn := RX0) (T := TX0) (N := 11) 3 6 hin0 rfl rfl (by decide) (C.ts _ (List.mem_cons_of_mem _ lf_RX2_158)) rfl rfl dX2_goalsByRight_26 ?_
  refine kv_iconst C 2 dX2_goalsByRight_29 (by decide) ?_
  refine kv_aload_n C 0 dX2_goalsByRight_30 rfl rfl ?_
  refine kv_get C (Cn := RX2) (T := TX2) (N := 11) 0 0 hin2 rfl rfl (by decide) (C.ts _ (List.mem_cons_of_mem _ lf_RX2_9)) rfl rfl dX2_goalsByRight_31 ?_
  refine kv_get C (Cn := RX0) (T := TX0) (N := 11) 3 5 hin0 rfl rfl (by decide) (C.ts _ (List.mem_cons_of_mem _ lf_RX2_86)) rfl rfl dX2_goalsByRight_34 ?_
  refine kv_imul C dX2_goalsByRight_37 ?_
  refine kv_ishr C dX2_goalsByRight_38 ?_
  obtain ⟨x5_17, ex5_17, h⟩ := ol_e h
  refine kv_top ex5_17 ?_
  refine kv_istore C (lv2 := [(0, .ref (qa 0)), (1, .long p0), (3, .int x3_15), (4, .int x4_16), (5, .int x5_17)]) [1, 2, 3, 4, 0] dX2_goalsByRight_39 (by decide) rfl rfl ?_
  refine kv_aload_n C 0 dX2_goalsByRight_41 rfl rfl ?_
  refine kv_get C (Cn := RX2) (T := TX2) (N := 11) 0 6 hin2 rfl rfl (by decide) (C.ts _ (List.mem_cons_of_mem _ lf_RX2_95)) rfl rfl dX2_goalsByRight_42 ?_
  refine kv_ldc2 C (C.ts _ (List.mem_cons_of_mem _ lkl_RX2_161)) dX2_goalsByRight_45 ?_
  refine kv_iload C 3 dX2_goalsByRight_48 rfl ?_
  refine kv_lshl C dX2_goalsByRight_50 ?_
  refine kv_land C dX2_goalsByRight_51 ?_
  refine kv_lconst C 0 dX2_goalsByRight_52 (by decide) ?_
  refine kv_lcmp C dX2_goalsByRight_53 ?_
  refine kv_if_ne C 74 dX2_goalsByRight_54 (by decide) (fun c_18 => ?_) (fun c_18 => ?_)
  · have h := oi_f h c_18
    exact kv_lv [0, 1, 2, 3, 4] (lv2 := [(0, .ref (qa 0)), (1, .long p0), (3, .int x3_15), (4, .int x4_16), (5, .int x5_17)]) rfl (j74 p0 x3_15 x4_16 x5_17 h)
  · have h := oi_t h c_18
    refine kv_lload_n C 1 dX2_goalsByRight_57 rfl rfl ?_
    refine kv_iload C 3 dX2_goalsByRight_58 rfl ?_
    refine kv_iconst C 5 dX2_goalsByRight_60 (by decide) ?_
    refine kv_iadd C dX2_goalsByRight_61 ?_
    refine kv_lushr C dX2_goalsByRight_62 ?_
    refine kv_lconst C 1 dX2_goalsByRight_63 (by decide) ?_
    refine kv_land C dX2_goalsByRight_64 ?_
    refine kv_lconst C 0 dX2_goalsByRight_65 (by decide) ?_
    refine kv_lcmp C dX2_goalsByRight_66 ?_
    refine kv_if_eq C 74 dX2_goalsByRight_67 (by decide) (fun c_19 => ?_) (fun c_19 => ?_)
    · have h := oi_t h c_19
      exact kv_lv [0, 1, 2, 3, 4] (lv2 := [(0, .ref (qa 0)), (1, .long p0), (3, .int x3_15), (4, .int x4_16), (5, .int x5_17)]) rfl (j74 p0 x3_15 x4_16 x5_17 h)
    · have h := oi_f h c_19
      refine kv_iconst C 1 dX2_goalsByRight_70 (by decide) ?_
      refine kv_goto C 75 dX2_goalsByRight_71 (by decide) ?_
      exact kv_lv [0, 1, 2, 3, 4] (lv2 := [(0, .ref (qa 0)), (1, .long p0), (3, .int x3_15), (4, .int x4_16), (5, .int x5_17)]) rfl (j75 p0 x3_15 x4_16 x5_17 1 h)
def m_X2_kingGoals_b126 (v_own : Int64) (v_all : Int64) (v_king : Int32) (v_saving : Int64) (v_mover : Int32) (v_rights : Int32) (a_kinds : Nat → Int64) (a_sides : Nat → Int64) (a_rays : Nat → Int64) (a_knights : Nat → Int64) (a_kings : Nat → Int64) (a_pawns : Nat → Int64) (t0 : Int64) : Option (Int64) := some t0
def m_X2_kingGoals_b98 (k48 : Int64 → Int64 → Int64 → Int32 → Option (Int64)) (v_own : Int64) (v_all : Int64) (v_king : Int32) (v_saving : Int64) (v_mover : Int32) (v_rights : Int32) (a_kinds : Nat → Int64) (a_sides : Nat → Int64) (a_rays : Nat → Int64) (a_knights : Nat → Int64) (a_kings : Nat → Int64) (a_pawns : Nat → Int64) (x1 : Int64) (x3 : Int64) (x5 : Int64) (x7 : Int32) : Option (Int64) := ol (x7 + (-1)) fun x7_1 => k48 x1 x3 x5 x7_1
def m_X2_kingGoals_b48 (k48 : Int64 → Int64 → Int64 → Int32 → Option (Int64)) (v_own : Int64) (v_all : Int64) (v_king : Int32) (v_saving : Int64) (v_mover : Int32) (v_rights : Int32) (a_kinds : Nat → Int64) (a_sides : Nat → Int64) (a_rays : Nat → Int64) (a_knights : Nat → Int64) (a_kings : Nat → Int64) (a_pawns : Nat → Int64) (x1 : Int64) (x3 : Int64) (x5 : Int64) (x7 : Int32) : Option (Int64) := if x7 ≤ 0 then if (lg_cmp v_saving (-1)) = 0 then ob (m_X2_goalsByRight v_all v_mover v_rights a_kinds a_sides a_rays a_knights a_kings a_pawns x1) fun r_4 => m_X2_kingGoals_b126 v_own v_all v_king v_saving v_mover v_rights a_kinds a_sides a_rays a_knights a_kings a_pawns (x1 ||| r_4) else m_X2_kingGoals_b126 v_own v_all v_king v_saving v_mover v_rights a_kinds a_sides a_rays a_knights a_kings a_pawns x1 else ob (m_X9_leastOf x5) fun r_6 => ol (x5 &&& (x5 - 1)) fun x5_8 => ob (m_X0_isStruck a_kinds a_sides a_rays a_knights a_kings a_pawns r_6 ((1 : Int32) - v_mover) x3) fun r_9 => if r_9 = 0 then ol (x1 ||| ((1 : Int64) <<< (r_6.toInt64 &&& 63))) fun x1_12 => m_X2_kingGoals_b98 k48 v_own v_all v_king v_saving v_mover v_rights a_kinds a_sides a_rays a_knights a_kings a_pawns x1_12 x3 x5_8 x7 else m_X2_kingGoals_b98 k48 v_own v_all v_king v_saving v_mover v_rights a_kinds a_sides a_rays a_knights a_kings a_pawns x1 x3 x5_8 x7
def m_X2_kingGoals_l48 (v_own : Int64) (v_all : Int64) (v_king : Int32) (v_saving : Int64) (v_mover : Int32) (v_rights : Int32) (a_kinds : Nat → Int64) (a_sides : Nat → Int64) (a_rays : Nat → Int64) (a_knights : Nat → Int64) (a_kings : Nat → Int64) (a_pawns : Nat → Int64) (n : Nat) : Int64 → Int64 → Int64 → Int32 → Option (Int64) := fz (fun _ _ _ _ => none) (fun k48 x1 x3 x5 x7 => m_X2_kingGoals_b48 k48 v_own v_all v_king v_saving v_mover v_rights a_kinds a_sides a_rays a_knights a_kings a_pawns x1 x3 x5 x7) n
def m_X2_kingGoals (v_own : Int64) (v_all : Int64) (v_king : Int32) (v_saving : Int64) (v_mover : Int32) (v_rights : Int32) (a_kinds : Nat → Int64) (a_sides : Nat → Int64) (a_rays : Nat → Int64) (a_knights : Nat → Int64) (a_kings : Nat → Int64) (a_pawns : Nat → Int64) : Option (Int64) := ol (v_all &&& (((1 : Int64) <<< (v_king.toInt64 &&& 63)) ^^^ (-1))) fun x3_13 => oin (v_king) 64 (ol ((a_kings v_king.toNatClampNeg) &&& (v_own ^^^ (-1))) fun x5_15 => ob (m_J13_bitCount_95d88 x5_15) fun r_16 => m_X2_kingGoals_l48 v_own v_all v_king v_saving v_mover v_rights a_kinds a_sides a_rays a_knights a_kings a_pawns kF 0 x3_13 x5_15 r_16)
abbrev rm_X2_kingGoals : Room := { frames := 3, cells := 0, slots := 0, locals := 92 }
abbrev wy_X2_kingGoals : List Cond := .code yX2_kingGoals cX2_kingGoals 9 (some .long) :: gT
theorem cv_X2_kingGoals {R : Room} {s : State} {args : Array Value} {own : String} {index : Nat} {w0 : Cond} (hts : ∀ w ∈ w0 :: gT, w.before args s = true) (hl : Cond.methodLink own index yX2_kingGoals ∈ gT) (hR : 3 + 1 ≤ R.frames ∧ 8 + (9 + 11) + 92 ≤ R.locals) : CallW R s args own RX2 index yX2_kingGoals cX2_kingGoals 9 (some .long) wy_X2_kingGoals rm_X2_kingGoals 0 0 0 :=
  cwV 0 hts (gT_call w0 (pre := [.methodLink own index yX2_kingGoals, .instanceMethod yX2_kingGoals, .selects RX2 yX2_kingGoals yX2_kingGoals, .initialized RX2]) (gT_lc hl (gT_lc ly_yX2_kingGoals (gT_lc lx_yX2_kingGoals (gT_l1 li_RX2)))) lc_yX2_kingGoals) rfl rfl rfl (by decide +kernel) hR
set_option maxRecDepth 100000 in
set_option maxHeartbeats 4000000 in
theorem c_X2_kingGoals (l : Launch) (D : va_G) (qa : Nat → Nat) (qb : Nat → Nat) (ql : Nat → Nat) (qw : Nat → Nat) (cI : ClassId) (cJ : ClassId) (tq : Nat → Nat) (v_standing : Int32) (v_own : Int64) (v_all : Int64) (v_king : Int32) (v_saving : Int64) (v_pinned : Int64) (v_passers : Int64) (a_stands : Nat → Int32) (a_goals : Nat → Int64) (v_mover : Int32) (v_rights : Int32) (v_passed : Int32) (v_halves : Int32) (v_number : Int32) (v_balance : Int32) (a_men : Nat → Int32) (a_kinds : Nat → Int64) (a_sides : Nat → Int64) (a_rays : Nat → Int64) (a_knights : Nat → Int64) (a_kings : Nat → Int64) (a_pawns : Nat → Int64) (a_table : Nat → Int32) (rv : Int64) (hm : m_X2_kingGoals v_own v_all v_king v_saving v_mover v_rights a_kinds a_sides a_rays a_knights a_kings a_pawns = some rv) : kEl l yX2_kingGoals wy_X2_kingGoals rm_X2_kingGoals D [(cI, .int), (cJ, .long)] tq rv (wLa qa qb ql qw cI cJ v_standing v_own v_all v_king v_saving v_pinned v_passers a_stands a_goals v_mover v_rights v_passed v_halves v_number v_balance a_men a_kinds a_sides a_rays a_knights a_kings a_pawns a_table) (wLa qa qb ql qw cI cJ v_standing v_own v_all v_king v_saving v_pinned v_passers a_stands a_goals v_mover v_rights v_passed v_halves v_number v_balance a_men a_kinds a_sides a_rays a_knights a_kings a_pawns a_table) [.ref (qa 0)] := by
  refine kEl.of cX2_kingGoals 9 (some .long) (by decide) rfl rfl (Nat.le_of_ble_eq_true rfl) ?_
  intro p e s m below meth c A Q C hJ hret
  have hin0 : ∀ w ∈ wsX00, w ∈ wy_X2_kingGoals := fun w h => List.mem_cons_of_mem _ (inG0 w h)
  have hin2 : ∀ w ∈ wsX20, w ∈ wy_X2_kingGoals := fun w h => List.mem_cons_of_mem _ (inG2 w h)
  have hin3 : ∀ w ∈ wsX30, w ∈ wy_X2_kingGoals := fun w h => List.mem_cons_of_mem _ (inG3 w h)
  have hin7 : ∀ w ∈ wsX70, w ∈ wy_X2_kingGoals := fun w h => List.mem_cons_of_mem _ (inG7 w h)
  have j126 : ∀ (t0 : Int64), m_X2_kingGoals_b126  v_own v_all v_king v_saving v_mover v_rights a_kinds a_sides a_rays a_knights a_kings a_pawns t0 = some rv → kv p l e rm_X2_kingGoals s m ([.ref (qa 0)] : List Value).toArray below meth c D A 9 0 0 Q (wLa qa qb ql qw cI cJ v_standing v_own v_all v_king v_saving v_pinned v_passers a_stands a_goals v_mover v_rights v_passed v_halves v_number v_balance a_men a_kinds a_sides a_rays a_knights a_kings a_pawns a_table) [] 126 [.long t0] := by
    intro t0 h
    unfold m_X2_kingGoals_b126 at h
    cases h
    exact hret _ _ dX2_kingGoals_126
  have l48 : ∀ (n48 : Nat) (x1 : Int64) (x3 : Int64) (x5 : Int64) (x7 : Int32), m_X2_kingGoals_l48  v_own v_all v_king v_saving v_mover v_rights a_kinds a_sides a_rays a_knights a_kings a_pawns n48 x1 x3 x5 x7 = some rv → kv p l e rm_X2_kingGoals s m ([.ref (qa 0)] : List Value).toArray below meth c D A 9 0 0 Q (wLa qa qb ql qw cI cJ v_standing v_own v_all v_king v_saving v_pinned v_passers a_stands a_goals v_mover v_rights v_passed v_halves v_number v_balance a_men a_kinds a_sides a_rays a_knights a_kings a_pawns a_table) [(0, .ref (qa 0)), (1, .long x1), (3, .long x3), (5, .long x5), (7, .int x7)] 48 [] := by
    intro n48
    induction n48 with
    | zero =>
      intro x1 x3 x5 x7 h
      exact kv_no h
    | succ n48 ih48 =>
      have j98 : ∀ (x1 : Int64) (x3 : Int64) (x5 : Int64) (x7 : Int32), m_X2_kingGoals_b98 (m_X2_kingGoals_l48  v_own v_all v_king v_saving v_mover v_rights a_kinds a_sides a_rays a_knights a_kings a_pawns n48) v_own v_all v_king v_saving v_mover v_rights a_kinds a_sides a_rays a_knights a_kings a_pawns x1 x3 x5 x7 = some rv → kv p l e rm_X2_kingGoals s m ([.ref (qa 0)] : List Value).toArray below meth c D A 9 0 0 Q (wLa qa qb ql qw cI cJ v_standing v_own v_all v_king v_saving v_pinned v_passers a_stands a_goals v_mover v_rights v_passed v_halves v_number v_balance a_men a_kinds a_sides a_rays a_knights a_kings a_pawns a_table) [(0, .ref (qa 0)), (1, .long x1), (3, .long x3), (5, .long x5), (7, .int x7)] 98 [] := by
        intro x1 x3 x5 x7 h
        unfold m_X2_kingGoals_b98 at h
        obtain ⟨x7_1, ex7_1, h⟩ := ol_e h
        refine kv_iinc C (v := x7_1) (lv2 := [(0, .ref (qa 0)), (1, .long x1), (3, .long x3), (5, .long x5), (7, .int x7_1)]) 4 [1, 2, 3, 4, 0] dX2_kingGoals_98 rfl ex7_1.symm (by decide) rfl rfl ?_
        refine kv_goto C 48 dX2_kingGoals_101 (by decide) ?_
        exact kv_lv [0, 1, 2, 3, 4] (lv2 := [(0, .ref (qa 0)), (1, .long x1), (3, .long x3), (5, .long x5), (7, .int x7_1)]) rfl (ih48 x1 x3 x5 x7_1 h)
      intro x1 x3 x5 x7 h
      replace h : m_X2_kingGoals_b48  (m_X2_kingGoals_l48  v_own v_all v_king v_saving v_mover v_rights a_kinds a_sides a_rays a_knights a_kings a_pawns n48) v_own v_all v_king v_saving v_mover v_rights a_kinds a_sides a_rays a_knights a_kings a_pawns x1 x3 x5 x7 = some rv := h
      unfold m_X2_kingGoals_b48 at h
      refine kv_iload C 4 dX2_kingGoals_48 rfl ?_
      refine kv_if_le C 104 dX2_kingGoals_50 (by decide) (fun c_2 => ?_) (fun c_2 => ?_)
      · have h := oi_t h c_2
        refine kv_aload_n C 0 dX2_kingGoals_104 rfl rfl ?_
        refine kv_get C (Cn := RX2) (T := TX2) (N := 11) 0 8 hin2 rfl rfl (by decide) (C.ts _ (List.mem_cons_of_mem _ lf_RX2_103)) rfl rfl dX2_kingGoals_105 ?_
        refine kv_ldc2 C (C.ts _ (List.mem_cons_of_mem _ lkl_RX2_101)) dX2_kingGoals_108 ?_
        refine kv_lcmp C dX2_kingGoals_111 ?_
        refine kv_if_ne C 125 dX2_kingGoals_112 (by decide) (fun c_3 => ?_) (fun c_3 => ?_)
        · have h := oi_f h c_3
          refine kv_lload_n C 1 dX2_kingGoals_125 rfl rfl ?_
          exact kv_lv [] (lv2 := []) rfl (j126 x1 h)
        · have h := oi_t h c_3
          refine kv_lload_n C 1 dX2_kingGoals_115 rfl rfl ?_
          refine kv_aload_n C 0 dX2_kingGoals_116 rfl rfl ?_
          refine kv_lload_n C 1 dX2_kingGoals_117 rfl rfl ?_
          obtain ⟨r_4, hm_5, h⟩ := ob_e h
          refine kv_eVl (ws2 := (wLa qa qb ql qw cI cJ v_standing v_own v_all v_king v_saving v_pinned v_passers a_stands a_goals v_mover v_rights v_passed v_halves v_number v_balance a_men a_kinds a_sides a_rays a_knights a_kings a_pawns a_table)) C hJ [.long x1] 0 (c_X2_goalsByRight l D qa qb ql qw cI cJ tq v_standing v_own v_all v_king v_saving v_pinned v_passers a_stands a_goals v_mover v_rights v_passed v_halves v_number v_balance a_men a_kinds a_sides a_rays a_knights a_kings a_pawns a_table x1 r_4 hm_5) (cv_X2_goalsByRight C.ts lm_RX2_154 ⟨Nat.le_of_ble_eq_true rfl, Nat.le_of_ble_eq_true rfl⟩) rfl rfl [0, 1, 2, 3, 4, 5, 6, 7, 8, 9, 10, 11, 12, 13] [] [0, 1] [0, 1, 2, 3, 4, 5, 6, 7, 8, 9, 10, 11, 12, 13] rfl rfl rfl rfl rfl (by decide) rfl rfl rfl (Nat.le_of_ble_eq_true rfl) dX2_kingGoals_118 ⟨Nat.zero_le _, Nat.zero_le _⟩ rfl rfl rfl ?_
          refine kv_lor C dX2_kingGoals_121 ?_
          refine kv_goto C 126 dX2_kingGoals_122 (by decide) ?_
          exact kv_lv [] (lv2 := []) rfl (j126 (x1 ||| r_4) h)
      · have h := oi_f h c_2
        refine kv_lload C 3 dX2_kingGoals_53 rfl ?_
        obtain ⟨r_6, hm_7, h⟩ := ob_e h
        refine kv_SN0i C [.long x5] (c_X9_leastOf l D x5 r_6 hm_7) (cn_X9_leastOf C.ts (hJ.1 _ (List.mem_of_getElem? (i := 3) rfl)) ⟨Nat.le_of_ble_eq_true rfl, Nat.le_of_ble_eq_true rfl⟩) rfl rfl (Nat.le_of_ble_eq_true rfl) dX2_kingGoals_55 ⟨Nat.zero_le _, Nat.zero_le _⟩ ?_
        refine kv_istore C (lv2 := [(0, .ref (qa 0)), (1, .long x1), (3, .long x3), (5, .long x5), (7, .int x7), (8, .int r_6)]) [1, 2, 3, 4, 5, 0] dX2_kingGoals_58 (by decide) rfl rfl ?_
        refine kv_lload C 3 dX2_kingGoals_60 rfl ?_
        refine kv_lload C 3 dX2_kingGoals_62 rfl ?_
        refine kv_lconst C 1 dX2_kingGoals_64 (by decide) ?_
        refine kv_lsub C dX2_kingGoals_65 ?_
        refine kv_land C dX2_kingGoals_66 ?_
        obtain ⟨x5_8, ex5_8, h⟩ := ol_e h
        refine kv_topl ex5_8 ?_
        refine kv_lstore C (lv2 := [(0, .ref (qa 0)), (1, .long x1), (3, .long x3), (5, .long x5_8), (7, .int x7), (8, .int r_6)]) [1, 2, 3, 0, 4, 5] dX2_kingGoals_67 (by decide) rfl rfl ?_
        refine kv_aload_n C 0 dX2_kingGoals_69 rfl rfl ?_
        refine kv_get C (Cn := RX2) (T := TX2) (N := 11) 0 0 hin2 rfl rfl (by decide) (C.ts _ (List.mem_cons_of_mem _ lf_RX2_9)) rfl rfl dX2_kingGoals_70 ?_
        refine kv_iload C 5 dX2_kingGoals_73 rfl ?_
        refine kv_iconst C 1 dX2_kingGoals_75 (by decide) ?_
        refine kv_aload_n C 0 dX2_kingGoals_76 rfl rfl ?_
        refine kv_get C (Cn := RX2) (T := TX2) (N := 11) 0 0 hin2 rfl rfl (by decide) (C.ts _ (List.mem_cons_of_mem _ lf_RX2_9)) rfl rfl dX2_kingGoals_77 ?_
        refine kv_get C (Cn := RX0) (T := TX0) (N := 11) 3 5 hin0 rfl rfl (by decide) (C.ts _ (List.mem_cons_of_mem _ lf_RX2_86)) rfl rfl dX2_kingGoals_80 ?_
        refine kv_isub C dX2_kingGoals_83 ?_
        refine kv_lload_n C 2 dX2_kingGoals_84 rfl rfl ?_
        obtain ⟨r_9, hm_10, h⟩ := ob_e h
        refine kv_eVi (ws2 := (wLa qa qb ql qw cI cJ v_standing v_own v_all v_king v_saving v_pinned v_passers a_stands a_goals v_mover v_rights v_passed v_halves v_number v_balance a_men a_kinds a_sides a_rays a_knights a_kings a_pawns a_table)) C hJ [.int r_6, .int ((1 : Int32) - v_mover), .long x3] 0 (c_X0_isStruck l D qb ql qw cI cJ tq v_mover v_rights v_passed v_halves v_number v_balance a_men a_kinds a_sides a_rays a_knights a_kings a_pawns a_table r_6 ((1 : Int32) - v_mover) x3 r_9 hm_10) (cv_X0_isStruck C.ts lm_RX2_150 ⟨Nat.le_of_ble_eq_true rfl, Nat.le_of_ble_eq_true rfl⟩) rfl rfl [3, 4, 5, 6, 7, 8, 9, 10, 11, 12, 13] [0, 1, 2] [0, 1] [0, 1, 2, 3, 4, 5, 6, 7, 8, 9, 10, 11, 12, 13] rfl rfl rfl rfl rfl (by decide) rfl rfl rfl (Nat.le_of_ble_eq_true rfl) dX2_kingGoals_85 ⟨Nat.zero_le _, Nat.zero_le _⟩ rfl rfl rfl ?_
        refine kv_if_ne C 98 dX2_kingGoals_88 (by decide) (fun c_11 => ?_) (fun c_11 => ?_)
        · have h := oi_f h c_11
          exact kv_lv [0, 1, 2, 3, 4] (lv2 := [(0, .ref (qa 0)), (1, .long x1), (3, .long x3), (5, .long x5_8), (7, .int x7)]) rfl (j98 x1 x3 x5_8 x7 h)
        · have h := oi_t h c_11
          refine kv_lload_n C 1 dX2_kingGoals_91 rfl rfl ?_
          refine kv_lconst C 1 dX2_kingGoals_92 (by decide) ?_
          refine kv_iload C 5 dX2_kingGoals_93 rfl ?_
          refine kv_lshl C dX2_kingGoals_95 ?_
          refine kv_lor C dX2_kingGoals_96 ?_
          obtain ⟨x1_12, ex1_12, h⟩ := ol_e h
          refine kv_topl ex1_12 ?_
          refine kv_lstore_n C (lv2 := [(0, .ref (qa 0)), (1, .long x1_12), (3, .long x3), (5, .long x5_8), (7, .int x7)]) [1, 0, 2, 3, 4] dX2_kingGoals_97 rfl (by decide) rfl rfl ?_
          exact kv_lv [0, 1, 2, 3, 4] (lv2 := [(0, .ref (qa 0)), (1, .long x1_12), (3, .long x3), (5, .long x5_8), (7, .int x7)]) rfl (j98 x1_12 x3 x5_8 x7 h)
  unfold m_X2_kingGoals at hm
  have h := hm
  refine kv_lv [0] (lv2 := [(0, .ref (qa 0))]) rfl ?_
  refine kv_lconst C 0 dX2_kingGoals_0 (by decide) ?_
  refine kv_lstore_n C (lv2 := [(0, .ref (qa 0)), (1, .long 0)]) [1, 0] dX2_kingGoals_1 rfl (by decide) rfl rfl ?_
  refine kv_aload_n C 0 dX2_kingGoals_2 rfl rfl ?_
  refine kv_get C (Cn := RX2) (T := TX2) (N := 11) 0 6 hin2 rfl rfl (by decide) (C.ts _ (List.mem_cons_of_mem _ lf_RX2_95)) rfl rfl dX2_kingGoals_3 ?_
  refine kv_lconst C 1 dX2_kingGoals_6 (by decide) ?_
  refine kv_aload_n C 0 dX2_kingGoals_7 rfl rfl ?_
  refine kv_get C (Cn := RX2) (T := TX2) (N := 11) 0 7 hin2 rfl rfl (by decide) (C.ts _ (List.mem_cons_of_mem _ lf_RX2_57)) rfl rfl dX2_kingGoals_8 ?_
  refine kv_lshl C dX2_kingGoals_11 ?_
  refine kv_ldc2 C (C.ts _ (List.mem_cons_of_mem _ lkl_RX2_101)) dX2_kingGoals_12 ?_
  refine kv_lxor C dX2_kingGoals_15 ?_
  refine kv_land C dX2_kingGoals_16 ?_
  obtain ⟨x3_13, ex3_13, h⟩ := ol_e h
  refine kv_topl ex3_13 ?_
  refine kv_lstore_n C (lv2 := [(0, .ref (qa 0)), (1, .long 0), (3, .long x3_13)]) [1, 2, 0] dX2_kingGoals_17 rfl (by decide) rfl rfl ?_
  refine kv_aload_n C 0 dX2_kingGoals_18 rfl rfl ?_
  refine kv_get C (Cn := RX2) (T := TX2) (N := 11) 0 1 hin2 rfl rfl (by decide) (C.ts _ (List.mem_cons_of_mem _ lf_RX2_15)) rfl rfl dX2_kingGoals_19 ?_
  refine kv_get C (Cn := RX3) (T := TX3) (N := 4) 7 2 hin3 rfl rfl (by decide) (C.ts _ (List.mem_cons_of_mem _ lf_RX2_147)) rfl rfl dX2_kingGoals_22 ?_
  refine kv_aload_n C 0 dX2_kingGoals_25 rfl rfl ?_
  refine kv_get C (Cn := RX2) (T := TX2) (N := 11) 0 7 hin2 rfl rfl (by decide) (C.ts _ (List.mem_cons_of_mem _ lf_RX2_57)) rfl rfl dX2_kingGoals_26 ?_
  obtain ⟨g_14, h⟩ := oin_e h
  refine kv_lald C 10 1 rfl rfl g_14 dX2_kingGoals_29 ?_
  refine kv_aload_n C 0 dX2_kingGoals_30 rfl rfl ?_
  refine kv_get C (Cn := RX2) (T := TX2) (N := 11) 0 5 hin2 rfl rfl (by decide) (C.ts _ (List.mem_cons_of_mem _ lf_RX2_39)) rfl rfl dX2_kingGoals_31 ?_
  refine kv_ldc2 C (C.ts _ (List.mem_cons_of_mem _ lkl_RX2_101)) dX2_kingGoals_34 ?_
  refine kv_lxor C dX2_kingGoals_37 ?_
  refine kv_land C dX2_kingGoals_38 ?_
  obtain ⟨x5_15, ex5_15, h⟩ := ol_e h
  refine kv_topl ex5_15 ?_
  refine kv_lstore C (lv2 := [(0, .ref (qa 0)), (1, .long 0), (3, .long x3_13), (5, .long x5_15)]) [1, 2, 3, 0] dX2_kingGoals_39 (by decide) rfl rfl ?_
  refine kv_lload C 3 dX2_kingGoals_41 rfl ?_
  obtain ⟨r_16, hm_17, h⟩ := ob_e h
  refine kv_callS0i C [.long x5_15] (c_J13_bitCount_95d88 l D x5_15 r_16 hm_17) (cs_J13_bitCount_95d88 C.ts lm_RX2_42 ⟨Nat.le_of_ble_eq_true rfl, Nat.le_of_ble_eq_true rfl⟩) rfl rfl (Nat.le_of_ble_eq_true rfl) dX2_kingGoals_43 ⟨Nat.zero_le _, Nat.zero_le _⟩ ?_
  refine kv_istore C (lv2 := [(0, .ref (qa 0)), (1, .long 0), (3, .long x3_13), (5, .long x5_15), (7, .int r_16)]) [1, 2, 3, 4, 0] dX2_kingGoals_46 (by decide) rfl rfl ?_
  exact kv_lv [0, 1, 2, 3, 4] (lv2 := [(0, .ref (qa 0)), (1, .long 0), (3, .long x3_13), (5, .long x5_15), (7, .int r_16)]) rfl (l48 kF 0 x3_13 x5_15 r_16 h)
def m_X2_survey_b91 (k36 : Int32 → Int64 → Int64 → Int32 → Int64 → Int64 → Int64 → (Nat → Int32) → (Nat → Int64) → Int64 → Int32 → Int32 → Option (Int32 × Int64 × Int64 × Int32 × Int64 × Int64 × Int64 × (Nat → Int32) × (Nat → Int64))) (v_standing : Int32) (v_own : Int64) (v_all : Int64) (v_king : Int32) (v_saving : Int64) (v_pinned : Int64) (v_passers : Int64) (a_stands : Nat → Int32) (a_goals : Nat → Int64) (v_mover : Int32) (v_rights : Int32) (v_passed : Int32) (a_men : Nat → Int32) (a_kinds : Nat → Int64) (a_sides : Nat → Int64) (a_rays : Nat → Int64) (a_knights : Nat → Int64) (a_kings : Nat → Int64) (a_pawns : Nat → Int64) (x1 : Int64) (x3 : Int32) (x4 : Int32) (t1 : Int32) (t2 : Int64) : Option (Int32 × Int64 × Int64 × Int32 × Int64 × Int64 × Int64 × (Nat → Int32) × (Nat → Int64)) := oin (t1) 16 (ol (vp_updL a_goals (t1.toNatClampNeg) t2) fun a_goals_2 => ol (x4 + 1) fun x4_3 => k36 v_standing v_own v_all v_king v_saving v_pinned v_passers a_stands a_goals_2 x1 x3 x4_3)
def m_X2_survey_b36 (k36 : Int32 → Int64 → Int64 → Int32 → Int64 → Int64 → Int64 → (Nat → Int32) → (Nat → Int64) → Int64 → Int32 → Int32 → Option (Int32 × Int64 × Int64 × Int32 × Int64 × Int64 × Int64 × (Nat → Int32) × (Nat → Int64))) (v_standing : Int32) (v_own : Int64) (v_all : Int64) (v_king : Int32) (v_saving : Int64) (v_pinned : Int64) (v_passers : Int64) (a_stands : Nat → Int32) (a_goals : Nat → Int64) (v_mover : Int32) (v_rights : Int32) (v_passed : Int32) (a_men : Nat → Int32) (a_kinds : Nat → Int64) (a_sides : Nat → Int64) (a_rays : Nat → Int64) (a_knights : Nat → Int64) (a_kings : Nat → Int64) (a_pawns : Nat → Int64) (x1 : Int64) (x3 : Int32) (x4 : Int32) : Option (Int32 × Int64 × Int64 × Int32 × Int64 × Int64 × Int64 × (Nat → Int32) × (Nat → Int64)) := if x3 ≤ x4 then some (x3, v_own, v_all, v_king, v_saving, v_pinned, v_passers, a_stands, a_goals) else ob (m_X9_leastOf x1) fun r_5 => ol (x1 &&& (x1 - 1)) fun x1_7 => oin (x4) 16 (ol (upd a_stands (x4.toNatClampNeg) r_5) fun a_stands_9 => if r_5 = v_king then ob (m_X2_kingGoals v_own v_all v_king v_saving v_mover v_rights a_kinds a_sides a_rays a_knights a_kings a_pawns ) fun r_13 => m_X2_survey_b91 k36 v_standing v_own v_all v_king v_saving v_pinned v_passers a_stands_9 a_goals v_mover v_rights v_passed a_men a_kinds a_sides a_rays a_knights a_kings a_pawns x1_7 x3 x4 x4 r_13 else ob (m_X2_goalsOf v_own v_all v_king v_saving v_pinned v_passers v_mover v_passed a_men a_sides a_rays a_knights a_pawns r_5) fun r_11 => m_X2_survey_b91 k36 v_standing v_own v_all v_king v_saving v_pinned v_passers a_stands_9 a_goals v_mover v_rights v_passed a_men a_kinds a_sides a_rays a_knights a_kings a_pawns x1_7 x3 x4 x4 r_11)
def m_X2_survey_l36 (v_mover : Int32) (v_rights : Int32) (v_passed : Int32) (a_men : Nat → Int32) (a_kinds : Nat → Int64) (a_sides : Nat → Int64) (a_rays : Nat → Int64) (a_knights : Nat → Int64) (a_kings : Nat → Int64) (a_pawns : Nat → Int64) (n : Nat) : Int32 → Int64 → Int64 → Int32 → Int64 → Int64 → Int64 → (Nat → Int32) → (Nat → Int64) → Int64 → Int32 → Int32 → Option (Int32 × Int64 × Int64 × Int32 × Int64 × Int64 × Int64 × (Nat → Int32) × (Nat → Int64)) := fz (fun _ _ _ _ _ _ _ _ _ _ _ _ => none) (fun k36 v_standing v_own v_all v_king v_saving v_pinned v_passers a_stands a_goals x1 x3 x4 => m_X2_survey_b36 k36 v_standing v_own v_all v_king v_saving v_pinned v_passers a_stands a_goals v_mover v_rights v_passed a_men a_kinds a_sides a_rays a_knights a_kings a_pawns x1 x3 x4) n
def m_X2_survey (v_standing : Int32) (v_own : Int64) (v_all : Int64) (v_king : Int32) (v_saving : Int64) (v_pinned : Int64) (v_passers : Int64) (a_stands : Nat → Int32) (a_goals : Nat → Int64) (v_mover : Int32) (v_rights : Int32) (v_passed : Int32) (a_men : Nat → Int32) (a_kinds : Nat → Int64) (a_sides : Nat → Int64) (a_rays : Nat → Int64) (a_knights : Nat → Int64) (a_kings : Nat → Int64) (a_pawns : Nat → Int64) : Option (Int32 × Int64 × Int64 × Int32 × Int64 × Int64 × Int64 × (Nat → Int32) × (Nat → Int64)) := ob (m_X2_lookAround v_own v_all v_king v_saving v_pinned v_mover a_kinds a_sides a_rays a_knights a_pawns ) fun (v_own_15, v_all_16, v_king_17, v_saving_18, v_pinned_19) => ob (m_X0_passers v_mover v_passed a_kinds a_sides a_rays a_knights a_kings a_pawns ) fun r_21 => ob (m_J13_bitCount_95d88 v_own_15) fun r_23 => ob (m_J9_min_7cf53 r_23 16) fun r_25 => m_X2_survey_l36 v_mover v_rights v_passed a_men a_kinds a_sides a_rays a_knights a_kings a_pawns kF v_standing v_own_15 v_all_16 v_king_17 v_saving_18 v_pinned_19 r_21 a_stands a_goals v_own_15 r_25 0
abbrev rm_X2_survey : Room := { frames := 4, cells := 0, slots := 0, locals := 120 }
abbrev wy_X2_survey : List Cond := .code yX2_survey cX2_survey 6 none :: gT
theorem cv_X2_survey {R : Room} {s : State} {args : Array Value} {own : String} {index : Nat} {w0 : Cond} (hts : ∀ w ∈ w0 :: gT, w.before args s = true) (hl : Cond.methodLink own index yX2_survey ∈ gT) (hR : 4 + 1 ≤ R.frames ∧ 8 + (6 + 11) + 120 ≤ R.locals) : CallW R s args own RX2 index yX2_survey cX2_survey 6 none wy_X2_survey rm_X2_survey 0 0 0 :=
  cwV 0 hts (gT_call w0 (pre := [.methodLink own index yX2_survey, .instanceMethod yX2_survey, .selects RX2 yX2_survey yX2_survey, .initialized RX2]) (gT_lc hl (gT_lc ly_yX2_survey (gT_lc lx_yX2_survey (gT_l1 li_RX2)))) lc_yX2_survey) rfl rfl rfl (by decide +kernel) hR
set_option maxRecDepth 100000 in
set_option maxHeartbeats 4000000 in
theorem c_X2_survey (l : Launch) (D : va_G) (qa : Nat → Nat) (qb : Nat → Nat) (ql : Nat → Nat) (qw : Nat → Nat) (cI : ClassId) (cJ : ClassId) (tq : Nat → Nat) (v_standing : Int32) (v_own : Int64) (v_all : Int64) (v_king : Int32) (v_saving : Int64) (v_pinned : Int64) (v_passers : Int64) (a_stands : Nat → Int32) (a_goals : Nat → Int64) (v_mover : Int32) (v_rights : Int32) (v_passed : Int32) (v_halves : Int32) (v_number : Int32) (v_balance : Int32) (a_men : Nat → Int32) (a_kinds : Nat → Int64) (a_sides : Nat → Int64) (a_rays : Nat → Int64) (a_knights : Nat → Int64) (a_kings : Nat → Int64) (a_pawns : Nat → Int64) (a_table : Nat → Int32) (v_standing' : Int32) (v_own' : Int64) (v_all' : Int64) (v_king' : Int32) (v_saving' : Int64) (v_pinned' : Int64) (v_passers' : Int64) (a_stands' : Nat → Int32) (a_goals' : Nat → Int64) (hm : m_X2_survey v_standing v_own v_all v_king v_saving v_pinned v_passers a_stands a_goals v_mover v_rights v_passed a_men a_kinds a_sides a_rays a_knights a_kings a_pawns = some (v_standing', v_own', v_all', v_king', v_saving', v_pinned', v_passers', a_stands', a_goals')) : kEv l yX2_survey wy_X2_survey rm_X2_survey D [(cI, .int), (cJ, .long)] tq (wLa qa qb ql qw cI cJ v_standing v_own v_all v_king v_saving v_pinned v_passers a_stands a_goals v_mover v_rights v_passed v_halves v_number v_balance a_men a_kinds a_sides a_rays a_knights a_kings a_pawns a_table) (wLa qa qb ql qw cI cJ v_standing' v_own' v_all' v_king' v_saving' v_pinned' v_passers' a_stands' a_goals' v_mover v_rights v_passed v_halves v_number v_balance a_men a_kinds a_sides a_rays a_knights a_kings a_pawns a_table) [.ref (qa 0)] := by
  refine kEv.of cX2_survey 6 none (by decide) rfl rfl (Nat.le_of_ble_eq_true rfl) ?_
  intro p e s m below meth c A Q C hJ hret
  have hin0 : ∀ w ∈ wsX00, w ∈ wy_X2_survey := fun w h => List.mem_cons_of_mem _ (inG0 w h)
  have hin2 : ∀ w ∈ wsX20, w ∈ wy_X2_survey := fun w h => List.mem_cons_of_mem _ (inG2 w h)
  have hin3 : ∀ w ∈ wsX30, w ∈ wy_X2_survey := fun w h => List.mem_cons_of_mem _ (inG3 w h)
  have hin7 : ∀ w ∈ wsX70, w ∈ wy_X2_survey := fun w h => List.mem_cons_of_mem _ (inG7 w h)
  have l36 : ∀ (n36 : Nat) (v_standing : Int32) (v_own : Int64) (v_all : Int64) (v_king : Int32) (v_saving : Int64) (v_pinned : Int64) (v_passers : Int64) (a_stands : Nat → Int32) (a_goals : Nat → Int64) (x1 : Int64) (x3 : Int32) (x4 : Int32), m_X2_survey_l36  v_mover v_rights v_passed a_men a_kinds a_sides a_rays a_knights a_kings a_pawns n36 v_standing v_own v_all v_king v_saving v_pinned v_passers a_stands a_goals x1 x3 x4 = some (v_standing', v_own', v_all', v_king', v_saving', v_pinned', v_passers', a_stands', a_goals') → kv p l e rm_X2_survey s m ([.ref (qa 0)] : List Value).toArray below meth c D A 6 0 0 Q (wLa qa qb ql qw cI cJ v_standing v_own v_all v_king v_saving v_pinned v_passers a_stands a_goals v_mover v_rights v_passed v_halves v_number v_balance a_men a_kinds a_sides a_rays a_knights a_kings a_pawns a_table) [(0, .ref (qa 0)), (1, .long x1), (3, .int x3), (4, .int x4)] 36 [] := by
    intro n36
    induction n36 with
    | zero =>
      intro v_standing v_own v_all v_king v_saving v_pinned v_passers a_stands a_goals x1 x3 x4 h
      exact kv_no h
    | succ n36 ih36 =>
      have j91 : ∀ (v_standing : Int32) (v_own : Int64) (v_all : Int64) (v_king : Int32) (v_saving : Int64) (v_pinned : Int64) (v_passers : Int64) (a_stands : Nat → Int32) (a_goals : Nat → Int64) (x1 : Int64) (x3 : Int32) (x4 : Int32) (t1 : Int32) (t2 : Int64), m_X2_survey_b91 (m_X2_survey_l36  v_mover v_rights v_passed a_men a_kinds a_sides a_rays a_knights a_kings a_pawns n36) v_standing v_own v_all v_king v_saving v_pinned v_passers a_stands a_goals v_mover v_rights v_passed a_men a_kinds a_sides a_rays a_knights a_kings a_pawns x1 x3 x4 t1 t2 = some (v_standing', v_own', v_all', v_king', v_saving', v_pinned', v_passers', a_stands', a_goals') → kv p l e rm_X2_survey s m ([.ref (qa 0)] : List Value).toArray below meth c D A 6 0 0 Q (wLa qa qb ql qw cI cJ v_standing v_own v_all v_king v_saving v_pinned v_passers a_stands a_goals v_mover v_rights v_passed v_halves v_number v_balance a_men a_kinds a_sides a_rays a_knights a_kings a_pawns a_table) [(0, .ref (qa 0)), (1, .long x1), (3, .int x3), (4, .int x4)] 91 [.long t2, .int t1, .ref (qa 2)] := by
        intro v_standing v_own v_all v_king v_saving v_pinned v_passers a_stands a_goals x1 x3 x4 t1 t2 h
        unfold m_X2_survey_b91 at h
        obtain ⟨g_1, h⟩ := oin_e h
        obtain ⟨a_goals_2, ea_goals_2, h⟩ := ol_e h
        refine kv_last2 C (ws1 := (wLa qa qb ql qw cI cJ v_standing v_own v_all v_king v_saving v_pinned v_passers a_stands a_goals_2 v_mover v_rights v_passed v_halves v_number v_balance a_men a_kinds a_sides a_rays a_knights a_kings a_pawns a_table)) 2 1 rfl rfl g_1 ea_goals_2 rfl dX2_survey_91 ?_
        obtain ⟨x4_3, ex4_3, h⟩ := ol_e h
        refine kv_iinc C (v := x4_3) (lv2 := [(0, .ref (qa 0)), (1, .long x1), (3, .int x3), (4, .int x4_3)]) 3 [1, 2, 3, 0] dX2_survey_92 rfl ex4_3.symm (by decide) rfl rfl ?_
        refine kv_goto C 36 dX2_survey_95 (by decide) ?_
        exact kv_lv [0, 1, 2, 3] (lv2 := [(0, .ref (qa 0)), (1, .long x1), (3, .int x3), (4, .int x4_3)]) rfl (ih36 v_standing v_own v_all v_king v_saving v_pinned v_passers a_stands a_goals_2 x1 x3 x4_3 h)
      intro v_standing v_own v_all v_king v_saving v_pinned v_passers a_stands a_goals x1 x3 x4 h
      replace h : m_X2_survey_b36  (m_X2_survey_l36  v_mover v_rights v_passed a_men a_kinds a_sides a_rays a_knights a_kings a_pawns n36) v_standing v_own v_all v_king v_saving v_pinned v_passers a_stands a_goals v_mover v_rights v_passed a_men a_kinds a_sides a_rays a_knights a_kings a_pawns x1 x3 x4 = some (v_standing', v_own', v_all', v_king', v_saving', v_pinned', v_passers', a_stands', a_goals') := h
      unfold m_X2_survey_b36 at h
      refine kv_iload C 3 dX2_survey_36 rfl ?_
      refine kv_iload_n C 2 dX2_survey_38 rfl rfl ?_
      refine kv_icmp_ge C 98 dX2_survey_39 (by decide) (fun c_4 => ?_) (fun c_4 => ?_)
      · have h := oi_t h c_4
        refine kv_aload_n C 0 dX2_survey_98 rfl rfl ?_
        refine kv_iload_n C 2 dX2_survey_99 rfl rfl ?_
        refine kv_put C (Cn := RX2) (T := TX2) (N := 11) (ty := .int) (ws1 := (wLa qa qb ql qw cI cJ x3 v_own v_all v_king v_saving v_pinned v_passers a_stands a_goals v_mover v_rights v_passed v_halves v_number v_balance a_men a_kinds a_sides a_rays a_knights a_kings a_pawns a_table)) 0 4 hin2 tyX2 tyX2_ok nmX2 rfl rfl (by decide) (C.ts _ (List.mem_cons_of_mem _ lf_RX2_68)) rfl rfl (by decide +kernel) rfl rfl (Nat.le_of_ble_eq_true rfl) rfl dX2_survey_100 ?_
        cases h
        exact hret _ _ dX2_survey_103
      · have h := oi_f h c_4
        refine kv_lload_n C 1 dX2_survey_42 rfl rfl ?_
        obtain ⟨r_5, hm_6, h⟩ := ob_e h
        refine kv_SN0i C [.long x1] (c_X9_leastOf l D x1 r_5 hm_6) (cn_X9_leastOf C.ts (hJ.1 _ (List.mem_of_getElem? (i := 3) rfl)) ⟨Nat.le_of_ble_eq_true rfl, Nat.le_of_ble_eq_true rfl⟩) rfl rfl (Nat.le_of_ble_eq_true rfl) dX2_survey_43 ⟨Nat.zero_le _, Nat.zero_le _⟩ ?_
        refine kv_istore C (lv2 := [(0, .ref (qa 0)), (1, .long x1), (3, .int x3), (4, .int x4), (5, .int r_5)]) [1, 2, 3, 4, 0] dX2_survey_46 (by decide) rfl rfl ?_
        refine kv_lload_n C 1 dX2_survey_48 rfl rfl ?_
        refine kv_lload_n C 1 dX2_survey_49 rfl rfl ?_
        refine kv_lconst C 1 dX2_survey_50 (by decide) ?_
        refine kv_lsub C dX2_survey_51 ?_
        refine kv_land C dX2_survey_52 ?_
        obtain ⟨x1_7, ex1_7, h⟩ := ol_e h
        refine kv_topl ex1_7 ?_
        refine kv_lstore_n C (lv2 := [(0, .ref (qa 0)), (1, .long x1_7), (3, .int x3), (4, .int x4), (5, .int r_5)]) [1, 0, 2, 3, 4] dX2_survey_53 rfl (by decide) rfl rfl ?_
        refine kv_aload_n C 0 dX2_survey_54 rfl rfl ?_
        refine kv_get C (Cn := RX2) (T := TX2) (N := 11) 0 2 hin2 rfl rfl (by decide) (C.ts _ (List.mem_cons_of_mem _ lf_RX2_19)) rfl rfl dX2_survey_55 ?_
        refine kv_iload C 3 dX2_survey_58 rfl ?_
        refine kv_iload C 4 dX2_survey_60 rfl ?_
        obtain ⟨g_8, h⟩ := oin_e h
        obtain ⟨a_stands_9, ea_stands_9, h⟩ := ol_e h
        refine kv_iast2 C (ws1 := (wLa qa qb ql qw cI cJ v_standing v_own v_all v_king v_saving v_pinned v_passers a_stands_9 a_goals v_mover v_rights v_passed v_halves v_number v_balance a_men a_kinds a_sides a_rays a_knights a_kings a_pawns a_table)) 1 0 rfl rfl g_8 ea_stands_9 rfl dX2_survey_62 ?_
        refine kv_aload_n C 0 dX2_survey_63 rfl rfl ?_
        refine kv_get C (Cn := RX2) (T := TX2) (N := 11) 0 3 hin2 rfl rfl (by decide) (C.ts _ (List.mem_cons_of_mem _ lf_RX2_23)) rfl rfl dX2_survey_64 ?_
        refine kv_iload C 3 dX2_survey_67 rfl ?_
        refine kv_iload C 4 dX2_survey_69 rfl ?_
        refine kv_aload_n C 0 dX2_survey_71 rfl rfl ?_
        refine kv_get C (Cn := RX2) (T := TX2) (N := 11) 0 7 hin2 rfl rfl (by decide) (C.ts _ (List.mem_cons_of_mem _ lf_RX2_57)) rfl rfl dX2_survey_72 ?_
        refine kv_icmp_ne C 85 dX2_survey_75 (by decide) (fun c_10 => ?_) (fun c_10 => ?_)
        · have h := oi_f h c_10
          refine kv_aload_n C 0 dX2_survey_85 rfl rfl ?_
          refine kv_iload C 4 dX2_survey_86 rfl ?_
          obtain ⟨r_11, hm_12, h⟩ := ob_e h
          refine kv_eVl (ws2 := (wLa qa qb ql qw cI cJ v_standing v_own v_all v_king v_saving v_pinned v_passers a_stands_9 a_goals v_mover v_rights v_passed v_halves v_number v_balance a_men a_kinds a_sides a_rays a_knights a_kings a_pawns a_table)) C hJ [.int r_5] 0 (c_X2_goalsOf l D qa qb ql qw cI cJ tq v_standing v_own v_all v_king v_saving v_pinned v_passers a_stands_9 a_goals v_mover v_rights v_passed v_halves v_number v_balance a_men a_kinds a_sides a_rays a_knights a_kings a_pawns a_table r_5 r_11 hm_12) (cv_X2_goalsOf C.ts lm_RX2_64 ⟨Nat.le_of_ble_eq_true rfl, Nat.le_of_ble_eq_true rfl⟩) rfl rfl [0, 1, 2, 3, 4, 5, 6, 7, 8, 9, 10, 11, 12, 13] [] [0, 1] [0, 1, 2, 3, 4, 5, 6, 7, 8, 9, 10, 11, 12, 13] rfl rfl rfl rfl rfl (by decide) rfl rfl rfl (Nat.le_of_ble_eq_true rfl) dX2_survey_88 ⟨Nat.zero_le _, Nat.zero_le _⟩ rfl rfl rfl ?_
          exact kv_lv [0, 1, 2, 3] (lv2 := [(0, .ref (qa 0)), (1, .long x1_7), (3, .int x3), (4, .int x4)]) rfl (j91 v_standing v_own v_all v_king v_saving v_pinned v_passers a_stands_9 a_goals x1_7 x3 x4 x4 r_11 h)
        · have h := oi_t h c_10
          refine kv_aload_n C 0 dX2_survey_78 rfl rfl ?_
          obtain ⟨r_13, hm_14, h⟩ := ob_e h
          refine kv_eVl (ws2 := (wLa qa qb ql qw cI cJ v_standing v_own v_all v_king v_saving v_pinned v_passers a_stands_9 a_goals v_mover v_rights v_passed v_halves v_number v_balance a_men a_kinds a_sides a_rays a_knights a_kings a_pawns a_table)) C hJ [] 0 (c_X2_kingGoals l D qa qb ql qw cI cJ tq v_standing v_own v_all v_king v_saving v_pinned v_passers a_stands_9 a_goals v_mover v_rights v_passed v_halves v_number v_balance a_men a_kinds a_sides a_rays a_knights a_kings a_pawns a_table  r_13 hm_14) (cv_X2_kingGoals C.ts lm_RX2_61 ⟨Nat.le_of_ble_eq_true rfl, Nat.le_of_ble_eq_true rfl⟩) rfl rfl [0, 1, 2, 3, 4, 5, 6, 7, 8, 9, 10, 11, 12, 13] [] [0, 1] [0, 1, 2, 3, 4, 5, 6, 7, 8, 9, 10, 11, 12, 13] rfl rfl rfl rfl rfl (by decide) rfl rfl rfl (Nat.le_of_ble_eq_true rfl) dX2_survey_79 ⟨Nat.zero_le _, Nat.zero_le _⟩ rfl rfl rfl ?_
          refine kv_goto C 91 dX2_survey_82 (by decide) ?_
          exact kv_lv [0, 1, 2, 3] (lv2 := [(0, .ref (qa 0)), (1, .long x1_7), (3, .int x3), (4, .int x4)]) rfl (j91 v_standing v_own v_all v_king v_saving v_pinned v_passers a_stands_9 a_goals x1_7 x3 x4 x4 r_13 h)
  unfold m_X2_survey at hm
  have h := hm
  refine kv_lv [0] (lv2 := [(0, .ref (qa 0))]) rfl ?_
  refine kv_aload_n C 0 dX2_survey_0 rfl rfl ?_
  obtain ⟨⟨v_own_15, v_all_16, v_king_17, v_saving_18, v_pinned_19⟩, hm_20, h⟩ := ob_e h
  replace h : _ = _ := h
  refine kv_eVv (ws2 := (wLa qa qb ql qw cI cJ v_standing v_own_15 v_all_16 v_king_17 v_saving_18 v_pinned_19 v_passers a_stands a_goals v_mover v_rights v_passed v_halves v_number v_balance a_men a_kinds a_sides a_rays a_knights a_kings a_pawns a_table)) C hJ [] 0 (c_X2_lookAround l D qa qb ql qw cI cJ tq v_standing v_own v_all v_king v_saving v_pinned v_passers a_stands a_goals v_mover v_rights v_passed v_halves v_number v_balance a_men a_kinds a_sides a_rays a_knights a_kings a_pawns a_table  v_own_15 v_all_16 v_king_17 v_saving_18 v_pinned_19 hm_20) (cv_X2_lookAround C.ts lm_RX2_27 ⟨Nat.le_of_ble_eq_true rfl, Nat.le_of_ble_eq_true rfl⟩) rfl rfl [0, 1, 2, 3, 4, 5, 6, 7, 8, 9, 10, 11, 12, 13] [] [0, 1] [0, 1, 2, 3, 4, 5, 6, 7, 8, 9, 10, 11, 12, 13] rfl rfl rfl rfl rfl (by decide) rfl rfl rfl (Nat.le_of_ble_eq_true rfl) dX2_survey_1 ⟨Nat.zero_le _, Nat.zero_le _⟩ rfl rfl rfl ?_
  refine kv_aload_n C 0 dX2_survey_4 rfl rfl ?_
  refine kv_aload_n C 0 dX2_survey_5 rfl rfl ?_
  refine kv_get C (Cn := RX2) (T := TX2) (N := 11) 0 0 hin2 rfl rfl (by decide) (C.ts _ (List.mem_cons_of_mem _ lf_RX2_9)) rfl rfl dX2_survey_6 ?_
  obtain ⟨r_21, hm_22, h⟩ := ob_e h
  refine kv_eVl (ws2 := (wLa qa qb ql qw cI cJ v_standing v_own_15 v_all_16 v_king_17 v_saving_18 v_pinned_19 v_passers a_stands a_goals v_mover v_rights v_passed v_halves v_number v_balance a_men a_kinds a_sides a_rays a_knights a_kings a_pawns a_table)) C hJ [] 0 (c_X0_passers l D qb ql qw cI cJ tq v_mover v_rights v_passed v_halves v_number v_balance a_men a_kinds a_sides a_rays a_knights a_kings a_pawns a_table  r_21 hm_22) (cv_X0_passers C.ts lm_RX2_30 ⟨Nat.le_of_ble_eq_true rfl, Nat.le_of_ble_eq_true rfl⟩) rfl rfl [3, 4, 5, 6, 7, 8, 9, 10, 11, 12, 13] [0, 1, 2] [0, 1] [0, 1, 2, 3, 4, 5, 6, 7, 8, 9, 10, 11, 12, 13] rfl rfl rfl rfl rfl (by decide) rfl rfl rfl (Nat.le_of_ble_eq_true rfl) dX2_survey_9 ⟨Nat.zero_le _, Nat.zero_le _⟩ rfl rfl rfl ?_
  refine kv_put C (Cn := RX2) (T := TX2) (N := 11) (ty := .long) (ws1 := (wLa qa qb ql qw cI cJ v_standing v_own_15 v_all_16 v_king_17 v_saving_18 v_pinned_19 r_21 a_stands a_goals v_mover v_rights v_passed v_halves v_number v_balance a_men a_kinds a_sides a_rays a_knights a_kings a_pawns a_table)) 0 10 hin2 tyX2 tyX2_ok nmX2 rfl rfl (by decide) (C.ts _ (List.mem_cons_of_mem _ lf_RX2_36)) rfl rfl (by decide +kernel) rfl rfl (Nat.le_of_ble_eq_true rfl) rfl dX2_survey_12 ?_
  refine kv_aload_n C 0 dX2_survey_15 rfl rfl ?_
  refine kv_get C (Cn := RX2) (T := TX2) (N := 11) 0 5 hin2 rfl rfl (by decide) (C.ts _ (List.mem_cons_of_mem _ lf_RX2_39)) rfl rfl dX2_survey_16 ?_
  refine kv_lstore_n C (lv2 := [(0, .ref (qa 0)), (1, .long v_own_15)]) [1, 0] dX2_survey_19 rfl (by decide) rfl rfl ?_
  refine kv_aload_n C 0 dX2_survey_20 rfl rfl ?_
  refine kv_get C (Cn := RX2) (T := TX2) (N := 11) 0 5 hin2 rfl rfl (by decide) (C.ts _ (List.mem_cons_of_mem _ lf_RX2_39)) rfl rfl dX2_survey_21 ?_
  obtain ⟨r_23, hm_24, h⟩ := ob_e h
  refine kv_callS0i C [.long v_own_15] (c_J13_bitCount_95d88 l D v_own_15 r_23 hm_24) (cs_J13_bitCount_95d88 C.ts lm_RX2_42 ⟨Nat.le_of_ble_eq_true rfl, Nat.le_of_ble_eq_true rfl⟩) rfl rfl (Nat.le_of_ble_eq_true rfl) dX2_survey_24 ⟨Nat.zero_le _, Nat.zero_le _⟩ ?_
  refine kv_bipush C 16 dX2_survey_27 (by decide) ?_
  obtain ⟨r_25, hm_26, h⟩ := ob_e h
  refine kv_callS0i C [.int r_23, .int 16] (c_J9_min_7cf53 l D r_23 16 r_25 hm_26) (cs_J9_min_7cf53 C.ts lm_RX2_48 ⟨Nat.le_of_ble_eq_true rfl, Nat.le_of_ble_eq_true rfl⟩) rfl rfl (Nat.le_of_ble_eq_true rfl) dX2_survey_29 ⟨Nat.zero_le _, Nat.zero_le _⟩ ?_
  refine kv_istore_n C (lv2 := [(0, .ref (qa 0)), (1, .long v_own_15), (3, .int r_25)]) [1, 2, 0] dX2_survey_32 rfl (by decide) rfl rfl ?_
  refine kv_iconst C 0 dX2_survey_33 (by decide) ?_
  refine kv_istore C (lv2 := [(0, .ref (qa 0)), (1, .long v_own_15), (3, .int r_25), (4, .int 0)]) [1, 2, 3, 0] dX2_survey_34 (by decide) rfl rfl ?_
  exact kv_lv [0, 1, 2, 3] (lv2 := [(0, .ref (qa 0)), (1, .long v_own_15), (3, .int r_25), (4, .int 0)]) rfl (l36 kF v_standing v_own_15 v_all_16 v_king_17 v_saving_18 v_pinned_19 r_21 a_stands a_goals v_own_15 r_25 0 h)
def m_X2_hasNone_b38 (v_standing : Int32) (a_goals : Nat → Int64) (t0 : Int32) : Option (Int32) := obl (t0) (some t0)
def m_X2_hasNone_b4 (k4 : Int64 → Int32 → Option (Int32)) (v_standing : Int32) (a_goals : Nat → Int64) (x1 : Int64) (x3 : Int32) : Option (Int32) := if v_standing ≤ x3 then if (lg_cmp x1 0) = 0 then m_X2_hasNone_b38 v_standing a_goals 1 else m_X2_hasNone_b38 v_standing a_goals 0 else oin (x3) 16 (ol (x1 ||| (a_goals x3.toNatClampNeg)) fun x1_5 => ol (x3 + 1) fun x3_6 => k4 x1_5 x3_6)
def m_X2_hasNone_l4 (v_standing : Int32) (a_goals : Nat → Int64) (n : Nat) : Int64 → Int32 → Option (Int32) := fz (fun _ _ => none) (fun k4 x1 x3 => m_X2_hasNone_b4 k4 v_standing a_goals x1 x3) n
def m_X2_hasNone (v_standing : Int32) (a_goals : Nat → Int64) : Option (Int32) := m_X2_hasNone_l4 v_standing a_goals kF 0 0
abbrev rm_X2_hasNone : Room := { frames := 0, cells := 0, slots := 0, locals := 0 }
abbrev wy_X2_hasNone : List Cond := .code yX2_hasNone cX2_hasNone 4 (some .boolean) :: gT
theorem cv_X2_hasNone {R : Room} {s : State} {args : Array Value} {own : String} {index : Nat} {w0 : Cond} (hts : ∀ w ∈ w0 :: gT, w.before args s = true) (hl : Cond.methodLink own index yX2_hasNone ∈ gT) (hR : 0 + 1 ≤ R.frames ∧ 8 + (4 + 11) + 0 ≤ R.locals) : CallW R s args own RX2 index yX2_hasNone cX2_hasNone 4 (some .boolean) wy_X2_hasNone rm_X2_hasNone 0 0 0 :=
  cwV 0 hts (gT_call w0 (pre := [.methodLink own index yX2_hasNone, .instanceMethod yX2_hasNone, .selects RX2 yX2_hasNone yX2_hasNone, .initialized RX2]) (gT_lc hl (gT_lc ly_yX2_hasNone (gT_lc lx_yX2_hasNone (gT_l1 li_RX2)))) lc_yX2_hasNone) rfl rfl rfl (by decide +kernel) hR
set_option maxRecDepth 100000 in
set_option maxHeartbeats 4000000 in
theorem c_X2_hasNone (l : Launch) (D : va_G) (qa : Nat → Nat) (qb : Nat → Nat) (ql : Nat → Nat) (qw : Nat → Nat) (cI : ClassId) (cJ : ClassId) (tq : Nat → Nat) (v_standing : Int32) (v_own : Int64) (v_all : Int64) (v_king : Int32) (v_saving : Int64) (v_pinned : Int64) (v_passers : Int64) (a_stands : Nat → Int32) (a_goals : Nat → Int64) (v_mover : Int32) (v_rights : Int32) (v_passed : Int32) (v_halves : Int32) (v_number : Int32) (v_balance : Int32) (a_men : Nat → Int32) (a_kinds : Nat → Int64) (a_sides : Nat → Int64) (a_rays : Nat → Int64) (a_knights : Nat → Int64) (a_kings : Nat → Int64) (a_pawns : Nat → Int64) (a_table : Nat → Int32) (rv : Int32) (hm : m_X2_hasNone v_standing a_goals = some rv) : kEi l yX2_hasNone wy_X2_hasNone rm_X2_hasNone D [(cI, .int), (cJ, .long)] tq rv (wLa qa qb ql qw cI cJ v_standing v_own v_all v_king v_saving v_pinned v_passers a_stands a_goals v_mover v_rights v_passed v_halves v_number v_balance a_men a_kinds a_sides a_rays a_knights a_kings a_pawns a_table) (wLa qa qb ql qw cI cJ v_standing v_own v_all v_king v_saving v_pinned v_passers a_stands a_goals v_mover v_rights v_passed v_halves v_number v_balance a_men a_kinds a_sides a_rays a_knights a_kings a_pawns a_table) [.ref (qa 0)] := by
  refine kEi.of cX2_hasNone 4 (some .boolean) (by decide) rfl (Or.inr rfl) (Nat.le_of_ble_eq_true rfl) ?_
  intro p e s m below meth c A Q C hJ hret
  have hin0 : ∀ w ∈ wsX00, w ∈ wy_X2_hasNone := fun w h => List.mem_cons_of_mem _ (inG0 w h)
  have hin2 : ∀ w ∈ wsX20, w ∈ wy_X2_hasNone := fun w h => List.mem_cons_of_mem _ (inG2 w h)
  have hin3 : ∀ w ∈ wsX30, w ∈ wy_X2_hasNone := fun w h => List.mem_cons_of_mem _ (inG3 w h)
  have hin7 : ∀ w ∈ wsX70, w ∈ wy_X2_hasNone := fun w h => List.mem_cons_of_mem _ (inG7 w h)
  have j38 : ∀ (t0 : Int32), m_X2_hasNone_b38  v_standing a_goals t0 = some rv → kv p l e rm_X2_hasNone s m ([.ref (qa 0)] : List Value).toArray below meth c D A 4 0 0 Q (wLa qa qb ql qw cI cJ v_standing v_own v_all v_king v_saving v_pinned v_passers a_stands a_goals v_mover v_rights v_passed v_halves v_number v_balance a_men a_kinds a_sides a_rays a_knights a_kings a_pawns a_table) [] 38 [.int t0] := by
    intro t0 h
    unfold m_X2_hasNone_b38 at h
    obtain ⟨g_1, h⟩ := obl_e h
    cases h
    exact hret _ _ dX2_hasNone_38 (fun _ => g_1)
  have l4 : ∀ (n4 : Nat) (x1 : Int64) (x3 : Int32), m_X2_hasNone_l4  v_standing a_goals n4 x1 x3 = some rv → kv p l e rm_X2_hasNone s m ([.ref (qa 0)] : List Value).toArray below meth c D A 4 0 0 Q (wLa qa qb ql qw cI cJ v_standing v_own v_all v_king v_saving v_pinned v_passers a_stands a_goals v_mover v_rights v_passed v_halves v_number v_balance a_men a_kinds a_sides a_rays a_knights a_kings a_pawns a_table) [(0, .ref (qa 0)), (1, .long x1), (3, .int x3)] 4 [] := by
    intro n4
    induction n4 with
    | zero =>
      intro x1 x3 h
      exact kv_no h
    | succ n4 ih4 =>
      intro x1 x3 h
      replace h : m_X2_hasNone_b4  (m_X2_hasNone_l4  v_standing a_goals n4) v_standing a_goals x1 x3 = some rv := h
      unfold m_X2_hasNone_b4 at h
      refine kv_iload_n C 2 dX2_hasNone_4 rfl rfl ?_
      refine kv_aload_n C 0 dX2_hasNone_5 rfl rfl ?_
      refine kv_get C (Cn := RX2) (T := TX2) (N := 11) 0 4 hin2 rfl rfl (by decide) (C.ts _ (List.mem_cons_of_mem _ lf_RX2_68)) rfl rfl dX2_hasNone_6 ?_
      refine kv_icmp_ge C 27 dX2_hasNone_9 (by decide) (fun c_2 => ?_) (fun c_2 => ?_)
      · have h := oi_t h c_2
        refine kv_lload_n C 1 dX2_hasNone_27 rfl rfl ?_
        refine kv_lconst C 0 dX2_hasNone_28 (by decide) ?_
        refine kv_lcmp C dX2_hasNone_29 ?_
        refine kv_if_ne C 37 dX2_hasNone_30 (by decide) (fun c_3 => ?_) (fun c_3 => ?_)
        · have h := oi_f h c_3
          refine kv_iconst C 0 dX2_hasNone_37 (by decide) ?_
          exact kv_lv [] (lv2 := []) rfl (j38 0 h)
        · have h := oi_t h c_3
          refine kv_iconst C 1 dX2_hasNone_33 (by decide) ?_
          refine kv_goto C 38 dX2_hasNone_34 (by decide) ?_
          exact kv_lv [] (lv2 := []) rfl (j38 1 h)
      · have h := oi_f h c_2
        refine kv_lload_n C 1 dX2_hasNone_12 rfl rfl ?_
        refine kv_aload_n C 0 dX2_hasNone_13 rfl rfl ?_
        refine kv_get C (Cn := RX2) (T := TX2) (N := 11) 0 3 hin2 rfl rfl (by decide) (C.ts _ (List.mem_cons_of_mem _ lf_RX2_23)) rfl rfl dX2_hasNone_14 ?_
        refine kv_iload_n C 2 dX2_hasNone_17 rfl rfl ?_
        obtain ⟨g_4, h⟩ := oin_e h
        refine kv_lald C 2 1 rfl rfl g_4 dX2_hasNone_18 ?_
        refine kv_lor C dX2_hasNone_19 ?_
        obtain ⟨x1_5, ex1_5, h⟩ := ol_e h
        refine kv_topl ex1_5 ?_
        refine kv_lstore_n C (lv2 := [(0, .ref (qa 0)), (1, .long x1_5), (3, .int x3)]) [1, 0, 2] dX2_hasNone_20 rfl (by decide) rfl rfl ?_
        obtain ⟨x3_6, ex3_6, h⟩ := ol_e h
        refine kv_iinc C (v := x3_6) (lv2 := [(0, .ref (qa 0)), (1, .long x1_5), (3, .int x3_6)]) 2 [1, 2, 0] dX2_hasNone_21 rfl ex3_6.symm (by decide) rfl rfl ?_
        refine kv_goto C 4 dX2_hasNone_24 (by decide) ?_
        exact kv_lv [0, 1, 2] (lv2 := [(0, .ref (qa 0)), (1, .long x1_5), (3, .int x3_6)]) rfl (ih4 x1_5 x3_6 h)
  unfold m_X2_hasNone at hm
  have h := hm
  refine kv_lv [0] (lv2 := [(0, .ref (qa 0))]) rfl ?_
  refine kv_lconst C 0 dX2_hasNone_0 (by decide) ?_
  refine kv_lstore_n C (lv2 := [(0, .ref (qa 0)), (1, .long 0)]) [1, 0] dX2_hasNone_1 rfl (by decide) rfl rfl ?_
  refine kv_iconst C 0 dX2_hasNone_2 (by decide) ?_
  refine kv_istore_n C (lv2 := [(0, .ref (qa 0)), (1, .long 0), (3, .int 0)]) [1, 2, 0] dX2_hasNone_3 rfl (by decide) rfl rfl ?_
  exact kv_lv [0, 1, 2] (lv2 := [(0, .ref (qa 0)), (1, .long 0), (3, .int 0)]) rfl (l4 kF 0 0 h)
def m_X2_count_b40 (k4 : Int32 → Int32 → Option (Int32)) (v_standing : Int32) (a_stands : Nat → Int32) (a_goals : Nat → Int64) (v_mover : Int32) (a_men : Nat → Int32) (x2 : Int32) (t0 : Int32) (t1 : Int32) (t2 : Int32) : Option (Int32) := ol (t0 + (t1 * t2)) fun x1_1 => ol (x2 + 1) fun x2_2 => k4 x1_1 x2_2
def m_X2_count_b4 (k4 : Int32 → Int32 → Option (Int32)) (v_standing : Int32) (a_stands : Nat → Int32) (a_goals : Nat → Int64) (v_mover : Int32) (a_men : Nat → Int32) (x1 : Int32) (x2 : Int32) : Option (Int32) := if v_standing ≤ x2 then some x1 else oin (x2) 16 (ob (m_J13_bitCount_95d88 (a_goals x2.toNatClampNeg)) fun r_5 => oin (x2) 16 (ob (m_X2_becomesAnother v_mover a_men (a_stands x2.toNatClampNeg)) fun r_8 => if r_8 = 0 then m_X2_count_b40 k4 v_standing a_stands a_goals v_mover a_men x2 x1 r_5 1 else m_X2_count_b40 k4 v_standing a_stands a_goals v_mover a_men x2 x1 r_5 4))
def m_X2_count_l4 (v_standing : Int32) (a_stands : Nat → Int32) (a_goals : Nat → Int64) (v_mover : Int32) (a_men : Nat → Int32) (n : Nat) : Int32 → Int32 → Option (Int32) := fz (fun _ _ => none) (fun k4 x1 x2 => m_X2_count_b4 k4 v_standing a_stands a_goals v_mover a_men x1 x2) n
def m_X2_count (v_standing : Int32) (a_stands : Nat → Int32) (a_goals : Nat → Int64) (v_mover : Int32) (a_men : Nat → Int32) : Option (Int32) := m_X2_count_l4 v_standing a_stands a_goals v_mover a_men kF 0 0
abbrev rm_X2_count : Room := { frames := 2, cells := 0, slots := 0, locals := 41 }
abbrev wy_X2_count : List Cond := .code yX2_count cX2_count 3 (some .int) :: gT
theorem cv_X2_count {R : Room} {s : State} {args : Array Value} {own : String} {index : Nat} {w0 : Cond} (hts : ∀ w ∈ w0 :: gT, w.before args s = true) (hl : Cond.methodLink own index yX2_count ∈ gT) (hR : 2 + 1 ≤ R.frames ∧ 8 + (3 + 11) + 41 ≤ R.locals) : CallW R s args own RX2 index yX2_count cX2_count 3 (some .int) wy_X2_count rm_X2_count 0 0 0 :=
  cwV 0 hts (gT_call w0 (pre := [.methodLink own index yX2_count, .instanceMethod yX2_count, .selects RX2 yX2_count yX2_count, .initialized RX2]) (gT_lc hl (gT_lc ly_yX2_count (gT_lc lx_yX2_count (gT_l1 li_RX2)))) lc_yX2_count) rfl rfl rfl (by decide +kernel) hR
set_option maxRecDepth 100000 in
set_option maxHeartbeats 4000000 in
theorem c_X2_count (l : Launch) (D : va_G) (qa : Nat → Nat) (qb : Nat → Nat) (ql : Nat → Nat) (qw : Nat → Nat) (cI : ClassId) (cJ : ClassId) (tq : Nat → Nat) (v_standing : Int32) (v_own : Int64) (v_all : Int64) (v_king : Int32) (v_saving : Int64) (v_pinned : Int64) (v_passers : Int64) (a_stands : Nat → Int32) (a_goals : Nat → Int64) (v_mover : Int32) (v_rights : Int32) (v_passed : Int32) (v_halves : Int32) (v_number : Int32) (v_balance : Int32) (a_men : Nat → Int32) (a_kinds : Nat → Int64) (a_sides : Nat → Int64) (a_rays : Nat → Int64) (a_knights : Nat → Int64) (a_kings : Nat → Int64) (a_pawns : Nat → Int64) (a_table : Nat → Int32) (rv : Int32) (hm : m_X2_count v_standing a_stands a_goals v_mover a_men = some rv) : kEi l yX2_count wy_X2_count rm_X2_count D [(cI, .int), (cJ, .long)] tq rv (wLa qa qb ql qw cI cJ v_standing v_own v_all v_king v_saving v_pinned v_passers a_stands a_goals v_mover v_rights v_passed v_halves v_number v_balance a_men a_kinds a_sides a_rays a_knights a_kings a_pawns a_table) (wLa qa qb ql qw cI cJ v_standing v_own v_all v_king v_saving v_pinned v_passers a_stands a_goals v_mover v_rights v_passed v_halves v_number v_balance a_men a_kinds a_sides a_rays a_knights a_kings a_pawns a_table) [.ref (qa 0)] := by
  refine kEi.of cX2_count 3 (some .int) (by decide) rfl (Or.inl rfl) (Nat.le_of_ble_eq_true rfl) ?_
  intro p e s m below meth c A Q C hJ hret
  have hin0 : ∀ w ∈ wsX00, w ∈ wy_X2_count := fun w h => List.mem_cons_of_mem _ (inG0 w h)
  have hin2 : ∀ w ∈ wsX20, w ∈ wy_X2_count := fun w h => List.mem_cons_of_mem _ (inG2 w h)
  have hin3 : ∀ w ∈ wsX30, w ∈ wy_X2_count := fun w h => List.mem_cons_of_mem _ (inG3 w h)
  have hin7 : ∀ w ∈ wsX70, w ∈ wy_X2_count := fun w h => List.mem_cons_of_mem _ (inG7 w h)
  have l4 : ∀ (n4 : Nat) (x1 : Int32) (x2 : Int32), m_X2_count_l4  v_standing a_stands a_goals v_mover a_men n4 x1 x2 = some rv → kv p l e rm_X2_count s m ([.ref (qa 0)] : List Value).toArray below meth c D A 3 0 0 Q (wLa qa qb ql qw cI cJ v_standing v_own v_all v_king v_saving v_pinned v_passers a_stands a_goals v_mover v_rights v_passed v_halves v_number v_balance a_men a_kinds a_sides a_rays a_knights a_kings a_pawns a_table) [(0, .ref (qa 0)), (1, .int x1), (2, .int x2)] 4 [] := by
    intro n4
    induction n4 with
    | zero =>
      intro x1 x2 h
      exact kv_no h
    | succ n4 ih4 =>
      have j40 : ∀ (x2 : Int32) (t0 : Int32) (t1 : Int32) (t2 : Int32), m_X2_count_b40 (m_X2_count_l4  v_standing a_stands a_goals v_mover a_men n4) v_standing a_stands a_goals v_mover a_men x2 t0 t1 t2 = some rv → kv p l e rm_X2_count s m ([.ref (qa 0)] : List Value).toArray below meth c D A 3 0 0 Q (wLa qa qb ql qw cI cJ v_standing v_own v_all v_king v_saving v_pinned v_passers a_stands a_goals v_mover v_rights v_passed v_halves v_number v_balance a_men a_kinds a_sides a_rays a_knights a_kings a_pawns a_table) [(0, .ref (qa 0)), (2, .int x2)] 40 [.int t2, .int t1, .int t0] := by
        intro x2 t0 t1 t2 h
        unfold m_X2_count_b40 at h
        refine kv_imul C dX2_count_40 ?_
        refine kv_iadd C dX2_count_41 ?_
        obtain ⟨x1_1, ex1_1, h⟩ := ol_e h
        refine kv_top ex1_1 ?_
        refine kv_istore_n C (lv2 := [(0, .ref (qa 0)), (1, .int x1_1), (2, .int x2)]) [1, 0, 2] dX2_count_42 rfl (by decide) rfl rfl ?_
        obtain ⟨x2_2, ex2_2, h⟩ := ol_e h
        refine kv_iinc C (v := x2_2) (lv2 := [(0, .ref (qa 0)), (1, .int x1_1), (2, .int x2_2)]) 2 [1, 2, 0] dX2_count_43 rfl ex2_2.symm (by decide) rfl rfl ?_
        refine kv_goto C 4 dX2_count_46 (by decide) ?_
        exact kv_lv [0, 1, 2] (lv2 := [(0, .ref (qa 0)), (1, .int x1_1), (2, .int x2_2)]) rfl (ih4 x1_1 x2_2 h)
      intro x1 x2 h
      replace h : m_X2_count_b4  (m_X2_count_l4  v_standing a_stands a_goals v_mover a_men n4) v_standing a_stands a_goals v_mover a_men x1 x2 = some rv := h
      unfold m_X2_count_b4 at h
      refine kv_iload_n C 2 dX2_count_4 rfl rfl ?_
      refine kv_aload_n C 0 dX2_count_5 rfl rfl ?_
      refine kv_get C (Cn := RX2) (T := TX2) (N := 11) 0 4 hin2 rfl rfl (by decide) (C.ts _ (List.mem_cons_of_mem _ lf_RX2_68)) rfl rfl dX2_count_6 ?_
      refine kv_icmp_ge C 49 dX2_count_9 (by decide) (fun c_3 => ?_) (fun c_3 => ?_)
      · have h := oi_t h c_3
        refine kv_iload_n C 1 dX2_count_49 rfl rfl ?_
        cases h
        exact hret _ _ dX2_count_50 (fun q => by cases q)
      · have h := oi_f h c_3
        refine kv_iload_n C 1 dX2_count_12 rfl rfl ?_
        refine kv_aload_n C 0 dX2_count_13 rfl rfl ?_
        refine kv_get C (Cn := RX2) (T := TX2) (N := 11) 0 3 hin2 rfl rfl (by decide) (C.ts _ (List.mem_cons_of_mem _ lf_RX2_23)) rfl rfl dX2_count_14 ?_
        refine kv_iload_n C 2 dX2_count_17 rfl rfl ?_
        obtain ⟨g_4, h⟩ := oin_e h
        refine kv_lald C 2 1 rfl rfl g_4 dX2_count_18 ?_
        obtain ⟨r_5, hm_6, h⟩ := ob_e h
        refine kv_callS0i C [.long (a_goals x2.toNatClampNeg)] (c_J13_bitCount_95d88 l D (a_goals x2.toNatClampNeg) r_5 hm_6) (cs_J13_bitCount_95d88 C.ts lm_RX2_42 ⟨Nat.le_of_ble_eq_true rfl, Nat.le_of_ble_eq_true rfl⟩) rfl rfl (Nat.le_of_ble_eq_true rfl) dX2_count_19 ⟨Nat.zero_le _, Nat.zero_le _⟩ ?_
        refine kv_aload_n C 0 dX2_count_22 rfl rfl ?_
        refine kv_aload_n C 0 dX2_count_23 rfl rfl ?_
        refine kv_get C (Cn := RX2) (T := TX2) (N := 11) 0 2 hin2 rfl rfl (by decide) (C.ts _ (List.mem_cons_of_mem _ lf_RX2_19)) rfl rfl dX2_count_24 ?_
        refine kv_iload_n C 2 dX2_count_27 rfl rfl ?_
        obtain ⟨g_7, h⟩ := oin_e h
        refine kv_iald C 1 0 rfl rfl g_7 dX2_count_28 ?_
        obtain ⟨r_8, hm_9, h⟩ := ob_e h
        refine kv_eVi (ws2 := (wLa qa qb ql qw cI cJ v_standing v_own v_all v_king v_saving v_pinned v_passers a_stands a_goals v_mover v_rights v_passed v_halves v_number v_balance a_men a_kinds a_sides a_rays a_knights a_kings a_pawns a_table)) C hJ [.int (a_stands x2.toNatClampNeg)] 0 (c_X2_becomesAnother l D qa qb ql qw cI cJ tq v_standing v_own v_all v_king v_saving v_pinned v_passers a_stands a_goals v_mover v_rights v_passed v_halves v_number v_balance a_men a_kinds a_sides a_rays a_knights a_kings a_pawns a_table (a_stands x2.toNatClampNeg) r_8 hm_9) (cv_X2_becomesAnother C.ts lm_RX2_71 ⟨Nat.le_of_ble_eq_true rfl, Nat.le_of_ble_eq_true rfl⟩) rfl rfl [0, 1, 2, 3, 4, 5, 6, 7, 8, 9, 10, 11, 12, 13] [] [0, 1] [0, 1, 2, 3, 4, 5, 6, 7, 8, 9, 10, 11, 12, 13] rfl rfl rfl rfl rfl (by decide) rfl rfl rfl (Nat.le_of_ble_eq_true rfl) dX2_count_29 ⟨Nat.zero_le _, Nat.zero_le _⟩ rfl rfl rfl ?_
        refine kv_if_eq C 39 dX2_count_32 (by decide) (fun c_10 => ?_) (fun c_10 => ?_)
        · have h := oi_t h c_10
          refine kv_iconst C 1 dX2_count_39 (by decide) ?_
          exact kv_lv [0, 2] (lv2 := [(0, .ref (qa 0)), (2, .int x2)]) rfl (j40 x2 x1 r_5 1 h)
        · have h := oi_f h c_10
          refine kv_iconst C 4 dX2_count_35 (by decide) ?_
          refine kv_goto C 40 dX2_count_36 (by decide) ?_
          exact kv_lv [0, 2] (lv2 := [(0, .ref (qa 0)), (2, .int x2)]) rfl (j40 x2 x1 r_5 4 h)
  unfold m_X2_count at hm
  have h := hm
  refine kv_lv [0] (lv2 := [(0, .ref (qa 0))]) rfl ?_
  refine kv_iconst C 0 dX2_count_0 (by decide) ?_
  refine kv_istore_n C (lv2 := [(0, .ref (qa 0)), (1, .int 0)]) [1, 0] dX2_count_1 rfl (by decide) rfl rfl ?_
  refine kv_iconst C 0 dX2_count_2 (by decide) ?_
  refine kv_istore_n C (lv2 := [(0, .ref (qa 0)), (1, .int 0), (2, .int 0)]) [1, 2, 0] dX2_count_3 rfl (by decide) rfl rfl ?_
  exact kv_lv [0, 1, 2] (lv2 := [(0, .ref (qa 0)), (1, .int 0), (2, .int 0)]) rfl (l4 kF 0 0 h)
def m_X2_list_b135 (k6 : (Nat → Int32) → Int64 → Int32 → Int32 → Option (Int32 × (Nat → Int32))) (k74 : (Nat → Int32) → Int64 → Int32 → Int32 → Int32 → Int32 → Int32 → Int64 → Int32 → Option (Int32 × (Nat → Int32))) (v_standing : Int32) (a_stands : Nat → Int32) (a_goals : Nat → Int64) (a_zrow : Nat → Int32) (v_mover : Int32) (a_men : Nat → Int32) (x3 : Int64) (x5 : Int32) (x6 : Int32) (x7 : Int32) (x9 : Int32) (x10 : Int32) (x11 : Int64) (x13 : Int32) : Option (Int32 × (Nat → Int32)) := ol (x13 + (-1)) fun x13_1 => k74 a_zrow x3 x5 x6 x7 x9 x10 x11 x13_1
def m_X2_list_b99 (k6 : (Nat → Int32) → Int64 → Int32 → Int32 → Option (Int32 × (Nat → Int32))) (k74 : (Nat → Int32) → Int64 → Int32 → Int32 → Int32 → Int32 → Int32 → Int64 → Int32 → Option (Int32 × (Nat → Int32))) (k99 : (Nat → Int32) → Int64 → Int32 → Int32 → Int32 → Int32 → Int32 → Int64 → Int32 → Int32 → Int32 → Option (Int32 × (Nat → Int32))) (v_standing : Int32) (a_stands : Nat → Int32) (a_goals : Nat → Int64) (a_zrow : Nat → Int32) (v_mover : Int32) (a_men : Nat → Int32) (x3 : Int64) (x5 : Int32) (x6 : Int32) (x7 : Int32) (x9 : Int32) (x10 : Int32) (x11 : Int64) (x13 : Int32) (x14 : Int32) (x15 : Int32) : Option (Int32 × (Nat → Int32)) := if x10 < x15 then m_X2_list_b135 k6 k74 v_standing a_stands a_goals a_zrow v_mover a_men x3 x5 x6 x7 x9 x10 x11 x13 else if 432 ≤ x5 then m_X2_list_b135 k6 k74 v_standing a_stands a_goals a_zrow v_mover a_men x3 x5 x6 x7 x9 x10 x11 x13 else ob (m_X9_moveOf x7 x14 x15) fun r_4 => oin (x5) 432 (ol (upd a_zrow (x5.toNatClampNeg) r_4) fun a_zrow_7 => ol (x5 + 1) fun x5_8 => ol (x15 + 1) fun x15_9 => k99 a_zrow_7 x3 x5_8 x6 x7 x9 x10 x11 x13 x14 x15_9)
def m_X2_list_l99 (k6 : (Nat → Int32) → Int64 → Int32 → Int32 → Option (Int32 × (Nat → Int32))) (k74 : (Nat → Int32) → Int64 → Int32 → Int32 → Int32 → Int32 → Int32 → Int64 → Int32 → Option (Int32 × (Nat → Int32))) (v_standing : Int32) (a_stands : Nat → Int32) (a_goals : Nat → Int64) (v_mover : Int32) (a_men : Nat → Int32) (n : Nat) : (Nat → Int32) → Int64 → Int32 → Int32 → Int32 → Int32 → Int32 → Int64 → Int32 → Int32 → Int32 → Option (Int32 × (Nat → Int32)) := fz (fun _ _ _ _ _ _ _ _ _ _ _ => none) (fun k99 a_zrow x3 x5 x6 x7 x9 x10 x11 x13 x14 x15 => m_X2_list_b99 k6 k74 k99 v_standing a_stands a_goals a_zrow v_mover a_men x3 x5 x6 x7 x9 x10 x11 x13 x14 x15) n
def m_X2_list_b74 (k6 : (Nat → Int32) → Int64 → Int32 → Int32 → Option (Int32 × (Nat → Int32))) (k74 : (Nat → Int32) → Int64 → Int32 → Int32 → Int32 → Int32 → Int32 → Int64 → Int32 → Option (Int32 × (Nat → Int32))) (v_standing : Int32) (a_stands : Nat → Int32) (a_goals : Nat → Int64) (a_zrow : Nat → Int32) (v_mover : Int32) (a_men : Nat → Int32) (x3 : Int64) (x5 : Int32) (x6 : Int32) (x7 : Int32) (x9 : Int32) (x10 : Int32) (x11 : Int64) (x13 : Int32) : Option (Int32 × (Nat → Int32)) := if x13 ≤ 0 then ol (x6 + 1) fun x6_11 => k6 a_zrow x3 x5 x6_11 else ob (m_X9_leastOf x11) fun r_12 => ol (x11 &&& (x11 - 1)) fun x11_14 => m_X2_list_l99 k6 k74 v_standing a_stands a_goals v_mover a_men kF a_zrow x3 x5 x6 x7 x9 x10 x11_14 x13 r_12 x9
def m_X2_list_l74 (k6 : (Nat → Int32) → Int64 → Int32 → Int32 → Option (Int32 × (Nat → Int32))) (v_standing : Int32) (a_stands : Nat → Int32) (a_goals : Nat → Int64) (v_mover : Int32) (a_men : Nat → Int32) (n : Nat) : (Nat → Int32) → Int64 → Int32 → Int32 → Int32 → Int32 → Int32 → Int64 → Int32 → Option (Int32 × (Nat → Int32)) := fz (fun _ _ _ _ _ _ _ _ _ => none) (fun k74 a_zrow x3 x5 x6 x7 x9 x10 x11 x13 => m_X2_list_b74 k6 k74 v_standing a_stands a_goals a_zrow v_mover a_men x3 x5 x6 x7 x9 x10 x11 x13) n
def m_X2_list_b54 (k6 : (Nat → Int32) → Int64 → Int32 → Int32 → Option (Int32 × (Nat → Int32))) (v_standing : Int32) (a_stands : Nat → Int32) (a_goals : Nat → Int64) (a_zrow : Nat → Int32) (v_mover : Int32) (a_men : Nat → Int32) (x3 : Int64) (x5 : Int32) (x6 : Int32) (x7 : Int32) (x9 : Int32) (t0 : Int32) : Option (Int32 × (Nat → Int32)) := oin (x6) 16 (ol ((a_goals x6.toNatClampNeg) &&& x3) fun x11_16 => ob (m_J13_bitCount_95d88 x11_16) fun r_17 => m_X2_list_l74 k6 v_standing a_stands a_goals v_mover a_men kF a_zrow x3 x5 x6 x7 x9 t0 x11_16 r_17)
def m_X2_list_b42 (k6 : (Nat → Int32) → Int64 → Int32 → Int32 → Option (Int32 × (Nat → Int32))) (v_standing : Int32) (a_stands : Nat → Int32) (a_goals : Nat → Int64) (a_zrow : Nat → Int32) (v_mover : Int32) (a_men : Nat → Int32) (x3 : Int64) (x5 : Int32) (x6 : Int32) (x7 : Int32) (x8 : Int32) (t0 : Int32) : Option (Int32 × (Nat → Int32)) := if x8 = 0 then m_X2_list_b54 k6 v_standing a_stands a_goals a_zrow v_mover a_men x3 x5 x6 x7 t0 0 else m_X2_list_b54 k6 v_standing a_stands a_goals a_zrow v_mover a_men x3 x5 x6 x7 t0 5
def m_X2_list_b6 (k6 : (Nat → Int32) → Int64 → Int32 → Int32 → Option (Int32 × (Nat → Int32))) (v_standing : Int32) (a_stands : Nat → Int32) (a_goals : Nat → Int64) (a_zrow : Nat → Int32) (v_mover : Int32) (a_men : Nat → Int32) (x3 : Int64) (x5 : Int32) (x6 : Int32) : Option (Int32 × (Nat → Int32)) := if v_standing ≤ x6 then some (x5, a_zrow) else oin (x6) 16 (ol (a_stands x6.toNatClampNeg) fun x7_22 => ob (m_X2_becomesAnother v_mover a_men x7_22) fun r_23 => if r_23 = 0 then m_X2_list_b42 k6 v_standing a_stands a_goals a_zrow v_mover a_men x3 x5 x6 x7_22 r_23 0 else m_X2_list_b42 k6 v_standing a_stands a_goals a_zrow v_mover a_men x3 x5 x6 x7_22 r_23 2)
def m_X2_list_l6 (v_standing : Int32) (a_stands : Nat → Int32) (a_goals : Nat → Int64) (v_mover : Int32) (a_men : Nat → Int32) (n : Nat) : (Nat → Int32) → Int64 → Int32 → Int32 → Option (Int32 × (Nat → Int32)) := fz (fun _ _ _ _ => none) (fun k6 a_zrow x3 x5 x6 => m_X2_list_b6 k6 v_standing a_stands a_goals a_zrow v_mover a_men x3 x5 x6) n
def m_X2_list (v_standing : Int32) (a_stands : Nat → Int32) (a_goals : Nat → Int64) (a_zrow : Nat → Int32) (v_mover : Int32) (a_men : Nat → Int32) (p1 : Int32) (p2 : Int64) : Option (Int32 × (Nat → Int32)) := m_X2_list_l6 v_standing a_stands a_goals v_mover a_men kF a_zrow p2 p1 0
abbrev rm_X2_list : Room := { frames := 2, cells := 0, slots := 0, locals := 42 }
abbrev wy_X2_list : List Cond := .code yX2_list cX2_list 16 (some .int) :: gT
theorem cv_X2_list {R : Room} {s : State} {args : Array Value} {own : String} {index : Nat} {w0 : Cond} (hts : ∀ w ∈ w0 :: gT, w.before args s = true) (hl : Cond.methodLink own index yX2_list ∈ gT) (hR : 2 + 1 ≤ R.frames ∧ 8 + (16 + 11) + 42 ≤ R.locals) : CallW R s args own RX2 index yX2_list cX2_list 16 (some .int) wy_X2_list rm_X2_list 0 0 3 :=
  cwV 3 hts (gT_call w0 (pre := [.methodLink own index yX2_list, .instanceMethod yX2_list, .selects RX2 yX2_list yX2_list, .initialized RX2]) (gT_lc hl (gT_lc ly_yX2_list (gT_lc lx_yX2_list (gT_l1 li_RX2)))) lc_yX2_list) rfl rfl rfl (by decide +kernel) hR
set_option maxRecDepth 100000 in
set_option maxHeartbeats 4000000 in
theorem c_X2_list (l : Launch) (D : va_G) (qa : Nat → Nat) (qb : Nat → Nat) (ql : Nat → Nat) (hz : Nat) (qw : Nat → Nat) (cI : ClassId) (cJ : ClassId) (tq : Nat → Nat) (v_standing : Int32) (v_own : Int64) (v_all : Int64) (v_king : Int32) (v_saving : Int64) (v_pinned : Int64) (v_passers : Int64) (a_stands : Nat → Int32) (a_goals : Nat → Int64) (a_zrow : Nat → Int32) (v_mover : Int32) (v_rights : Int32) (v_passed : Int32) (v_halves : Int32) (v_number : Int32) (v_balance : Int32) (a_men : Nat → Int32) (a_kinds : Nat → Int64) (a_sides : Nat → Int64) (a_rays : Nat → Int64) (a_knights : Nat → Int64) (a_kings : Nat → Int64) (a_pawns : Nat → Int64) (a_table : Nat → Int32) (p1 : Int32) (p2 : Int64) (rv : Int32) (a_zrow' : Nat → Int32) (hm : m_X2_list v_standing a_stands a_goals a_zrow v_mover a_men p1 p2 = some (rv, a_zrow')) : kEi l yX2_list wy_X2_list rm_X2_list D [(cI, .int), (cJ, .long)] tq rv (wLaR qa qb ql hz qw cI cJ v_standing v_own v_all v_king v_saving v_pinned v_passers a_stands a_goals a_zrow v_mover v_rights v_passed v_halves v_number v_balance a_men a_kinds a_sides a_rays a_knights a_kings a_pawns a_table) (wLaR qa qb ql hz qw cI cJ v_standing v_own v_all v_king v_saving v_pinned v_passers a_stands a_goals a_zrow' v_mover v_rights v_passed v_halves v_number v_balance a_men a_kinds a_sides a_rays a_knights a_kings a_pawns a_table) [.ref (qa 0), .ref hz, .int p1, .long p2] := by
  refine kEi.of cX2_list 16 (some .int) (by decide) rfl (Or.inl rfl) (Nat.le_of_ble_eq_true rfl) ?_
  intro p e s m below meth c A Q C hJ hret
  have hin0 : ∀ w ∈ wsX00, w ∈ wy_X2_list := fun w h => List.mem_cons_of_mem _ (inG0 w h)
  have hin2 : ∀ w ∈ wsX20, w ∈ wy_X2_list := fun w h => List.mem_cons_of_mem _ (inG2 w h)
  have hin3 : ∀ w ∈ wsX30, w ∈ wy_X2_list := fun w h => List.mem_cons_of_mem _ (inG3 w h)
  have hin7 : ∀ w ∈ wsX70, w ∈ wy_X2_list := fun w h => List.mem_cons_of_mem _ (inG7 w h)
  have l6 : ∀ (n6 : Nat) (a_zrow : Nat → Int32) (x3 : Int64) (x5 : Int32) (x6 : Int32), m_X2_list_l6  v_standing a_stands a_goals v_mover a_men n6 a_zrow x3 x5 x6 = some (rv, a_zrow') → kv p l e rm_X2_list s m ([.ref (qa 0), .ref hz, .int p1, .long p2] : List Value).toArray below meth c D A 16 0 0 Q (wLaR qa qb ql hz qw cI cJ v_standing v_own v_all v_king v_saving v_pinned v_passers a_stands a_goals a_zrow v_mover v_rights v_passed v_halves v_number v_balance a_men a_kinds a_sides a_rays a_knights a_kings a_pawns a_table) [(0, .ref (qa 0)), (1, .ref hz), (3, .long x3), (5, .int x5), (6, .int x6)] 6 [] := by
    intro n6
    induction n6 with
    | zero =>
      intro a_zrow x3 x5 x6 h
      exact kv_no h
    | succ n6 ih6 =>
      have l74 : ∀ (n74 : Nat) (a_zrow : Nat → Int32) (x3 : Int64) (x5 : Int32) (x6 : Int32) (x7 : Int32) (x9 : Int32) (x10 : Int32) (x11 : Int64) (x13 : Int32), m_X2_list_l74 (m_X2_list_l6  v_standing a_stands a_goals v_mover a_men n6) v_standing a_stands a_goals v_mover a_men n74 a_zrow x3 x5 x6 x7 x9 x10 x11 x13 = some (rv, a_zrow') → kv p l e rm_X2_list s m ([.ref (qa 0), .ref hz, .int p1, .long p2] : List Value).toArray below meth c D A 16 0 0 Q (wLaR qa qb ql hz qw cI cJ v_standing v_own v_all v_king v_saving v_pinned v_passers a_stands a_goals a_zrow v_mover v_rights v_passed v_halves v_number v_balance a_men a_kinds a_sides a_rays a_knights a_kings a_pawns a_table) [(0, .ref (qa 0)), (1, .ref hz), (3, .long x3), (5, .int x5), (6, .int x6), (7, .int x7), (9, .int x9), (10, .int x10), (11, .long x11), (13, .int x13)] 74 [] := by
        intro n74
        induction n74 with
        | zero =>
          intro a_zrow x3 x5 x6 x7 x9 x10 x11 x13 h
          exact kv_no h
        | succ n74 ih74 =>
          have j135 : ∀ (a_zrow : Nat → Int32) (x3 : Int64) (x5 : Int32) (x6 : Int32) (x7 : Int32) (x9 : Int32) (x10 : Int32) (x11 : Int64) (x13 : Int32), m_X2_list_b135 (m_X2_list_l6  v_standing a_stands a_goals v_mover a_men n6) (m_X2_list_l74 (m_X2_list_l6  v_standing a_stands a_goals v_mover a_men n6) v_standing a_stands a_goals v_mover a_men n74) v_standing a_stands a_goals a_zrow v_mover a_men x3 x5 x6 x7 x9 x10 x11 x13 = some (rv, a_zrow') → kv p l e rm_X2_list s m ([.ref (qa 0), .ref hz, .int p1, .long p2] : List Value).toArray below meth c D A 16 0 0 Q (wLaR qa qb ql hz qw cI cJ v_standing v_own v_all v_king v_saving v_pinned v_passers a_stands a_goals a_zrow v_mover v_rights v_passed v_halves v_number v_balance a_men a_kinds a_sides a_rays a_knights a_kings a_pawns a_table) [(0, .ref (qa 0)), (1, .ref hz), (3, .long x3), (5, .int x5), (6, .int x6), (7, .int x7), (9, .int x9), (10, .int x10), (11, .long x11), (13, .int x13)] 135 [] := by
            intro a_zrow x3 x5 x6 x7 x9 x10 x11 x13 h
            unfold m_X2_list_b135 at h
            obtain ⟨x13_1, ex13_1, h⟩ := ol_e h
            refine kv_iinc C (v := x13_1) (lv2 := [(0, .ref (qa 0)), (1, .ref hz), (3, .long x3), (5, .int x5), (6, .int x6), (7, .int x7), (9, .int x9), (10, .int x10), (11, .long x11), (13, .int x13_1)]) 9 [1, 2, 3, 4, 5, 6, 7, 8, 9, 0] dX2_list_135 rfl ex13_1.symm (by decide) rfl rfl ?_
            refine kv_goto C 74 dX2_list_138 (by decide) ?_
            exact kv_lv [0, 1, 2, 3, 4, 5, 6, 7, 8, 9] (lv2 := [(0, .ref (qa 0)), (1, .ref hz), (3, .long x3), (5, .int x5), (6, .int x6), (7, .int x7), (9, .int x9), (10, .int x10), (11, .long x11), (13, .int x13_1)]) rfl (ih74 a_zrow x3 x5 x6 x7 x9 x10 x11 x13_1 h)
          have l99 : ∀ (n99 : Nat) (a_zrow : Nat → Int32) (x3 : Int64) (x5 : Int32) (x6 : Int32) (x7 : Int32) (x9 : Int32) (x10 : Int32) (x11 : Int64) (x13 : Int32) (x14 : Int32) (x15 : Int32), m_X2_list_l99 (m_X2_list_l6  v_standing a_stands a_goals v_mover a_men n6) (m_X2_list_l74 (m_X2_list_l6  v_standing a_stands a_goals v_mover a_men n6) v_standing a_stands a_goals v_mover a_men n74) v_standing a_stands a_goals v_mover a_men n99 a_zrow x3 x5 x6 x7 x9 x10 x11 x13 x14 x15 = some (rv, a_zrow') → kv p l e rm_X2_list s m ([.ref (qa 0), .ref hz, .int p1, .long p2] : List Value).toArray below meth c D A 16 0 0 Q (wLaR qa qb ql hz qw cI cJ v_standing v_own v_all v_king v_saving v_pinned v_passers a_stands a_goals a_zrow v_mover v_rights v_passed v_halves v_number v_balance a_men a_kinds a_sides a_rays a_knights a_kings a_pawns a_table) [(0, .ref (qa 0)), (1, .ref hz), (3, .long x3), (5, .int x5), (6, .int x6), (7, .int x7), (9, .int x9), (10, .int x10), (11, .long x11), (13, .int x13), (14, .int x14), (15, .int x15)] 99 [] := by
            intro n99
            induction n99 with
            | zero =>
              intro a_zrow x3 x5 x6 x7 x9 x10 x11 x13 x14 x15 h
              exact kv_no h
            | succ n99 ih99 =>
              intro a_zrow x3 x5 x6 x7 x9 x10 x11 x13 x14 x15 h
              replace h : m_X2_list_b99 (m_X2_list_l6  v_standing a_stands a_goals v_mover a_men n6) (m_X2_list_l74 (m_X2_list_l6  v_standing a_stands a_goals v_mover a_men n6) v_standing a_stands a_goals v_mover a_men n74) (m_X2_list_l99 (m_X2_list_l6  v_standing a_stands a_goals v_mover a_men n6) (m_X2_list_l74 (m_X2_list_l6  v_standing a_stands a_goals v_mover a_men n6) v_standing a_stands a_goals v_mover a_men n74) v_standing a_stands a_goals v_mover a_men n99) v_standing a_stands a_goals a_zrow v_mover a_men x3 x5 x6 x7 x9 x10 x11 x13 x14 x15 = some (rv, a_zrow') := h
              unfold m_X2_list_b99 at h
              refine kv_iload C 11 dX2_list_99 rfl ?_
              refine kv_iload C 7 dX2_list_101 rfl ?_
              refine kv_icmp_gt C 135 dX2_list_103 (by decide) (fun c_2 => ?_) (fun c_2 => ?_)
              · have h := oi_t h c_2
                exact kv_lv [0, 1, 2, 3, 4, 5, 6, 7, 8, 9] (lv2 := [(0, .ref (qa 0)), (1, .ref hz), (3, .long x3), (5, .int x5), (6, .int x6), (7, .int x7), (9, .int x9), (10, .int x10), (11, .long x11), (13, .int x13)]) rfl (j135 a_zrow x3 x5 x6 x7 x9 x10 x11 x13 h)
              · have h := oi_f h c_2
                refine kv_iload C 3 dX2_list_106 rfl ?_
                refine kv_aload_n C 1 dX2_list_108 rfl rfl ?_
                refine kv_alen C (v := 432) 3 0 rfl rfl rfl dX2_list_109 ?_
                refine kv_icmp_ge C 135 dX2_list_110 (by decide) (fun c_3 => ?_) (fun c_3 => ?_)
                · have h := oi_t h c_3
                  exact kv_lv [0, 1, 2, 3, 4, 5, 6, 7, 8, 9] (lv2 := [(0, .ref (qa 0)), (1, .ref hz), (3, .long x3), (5, .int x5), (6, .int x6), (7, .int x7), (9, .int x9), (10, .int x10), (11, .long x11), (13, .int x13)]) rfl (j135 a_zrow x3 x5 x6 x7 x9 x10 x11 x13 h)
                · have h := oi_f h c_3
                  refine kv_aload_n C 1 dX2_list_113 rfl rfl ?_
                  refine kv_iload C 3 dX2_list_114 rfl ?_
                  refine kv_iload C 5 dX2_list_116 rfl ?_
                  refine kv_iload C 10 dX2_list_118 rfl ?_
                  refine kv_iload C 11 dX2_list_120 rfl ?_
                  obtain ⟨r_4, hm_5, h⟩ := ob_e h
                  refine kv_SN0i C [.int x7, .int x14, .int x15] (c_X9_moveOf l D x7 x14 x15 r_4 hm_5) (cn_X9_moveOf C.ts (hJ.1 _ (List.mem_of_getElem? (i := 5) rfl)) ⟨Nat.le_of_ble_eq_true rfl, Nat.le_of_ble_eq_true rfl⟩) rfl rfl (Nat.le_of_ble_eq_true rfl) dX2_list_122 ⟨Nat.zero_le _, Nat.zero_le _⟩ ?_
                  obtain ⟨g_6, h⟩ := oin_e h
                  obtain ⟨a_zrow_7, ea_zrow_7, h⟩ := ol_e h
                  refine kv_iast2 C (ws1 := (wLaR qa qb ql hz qw cI cJ v_standing v_own v_all v_king v_saving v_pinned v_passers a_stands a_goals a_zrow_7 v_mover v_rights v_passed v_halves v_number v_balance a_men a_kinds a_sides a_rays a_knights a_kings a_pawns a_table)) 3 0 rfl rfl g_6 ea_zrow_7 rfl dX2_list_125 ?_
                  obtain ⟨x5_8, ex5_8, h⟩ := ol_e h
                  refine kv_iinc C (v := x5_8) (lv2 := [(0, .ref (qa 0)), (1, .ref hz), (3, .long x3), (5, .int x5_8), (6, .int x6), (7, .int x7), (9, .int x9), (10, .int x10), (11, .long x11), (13, .int x13), (14, .int x14), (15, .int x15)]) 3 [1, 2, 3, 0, 4, 5, 6, 7, 8, 9, 10, 11] dX2_list_126 rfl ex5_8.symm (by decide) rfl rfl ?_
                  obtain ⟨x15_9, ex15_9, h⟩ := ol_e h
                  refine kv_iinc C (v := x15_9) (lv2 := [(0, .ref (qa 0)), (1, .ref hz), (3, .long x3), (5, .int x5_8), (6, .int x6), (7, .int x7), (9, .int x9), (10, .int x10), (11, .long x11), (13, .int x13), (14, .int x14), (15, .int x15_9)]) 11 [1, 2, 3, 4, 5, 6, 7, 8, 9, 10, 11, 0] dX2_list_129 rfl ex15_9.symm (by decide) rfl rfl ?_
                  refine kv_goto C 99 dX2_list_132 (by decide) ?_
                  exact kv_lv [0, 1, 2, 3, 4, 5, 6, 7, 8, 9, 10, 11] (lv2 := [(0, .ref (qa 0)), (1, .ref hz), (3, .long x3), (5, .int x5_8), (6, .int x6), (7, .int x7), (9, .int x9), (10, .int x10), (11, .long x11), (13, .int x13), (14, .int x14), (15, .int x15_9)]) rfl (ih99 a_zrow_7 x3 x5_8 x6 x7 x9 x10 x11 x13 x14 x15_9 h)
          intro a_zrow x3 x5 x6 x7 x9 x10 x11 x13 h
          replace h : m_X2_list_b74 (m_X2_list_l6  v_standing a_stands a_goals v_mover a_men n6) (m_X2_list_l74 (m_X2_list_l6  v_standing a_stands a_goals v_mover a_men n6) v_standing a_stands a_goals v_mover a_men n74) v_standing a_stands a_goals a_zrow v_mover a_men x3 x5 x6 x7 x9 x10 x11 x13 = some (rv, a_zrow') := h
          unfold m_X2_list_b74 at h
          refine kv_iload C 9 dX2_list_74 rfl ?_
          refine kv_if_le C 141 dX2_list_76 (by decide) (fun c_10 => ?_) (fun c_10 => ?_)
          · have h := oi_t h c_10
            obtain ⟨x6_11, ex6_11, h⟩ := ol_e h
            refine kv_iinc C (v := x6_11) (lv2 := [(0, .ref (qa 0)), (1, .ref hz), (3, .long x3), (5, .int x5), (6, .int x6_11)]) 4 [1, 2, 3, 4, 0] dX2_list_141 rfl ex6_11.symm (by decide) rfl rfl ?_
            refine kv_goto C 6 dX2_list_144 (by decide) ?_
            exact kv_lv [0, 1, 2, 3, 4] (lv2 := [(0, .ref (qa 0)), (1, .ref hz), (3, .long x3), (5, .int x5), (6, .int x6_11)]) rfl (ih6 a_zrow x3 x5 x6_11 h)
          · have h := oi_f h c_10
            refine kv_lload C 8 dX2_list_79 rfl ?_
            obtain ⟨r_12, hm_13, h⟩ := ob_e h
            refine kv_SN0i C [.long x11] (c_X9_leastOf l D x11 r_12 hm_13) (cn_X9_leastOf C.ts (hJ.1 _ (List.mem_of_getElem? (i := 3) rfl)) ⟨Nat.le_of_ble_eq_true rfl, Nat.le_of_ble_eq_true rfl⟩) rfl rfl (Nat.le_of_ble_eq_true rfl) dX2_list_81 ⟨Nat.zero_le _, Nat.zero_le _⟩ ?_
            refine kv_istore C (lv2 := [(0, .ref (qa 0)), (1, .ref hz), (3, .long x3), (5, .int x5), (6, .int x6), (7, .int x7), (9, .int x9), (10, .int x10), (11, .long x11), (13, .int x13), (14, .int r_12)]) [1, 2, 3, 4, 5, 6, 7, 8, 9, 10, 0] dX2_list_84 (by decide) rfl rfl ?_
            refine kv_lload C 8 dX2_list_86 rfl ?_
            refine kv_lload C 8 dX2_list_88 rfl ?_
            refine kv_lconst C 1 dX2_list_90 (by decide) ?_
            refine kv_lsub C dX2_list_91 ?_
            refine kv_land C dX2_list_92 ?_
            obtain ⟨x11_14, ex11_14, h⟩ := ol_e h
            refine kv_topl ex11_14 ?_
            refine kv_lstore C (lv2 := [(0, .ref (qa 0)), (1, .ref hz), (3, .long x3), (5, .int x5), (6, .int x6), (7, .int x7), (9, .int x9), (10, .int x10), (11, .long x11_14), (13, .int x13), (14, .int r_12)]) [1, 2, 3, 4, 5, 6, 7, 8, 0, 9, 10] dX2_list_93 (by decide) rfl rfl ?_
            refine kv_iload C 6 dX2_list_95 rfl ?_
            refine kv_istore C (lv2 := [(0, .ref (qa 0)), (1, .ref hz), (3, .long x3), (5, .int x5), (6, .int x6), (7, .int x7), (9, .int x9), (10, .int x10), (11, .long x11_14), (13, .int x13), (14, .int r_12), (15, .int x9)]) [1, 2, 3, 4, 5, 6, 7, 8, 9, 10, 11, 0] dX2_list_97 (by decide) rfl rfl ?_
            exact kv_lv [0, 1, 2, 3, 4, 5, 6, 7, 8, 9, 10, 11] (lv2 := [(0, .ref (qa 0)), (1, .ref hz), (3, .long x3), (5, .int x5), (6, .int x6), (7, .int x7), (9, .int x9), (10, .int x10), (11, .long x11_14), (13, .int x13), (14, .int r_12), (15, .int x9)]) rfl (l99 kF a_zrow x3 x5 x6 x7 x9 x10 x11_14 x13 r_12 x9 h)
      have j54 : ∀ (a_zrow : Nat → Int32) (x3 : Int64) (x5 : Int32) (x6 : Int32) (x7 : Int32) (x9 : Int32) (t0 : Int32), m_X2_list_b54 (m_X2_list_l6  v_standing a_stands a_goals v_mover a_men n6) v_standing a_stands a_goals a_zrow v_mover a_men x3 x5 x6 x7 x9 t0 = some (rv, a_zrow') → kv p l e rm_X2_list s m ([.ref (qa 0), .ref hz, .int p1, .long p2] : List Value).toArray below meth c D A 16 0 0 Q (wLaR qa qb ql hz qw cI cJ v_standing v_own v_all v_king v_saving v_pinned v_passers a_stands a_goals a_zrow v_mover v_rights v_passed v_halves v_number v_balance a_men a_kinds a_sides a_rays a_knights a_kings a_pawns a_table) [(0, .ref (qa 0)), (1, .ref hz), (3, .long x3), (5, .int x5), (6, .int x6), (7, .int x7), (9, .int x9)] 54 [.int t0] := by
        intro a_zrow x3 x5 x6 x7 x9 t0 h
        unfold m_X2_list_b54 at h
        refine kv_istore C (lv2 := [(0, .ref (qa 0)), (1, .ref hz), (3, .long x3), (5, .int x5), (6, .int x6), (7, .int x7), (9, .int x9), (10, .int t0)]) [1, 2, 3, 4, 5, 6, 7, 0] dX2_list_54 (by decide) rfl rfl ?_
        refine kv_aload_n C 0 dX2_list_56 rfl rfl ?_
        refine kv_get C (Cn := RX2) (T := TX2) (N := 11) 0 3 hin2 rfl rfl (by decide) (C.ts _ (List.mem_cons_of_mem _ lf_RX2_23)) rfl rfl dX2_list_57 ?_
        refine kv_iload C 4 dX2_list_60 rfl ?_
        obtain ⟨g_15, h⟩ := oin_e h
        refine kv_lald C 2 1 rfl rfl g_15 dX2_list_62 ?_
        refine kv_lload_n C 2 dX2_list_63 rfl rfl ?_
        refine kv_land C dX2_list_64 ?_
        obtain ⟨x11_16, ex11_16, h⟩ := ol_e h
        refine kv_topl ex11_16 ?_
        refine kv_lstore C (lv2 := [(0, .ref (qa 0)), (1, .ref hz), (3, .long x3), (5, .int x5), (6, .int x6), (7, .int x7), (9, .int x9), (10, .int t0), (11, .long x11_16)]) [1, 2, 3, 4, 5, 6, 7, 8, 0] dX2_list_65 (by decide) rfl rfl ?_
        refine kv_lload C 8 dX2_list_67 rfl ?_
        obtain ⟨r_17, hm_18, h⟩ := ob_e h
        refine kv_callS0i C [.long x11_16] (c_J13_bitCount_95d88 l D x11_16 r_17 hm_18) (cs_J13_bitCount_95d88 C.ts lm_RX2_42 ⟨Nat.le_of_ble_eq_true rfl, Nat.le_of_ble_eq_true rfl⟩) rfl rfl (Nat.le_of_ble_eq_true rfl) dX2_list_69 ⟨Nat.zero_le _, Nat.zero_le _⟩ ?_
        refine kv_istore C (lv2 := [(0, .ref (qa 0)), (1, .ref hz), (3, .long x3), (5, .int x5), (6, .int x6), (7, .int x7), (9, .int x9), (10, .int t0), (11, .long x11_16), (13, .int r_17)]) [1, 2, 3, 4, 5, 6, 7, 8, 9, 0] dX2_list_72 (by decide) rfl rfl ?_
        exact kv_lv [0, 1, 2, 3, 4, 5, 6, 7, 8, 9] (lv2 := [(0, .ref (qa 0)), (1, .ref hz), (3, .long x3), (5, .int x5), (6, .int x6), (7, .int x7), (9, .int x9), (10, .int t0), (11, .long x11_16), (13, .int r_17)]) rfl (l74 kF a_zrow x3 x5 x6 x7 x9 t0 x11_16 r_17 h)
      have j42 : ∀ (a_zrow : Nat → Int32) (x3 : Int64) (x5 : Int32) (x6 : Int32) (x7 : Int32) (x8 : Int32) (t0 : Int32), m_X2_list_b42 (m_X2_list_l6  v_standing a_stands a_goals v_mover a_men n6) v_standing a_stands a_goals a_zrow v_mover a_men x3 x5 x6 x7 x8 t0 = some (rv, a_zrow') → kv p l e rm_X2_list s m ([.ref (qa 0), .ref hz, .int p1, .long p2] : List Value).toArray below meth c D A 16 0 0 Q (wLaR qa qb ql hz qw cI cJ v_standing v_own v_all v_king v_saving v_pinned v_passers a_stands a_goals a_zrow v_mover v_rights v_passed v_halves v_number v_balance a_men a_kinds a_sides a_rays a_knights a_kings a_pawns a_table) [(0, .ref (qa 0)), (1, .ref hz), (3, .long x3), (5, .int x5), (6, .int x6), (7, .int x7), (8, .int x8)] 42 [.int t0] := by
        intro a_zrow x3 x5 x6 x7 x8 t0 h
        unfold m_X2_list_b42 at h
        refine kv_istore C (lv2 := [(0, .ref (qa 0)), (1, .ref hz), (3, .long x3), (5, .int x5), (6, .int x6), (7, .int x7), (8, .int x8), (9, .int t0)]) [1, 2, 3, 4, 5, 6, 7, 0] dX2_list_42 (by decide) rfl rfl ?_
        refine kv_iload C 6 dX2_list_44 rfl ?_
        refine kv_if_eq C 53 dX2_list_46 (by decide) (fun c_19 => ?_) (fun c_19 => ?_)
        · have h := oi_t h c_19
          refine kv_iconst C 0 dX2_list_53 (by decide) ?_
          exact kv_lv [0, 1, 2, 3, 4, 5, 7] (lv2 := [(0, .ref (qa 0)), (1, .ref hz), (3, .long x3), (5, .int x5), (6, .int x6), (7, .int x7), (9, .int t0)]) rfl (j54 a_zrow x3 x5 x6 x7 t0 0 h)
        · have h := oi_f h c_19
          refine kv_iconst C 5 dX2_list_49 (by decide) ?_
          refine kv_goto C 54 dX2_list_50 (by decide) ?_
          exact kv_lv [0, 1, 2, 3, 4, 5, 7] (lv2 := [(0, .ref (qa 0)), (1, .ref hz), (3, .long x3), (5, .int x5), (6, .int x6), (7, .int x7), (9, .int t0)]) rfl (j54 a_zrow x3 x5 x6 x7 t0 5 h)
      intro a_zrow x3 x5 x6 h
      replace h : m_X2_list_b6  (m_X2_list_l6  v_standing a_stands a_goals v_mover a_men n6) v_standing a_stands a_goals a_zrow v_mover a_men x3 x5 x6 = some (rv, a_zrow') := h
      unfold m_X2_list_b6 at h
      refine kv_iload C 4 dX2_list_6 rfl ?_
      refine kv_aload_n C 0 dX2_list_8 rfl rfl ?_
      refine kv_get C (Cn := RX2) (T := TX2) (N := 11) 0 4 hin2 rfl rfl (by decide) (C.ts _ (List.mem_cons_of_mem _ lf_RX2_68)) rfl rfl dX2_list_9 ?_
      refine kv_icmp_ge C 147 dX2_list_12 (by decide) (fun c_20 => ?_) (fun c_20 => ?_)
      · have h := oi_t h c_20
        refine kv_iload C 3 dX2_list_147 rfl ?_
        cases h
        exact hret _ _ dX2_list_149 (fun q => by cases q)
      · have h := oi_f h c_20
        refine kv_aload_n C 0 dX2_list_15 rfl rfl ?_
        refine kv_get C (Cn := RX2) (T := TX2) (N := 11) 0 2 hin2 rfl rfl (by decide) (C.ts _ (List.mem_cons_of_mem _ lf_RX2_19)) rfl rfl dX2_list_16 ?_
        refine kv_iload C 4 dX2_list_19 rfl ?_
        obtain ⟨g_21, h⟩ := oin_e h
        refine kv_iald C 1 0 rfl rfl g_21 dX2_list_21 ?_
        obtain ⟨x7_22, ex7_22, h⟩ := ol_e h
        refine kv_top ex7_22 ?_
        refine kv_istore C (lv2 := [(0, .ref (qa 0)), (1, .ref hz), (3, .long x3), (5, .int x5), (6, .int x6), (7, .int x7_22)]) [1, 2, 3, 4, 5, 0] dX2_list_22 (by decide) rfl rfl ?_
        refine kv_aload_n C 0 dX2_list_24 rfl rfl ?_
        refine kv_iload C 5 dX2_list_25 rfl ?_
        obtain ⟨r_23, hm_24, h⟩ := ob_e h
        refine kv_eVi (ws2 := (wLaR qa qb ql hz qw cI cJ v_standing v_own v_all v_king v_saving v_pinned v_passers a_stands a_goals a_zrow v_mover v_rights v_passed v_halves v_number v_balance a_men a_kinds a_sides a_rays a_knights a_kings a_pawns a_table)) C hJ [.int x7_22] 0 (c_X2_becomesAnother l D qa qb ql qw cI cJ tq v_standing v_own v_all v_king v_saving v_pinned v_passers a_stands a_goals v_mover v_rights v_passed v_halves v_number v_balance a_men a_kinds a_sides a_rays a_knights a_kings a_pawns a_table x7_22 r_23 hm_24) (cv_X2_becomesAnother C.ts lm_RX2_71 ⟨Nat.le_of_ble_eq_true rfl, Nat.le_of_ble_eq_true rfl⟩) rfl rfl [0, 1, 2, 4, 5, 6, 7, 8, 9, 10, 11, 12, 13, 14] [3] [0, 1] [1, 2, 3, 0, 4, 5, 6, 7, 8, 9, 10, 11, 12, 13, 14] rfl rfl rfl rfl rfl (by decide) rfl rfl rfl (Nat.le_of_ble_eq_true rfl) dX2_list_27 ⟨Nat.zero_le _, Nat.zero_le _⟩ rfl rfl rfl ?_
        refine kv_istore C (lv2 := [(0, .ref (qa 0)), (1, .ref hz), (3, .long x3), (5, .int x5), (6, .int x6), (7, .int x7_22), (8, .int r_23)]) [1, 2, 3, 4, 5, 6, 0] dX2_list_30 (by decide) rfl rfl ?_
        refine kv_iload C 6 dX2_list_32 rfl ?_
        refine kv_if_eq C 41 dX2_list_34 (by decide) (fun c_25 => ?_) (fun c_25 => ?_)
        · have h := oi_t h c_25
          refine kv_iconst C 0 dX2_list_41 (by decide) ?_
          exact kv_lv [0, 1, 2, 3, 4, 5, 6] (lv2 := [(0, .ref (qa 0)), (1, .ref hz), (3, .long x3), (5, .int x5), (6, .int x6), (7, .int x7_22), (8, .int r_23)]) rfl (j42 a_zrow x3 x5 x6 x7_22 r_23 0 h)
        · have h := oi_f h c_25
          refine kv_iconst C 2 dX2_list_37 (by decide) ?_
          refine kv_goto C 42 dX2_list_38 (by decide) ?_
          exact kv_lv [0, 1, 2, 3, 4, 5, 6] (lv2 := [(0, .ref (qa 0)), (1, .ref hz), (3, .long x3), (5, .int x5), (6, .int x6), (7, .int x7_22), (8, .int r_23)]) rfl (j42 a_zrow x3 x5 x6 x7_22 r_23 2 h)
  unfold m_X2_list at hm
  have h := hm
  refine kv_lv [0, 1, 2, 3] (lv2 := [(0, .ref (qa 0)), (1, .ref hz), (2, .int p1), (3, .long p2)]) rfl ?_
  refine kv_iload_n C 2 dX2_list_0 rfl rfl ?_
  refine kv_istore C (lv2 := [(0, .ref (qa 0)), (1, .ref hz), (3, .long p2), (5, .int p1)]) [1, 2, 4, 0] dX2_list_1 (by decide) rfl rfl ?_
  refine kv_iconst C 0 dX2_list_3 (by decide) ?_
  refine kv_istore C (lv2 := [(0, .ref (qa 0)), (1, .ref hz), (3, .long p2), (5, .int p1), (6, .int 0)]) [1, 2, 3, 4, 0] dX2_list_4 (by decide) rfl rfl ?_
  exact kv_lv [0, 1, 2, 3, 4] (lv2 := [(0, .ref (qa 0)), (1, .ref hz), (3, .long p2), (5, .int p1), (6, .int 0)]) rfl (l6 kF a_zrow p2 p1 0 h)
