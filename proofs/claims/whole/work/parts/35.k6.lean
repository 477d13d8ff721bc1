/-! The class: J3_checkIndex_8e157, J0_checkIndex_df160, J0_isLatin1_aae02, J0_coder_7d493, J0_length_8abf5, J1_charAt_3b067, J0_charAt_5068e, J1_canEncode_9a6ad, J1_indexOfChar_4cfef, J1_indexOf_4cfef, J0_indexOf_7cf53, J0_indexOf_0f7a4 -/
def m_J3_checkIndex_8e157 (p0 : Int32) (p1 : Int32) : Option (Int32) := if p0 < 0 then none else if p0 < p1 then some p0 else none
abbrev rm_J3_checkIndex_8e157 : Room := { frames := 0, cells := 0, slots := 0, locals := 0 }
abbrev wy_J3_checkIndex_8e157 : List Cond := .code yJ3_checkIndex_8e157 cJ3_checkIndex_8e157 3 (some .int) :: gT
theorem cs_J3_checkIndex_8e157 {R : Room} {s : State} {args : Array Value} {own : String} {index : Nat} {w0 : Cond} (hts : ∀ w ∈ w0 :: gT, w.before args s = true) (hl : Cond.methodLink own index yJ3_checkIndex_8e157 ∈ gT) (hR : 0 + 1 ≤ R.frames ∧ 8 + (3 + 11) + 0 ≤ R.locals) : CallB R s args own index yJ3_checkIndex_8e157 cJ3_checkIndex_8e157 3 (some .int) wy_J3_checkIndex_8e157 rm_J3_checkIndex_8e157 0 0 3 ∧ (Cond.static yJ3_checkIndex_8e157).before args s = true :=
  va_cwS 3 hts (gT_call w0 (pre := [.methodLink own index yJ3_checkIndex_8e157, .static yJ3_checkIndex_8e157, .initialized yJ3_checkIndex_8e157.cls]) (gT_lc hl (gT_lc ls_yJ3_checkIndex_8e157 (gT_l1 li_RJ3))) lc_yJ3_checkIndex_8e157) rfl rfl rfl (by decide +kernel) hR
set_option maxRecDepth 100000 in
set_option maxHeartbeats 4000000 in
theorem c_J3_checkIndex_8e157_n (l : Launch) (D : va_G) (p0 : Int32) (p1 : Int32) (rv : Int32) (hm : m_J3_checkIndex_8e157 p0 p1 = some rv) : kDi l yJ3_checkIndex_8e157 wy_J3_checkIndex_8e157 rm_J3_checkIndex_8e157 D [] rv [] [] [.int p0, .int p1, .null] := by
  refine kDi.ofF cJ3_checkIndex_8e157 3 (some .int) (by decide +kernel) rfl (Or.inl rfl) (Nat.le_of_ble_eq_true rfl) ?_
  intro p e s m below meth c A Q C hret
  unfold m_J3_checkIndex_8e157 at hm
  have h := hm
  refine kv_lv [0, 1] (lv2 := [(0, .int p0), (1, .int p1)]) rfl ?_
  refine kv_iload_n C 0 dJ3_checkIndex_8e157_0 rfl rfl ?_
  refine kv_if_lt C 9 dJ3_checkIndex_8e157_1 (by decide) (fun c_1 => ?_) (fun c_1 => ?_)
  · exact kv_no (oi_t h c_1)
  · have h := oi_f h c_1
    refine kv_iload_n C 0 dJ3_checkIndex_8e157_4 rfl rfl ?_
    refine kv_iload_n C 1 dJ3_checkIndex_8e157_5 rfl rfl ?_
    refine kv_icmp_lt C 16 dJ3_checkIndex_8e157_6 (by decide) (fun c_2 => ?_) (fun c_2 => ?_)
    · have h := oi_t h c_2
      refine kv_iload_n C 0 dJ3_checkIndex_8e157_16 rfl rfl ?_
      cases h
      exact hret _ _ dJ3_checkIndex_8e157_17 (fun q => by cases q)
    · exact kv_no (oi_f h c_2)
set_option maxRecDepth 100000 in
set_option maxHeartbeats 4000000 in
theorem c_J3_checkIndex_8e157_r (l : Launch) (D : va_G) (t : Nat) (p0 : Int32) (p1 : Int32) (rv : Int32) (hm : m_J3_checkIndex_8e157 p0 p1 = some rv) : kDi l yJ3_checkIndex_8e157 wy_J3_checkIndex_8e157 rm_J3_checkIndex_8e157 D [] rv [] [] [.int p0, .int p1, .ref t] := by
  refine kDi.ofF cJ3_checkIndex_8e157 3 (some .int) (by decide +kernel) rfl (Or.inl rfl) (Nat.le_of_ble_eq_true rfl) ?_
  intro p e s m below meth c A Q C hret
  unfold m_J3_checkIndex_8e157 at hm
  have h := hm
  refine kv_lv [0, 1] (lv2 := [(0, .int p0), (1, .int p1)]) rfl ?_
  refine kv_iload_n C 0 dJ3_checkIndex_8e157_0 rfl rfl ?_
  refine kv_if_lt C 9 dJ3_checkIndex_8e157_1 (by decide) (fun c_1 => ?_) (fun c_1 => ?_)
  · exact kv_no (oi_t h c_1)
  · have h := oi_f h c_1
    refine kv_iload_n C 0 dJ3_checkIndex_8e157_4 rfl rfl ?_
    refine kv_iload_n C 1 dJ3_checkIndex_8e157_5 rfl rfl ?_
    refine kv_icmp_lt C 16 dJ3_checkIndex_8e157_6 (by decide) (fun c_2 => ?_) (fun c_2 => ?_)
    · have h := oi_t h c_2
      refine kv_iload_n C 0 dJ3_checkIndex_8e157_16 rfl rfl ?_
      cases h
      exact hret _ _ dJ3_checkIndex_8e157_17 (fun q => by cases q)
    · exact kv_no (oi_f h c_2)
def m_J0_checkIndex_df160 (p0 : Int32) (p1 : Int32) : Option (Unit) := ob (m_J3_checkIndex_8e157 p0 p1) fun _ => some ()
abbrev rm_J0_checkIndex_df160 : Room := { frames := 1, cells := 0, slots := 0, locals := 22 }
abbrev wy_J0_checkIndex_df160 : List Cond := .code yJ0_checkIndex_df160 cJ0_checkIndex_df160 2 none :: gT
theorem cs_J0_checkIndex_df160 {R : Room} {s : State} {args : Array Value} {own : String} {index : Nat} {w0 : Cond} (hts : ∀ w ∈ w0 :: gT, w.before args s = true) (hl : Cond.methodLink own index yJ0_checkIndex_df160 ∈ gT) (hR : 1 + 1 ≤ R.frames ∧ 8 + (2 + 11) + 22 ≤ R.locals) : CallB R s args own index yJ0_checkIndex_df160 cJ0_checkIndex_df160 2 none wy_J0_checkIndex_df160 rm_J0_checkIndex_df160 0 0 2 ∧ (Cond.static yJ0_checkIndex_df160).before args s = true :=
  va_cwS 2 hts (gT_call w0 (pre := [.methodLink own index yJ0_checkIndex_df160, .static yJ0_checkIndex_df160, .initialized yJ0_checkIndex_df160.cls]) (gT_lc hl (gT_lc ls_yJ0_checkIndex_df160 (gT_l1 li_RJ0))) lc_yJ0_checkIndex_df160) rfl rfl rfl (by decide +kernel) hR
set_option maxRecDepth 100000 in
set_option maxHeartbeats 4000000 in
theorem c_J0_checkIndex_df160 (l : Launch) (D : va_G) (tq : Nat → Nat) (p0 : Int32) (p1 : Int32) (hm : m_J0_checkIndex_df160 p0 p1 = some ()) : kEv l yJ0_checkIndex_df160 wy_J0_checkIndex_df160 rm_J0_checkIndex_df160 D [] tq [] [] [.int p0, .int p1] := by
  refine kEv.ofF cJ0_checkIndex_df160 2 (by decide +kernel) rfl (Nat.le_of_ble_eq_true rfl) ?_
  intro p e s m below meth c A Q C hJ hret
  obtain ⟨r_1, hm_1, -⟩ := ob_e hm
  refine kv_lv [0, 1] (lv2 := [(0, .int p0), (1, .int p1)]) rfl ?_
  refine kv_iload_n C 0 dJ0_checkIndex_df160_0 rfl rfl ?_
  refine kv_iload_n C 1 dJ0_checkIndex_df160_1 rfl rfl ?_
  rcases hJ.2.2.2.2.1 with hz | ⟨tz, hz⟩
  · refine kv_gets C hz (C.ts _ (List.mem_cons_of_mem _ lf_RJ0_1053)) rfl dJ0_checkIndex_df160_2 ?_
    refine kv_callS0i C [.int p0, .int p1, .null] (c_J3_checkIndex_8e157_n l D p0 p1 r_1 hm_1) (cs_J3_checkIndex_8e157 C.ts lm_RJ0_1059 ⟨Nat.le_of_ble_eq_true rfl, Nat.le_of_ble_eq_true rfl⟩) rfl rfl (Nat.le_of_ble_eq_true rfl) dJ0_checkIndex_df160_5 ⟨Nat.zero_le _, Nat.zero_le _⟩ ?_
    refine kv_pop C dJ0_checkIndex_df160_8 rfl ?_
    exact hret _ _ dJ0_checkIndex_df160_9
  · refine kv_gets C hz (C.ts _ (List.mem_cons_of_mem _ lf_RJ0_1053)) rfl dJ0_checkIndex_df160_2 ?_
    refine kv_callS0i C [.int p0, .int p1, .ref tz] (c_J3_checkIndex_8e157_r l D tz p0 p1 r_1 hm_1) (cs_J3_checkIndex_8e157 C.ts lm_RJ0_1059 ⟨Nat.le_of_ble_eq_true rfl, Nat.le_of_ble_eq_true rfl⟩) rfl rfl (Nat.le_of_ble_eq_true rfl) dJ0_checkIndex_df160_5 ⟨Nat.zero_le _, Nat.zero_le _⟩ ?_
    refine kv_pop C dJ0_checkIndex_df160_8 rfl ?_
    exact hret _ _ dJ0_checkIndex_df160_9
def m_J0_isLatin1_aae02_b18 (t0 : Int32) : Option (Int32) := obl (t0) (some t0)
def m_J0_isLatin1_aae02 : Option (Int32) := m_J0_isLatin1_aae02_b18 1
abbrev rm_J0_isLatin1_aae02 : Room := { frames := 0, cells := 0, slots := 0, locals := 0 }
abbrev wy_J0_isLatin1_aae02 : List Cond := .code yJ0_isLatin1_aae02 cJ0_isLatin1_aae02 1 (some .boolean) :: gT
theorem cv_J0_isLatin1_aae02 {R : Room} {s : State} {args : Array Value} {own : String} {index : Nat} {w0 : Cond} (hts : ∀ w ∈ w0 :: gT, w.before args s = true) (hl : Cond.methodLink own index yJ0_isLatin1_aae02 ∈ gT) (hR : 0 + 1 ≤ R.frames ∧ 8 + (1 + 11) + 0 ≤ R.locals) : CallW R s args own RJ0 index yJ0_isLatin1_aae02 cJ0_isLatin1_aae02 1 (some .boolean) wy_J0_isLatin1_aae02 rm_J0_isLatin1_aae02 0 0 0 :=
  cwV 0 hts (gT_call w0 (pre := [.methodLink own index yJ0_isLatin1_aae02, .instanceMethod yJ0_isLatin1_aae02, .selects RJ0 yJ0_isLatin1_aae02 yJ0_isLatin1_aae02, .initialized RJ0]) (gT_lc hl (gT_lc ly_yJ0_isLatin1_aae02 (gT_lc lx_yJ0_isLatin1_aae02 (gT_l1 li_RJ0)))) lc_yJ0_isLatin1_aae02) rfl rfl rfl (by decide +kernel) hR
set_option maxRecDepth 100000 in
set_option maxHeartbeats 4000000 in
theorem c_J0_isLatin1_aae02 (l : Launch) (D : va_G) (tq : Nat → Nat) (k : Nat) (o : String) (en : Nat) (tx : String) (b : List Int32) (hq : skT[k]? = some (o, en, tx, b)) (rv : Int32) (hm : m_J0_isLatin1_aae02 = some rv) : kEi l yJ0_isLatin1_aae02 wy_J0_isLatin1_aae02 rm_J0_isLatin1_aae02 D [] tq rv [] [] [.ref (tq (8 + k))] := by
  refine kEi.ofN cJ0_isLatin1_aae02 1 .boolean (by decide +kernel) rfl (Nat.le_of_ble_eq_true rfl) ?_
  intro p e s m below meth c A Q C hJ hret
  have j18 : ∀ (t0 : Int32), m_J0_isLatin1_aae02_b18   t0 = some rv → kv p l e rm_J0_isLatin1_aae02 s m ([.ref (tq (8 + k))] : List Value).toArray below meth c D A 1 0 0 Q [] [] 18 [.int t0] := by
    intro t0 h
    unfold m_J0_isLatin1_aae02_b18 at h
    obtain ⟨g_1, h⟩ := obl_e h
    cases h
    exact hret _ _ dJ0_isLatin1_aae02_18 (kv_bool g_1)
  unfold m_J0_isLatin1_aae02 at hm
  have h := hm
  refine kv_lv [0] (lv2 := [(0, .ref ((tq (8 + k))))]) rfl ?_
  refine kv_gets C hJ.2.2.2.1 (C.ts _ (List.mem_cons_of_mem _ lf_RJ0_38)) rfl dJ0_isLatin1_aae02_0 ?_
  refine kv_if_eq C 17 dJ0_isLatin1_aae02_3 (by decide) (fun c_2 => absurd c_2 (by decide)) (fun _ => ?_)
  refine kv_aload_n C 0 dJ0_isLatin1_aae02_6 rfl rfl ?_
  refine kv_getO C (hJ.2.2.1 k _ hq).2.2.1 (C.ts _ (List.mem_cons_of_mem _ lf_RJ0_15)) rfl dJ0_isLatin1_aae02_7 ?_
  refine kv_if_ne C 17 dJ0_isLatin1_aae02_10 (by decide) (fun c_3 => absurd c_3 (by decide)) (fun _ => ?_)
  refine kv_iconst C 1 dJ0_isLatin1_aae02_13 (by decide) ?_
  refine kv_goto C 18 dJ0_isLatin1_aae02_14 (by decide) ?_
  exact kv_lv [] (lv2 := []) rfl (j18 1 h)
def m_J0_coder_7d493_b14 (t0 : Int32) : Option (Int32) := onb (t0) (some t0)
def m_J0_coder_7d493 : Option (Int32) := m_J0_coder_7d493_b14 0
abbrev rm_J0_coder_7d493 : Room := { frames := 0, cells := 0, slots := 0, locals := 0 }
abbrev wy_J0_coder_7d493 : List Cond := .code yJ0_coder_7d493 cJ0_coder_7d493 1 (some .byte) :: gT
theorem cv_J0_coder_7d493 {R : Room} {s : State} {args : Array Value} {own : String} {index : Nat} {w0 : Cond} (hts : ∀ w ∈ w0 :: gT, w.before args s = true) (hl : Cond.methodLink own index yJ0_coder_7d493 ∈ gT) (hR : 0 + 1 ≤ R.frames ∧ 8 + (1 + 11) + 0 ≤ R.locals) : CallW R s args own RJ0 index yJ0_coder_7d493 cJ0_coder_7d493 1 (some .byte) wy_J0_coder_7d493 rm_J0_coder_7d493 0 0 0 :=
  cwV 0 hts (gT_call w0 (pre := [.methodLink own index yJ0_coder_7d493, .instanceMethod yJ0_coder_7d493, .selects RJ0 yJ0_coder_7d493 yJ0_coder_7d493, .initialized RJ0]) (gT_lc hl (gT_lc ly_yJ0_coder_7d493 (gT_lc lx_yJ0_coder_7d493 (gT_l1 li_RJ0)))) lc_yJ0_coder_7d493) rfl rfl rfl (by decide +kernel) hR
set_option maxRecDepth 100000 in
set_option maxHeartbeats 4000000 in
theorem c_J0_coder_7d493 (l : Launch) (D : va_G) (tq : Nat → Nat) (k : Nat) (o : String) (en : Nat) (tx : String) (b : List Int32) (hq : skT[k]? = some (o, en, tx, b)) (rv : Int32) (hm : m_J0_coder_7d493 = some rv) : kEi l yJ0_coder_7d493 wy_J0_coder_7d493 rm_J0_coder_7d493 D [] tq rv [] [] [.ref (tq (8 + k))] := by
  refine kEi.ofN cJ0_coder_7d493 1 .byte (by decide +kernel) rfl (Nat.le_of_ble_eq_true rfl) ?_
  intro p e s m below meth c A Q C hJ hret
  have j14 : ∀ (t0 : Int32), m_J0_coder_7d493_b14   t0 = some rv → kv p l e rm_J0_coder_7d493 s m ([.ref (tq (8 + k))] : List Value).toArray below meth c D A 1 0 0 Q [] [] 14 [.int t0] := by
    intro t0 h
    unfold m_J0_coder_7d493_b14 at h
    obtain ⟨g_1, h⟩ := onb_e h
    cases h
    exact hret _ _ dJ0_coder_7d493_14 (congrArg _ g_1)
  unfold m_J0_coder_7d493 at hm
  have h := hm
  refine kv_lv [0] (lv2 := [(0, .ref ((tq (8 + k))))]) rfl ?_
  refine kv_gets C hJ.2.2.2.1 (C.ts _ (List.mem_cons_of_mem _ lf_RJ0_38)) rfl dJ0_coder_7d493_0 ?_
  refine kv_if_eq C 13 dJ0_coder_7d493_3 (by decide) (fun c_2 => absurd c_2 (by decide)) (fun _ => ?_)
  refine kv_aload_n C 0 dJ0_coder_7d493_6 rfl rfl ?_
  refine kv_getO C (hJ.2.2.1 k _ hq).2.2.1 (C.ts _ (List.mem_cons_of_mem _ lf_RJ0_15)) rfl dJ0_coder_7d493_7 ?_
  refine kv_goto C 14 dJ0_coder_7d493_10 (by decide) ?_
  exact kv_lv [] (lv2 := []) rfl (j14 0 h)
def m_J0_length_8abf5 (b : List Int32) : Option (Int32) := some ((nI b.length) >>> ((0 : Int32) &&& 31))
abbrev rm_J0_length_8abf5 : Room := { frames := 1, cells := 0, slots := 0, locals := 20 }
abbrev wy_J0_length_8abf5 : List Cond := .code yJ0_length_8abf5 cJ0_length_8abf5 1 (some .int) :: gT
theorem cv_J0_length_8abf5 {R : Room} {s : State} {args : Array Value} {own : String} {index : Nat} {w0 : Cond} (hts : ∀ w ∈ w0 :: gT, w.before args s = true) (hl : Cond.methodLink own index yJ0_length_8abf5 ∈ gT) (hR : 1 + 1 ≤ R.frames ∧ 8 + (1 + 11) + 20 ≤ R.locals) : CallW R s args own RJ0 index yJ0_length_8abf5 cJ0_length_8abf5 1 (some .int) wy_J0_length_8abf5 rm_J0_length_8abf5 0 0 0 :=
  cwV 0 hts (gT_call w0 (pre := [.methodLink own index yJ0_length_8abf5, .instanceMethod yJ0_length_8abf5, .selects RJ0 yJ0_length_8abf5 yJ0_length_8abf5, .initialized RJ0]) (gT_lc hl (gT_lc ly_yJ0_length_8abf5 (gT_lc lx_yJ0_length_8abf5 (gT_l1 li_RJ0)))) lc_yJ0_length_8abf5) rfl rfl rfl (by decide +kernel) hR
set_option maxRecDepth 100000 in
set_option maxHeartbeats 4000000 in
theorem c_J0_length_8abf5 (l : Launch) (D : va_G) (tq : Nat → Nat) (k : Nat) (o : String) (en : Nat) (tx : String) (b : List Int32) (hq : skT[k]? = some (o, en, tx, b)) (rv : Int32) (hm : m_J0_length_8abf5 b = some rv) : kEi l yJ0_length_8abf5 wy_J0_length_8abf5 rm_J0_length_8abf5 D [] tq rv [] [] [.ref (tq (8 + k))] := by
  refine kEi.ofN cJ0_length_8abf5 1 .int (by decide +kernel) rfl (Nat.le_of_ble_eq_true rfl) ?_
  intro p e s m below meth c A Q C hJ hret
  unfold m_J0_length_8abf5 at hm
  have h := hm
  refine kv_lv [0] (lv2 := [(0, .ref ((tq (8 + k))))]) rfl ?_
  refine kv_aload_n C 0 dJ0_length_8abf5_0 rfl rfl ?_
  refine kv_getO C (hJ.2.2.1 k _ hq).2.2.2.1 (C.ts _ (List.mem_cons_of_mem _ lf_RJ0_9)) rfl dJ0_length_8abf5_1 ?_
  refine kv_tlen C (hJ.2.2.1 k _ hq).2.2.2.2 (v := nI b.length) rfl dJ0_length_8abf5_4 ?_
  refine kv_aload_n C 0 dJ0_length_8abf5_5 rfl rfl ?_
  refine kv_eO0i C hJ [] (c_J0_coder_7d493 l D tq k o en tx b hq  0 rfl) (cv_J0_coder_7d493 C.ts lm_RJ0_335 ⟨Nat.le_of_ble_eq_true rfl, Nat.le_of_ble_eq_true rfl⟩) (hJ.2.2.1 k _ hq).2.1 rfl rfl (Nat.le_of_ble_eq_true rfl) dJ0_length_8abf5_6 ⟨Nat.zero_le _, Nat.zero_le _⟩ ?_
  refine kv_ishr C dJ0_length_8abf5_9 ?_
  cases h
  exact hret _ _ dJ0_length_8abf5_10 rfl
def m_J1_charAt_3b067 (b : List Int32) (p1 : Int32) : Option (Int32) := ob (m_J0_checkIndex_df160 p1 (nI b.length)) fun _ => oin (p1) b.length (onc ((((b.getD (p1.toNatClampNeg) 0) &&& 255).toUInt32 % 65536).toInt32) (some ((((b.getD (p1.toNatClampNeg) 0) &&& 255).toUInt32 % 65536).toInt32)))
abbrev rm_J1_charAt_3b067 : Room := { frames := 2, cells := 0, slots := 0, locals := 43 }
abbrev wy_J1_charAt_3b067 : List Cond := .code yJ1_charAt_3b067 cJ1_charAt_3b067 2 (some .char) :: gT
theorem cs_J1_charAt_3b067 {R : Room} {s : State} {args : Array Value} {own : String} {index : Nat} {w0 : Cond} (hts : ∀ w ∈ w0 :: gT, w.before args s = true) (hl : Cond.methodLink own index yJ1_charAt_3b067 ∈ gT) (hR : 2 + 1 ≤ R.frames ∧ 8 + (2 + 11) + 43 ≤ R.locals) : CallB R s args own index yJ1_charAt_3b067 cJ1_charAt_3b067 2 (some .char) wy_J1_charAt_3b067 rm_J1_charAt_3b067 0 0 2 ∧ (Cond.static yJ1_charAt_3b067).before args s = true :=
  va_cwS 2 hts (gT_call w0 (pre := [.methodLink own index yJ1_charAt_3b067, .static yJ1_charAt_3b067, .initialized yJ1_charAt_3b067.cls]) (gT_lc hl (gT_lc ls_yJ1_charAt_3b067 (gT_l1 li_RJ1))) lc_yJ1_charAt_3b067) rfl rfl rfl (by decide +kernel) hR
set_option maxRecDepth 100000 in
set_option maxHeartbeats 4000000 in
theorem c_J1_charAt_3b067 (l : Launch) (D : va_G) (tq : Nat → Nat) (k : Nat) (o : String) (en : Nat) (tx : String) (b : List Int32) (hq : skT[k]? = some (o, en, tx, b)) (p1 : Int32) (rv : Int32) (hm : m_J1_charAt_3b067 b p1 = some rv) : kEi l yJ1_charAt_3b067 wy_J1_charAt_3b067 rm_J1_charAt_3b067 D [] tq rv [] [] [.ref (tq (13 + k)), .int p1] := by
  refine kEi.ofN cJ1_charAt_3b067 2 .char (by decide +kernel) rfl (Nat.le_of_ble_eq_true rfl) ?_
  intro p e s m below meth c A Q C hJ hret
  unfold m_J1_charAt_3b067 at hm
  have h := hm
  refine kv_lv [0, 1] (lv2 := [(0, .ref ((tq (13 + k)))), (1, .int p1)]) rfl ?_
  refine kv_iload_n C 1 dJ1_charAt_3b067_0 rfl rfl ?_
  refine kv_aload_n C 0 dJ1_charAt_3b067_1 rfl rfl ?_
  refine kv_tlen C (hJ.2.2.1 k _ hq).2.2.2.2 (v := nI b.length) rfl dJ1_charAt_3b067_2 ?_
  obtain ⟨⟨⟩, hm_1, h⟩ := ob_e h
  refine kv_eS0v C hJ [.int p1, .int (nI b.length)] (c_J0_checkIndex_df160 l D tq   p1 (nI b.length)  hm_1) (cs_J0_checkIndex_df160 C.ts lm_RJ1_9 ⟨Nat.le_of_ble_eq_true rfl, Nat.le_of_ble_eq_true rfl⟩) rfl rfl (Nat.le_of_ble_eq_true rfl) dJ1_charAt_3b067_3 ⟨Nat.zero_le _, Nat.zero_le _⟩ ?_
  refine kv_aload_n C 0 dJ1_charAt_3b067_6 rfl rfl ?_
  refine kv_iload_n C 1 dJ1_charAt_3b067_7 rfl rfl ?_
  obtain ⟨g_2, h⟩ := oin_e h
  refine kv_tb C (hJ.2.2.1 k _ hq).2.2.2.2 g_2 rfl dJ1_charAt_3b067_8 ?_
  refine kv_sipush C 255 dJ1_charAt_3b067_9 (by decide) ?_
  refine kv_iand C dJ1_charAt_3b067_12 ?_
  refine kv_i2c C dJ1_charAt_3b067_13 ?_
  obtain ⟨g_3, h⟩ := onc_e h
  cases h
  exact hret _ _ dJ1_charAt_3b067_14 (congrArg _ g_3)
def m_J0_charAt_5068e (b : List Int32) (p0 : Int32) : Option (Int32) := ob (m_J1_charAt_3b067 b p0) fun r_4 => onc (r_4) (some r_4)
abbrev rm_J0_charAt_5068e : Room := { frames := 3, cells := 0, slots := 0, locals := 64 }
abbrev wy_J0_charAt_5068e : List Cond := .code yJ0_charAt_5068e cJ0_charAt_5068e 2 (some .char) :: gT
theorem cv_J0_charAt_5068e {R : Room} {s : State} {args : Array Value} {own : String} {index : Nat} {w0 : Cond} (hts : ∀ w ∈ w0 :: gT, w.before args s = true) (hl : Cond.methodLink own index yJ0_charAt_5068e ∈ gT) (hR : 3 + 1 ≤ R.frames ∧ 8 + (2 + 11) + 64 ≤ R.locals) : CallW R s args own RJ0 index yJ0_charAt_5068e cJ0_charAt_5068e 2 (some .char) wy_J0_charAt_5068e rm_J0_charAt_5068e 0 0 1 :=
  cwV 1 hts (gT_call w0 (pre := [.methodLink own index yJ0_charAt_5068e, .instanceMethod yJ0_charAt_5068e, .selects RJ0 yJ0_charAt_5068e yJ0_charAt_5068e, .initialized RJ0]) (gT_lc hl (gT_lc ly_yJ0_charAt_5068e (gT_lc lx_yJ0_charAt_5068e (gT_l1 li_RJ0)))) lc_yJ0_charAt_5068e) rfl rfl rfl (by decide +kernel) hR
set_option maxRecDepth 100000 in
set_option maxHeartbeats 4000000 in
theorem c_J0_charAt_5068e (l : Launch) (D : va_G) (tq : Nat → Nat) (k : Nat) (o : String) (en : Nat) (tx : String) (b : List Int32) (hq : skT[k]? = some (o, en, tx, b)) (p0 : Int32) (rv : Int32) (hm : m_J0_charAt_5068e b p0 = some rv) : kEi l yJ0_charAt_5068e wy_J0_charAt_5068e rm_J0_charAt_5068e D [] tq rv [] [] [.ref (tq (8 + k)), .int p0] := by
  refine kEi.ofN cJ0_charAt_5068e 2 .char (by decide +kernel) rfl (Nat.le_of_ble_eq_true rfl) ?_
  intro p e s m below meth c A Q C hJ hret
  unfold m_J0_charAt_5068e at hm
  have h := hm
  refine kv_lv [0, 1] (lv2 := [(0, .ref ((tq (8 + k)))), (1, .int p0)]) rfl ?_
  refine kv_aload_n C 0 dJ0_charAt_5068e_0 rfl rfl ?_
  refine kv_eO0i C hJ [] (c_J0_isLatin1_aae02 l D tq k o en tx b hq  1 rfl) (cv_J0_isLatin1_aae02 C.ts lm_RJ0_492 ⟨Nat.le_of_ble_eq_true rfl, Nat.le_of_ble_eq_true rfl⟩) (hJ.2.2.1 k _ hq).2.1 rfl rfl (Nat.le_of_ble_eq_true rfl) dJ0_charAt_5068e_1 ⟨Nat.zero_le _, Nat.zero_le _⟩ ?_
  refine kv_if_eq C 16 dJ0_charAt_5068e_4 (by decide) (fun c_3 => absurd c_3 (by decide)) (fun _ => ?_)
  refine kv_aload_n C 0 dJ0_charAt_5068e_7 rfl rfl ?_
  refine kv_getO C (hJ.2.2.1 k _ hq).2.2.2.1 (C.ts _ (List.mem_cons_of_mem _ lf_RJ0_9)) rfl dJ0_charAt_5068e_8 ?_
  refine kv_iload_n C 1 dJ0_charAt_5068e_11 rfl rfl ?_
  obtain ⟨r_4, hm_5, h⟩ := ob_e h
  refine kv_eS0i C hJ [.ref ((tq (13 + k))), .int p0] (c_J1_charAt_3b067 l D tq k o en tx b hq p0 r_4 hm_5) (cs_J1_charAt_3b067 C.ts lm_RJ0_495 ⟨Nat.le_of_ble_eq_true rfl, Nat.le_of_ble_eq_true rfl⟩) rfl rfl (Nat.le_of_ble_eq_true rfl) dJ0_charAt_5068e_12 ⟨Nat.zero_le _, Nat.zero_le _⟩ ?_
  obtain ⟨g_6, h⟩ := onc_e h
  cases h
  exact hret _ _ dJ0_charAt_5068e_15 (congrArg _ g_6)
def m_J1_canEncode_9a6ad_b16 (t0 : Int32) : Option (Int32) := obl (t0) (some t0)
def m_J1_canEncode_9a6ad_b15 : Option (Int32) := m_J1_canEncode_9a6ad_b16 0
def m_J1_canEncode_9a6ad (p0 : Int32) : Option (Int32) := if p0 < 0 then m_J1_canEncode_9a6ad_b15 else if 255 < p0 then m_J1_canEncode_9a6ad_b15 else m_J1_canEncode_9a6ad_b16 1
abbrev rm_J1_canEncode_9a6ad : Room := { frames := 0, cells := 0, slots := 0, locals := 0 }
abbrev wy_J1_canEncode_9a6ad : List Cond := .code yJ1_canEncode_9a6ad cJ1_canEncode_9a6ad 1 (some .boolean) :: gT
theorem cs_J1_canEncode_9a6ad {R : Room} {s : State} {args : Array Value} {own : String} {index : Nat} {w0 : Cond} (hts : ∀ w ∈ w0 :: gT, w.before args s = true) (hl : Cond.methodLink own index yJ1_canEncode_9a6ad ∈ gT) (hR : 0 + 1 ≤ R.frames ∧ 8 + (1 + 11) + 0 ≤ R.locals) : CallB R s args own index yJ1_canEncode_9a6ad cJ1_canEncode_9a6ad 1 (some .boolean) wy_J1_canEncode_9a6ad rm_J1_canEncode_9a6ad 0 0 1 ∧ (Cond.static yJ1_canEncode_9a6ad).before args s = true :=
  va_cwS 1 hts (gT_call w0 (pre := [.methodLink own index yJ1_canEncode_9a6ad, .static yJ1_canEncode_9a6ad, .initialized yJ1_canEncode_9a6ad.cls]) (gT_lc hl (gT_lc ls_yJ1_canEncode_9a6ad (gT_l1 li_RJ1))) lc_yJ1_canEncode_9a6ad) rfl rfl rfl (by decide +kernel) hR
set_option maxRecDepth 100000 in
set_option maxHeartbeats 4000000 in
theorem c_J1_canEncode_9a6ad (l : Launch) (D : va_G) (p0 : Int32) (rv : Int32) (hm : m_J1_canEncode_9a6ad p0 = some rv) : kDi l yJ1_canEncode_9a6ad wy_J1_canEncode_9a6ad rm_J1_canEncode_9a6ad D [] rv [] [] [.int p0] := by
  refine kDi.ofF cJ1_canEncode_9a6ad 1 (some .boolean) (by decide +kernel) rfl (Or.inr rfl) (Nat.le_of_ble_eq_true rfl) ?_
  intro p e s m below meth c A Q C hret
  have j16 : ∀ (t0 : Int32), m_J1_canEncode_9a6ad_b16   t0 = some rv → kv p l e rm_J1_canEncode_9a6ad s m ([.int p0] : List Value).toArray below meth c D A 1 0 0 Q [] [] 16 [.int t0] := by
    intro t0 h
    unfold m_J1_canEncode_9a6ad_b16 at h
    obtain ⟨g_1, h⟩ := obl_e h
    cases h
    exact hret _ _ dJ1_canEncode_9a6ad_16 (fun _ => g_1)
  have j15 : m_J1_canEncode_9a6ad_b15    = some rv → kv p l e rm_J1_canEncode_9a6ad s m ([.int p0] : List Value).toArray below meth c D A 1 0 0 Q [] [] 15 [] := by
    intro  h
    unfold m_J1_canEncode_9a6ad_b15 at h
    refine kv_iconst C 0 dJ1_canEncode_9a6ad_15 (by decide) ?_
    exact kv_lv [] (lv2 := []) rfl (j16 0 h)
  unfold m_J1_canEncode_9a6ad at hm
  have h := hm
  refine kv_lv [0] (lv2 := [(0, .int p0)]) rfl ?_
  refine kv_iload_n C 0 dJ1_canEncode_9a6ad_0 rfl rfl ?_
  refine kv_if_lt C 15 dJ1_canEncode_9a6ad_1 (by decide) (fun c_2 => ?_) (fun c_2 => ?_)
  · have h := oi_t h c_2
    exact kv_lv [] (lv2 := []) rfl (j15  h)
  · have h := oi_f h c_2
    refine kv_iload_n C 0 dJ1_canEncode_9a6ad_4 rfl rfl ?_
    refine kv_sipush C 255 dJ1_canEncode_9a6ad_5 (by decide) ?_
    refine kv_icmp_gt C 15 dJ1_canEncode_9a6ad_8 (by decide) (fun c_3 => ?_) (fun c_3 => ?_)
    · have h := oi_t h c_3
      exact kv_lv [] (lv2 := []) rfl (j15  h)
    · have h := oi_f h c_3
      refine kv_iconst C 1 dJ1_canEncode_9a6ad_11 (by decide) ?_
      refine kv_goto C 16 dJ1_canEncode_9a6ad_12 (by decide) ?_
      exact kv_lv [] (lv2 := []) rfl (j16 1 h)
def m_J1_indexOfChar_4cfef_b7 (k7 : Int32 → Int32 → Int32 → Option (Int32)) (b : List Int32) (x3 : Int32) (x4 : Int32) (x5 : Int32) : Option (Int32) := if x3 ≤ x5 then some (-1) else oin (x5) b.length (if (b.getD (x5.toNatClampNeg) 0) = x4 then some x5 else ol (x5 + 1) fun x5_4 => k7 x3 x4 x5_4)
def m_J1_indexOfChar_4cfef_l7 (b : List Int32) (n : Nat) : Int32 → Int32 → Int32 → Option (Int32) := fz (fun _ _ _ => none) (fun k7 x3 x4 x5 => m_J1_indexOfChar_4cfef_b7 k7 b x3 x4 x5) n
def m_J1_indexOfChar_4cfef (b : List Int32) (p1 : Int32) (p2 : Int32) (p3 : Int32) : Option (Int32) := ol (p1.toInt8.toInt32) fun x4_5 => m_J1_indexOfChar_4cfef_l7 b kF p3 x4_5 p2
abbrev rm_J1_indexOfChar_4cfef : Room := { frames := 0, cells := 0, slots := 0, locals := 0 }
abbrev wy_J1_indexOfChar_4cfef : List Cond := .code yJ1_indexOfChar_4cfef cJ1_indexOfChar_4cfef 6 (some .int) :: gT
theorem cs_J1_indexOfChar_4cfef {R : Room} {s : State} {args : Array Value} {own : String} {index : Nat} {w0 : Cond} (hts : ∀ w ∈ w0 :: gT, w.before args s = true) (hl : Cond.methodLink own index yJ1_indexOfChar_4cfef ∈ gT) (hR : 0 + 1 ≤ R.frames ∧ 8 + (6 + 11) + 0 ≤ R.locals) : CallB R s args own index yJ1_indexOfChar_4cfef cJ1_indexOfChar_4cfef 6 (some .int) wy_J1_indexOfChar_4cfef rm_J1_indexOfChar_4cfef 0 0 4 ∧ (Cond.static yJ1_indexOfChar_4cfef).before args s = true :=
  va_cwS 4 hts (gT_call w0 (pre := [.methodLink own index yJ1_indexOfChar_4cfef, .static yJ1_indexOfChar_4cfef, .initialized yJ1_indexOfChar_4cfef.cls]) (gT_lc hl (gT_lc ls_yJ1_indexOfChar_4cfef (gT_l1 li_RJ1))) lc_yJ1_indexOfChar_4cfef) rfl rfl rfl (by decide +kernel) hR
set_option maxRecDepth 100000 in
set_option maxHeartbeats 4000000 in
theorem c_J1_indexOfChar_4cfef (l : Launch) (D : va_G) (tq : Nat → Nat) (k : Nat) (o : String) (en : Nat) (tx : String) (b : List Int32) (hq : skT[k]? = some (o, en, tx, b)) (p1 : Int32) (p2 : Int32) (p3 : Int32) (rv : Int32) (hm : m_J1_indexOfChar_4cfef b p1 p2 p3 = some rv) : kEi l yJ1_indexOfChar_4cfef wy_J1_indexOfChar_4cfef rm_J1_indexOfChar_4cfef D [] tq rv [] [] [.ref (tq (13 + k)), .int p1, .int p2, .int p3] := by
  refine kEi.ofN cJ1_indexOfChar_4cfef 6 .int (by decide +kernel) rfl (Nat.le_of_ble_eq_true rfl) ?_
  intro p e s m below meth c A Q C hJ hret
  have l7 : ∀ (n7 : Nat) (x3 : Int32) (x4 : Int32) (x5 : Int32), m_J1_indexOfChar_4cfef_l7  b n7 x3 x4 x5 = some rv → kv p l e rm_J1_indexOfChar_4cfef s m ([.ref (tq (13 + k)), .int p1, .int p2, .int p3] : List Value).toArray below meth c D A 6 0 0 Q [] [(0, .ref ((tq (13 + k)))), (3, .int x3), (4, .int x4), (5, .int x5)] 7 [] := by
    intro n7
    induction n7 with
    | zero =>
      intro x3 x4 x5 h
      exact kv_no h
    | succ n7 ih7 =>
      intro x3 x4 x5 h
      replace h : m_J1_indexOfChar_4cfef_b7  (m_J1_indexOfChar_4cfef_l7  b n7) b x3 x4 x5 = some rv := h
      unfold m_J1_indexOfChar_4cfef_b7 at h
      refine kv_iload C 3 dJ1_indexOfChar_4cfef_7 rfl ?_
      refine kv_iload_n C 1 dJ1_indexOfChar_4cfef_9 rfl rfl ?_
      refine kv_icmp_ge C 31 dJ1_indexOfChar_4cfef_10 (by decide) (fun c_1 => ?_) (fun c_1 => ?_)
      · have h := oi_t h c_1
        refine kv_iconst C (-1) dJ1_indexOfChar_4cfef_31 (by decide) ?_
        cases h
        exact hret _ _ dJ1_indexOfChar_4cfef_32 rfl
      · have h := oi_f h c_1
        refine kv_aload_n C 0 dJ1_indexOfChar_4cfef_13 rfl rfl ?_
        refine kv_iload C 3 dJ1_indexOfChar_4cfef_14 rfl ?_
        obtain ⟨g_2, h⟩ := oin_e h
        refine kv_tb C (hJ.2.2.1 k _ hq).2.2.2.2 g_2 rfl dJ1_indexOfChar_4cfef_16 ?_
        refine kv_iload C 2 dJ1_indexOfChar_4cfef_17 rfl ?_
        refine kv_icmp_ne C 25 dJ1_indexOfChar_4cfef_19 (by decide) (fun c_3 => ?_) (fun c_3 => ?_)
        · have h := oi_f h c_3
          obtain ⟨x5_4, ex5_4, h⟩ := ol_e h
          refine kv_iinc C (v := x5_4) (lv2 := [(0, .ref ((tq (13 + k)))), (3, .int x3), (4, .int x4), (5, .int x5_4)]) 3 [1, 2, 3, 0] dJ1_indexOfChar_4cfef_25 rfl ex5_4.symm (by decide) rfl rfl ?_
          refine kv_goto C 7 dJ1_indexOfChar_4cfef_28 (by decide) ?_
          exact kv_lv [0, 1, 2, 3] (lv2 := [(0, .ref ((tq (13 + k)))), (3, .int x3), (4, .int x4), (5, .int x5_4)]) rfl (ih7 x3 x4 x5_4 h)
        · have h := oi_t h c_3
          refine kv_iload C 3 dJ1_indexOfChar_4cfef_22 rfl ?_
          cases h
          exact hret _ _ dJ1_indexOfChar_4cfef_24 rfl
  unfold m_J1_indexOfChar_4cfef at hm
  have h := hm
  refine kv_lv [0, 1, 2, 3] (lv2 := [(0, .ref ((tq (13 + k)))), (1, .int p1), (2, .int p2), (3, .int p3)]) rfl ?_
  refine kv_iload_n C 1 dJ1_indexOfChar_4cfef_0 rfl rfl ?_
  refine kv_i2b C dJ1_indexOfChar_4cfef_1 ?_
  obtain ⟨x4_5, ex4_5, h⟩ := ol_e h
  refine kv_top ex4_5 ?_
  refine kv_istore C (lv2 := [(0, .ref ((tq (13 + k)))), (2, .int p2), (3, .int p3), (4, .int x4_5)]) [1, 3, 4, 0] dJ1_indexOfChar_4cfef_2 (by decide) rfl rfl ?_
  refine kv_iload_n C 1 dJ1_indexOfChar_4cfef_4 rfl rfl ?_
  refine kv_istore C (lv2 := [(0, .ref ((tq (13 + k)))), (3, .int p3), (4, .int x4_5), (5, .int p2)]) [1, 3, 4, 0] dJ1_indexOfChar_4cfef_5 (by decide) rfl rfl ?_
  exact kv_lv [0, 1, 2, 3] (lv2 := [(0, .ref ((tq (13 + k)))), (3, .int p3), (4, .int x4_5), (5, .int p2)]) rfl (l7 kF p3 x4_5 p2 h)
def m_J1_indexOf_4cfef (b : List Int32) (p1 : Int32) (p2 : Int32) (p3 : Int32) : Option (Int32) := ob (m_J1_canEncode_9a6ad p1) fun r_1 => if r_1 = 0 then some (-1) else ob (m_J9_max_7cf53 p2 0) fun r_4 => ob (m_J9_min_7cf53 p3 (nI b.length)) fun r_6 => if r_4 < r_6 then ob (m_J1_indexOfChar_4cfef b p1 r_4 r_6) fun r_9 => some r_9 else some (-1)
abbrev rm_J1_indexOf_4cfef : Room := { frames := 1, cells := 0, slots := 0, locals := 25 }
abbrev wy_J1_indexOf_4cfef : List Cond := .code yJ1_indexOf_4cfef cJ1_indexOf_4cfef 4 (some .int) :: gT
theorem cs_J1_indexOf_4cfef {R : Room} {s : State} {args : Array Value} {own : String} {index : Nat} {w0 : Cond} (hts : ∀ w ∈ w0 :: gT, w.before args s = true) (hl : Cond.methodLink own index yJ1_indexOf_4cfef ∈ gT) (hR : 1 + 1 ≤ R.frames ∧ 8 + (4 + 11) + 25 ≤ R.locals) : CallB R s args own index yJ1_indexOf_4cfef cJ1_indexOf_4cfef 4 (some .int) wy_J1_indexOf_4cfef rm_J1_indexOf_4cfef 0 0 4 ∧ (Cond.static yJ1_indexOf_4cfef).before args s = true :=
  va_cwS 4 hts (gT_call w0 (pre := [.methodLink own index yJ1_indexOf_4cfef, .static yJ1_indexOf_4cfef, .initialized yJ1_indexOf_4cfef.cls]) (gT_lc hl (gT_lc ls_yJ1_indexOf_4cfef (gT_l1 li_RJ1))) lc_yJ1_indexOf_4cfef) rfl rfl rfl (by decide +kernel) hR
set_option maxRecDepth 100000 in
set_option maxHeartbeats 4000000 in
theorem c_J1_indexOf_4cfef (l : Launch) (D : va_G) (tq : Nat → Nat) (k : Nat) (o : String) (en : Nat) (tx : String) (b : List Int32) (hq : skT[k]? = some (o, en, tx, b)) (p1 : Int32) (p2 : Int32) (p3 : Int32) (rv : Int32) (hm : m_J1_indexOf_4cfef b p1 p2 p3 = some rv) : kEi l yJ1_indexOf_4cfef wy_J1_indexOf_4cfef rm_J1_indexOf_4cfef D [] tq rv [] [] [.ref (tq (13 + k)), .int p1, .int p2, .int p3] := by
  refine kEi.ofN cJ1_indexOf_4cfef 4 .int (by decide +kernel) rfl (Nat.le_of_ble_eq_true rfl) ?_
  intro p e s m below meth c A Q C hJ hret
  unfold m_J1_indexOf_4cfef at hm
  have h := hm
  refine kv_lv [0, 1, 2, 3] (lv2 := [(0, .ref ((tq (13 + k)))), (1, .int p1), (2, .int p2), (3, .int p3)]) rfl ?_
  refine kv_iload_n C 1 dJ1_indexOf_4cfef_0 rfl rfl ?_
  obtain ⟨r_1, hm_2, h⟩ := ob_e h
  refine kv_callS0i C [.int p1] (c_J1_canEncode_9a6ad l D p1 r_1 hm_2) (cs_J1_canEncode_9a6ad C.ts lm_RJ1_88 ⟨Nat.le_of_ble_eq_true rfl, Nat.le_of_ble_eq_true rfl⟩) rfl rfl (Nat.le_of_ble_eq_true rfl) dJ1_indexOf_4cfef_1 ⟨Nat.zero_le _, Nat.zero_le _⟩ ?_
  refine kv_if_ne C 9 dJ1_indexOf_4cfef_4 (by decide) (fun c_3 => ?_) (fun c_3 => ?_)
  · have h := oi_f h c_3
    refine kv_iload_n C 2 dJ1_indexOf_4cfef_9 rfl rfl ?_
    refine kv_iconst C 0 dJ1_indexOf_4cfef_10 (by decide) ?_
    obtain ⟨r_4, hm_5, h⟩ := ob_e h
    refine kv_callS0i C [.int p2, .int 0] (c_J9_max_7cf53 l D p2 0 r_4 hm_5) (cs_J9_max_7cf53 C.ts lm_RJ1_92 ⟨Nat.le_of_ble_eq_true rfl, Nat.le_of_ble_eq_true rfl⟩) rfl rfl (Nat.le_of_ble_eq_true rfl) dJ1_indexOf_4cfef_11 ⟨Nat.zero_le _, Nat.zero_le _⟩ ?_
    refine kv_istore_n C (lv2 := [(0, .ref ((tq (13 + k)))), (1, .int p1), (2, .int r_4), (3, .int p3)]) [1, 2, 0, 3] dJ1_indexOf_4cfef_14 rfl (by decide) rfl rfl ?_
    refine kv_iload_n C 3 dJ1_indexOf_4cfef_15 rfl rfl ?_
    refine kv_aload_n C 0 dJ1_indexOf_4cfef_16 rfl rfl ?_
    refine kv_tlen C (hJ.2.2.1 k _ hq).2.2.2.2 (v := nI b.length) rfl dJ1_indexOf_4cfef_17 ?_
    obtain ⟨r_6, hm_7, h⟩ := ob_e h
    refine kv_callS0i C [.int p3, .int (nI b.length)] (c_J9_min_7cf53 l D p3 (nI b.length) r_6 hm_7) (cs_J9_min_7cf53 C.ts lm_RJ1_38 ⟨Nat.le_of_ble_eq_true rfl, Nat.le_of_ble_eq_true rfl⟩) rfl rfl (Nat.le_of_ble_eq_true rfl) dJ1_indexOf_4cfef_18 ⟨Nat.zero_le _, Nat.zero_le _⟩ ?_
    refine kv_istore_n C (lv2 := [(0, .ref ((tq (13 + k)))), (1, .int p1), (2, .int r_4), (3, .int r_6)]) [1, 2, 3, 0] dJ1_indexOf_4cfef_21 rfl (by decide) rfl rfl ?_
    refine kv_iload_n C 2 dJ1_indexOf_4cfef_22 rfl rfl ?_
    refine kv_iload_n C 3 dJ1_indexOf_4cfef_23 rfl rfl ?_
    refine kv_icmp_lt C 29 dJ1_indexOf_4cfef_24 (by decide) (fun c_8 => ?_) (fun c_8 => ?_)
    · have h := oi_t h c_8
      refine kv_aload_n C 0 dJ1_indexOf_4cfef_29 rfl rfl ?_
      refine kv_iload_n C 1 dJ1_indexOf_4cfef_30 rfl rfl ?_
      refine kv_iload_n C 2 dJ1_indexOf_4cfef_31 rfl rfl ?_
      refine kv_iload_n C 3 dJ1_indexOf_4cfef_32 rfl rfl ?_
      obtain ⟨r_9, hm_10, h⟩ := ob_e h
      refine kv_eS0i C hJ [.ref ((tq (13 + k))), .int p1, .int r_4, .int r_6] (c_J1_indexOfChar_4cfef l D tq k o en tx b hq p1 r_4 r_6 r_9 hm_10) (cs_J1_indexOfChar_4cfef C.ts lm_RJ1_95 ⟨Nat.le_of_ble_eq_true rfl, Nat.le_of_ble_eq_true rfl⟩) rfl rfl (Nat.le_of_ble_eq_true rfl) dJ1_indexOf_4cfef_33 ⟨Nat.zero_le _, Nat.zero_le _⟩ ?_
      cases h
      exact hret _ _ dJ1_indexOf_4cfef_36 rfl
    · have h := oi_f h c_8
      refine kv_iconst C (-1) dJ1_indexOf_4cfef_27 (by decide) ?_
      cases h
      exact hret _ _ dJ1_indexOf_4cfef_28 rfl
  · have h := oi_t h c_3
    refine kv_iconst C (-1) dJ1_indexOf_4cfef_7 (by decide) ?_
    cases h
    exact hret _ _ dJ1_indexOf_4cfef_8 rfl
def m_J0_indexOf_7cf53_b36 (b : List Int32) (t0 : Int32) : Option (Int32) := some t0
def m_J0_indexOf_7cf53 (b : List Int32) (p0 : Int32) (p1 : Int32) : Option (Int32) := ob (m_J0_length_8abf5 b ) fun r_4 => ob (m_J1_indexOf_4cfef b p0 p1 r_4) fun r_6 => m_J0_indexOf_7cf53_b36 b r_6
abbrev rm_J0_indexOf_7cf53 : Room := { frames := 2, cells := 0, slots := 0, locals := 48 }
abbrev wy_J0_indexOf_7cf53 : List Cond := .code yJ0_indexOf_7cf53 cJ0_indexOf_7cf53 3 (some .int) :: gT
theorem cv_J0_indexOf_7cf53 {R : Room} {s : State} {args : Array Value} {own : String} {index : Nat} {w0 : Cond} (hts : ∀ w ∈ w0 :: gT, w.before args s = true) (hl : Cond.methodLink own index yJ0_indexOf_7cf53 ∈ gT) (hR : 2 + 1 ≤ R.frames ∧ 8 + (3 + 11) + 48 ≤ R.locals) : CallW R s args own RJ0 index yJ0_indexOf_7cf53 cJ0_indexOf_7cf53 3 (some .int) wy_J0_indexOf_7cf53 rm_J0_indexOf_7cf53 0 0 2 :=
  cwV 2 hts (gT_call w0 (pre := [.methodLink own index yJ0_indexOf_7cf53, .instanceMethod yJ0_indexOf_7cf53, .selects RJ0 yJ0_indexOf_7cf53 yJ0_indexOf_7cf53, .initialized RJ0]) (gT_lc hl (gT_lc ly_yJ0_indexOf_7cf53 (gT_lc lx_yJ0_indexOf_7cf53 (gT_l1 li_RJ0)))) lc_yJ0_indexOf_7cf53) rfl rfl rfl (by decide +kernel) hR
set_option maxRecDepth 100000 in
set_option maxHeartbeats 4000000 in
theorem c_J0_indexOf_7cf53 (l : Launch) (D : va_G) (tq : Nat → Nat) (k : Nat) (o : String) (en : Nat) (tx : String) (b : List Int32) (hq : skT[k]? = some (o, en, tx, b)) (p0 : Int32) (p1 : Int32) (rv : Int32) (hm : m_J0_indexOf_7cf53 b p0 p1 = some rv) : kEi l yJ0_indexOf_7cf53 wy_J0_indexOf_7cf53 rm_J0_indexOf_7cf53 D [] tq rv [] [] [.ref (tq (8 + k)), .int p0, .int p1] := by
  refine kEi.ofN cJ0_indexOf_7cf53 3 .int (by decide +kernel) rfl (Nat.le_of_ble_eq_true rfl) ?_
  intro p e s m below meth c A Q C hJ hret
  have j36 : ∀ (t0 : Int32), m_J0_indexOf_7cf53_b36  b t0 = some rv → kv p l e rm_J0_indexOf_7cf53 s m ([.ref (tq (8 + k)), .int p0, .int p1] : List Value).toArray below meth c D A 3 0 0 Q [] [] 36 [.int t0] := by
    intro t0 h
    unfold m_J0_indexOf_7cf53_b36 at h
    cases h
    exact hret _ _ dJ0_indexOf_7cf53_36 rfl
  unfold m_J0_indexOf_7cf53 at hm
  have h := hm
  refine kv_lv [0, 1, 2] (lv2 := [(0, .ref ((tq (8 + k)))), (1, .int p0), (2, .int p1)]) rfl ?_
  refine kv_aload_n C 0 dJ0_indexOf_7cf53_0 rfl rfl ?_
  refine kv_eO0i C hJ [] (c_J0_isLatin1_aae02 l D tq k o en tx b hq  1 rfl) (cv_J0_isLatin1_aae02 C.ts lm_RJ0_492 ⟨Nat.le_of_ble_eq_true rfl, Nat.le_of_ble_eq_true rfl⟩) (hJ.2.2.1 k _ hq).2.1 rfl rfl (Nat.le_of_ble_eq_true rfl) dJ0_indexOf_7cf53_1 ⟨Nat.zero_le _, Nat.zero_le _⟩ ?_
  refine kv_if_eq C 23 dJ0_indexOf_7cf53_4 (by decide) (fun c_3 => absurd c_3 (by decide)) (fun _ => ?_)
  refine kv_aload_n C 0 dJ0_indexOf_7cf53_7 rfl rfl ?_
  refine kv_getO C (hJ.2.2.1 k _ hq).2.2.2.1 (C.ts _ (List.mem_cons_of_mem _ lf_RJ0_9)) rfl dJ0_indexOf_7cf53_8 ?_
  refine kv_iload_n C 1 dJ0_indexOf_7cf53_11 rfl rfl ?_
  refine kv_iload_n C 2 dJ0_indexOf_7cf53_12 rfl rfl ?_
  refine kv_aload_n C 0 dJ0_indexOf_7cf53_13 rfl rfl ?_
  obtain ⟨r_4, hm_5, h⟩ := ob_e h
  refine kv_eO0i C hJ [] (c_J0_length_8abf5 l D tq k o en tx b hq  r_4 hm_5) (cv_J0_length_8abf5 C.ts lm_RJ0_505 ⟨Nat.le_of_ble_eq_true rfl, Nat.le_of_ble_eq_true rfl⟩) (hJ.2.2.1 k _ hq).2.1 rfl rfl (Nat.le_of_ble_eq_true rfl) dJ0_indexOf_7cf53_14 ⟨Nat.zero_le _, Nat.zero_le _⟩ ?_
  obtain ⟨r_6, hm_7, h⟩ := ob_e h
  refine kv_eS0i C hJ [.ref ((tq (13 + k))), .int p0, .int p1, .int r_4] (c_J1_indexOf_4cfef l D tq k o en tx b hq p0 p1 r_4 r_6 hm_7) (cs_J1_indexOf_4cfef C.ts lm_RJ0_637 ⟨Nat.le_of_ble_eq_true rfl, Nat.le_of_ble_eq_true rfl⟩) rfl rfl (Nat.le_of_ble_eq_true rfl) dJ0_indexOf_7cf53_17 ⟨Nat.zero_le _, Nat.zero_le _⟩ ?_
  refine kv_goto C 36 dJ0_indexOf_7cf53_20 (by decide) ?_
  exact kv_lv [] (lv2 := []) rfl (j36 r_6 h)
def m_J0_indexOf_0f7a4 (b : List Int32) (p0 : Int32) : Option (Int32) := ob (m_J0_indexOf_7cf53 b p0 0) fun r_1 => some r_1
abbrev rm_J0_indexOf_0f7a4 : Room := { frames := 3, cells := 0, slots := 0, locals := 70 }
abbrev wy_J0_indexOf_0f7a4 : List Cond := .code yJ0_indexOf_0f7a4 cJ0_indexOf_0f7a4 2 (some .int) :: gT
theorem cv_J0_indexOf_0f7a4 {R : Room} {s : State} {args : Array Value} {own : String} {index : Nat} {w0 : Cond} (hts : ∀ w ∈ w0 :: gT, w.before args s = true) (hl : Cond.methodLink own index yJ0_indexOf_0f7a4 ∈ gT) (hR : 3 + 1 ≤ R.frames ∧ 8 + (2 + 11) + 70 ≤ R.locals) : CallW R s args own RJ0 index yJ0_indexOf_0f7a4 cJ0_indexOf_0f7a4 2 (some .int) wy_J0_indexOf_0f7a4 rm_J0_indexOf_0f7a4 0 0 1 :=
  cwV 1 hts (gT_call w0 (pre := [.methodLink own index yJ0_indexOf_0f7a4, .instanceMethod yJ0_indexOf_0f7a4, .selects RJ0 yJ0_indexOf_0f7a4 yJ0_indexOf_0f7a4, .initialized RJ0]) (gT_lc hl (gT_lc ly_yJ0_indexOf_0f7a4 (gT_lc lx_yJ0_indexOf_0f7a4 (gT_l1 li_RJ0)))) lc_yJ0_indexOf_0f7a4) rfl rfl rfl (by decide +kernel) hR
set_option maxRecDepth 100000 in
set_option maxHeartbeats 4000000 in
theorem c_J0_indexOf_0f7a4 (l : Launch) (D : va_G) (tq : Nat → Nat) (k : Nat) (o : String) (en : Nat) (tx : String) (b : List Int32) (hq : skT[k]? = some (o, en, tx, b)) (p0 : Int32) (rv : Int32) (hm : m_J0_indexOf_0f7a4 b p0 = some rv) : kEi l yJ0_indexOf_0f7a4 wy_J0_indexOf_0f7a4 rm_J0_indexOf_0f7a4 D [] tq rv [] [] [.ref (tq (8 + k)), .int p0] := by
  refine kEi.ofN cJ0_indexOf_0f7a4 2 .int (by decide +kernel) rfl (Nat.le_of_ble_eq_true rfl) ?_
  intro p e s m below meth c A Q C hJ hret
  unfold m_J0_indexOf_0f7a4 at hm
  have h := hm
  refine kv_lv [0, 1] (lv2 := [(0, .ref ((tq (8 + k)))), (1, .int p0)]) rfl ?_
  refine kv_aload_n C 0 dJ0_indexOf_0f7a4_0 rfl rfl ?_
  refine kv_iload_n C 1 dJ0_indexOf_0f7a4_1 rfl rfl ?_
  refine kv_iconst C 0 dJ0_indexOf_0f7a4_2 (by decide) ?_
  obtain ⟨r_1, hm_2, h⟩ := ob_e h
  refine kv_eO0i C hJ [.int p0, .int 0] (c_J0_indexOf_7cf53 l D tq k o en tx b hq p0 0 r_1 hm_2) (cv_J0_indexOf_7cf53 C.ts lm_RJ0_633 ⟨Nat.le_of_ble_eq_true rfl, Nat.le_of_ble_eq_true rfl⟩) (hJ.2.2.1 k _ hq).2.1 rfl rfl (Nat.le_of_ble_eq_true rfl) dJ0_indexOf_0f7a4_3 ⟨Nat.zero_le _, Nat.zero_le _⟩ ?_
  cases h
  exact hret _ _ dJ0_indexOf_0f7a4_6 rfl
