/-! The class: X3_rayFrom, X3_beside_23, X3_beside_01, X3_beside_46, X3_beside_56, X0_setUp -/
def m_X3_rayFrom_b64 (x2 : Int64) : Option (Int64) := some x2
def m_X3_rayFrom_b5 (k5 : Int32 → Int32 → Int64 → Int32 → Option (Int64)) (x0 : Int32) (x1 : Int32) (x2 : Int64) (x4 : Int32) : Option (Int64) := if 8 ≤ x4 then m_X3_rayFrom_b64 x2 else oin (x1) 8 (oin (x1) 8 (ob (m_X3_at ((x0 / 8) + (x4 * (([0, 1, 1, 1, 0, (-1), (-1), (-1)] : List Int32).getD (x1.toNatClampNeg) 0))) ((x0 - x0 / 8 * 8) + (x4 * (([1, 0, 1, (-1), (-1), 0, (-1), 1] : List Int32).getD (x1.toNatClampNeg) 0)))) fun r_4 => if (lg_cmp r_4 0) = 0 then m_X3_rayFrom_b64 x2 else ol (x2 ||| r_4) fun x2_7 => ol (x4 + 1) fun x4_8 => k5 x0 x1 x2_7 x4_8))
def m_X3_rayFrom_l5 (n : Nat) : Int32 → Int32 → Int64 → Int32 → Option (Int64) := fz (fun _ _ _ _ => none) (fun k5 x0 x1 x2 x4 => m_X3_rayFrom_b5 k5 x0 x1 x2 x4) n
def m_X3_rayFrom (p0 : Int32) (p1 : Int32) : Option (Int64) := m_X3_rayFrom_l5 kF p0 p1 0 1
abbrev rm_X3_rayFrom : Room := { frames := 1, cells := 0, slots := 0, locals := 22 }
abbrev wy_X3_rayFrom : List Cond := .code yX3_rayFrom cX3_rayFrom 7 (some .long) :: gT
theorem cs_X3_rayFrom {R : Room} {s : State} {args : Array Value} {own : String} {index : Nat} {w0 : Cond} (hts : ∀ w ∈ w0 :: gT, w.before args s = true) (hl : Cond.methodLink own index yX3_rayFrom ∈ gT) (hR : 1 + 1 ≤ R.frames ∧ 8 + (7 + 11) + 22 ≤ R.locals) : CallB R s args own index yX3_rayFrom cX3_rayFrom 7 (some .long) wy_X3_rayFrom rm_X3_rayFrom 0 0 2 ∧ (Cond.static yX3_rayFrom).before args s = true :=
  va_cwS 2 hts (gT_call w0 (pre := [.methodLink own index yX3_rayFrom, .static yX3_rayFrom, .initialized yX3_rayFrom.cls]) (gT_lc hl (gT_lc ls_yX3_rayFrom (gT_l1 li_RX3))) lc_yX3_rayFrom) rfl rfl rfl (by decide +kernel) hR
set_option maxRecDepth 100000 in
set_option maxHeartbeats 4000000 in
theorem c_X3_rayFrom (l : Launch) (D : va_G) (tq : Nat → Nat) (p0 : Int32) (p1 : Int32) (rv : Int64) (hm : m_X3_rayFrom p0 p1 = some rv) : kEl l yX3_rayFrom wy_X3_rayFrom rm_X3_rayFrom D [] tq rv [] [] [.int p0, .int p1] := by
  refine kEl.of cX3_rayFrom 7 (some .long) (by decide) rfl rfl (Nat.le_of_ble_eq_true rfl) ?_
  intro p e s m below meth c A Q C hJ hret
  have j64 : ∀ (x2 : Int64), m_X3_rayFrom_b64   x2 = some rv → kv p l e rm_X3_rayFrom s m ([.int p0, .int p1] : List Value).toArray below meth c D A 7 0 0 Q [] [(2, .long x2)] 64 [] := by
    intro x2 h
    unfold m_X3_rayFrom_b64 at h
    refine kv_lload_n C 0 dX3_rayFrom_64 rfl rfl ?_
    cases h
    exact hret _ _ dX3_rayFrom_65
  have l5 : ∀ (n5 : Nat) (x0 : Int32) (x1 : Int32) (x2 : Int64) (x4 : Int32), m_X3_rayFrom_l5   n5 x0 x1 x2 x4 = some rv → kv p l e rm_X3_rayFrom s m ([.int p0, .int p1] : List Value).toArray below meth c D A 7 0 0 Q [] [(0, .int x0), (1, .int x1), (2, .long x2), (4, .int x4)] 5 [] := by
    intro n5
    induction n5 with
    | zero =>
      intro x0 x1 x2 x4 h
      exact kv_no h
    | succ n5 ih5 =>
      intro x0 x1 x2 x4 h
      replace h : m_X3_rayFrom_b5  (m_X3_rayFrom_l5   n5)  x0 x1 x2 x4 = some rv := h
      unfold m_X3_rayFrom_b5 at h
      refine kv_iload C 3 dX3_rayFrom_5 rfl ?_
      refine kv_bipush C 8 dX3_rayFrom_7 (by decide) ?_
      refine kv_icmp_ge C 64 dX3_rayFrom_9 (by decide) (fun c_1 => ?_) (fun c_1 => ?_)
      · have h := oi_t h c_1
        exact kv_lv [2] (lv2 := [(2, .long x2)]) rfl (j64 x2 h)
      · have h := oi_f h c_1
        refine kv_iload_n C 0 dX3_rayFrom_12 rfl rfl ?_
        refine kv_bipush C 8 dX3_rayFrom_13 (by decide) ?_
        refine kv_idiv C dX3_rayFrom_15 (by decide) ?_
        refine kv_iload C 3 dX3_rayFrom_16 rfl ?_
        refine kv_gets C (hJ.2.1 0 _ rfl).1 (C.ts _ (List.mem_cons_of_mem _ lf_RX3_39)) rfl dX3_rayFrom_18 ?_
        refine kv_iload_n C 1 dX3_rayFrom_21 rfl rfl ?_
        obtain ⟨g_2, h⟩ := oin_e h
        refine kv_ti C (hJ.2.1 0 _ rfl).2 g_2 rfl dX3_rayFrom_22 ?_
        refine kv_imul C dX3_rayFrom_23 ?_
        refine kv_iadd C dX3_rayFrom_24 ?_
        refine kv_iload_n C 0 dX3_rayFrom_25 rfl rfl ?_
        refine kv_bipush C 8 dX3_rayFrom_26 (by decide) ?_
        refine kv_irem C dX3_rayFrom_28 (by decide) ?_
        refine kv_iload C 3 dX3_rayFrom_29 rfl ?_
        refine kv_gets C (hJ.2.1 1 _ rfl).1 (C.ts _ (List.mem_cons_of_mem _ lf_RX3_42)) rfl dX3_rayFrom_31 ?_
        refine kv_iload_n C 1 dX3_rayFrom_34 rfl rfl ?_
        obtain ⟨g_3, h⟩ := oin_e h
        refine kv_ti C (hJ.2.1 1 _ rfl).2 g_3 rfl dX3_rayFrom_35 ?_
        refine kv_imul C dX3_rayFrom_36 ?_
        refine kv_iadd C dX3_rayFrom_37 ?_
        obtain ⟨r_4, hm_5, h⟩ := ob_e h
        refine kv_callS0l C [.int ((x0 / 8) + (x4 * (([0, 1, 1, 1, 0, (-1), (-1), (-1)] : List Int32).getD (x1.toNatClampNeg) 0))), .int ((x0 - x0 / 8 * 8) + (x4 * (([1, 0, 1, (-1), (-1), 0, (-1), 1] : List Int32).getD (x1.toNatClampNeg) 0)))] (c_X3_at l D ((x0 / 8) + (x4 * (([0, 1, 1, 1, 0, (-1), (-1), (-1)] : List Int32).getD (x1.toNatClampNeg) 0))) ((x0 - x0 / 8 * 8) + (x4 * (([1, 0, 1, (-1), (-1), 0, (-1), 1] : List Int32).getD (x1.toNatClampNeg) 0))) r_4 hm_5) (cs_X3_at C.ts lm_RX3_54 ⟨Nat.le_of_ble_eq_true rfl, Nat.le_of_ble_eq_true rfl⟩) rfl rfl (Nat.le_of_ble_eq_true rfl) dX3_rayFrom_38 ⟨Nat.zero_le _, Nat.zero_le _⟩ ?_
        refine kv_lstore C (lv2 := [(0, .int x0), (1, .int x1), (2, .long x2), (4, .int x4), (5, .long r_4)]) [1, 2, 3, 4, 0] dX3_rayFrom_41 (by decide) rfl rfl ?_
        refine kv_lload C 4 dX3_rayFrom_43 rfl ?_
        refine kv_lconst C 0 dX3_rayFrom_45 (by decide) ?_
        refine kv_lcmp C dX3_rayFrom_46 ?_
        refine kv_if_ne C 53 dX3_rayFrom_47 (by decide) (fun c_6 => ?_) (fun c_6 => ?_)
        · have h := oi_f h c_6
          refine kv_lload_n C 2 dX3_rayFrom_53 rfl rfl ?_
          refine kv_lload C 4 dX3_rayFrom_54 rfl ?_
          refine kv_lor C dX3_rayFrom_56 ?_
          obtain ⟨x2_7, ex2_7, h⟩ := ol_e h
          refine kv_topl ex2_7 ?_
          refine kv_lstore_n C (lv2 := [(0, .int x0), (1, .int x1), (2, .long x2_7), (4, .int x4)]) [1, 2, 0, 3] dX3_rayFrom_57 rfl (by decide) rfl rfl ?_
          obtain ⟨x4_8, ex4_8, h⟩ := ol_e h
          refine kv_iinc C (v := x4_8) (lv2 := [(0, .int x0), (1, .int x1), (2, .long x2_7), (4, .int x4_8)]) 3 [1, 2, 3, 0] dX3_rayFrom_58 rfl ex4_8.symm (by decide) rfl rfl ?_
          refine kv_goto C 5 dX3_rayFrom_61 (by decide) ?_
          exact kv_lv [0, 1, 2, 3] (lv2 := [(0, .int x0), (1, .int x1), (2, .long x2_7), (4, .int x4_8)]) rfl (ih5 x0 x1 x2_7 x4_8 h)
        · have h := oi_t h c_6
          refine kv_goto C 64 dX3_rayFrom_50 (by decide) ?_
          exact kv_lv [2] (lv2 := [(2, .long x2)]) rfl (j64 x2 h)
  unfold m_X3_rayFrom at hm
  have h := hm
  refine kv_lv [0, 1] (lv2 := [(0, .int p0), (1, .int p1)]) rfl ?_
  refine kv_lconst C 0 dX3_rayFrom_0 (by decide) ?_
  refine kv_lstore_n C (lv2 := [(0, .int p0), (1, .int p1), (2, .long 0)]) [1, 2, 0] dX3_rayFrom_1 rfl (by decide) rfl rfl ?_
  refine kv_iconst C 1 dX3_rayFrom_2 (by decide) ?_
  refine kv_istore C (lv2 := [(0, .int p0), (1, .int p1), (2, .long 0), (4, .int 1)]) [1, 2, 3, 0] dX3_rayFrom_3 (by decide) rfl rfl ?_
  exact kv_lv [0, 1, 2, 3] (lv2 := [(0, .int p0), (1, .int p1), (2, .long 0), (4, .int 1)]) rfl (l5 kF p0 p1 0 1 h)
def m_X3_beside_23_b5 (k5 : Int32 → Int64 → Int32 → Option (Int64)) (x0 : Int32) (x3 : Int64) (x5 : Int32) : Option (Int64) := if 8 ≤ x5 then some x3 else oin (x5) 8 (oin (x5) 8 (ob (m_X3_at ((x0 / 8) + (([1, 2, 2, 1, (-1), (-2), (-2), (-1)] : List Int32).getD (x5.toNatClampNeg) 0)) ((x0 - x0 / 8 * 8) + (([2, 1, (-1), (-2), (-2), (-1), 1, 2] : List Int32).getD (x5.toNatClampNeg) 0))) fun r_4 => ol (x3 ||| r_4) fun x3_6 => ol (x5 + 1) fun x5_7 => k5 x0 x3_6 x5_7))
def m_X3_beside_23_l5 (n : Nat) : Int32 → Int64 → Int32 → Option (Int64) := fz (fun _ _ _ => none) (fun k5 x0 x3 x5 => m_X3_beside_23_b5 k5 x0 x3 x5) n
def m_X3_beside_23 (p0 : Int32) : Option (Int64) := m_X3_beside_23_l5 kF p0 0 0
abbrev rm_X3_beside_23 : Room := { frames := 1, cells := 0, slots := 0, locals := 22 }
abbrev wy_X3_beside_23 : List Cond := .code yX3_beside cX3_beside 6 (some .long) :: gT
theorem cs_X3_beside_23 {R : Room} {s : State} {args : Array Value} {own : String} {index : Nat} {w0 : Cond} (hts : ∀ w ∈ w0 :: gT, w.before args s = true) (hl : Cond.methodLink own index yX3_beside ∈ gT) (hR : 1 + 1 ≤ R.frames ∧ 8 + (6 + 11) + 22 ≤ R.locals) : CallB R s args own index yX3_beside cX3_beside 6 (some .long) wy_X3_beside_23 rm_X3_beside_23 0 0 3 ∧ (Cond.static yX3_beside).before args s = true :=
  va_cwS 3 hts (gT_call w0 (pre := [.methodLink own index yX3_beside, .static yX3_beside, .initialized yX3_beside.cls]) (gT_lc hl (gT_lc ls_yX3_beside (gT_l1 li_RX3))) lc_yX3_beside) rfl rfl rfl (by decide +kernel) hR
set_option maxRecDepth 100000 in
set_option maxHeartbeats 4000000 in
theorem c_X3_beside_23 (l : Launch) (D : va_G) (tq : Nat → Nat) (p0 : Int32) (rv : Int64) (hm : m_X3_beside_23 p0 = some rv) : kEl l yX3_beside wy_X3_beside_23 rm_X3_beside_23 D [] tq rv [] [] [.int p0, .ref (tq 2), .ref (tq 3)] := by
  refine kEl.of cX3_beside 6 (some .long) (by decide) rfl rfl (Nat.le_of_ble_eq_true rfl) ?_
  intro p e s m below meth c A Q C hJ hret
  have l5 : ∀ (n5 : Nat) (x0 : Int32) (x3 : Int64) (x5 : Int32), m_X3_beside_23_l5   n5 x0 x3 x5 = some rv → kv p l e rm_X3_beside_23 s m ([.int p0, .ref (tq 2), .ref (tq 3)] : List Value).toArray below meth c D A 6 0 0 Q [] [(0, .int x0), (1, .ref (tq 2)), (2, .ref (tq 3)), (3, .long x3), (5, .int x5)] 5 [] := by
    intro n5
    induction n5 with
    | zero =>
      intro x0 x3 x5 h
      exact kv_no h
    | succ n5 ih5 =>
      intro x0 x3 x5 h
      replace h : m_X3_beside_23_b5  (m_X3_beside_23_l5   n5)  x0 x3 x5 = some rv := h
      unfold m_X3_beside_23_b5 at h
      refine kv_iload C 4 dX3_beside_5 rfl ?_
      refine kv_aload_n C 1 dX3_beside_7 rfl rfl ?_
      refine kv_tlen C (hJ.2.1 2 _ rfl).2 (v := 8) rfl dX3_beside_8 ?_
      refine kv_icmp_ge C 42 dX3_beside_9 (by decide) (fun c_1 => ?_) (fun c_1 => ?_)
      · have h := oi_t h c_1
        refine kv_lload_n C 3 dX3_beside_42 rfl rfl ?_
        cases h
        exact hret _ _ dX3_beside_43
      · have h := oi_f h c_1
        refine kv_lload_n C 3 dX3_beside_12 rfl rfl ?_
        refine kv_iload_n C 0 dX3_beside_13 rfl rfl ?_
        refine kv_bipush C 8 dX3_beside_14 (by decide) ?_
        refine kv_idiv C dX3_beside_16 (by decide) ?_
        refine kv_aload_n C 1 dX3_beside_17 rfl rfl ?_
        refine kv_iload C 4 dX3_beside_18 rfl ?_
        obtain ⟨g_2, h⟩ := oin_e h
        refine kv_ti C (hJ.2.1 2 _ rfl).2 g_2 rfl dX3_beside_20 ?_
        refine kv_iadd C dX3_beside_21 ?_
        refine kv_iload_n C 0 dX3_beside_22 rfl rfl ?_
        refine kv_bipush C 8 dX3_beside_23 (by decide) ?_
        refine kv_irem C dX3_beside_25 (by decide) ?_
        refine kv_aload_n C 2 dX3_beside_26 rfl rfl ?_
        refine kv_iload C 4 dX3_beside_27 rfl ?_
        obtain ⟨g_3, h⟩ := oin_e h
        refine kv_ti C (hJ.2.1 3 _ rfl).2 g_3 rfl dX3_beside_29 ?_
        refine kv_iadd C dX3_beside_30 ?_
        obtain ⟨r_4, hm_5, h⟩ := ob_e h
        refine kv_callS0l C [.int ((x0 / 8) + (([1, 2, 2, 1, (-1), (-2), (-2), (-1)] : List Int32).getD (x5.toNatClampNeg) 0)), .int ((x0 - x0 / 8 * 8) + (([2, 1, (-1), (-2), (-2), (-1), 1, 2] : List Int32).getD (x5.toNatClampNeg) 0))] (c_X3_at l D ((x0 / 8) + (([1, 2, 2, 1, (-1), (-2), (-2), (-1)] : List Int32).getD (x5.toNatClampNeg) 0)) ((x0 - x0 / 8 * 8) + (([2, 1, (-1), (-2), (-2), (-1), 1, 2] : List Int32).getD (x5.toNatClampNeg) 0)) r_4 hm_5) (cs_X3_at C.ts lm_RX3_54 ⟨Nat.le_of_ble_eq_true rfl, Nat.le_of_ble_eq_true rfl⟩) rfl rfl (Nat.le_of_ble_eq_true rfl) dX3_beside_31 ⟨Nat.zero_le _, Nat.zero_le _⟩ ?_
        refine kv_lor C dX3_beside_34 ?_
        obtain ⟨x3_6, ex3_6, h⟩ := ol_e h
        refine kv_topl ex3_6 ?_
        refine kv_lstore_n C (lv2 := [(0, .int x0), (1, .ref (tq 2)), (2, .ref (tq 3)), (3, .long x3_6), (5, .int x5)]) [1, 2, 3, 0, 4] dX3_beside_35 rfl (by decide) rfl rfl ?_
        obtain ⟨x5_7, ex5_7, h⟩ := ol_e h
        refine kv_iinc C (v := x5_7) (lv2 := [(0, .int x0), (1, .ref (tq 2)), (2, .ref (tq 3)), (3, .long x3_6), (5, .int x5_7)]) 4 [1, 2, 3, 4, 0] dX3_beside_36 rfl ex5_7.symm (by decide) rfl rfl ?_
        refine kv_goto C 5 dX3_beside_39 (by decide) ?_
        exact kv_lv [0, 1, 2, 3, 4] (lv2 := [(0, .int x0), (1, .ref (tq 2)), (2, .ref (tq 3)), (3, .long x3_6), (5, .int x5_7)]) rfl (ih5 x0 x3_6 x5_7 h)
  unfold m_X3_beside_23 at hm
  have h := hm
  refine kv_lv [0, 1, 2] (lv2 := [(0, .int p0), (1, .ref (tq 2)), (2, .ref (tq 3))]) rfl ?_
  refine kv_lconst C 0 dX3_beside_0 (by decide) ?_
  refine kv_lstore_n C (lv2 := [(0, .int p0), (1, .ref (tq 2)), (2, .ref (tq 3)), (3, .long 0)]) [1, 2, 3, 0] dX3_beside_1 rfl (by decide) rfl rfl ?_
  refine kv_iconst C 0 dX3_beside_2 (by decide) ?_
  refine kv_istore C (lv2 := [(0, .int p0), (1, .ref (tq 2)), (2, .ref (tq 3)), (3, .long 0), (5, .int 0)]) [1, 2, 3, 4, 0] dX3_beside_3 (by decide) rfl rfl ?_
  exact kv_lv [0, 1, 2, 3, 4] (lv2 := [(0, .int p0), (1, .ref (tq 2)), (2, .ref (tq 3)), (3, .long 0), (5, .int 0)]) rfl (l5 kF p0 0 0 h)
def m_X3_beside_01_b5 (k5 : Int32 → Int64 → Int32 → Option (Int64)) (x0 : Int32) (x3 : Int64) (x5 : Int32) : Option (Int64) := if 8 ≤ x5 then some x3 else oin (x5) 8 (oin (x5) 8 (ob (m_X3_at ((x0 / 8) + (([0, 1, 1, 1, 0, (-1), (-1), (-1)] : List Int32).getD (x5.toNatClampNeg) 0)) ((x0 - x0 / 8 * 8) + (([1, 0, 1, (-1), (-1), 0, (-1), 1] : List Int32).getD (x5.toNatClampNeg) 0))) fun r_4 => ol (x3 ||| r_4) fun x3_6 => ol (x5 + 1) fun x5_7 => k5 x0 x3_6 x5_7))
def m_X3_beside_01_l5 (n : Nat) : Int32 → Int64 → Int32 → Option (Int64) := fz (fun _ _ _ => none) (fun k5 x0 x3 x5 => m_X3_beside_01_b5 k5 x0 x3 x5) n
def m_X3_beside_01 (p0 : Int32) : Option (Int64) := m_X3_beside_01_l5 kF p0 0 0
abbrev rm_X3_beside_01 : Room := { frames := 1, cells := 0, slots := 0, locals := 22 }
abbrev wy_X3_beside_01 : List Cond := .code yX3_beside cX3_beside 6 (some .long) :: gT
theorem cs_X3_beside_01 {R : Room} {s : State} {args : Array Value} {own : String} {index : Nat} {w0 : Cond} (hts : ∀ w ∈ w0 :: gT, w.before args s = true) (hl : Cond.methodLink own index yX3_beside ∈ gT) (hR : 1 + 1 ≤ R.frames ∧ 8 + (6 + 11) + 22 ≤ R.locals) : CallB R s args own index yX3_beside cX3_beside 6 (some .long) wy_X3_beside_01 rm_X3_beside_01 0 0 3 ∧ (Cond.static yX3_beside).before args s = true :=
  va_cwS 3 hts (gT_call w0 (pre := [.methodLink own index yX3_beside, .static yX3_beside, .initialized yX3_beside.cls]) (gT_lc hl (gT_lc ls_yX3_beside (gT_l1 li_RX3))) lc_yX3_beside) rfl rfl rfl (by decide +kernel) hR
set_option maxRecDepth 100000 in
set_option maxHeartbeats 4000000 in
theorem c_X3_beside_01 (l : Launch) (D : va_G) (tq : Nat → Nat) (p0 : Int32) (rv : Int64) (hm : m_X3_beside_01 p0 = some rv) : kEl l yX3_beside wy_X3_beside_01 rm_X3_beside_01 D [] tq rv [] [] [.int p0, .ref (tq 0), .ref (tq 1)] := by
  refine kEl.of cX3_beside 6 (some .long) (by decide) rfl rfl (Nat.le_of_ble_eq_true rfl) ?_
  intro p e s m below meth c A Q C hJ hret
  have l5 : ∀ (n5 : Nat) (x0 : Int32) (x3 : Int64) (x5 : Int32), m_X3_beside_01_l5   n5 x0 x3 x5 = some rv → kv p l e rm_X3_beside_01 s m ([.int p0, .ref (tq 0), .ref (tq 1)] : List Value).toArray below meth c D A 6 0 0 Q [] [(0, .int x0), (1, .ref (tq 0)), (2, .ref (tq 1)), (3, .long x3), (5, .int x5)] 5 [] := by
    intro n5
    induction n5 with
    | zero =>
      intro x0 x3 x5 h
      exact kv_no h
    | succ n5 ih5 =>
      intro x0 x3 x5 h
      replace h : m_X3_beside_01_b5  (m_X3_beside_01_l5   n5)  x0 x3 x5 = some rv := h
      unfold m_X3_beside_01_b5 at h
      refine kv_iload C 4 dX3_beside_5 rfl ?_
      refine kv_aload_n C 1 dX3_beside_7 rfl rfl ?_
      refine kv_tlen C (hJ.2.1 0 _ rfl).2 (v := 8) rfl dX3_beside_8 ?_
      refine kv_icmp_ge C 42 dX3_beside_9 (by decide) (fun c_1 => ?_) (fun c_1 => ?_)
      · have h := oi_t h c_1
        refine kv_lload_n C 3 dX3_beside_42 rfl rfl ?_
        cases h
        exact hret _ _ dX3_beside_43
      · have h := oi_f h c_1
        refine kv_lload_n C 3 dX3_beside_12 rfl rfl ?_
        refine kv_iload_n C 0 dX3_beside_13 rfl rfl ?_
        refine kv_bipush C 8 dX3_beside_14 (by decide) ?_
        refine kv_idiv C dX3_beside_16 (by decide) ?_
        refine kv_aload_n C 1 dX3_beside_17 rfl rfl ?_
        refine kv_iload C 4 dX3_beside_18 rfl ?_
        obtain ⟨g_2, h⟩ := oin_e h
        refine kv_ti C (hJ.2.1 0 _ rfl).2 g_2 rfl dX3_beside_20 ?_
        refine kv_iadd C dX3_beside_21 ?_
        refine kv_iload_n C 0 dX3_beside_22 rfl rfl ?_
        refine kv_bipush C 8 dX3_beside_23 (by decide) ?_
        refine kv_irem C dX3_beside_25 (by decide) ?_
        refine kv_aload_n C 2 dX3_beside_26 rfl rfl ?_
        refine kv_iload C 4 dX3_beside_27 rfl ?_
        obtain ⟨g_3, h⟩ := oin_e h
        refine kv_ti C (hJ.2.1 1 _ rfl).2 g_3 rfl dX3_beside_29 ?_
        refine kv_iadd C dX3_beside_30 ?_
        obtain ⟨r_4, hm_5, h⟩ := ob_e h
        refine kv_callS0l C [.int ((x0 / 8) + (([0, 1, 1, 1, 0, (-1), (-1), (-1)] : List Int32).getD (x5.toNatClampNeg) 0)), .int ((x0 - x0 / 8 * 8) + (([1, 0, 1, (-1), (-1), 0, (-1), 1] : List Int32).getD (x5.toNatClampNeg) 0))] (c_X3_at l D ((x0 / 8) + (([0, 1, 1, 1, 0, (-1), (-1), (-1)] : List Int32).getD (x5.toNatClampNeg) 0)) ((x0 - x0 / 8 * 8) + (([1, 0, 1, (-1), (-1), 0, (-1), 1] : List Int32).getD (x5.toNatClampNeg) 0)) r_4 hm_5) (cs_X3_at C.ts lm_RX3_54 ⟨Nat.le_of_ble_eq_true rfl, Nat.le_of_ble_eq_true rfl⟩) rfl rfl (Nat.le_of_ble_eq_true rfl) dX3_beside_31 ⟨Nat.zero_le _, Nat.zero_le _⟩ ?_
        refine kv_lor C dX3_beside_34 ?_
        obtain ⟨x3_6, ex3_6, h⟩ := ol_e h
        refine kv_topl ex3_6 ?_
        refine kv_lstore_n C (lv2 := [(0, .int x0), (1, .ref (tq 0)), (2, .ref (tq 1)), (3, .long x3_6), (5, .int x5)]) [1, 2, 3, 0, 4] dX3_beside_35 rfl (by decide) rfl rfl ?_
        obtain ⟨x5_7, ex5_7, h⟩ := ol_e h
        refine kv_iinc C (v := x5_7) (lv2 := [(0, .int x0), (1, .ref (tq 0)), (2, .ref (tq 1)), (3, .long x3_6), (5, .int x5_7)]) 4 [1, 2, 3, 4, 0] dX3_beside_36 rfl ex5_7.symm (by decide) rfl rfl ?_
        refine kv_goto C 5 dX3_beside_39 (by decide) ?_
        exact kv_lv [0, 1, 2, 3, 4] (lv2 := [(0, .int x0), (1, .ref (tq 0)), (2, .ref (tq 1)), (3, .long x3_6), (5, .int x5_7)]) rfl (ih5 x0 x3_6 x5_7 h)
  unfold m_X3_beside_01 at hm
  have h := hm
  refine kv_lv [0, 1, 2] (lv2 := [(0, .int p0), (1, .ref (tq 0)), (2, .ref (tq 1))]) rfl ?_
  refine kv_lconst C 0 dX3_beside_0 (by decide) ?_
  refine kv_lstore_n C (lv2 := [(0, .int p0), (1, .ref (tq 0)), (2, .ref (tq 1)), (3, .long 0)]) [1, 2, 3, 0] dX3_beside_1 rfl (by decide) rfl rfl ?_
  refine kv_iconst C 0 dX3_beside_2 (by decide) ?_
  refine kv_istore C (lv2 := [(0, .int p0), (1, .ref (tq 0)), (2, .ref (tq 1)), (3, .long 0), (5, .int 0)]) [1, 2, 3, 4, 0] dX3_beside_3 (by decide) rfl rfl ?_
  exact kv_lv [0, 1, 2, 3, 4] (lv2 := [(0, .int p0), (1, .ref (tq 0)), (2, .ref (tq 1)), (3, .long 0), (5, .int 0)]) rfl (l5 kF p0 0 0 h)
def m_X3_beside_46_b5 (k5 : Int32 → Int64 → Int32 → Option (Int64)) (x0 : Int32) (x3 : Int64) (x5 : Int32) : Option (Int64) := if 2 ≤ x5 then some x3 else oin (x5) 2 (oin (x5) 2 (ob (m_X3_at ((x0 / 8) + (([1, 1] : List Int32).getD (x5.toNatClampNeg) 0)) ((x0 - x0 / 8 * 8) + (([(-1), 1] : List Int32).getD (x5.toNatClampNeg) 0))) fun r_4 => ol (x3 ||| r_4) fun x3_6 => ol (x5 + 1) fun x5_7 => k5 x0 x3_6 x5_7))
def m_X3_beside_46_l5 (n : Nat) : Int32 → Int64 → Int32 → Option (Int64) := fz (fun _ _ _ => none) (fun k5 x0 x3 x5 => m_X3_beside_46_b5 k5 x0 x3 x5) n
def m_X3_beside_46 (p0 : Int32) : Option (Int64) := m_X3_beside_46_l5 kF p0 0 0
abbrev rm_X3_beside_46 : Room := { frames := 1, cells := 0, slots := 0, locals := 22 }
abbrev wy_X3_beside_46 : List Cond := .code yX3_beside cX3_beside 6 (some .long) :: gT
theorem cs_X3_beside_46 {R : Room} {s : State} {args : Array Value} {own : String} {index : Nat} {w0 : Cond} (hts : ∀ w ∈ w0 :: gT, w.before args s = true) (hl : Cond.methodLink own index yX3_beside ∈ gT) (hR : 1 + 1 ≤ R.frames ∧ 8 + (6 + 11) + 22 ≤ R.locals) : CallB R s args own index yX3_beside cX3_beside 6 (some .long) wy_X3_beside_46 rm_X3_beside_46 0 0 3 ∧ (Cond.static yX3_beside).before args s = true :=
  va_cwS 3 hts (gT_call w0 (pre := [.methodLink own index yX3_beside, .static yX3_beside, .initialized yX3_beside.cls]) (gT_lc hl (gT_lc ls_yX3_beside (gT_l1 li_RX3))) lc_yX3_beside) rfl rfl rfl (by decide +kernel) hR
set_option maxRecDepth 100000 in
set_option maxHeartbeats 4000000 in
theorem c_X3_beside_46 (l : Launch) (D : va_G) (tq : Nat → Nat) (p0 : Int32) (rv : Int64) (hm : m_X3_beside_46 p0 = some rv) : kEl l yX3_beside wy_X3_beside_46 rm_X3_beside_46 D [] tq rv [] [] [.int p0, .ref (tq 4), .ref (tq 6)] := by
  refine kEl.of cX3_beside 6 (some .long) (by decide) rfl rfl (Nat.le_of_ble_eq_true rfl) ?_
  intro p e s m below meth c A Q C hJ hret
  have l5 : ∀ (n5 : Nat) (x0 : Int32) (x3 : Int64) (x5 : Int32), m_X3_beside_46_l5   n5 x0 x3 x5 = some rv → kv p l e rm_X3_beside_46 s m ([.int p0, .ref (tq 4), .ref (tq 6)] : List Value).toArray below meth c D A 6 0 0 Q [] [(0, .int x0), (1, .ref (tq 4)), (2, .ref (tq 6)), (3, .long x3), (5, .int x5)] 5 [] := by
    intro n5
    induction n5 with
    | zero =>
      intro x0 x3 x5 h
      exact kv_no h
    | succ n5 ih5 =>
      intro x0 x3 x5 h
      replace h : m_X3_beside_46_b5  (m_X3_beside_46_l5   n5)  x0 x3 x5 = some rv := h
      unfold m_X3_beside_46_b5 at h
      refine kv_iload C 4 dX3_beside_5 rfl ?_
      refine kv_aload_n C 1 dX3_beside_7 rfl rfl ?_
      refine kv_tlen C (hJ.2.1 4 _ rfl).2 (v := 2) rfl dX3_beside_8 ?_
      refine kv_icmp_ge C 42 dX3_beside_9 (by decide) (fun c_1 => ?_) (fun c_1 => ?_)
      · have h := oi_t h c_1
        refine kv_lload_n C 3 dX3_beside_42 rfl rfl ?_
        cases h
        exact hret _ _ dX3_beside_43
      · have h := oi_f h c_1
        refine kv_lload_n C 3 dX3_beside_12 rfl rfl ?_
        refine kv_iload_n C 0 dX3_beside_13 rfl rfl ?_
        refine kv_bipush C 8 dX3_beside_14 (by decide) ?_
        refine kv_idiv C dX3_beside_16 (by decide) ?_
        refine kv_aload_n C 1 dX3_beside_17 rfl rfl ?_
        refine kv_iload C 4 dX3_beside_18 rfl ?_
        obtain ⟨g_2, h⟩ := oin_e h
        refine kv_ti C (hJ.2.1 4 _ rfl).2 g_2 rfl dX3_beside_20 ?_
        refine kv_iadd C dX3_beside_21 ?_
        refine kv_iload_n C 0 dX3_beside_22 rfl rfl ?_
        refine kv_bipush C 8 dX3_beside_23 (by decide) ?_
        refine kv_irem C dX3_beside_25 (by decide) ?_
        refine kv_aload_n C 2 dX3_beside_26 rfl rfl ?_
        refine kv_iload C 4 dX3_beside_27 rfl ?_
        obtain ⟨g_3, h⟩ := oin_e h
        refine kv_ti C (hJ.2.1 6 _ rfl).2 g_3 rfl dX3_beside_29 ?_
        refine kv_iadd C dX3_beside_30 ?_
        obtain ⟨r_4, hm_5, h⟩ := ob_e h
        refine kv_callS0l C [.int ((x0 / 8) + (([1, 1] : List Int32).getD (x5.toNatClampNeg) 0)), .int ((x0 - x0 / 8 * 8) + (([(-1), 1] : List Int32).getD (x5.toNatClampNeg) 0))] (c_X3_at l D ((x0 / 8) + (([1, 1] : List Int32).getD (x5.toNatClampNeg) 0)) ((x0 - x0 / 8 * 8) + (([(-1), 1] : List Int32).getD (x5.toNatClampNeg) 0)) r_4 hm_5) (cs_X3_at C.ts lm_RX3_54 ⟨Nat.le_of_ble_eq_true rfl, Nat.le_of_ble_eq_true rfl⟩) rfl rfl (Nat.le_of_ble_eq_true rfl) dX3_beside_31 ⟨Nat.zero_le _, Nat.zero_le _⟩ ?_
        refine kv_lor C dX3_beside_34 ?_
        obtain ⟨x3_6, ex3_6, h⟩ := ol_e h
        refine kv_topl ex3_6 ?_
        refine kv_lstore_n C (lv2 := [(0, .int x0), (1, .ref (tq 4)), (2, .ref (tq 6)), (3, .long x3_6), (5, .int x5)]) [1, 2, 3, 0, 4] dX3_beside_35 rfl (by decide) rfl rfl ?_
        obtain ⟨x5_7, ex5_7, h⟩ := ol_e h
        refine kv_iinc C (v := x5_7) (lv2 := [(0, .int x0), (1, .ref (tq 4)), (2, .ref (tq 6)), (3, .long x3_6), (5, .int x5_7)]) 4 [1, 2, 3, 4, 0] dX3_beside_36 rfl ex5_7.symm (by decide) rfl rfl ?_
        refine kv_goto C 5 dX3_beside_39 (by decide) ?_
        exact kv_lv [0, 1, 2, 3, 4] (lv2 := [(0, .int x0), (1, .ref (tq 4)), (2, .ref (tq 6)), (3, .long x3_6), (5, .int x5_7)]) rfl (ih5 x0 x3_6 x5_7 h)
  unfold m_X3_beside_46 at hm
  have h := hm
  refine kv_lv [0, 1, 2] (lv2 := [(0, .int p0), (1, .ref (tq 4)), (2, .ref (tq 6))]) rfl ?_
  refine kv_lconst C 0 dX3_beside_0 (by decide) ?_
  refine kv_lstore_n C (lv2 := [(0, .int p0), (1, .ref (tq 4)), (2, .ref (tq 6)), (3, .long 0)]) [1, 2, 3, 0] dX3_beside_1 rfl (by decide) rfl rfl ?_
  refine kv_iconst C 0 dX3_beside_2 (by decide) ?_
  refine kv_istore C (lv2 := [(0, .int p0), (1, .ref (tq 4)), (2, .ref (tq 6)), (3, .long 0), (5, .int 0)]) [1, 2, 3, 4, 0] dX3_beside_3 (by decide) rfl rfl ?_
  exact kv_lv [0, 1, 2, 3, 4] (lv2 := [(0, .int p0), (1, .ref (tq 4)), (2, .ref (tq 6)), (3, .long 0), (5, .int 0)]) rfl (l5 kF p0 0 0 h)
def m_X3_beside_56_b5 (k5 : Int32 → Int64 → Int32 → Option (Int64)) (x0 : Int32) (x3 : Int64) (x5 : Int32) : Option (Int64) := if 2 ≤ x5 then some x3 else oin (x5) 2 (oin (x5) 2 (ob (m_X3_at ((x0 / 8) + (([(-1), (-1)] : List Int32).getD (x5.toNatClampNeg) 0)) ((x0 - x0 / 8 * 8) + (([(-1), 1] : List Int32).getD (x5.toNatClampNeg) 0))) fun r_4 => ol (x3 ||| r_4) fun x3_6 => ol (x5 + 1) fun x5_7 => k5 x0 x3_6 x5_7))
def m_X3_beside_56_l5 (n : Nat) : Int32 → Int64 → Int32 → Option (Int64) := fz (fun _ _ _ => none) (fun k5 x0 x3 x5 => m_X3_beside_56_b5 k5 x0 x3 x5) n
def m_X3_beside_56 (p0 : Int32) : Option (Int64) := m_X3_beside_56_l5 kF p0 0 0
abbrev rm_X3_beside_56 : Room := { frames := 1, cells := 0, slots := 0, locals := 22 }
abbrev wy_X3_beside_56 : List Cond := .code yX3_beside cX3_beside 6 (some .long) :: gT
theorem cs_X3_beside_56 {R : Room} {s : State} {args : Array Value} {own : String} {index : Nat} {w0 : Cond} (hts : ∀ w ∈ w0 :: gT, w.before args s = true) (hl : Cond.methodLink own index yX3_beside ∈ gT) (hR : 1 + 1 ≤ R.frames ∧ 8 + (6 + 11) + 22 ≤ R.locals) : CallB R s args own index yX3_beside cX3_beside 6 (some .long) wy_X3_beside_56 rm_X3_beside_56 0 0 3 ∧ (Cond.static yX3_beside).before args s = true :=
  va_cwS 3 hts (gT_call w0 (pre := [.methodLink own index yX3_beside, .static yX3_beside, .initialized yX3_beside.cls]) (gT_lc hl (gT_lc ls_yX3_beside (gT_l1 li_RX3))) lc_yX3_beside) rfl rfl rfl (by decide +kernel) hR
set_option maxRecDepth 100000 in
set_option maxHeartbeats 4000000 in
theorem c_X3_beside_56 (l : Launch) (D : va_G) (tq : Nat → Nat) (p0 : Int32) (rv : Int64) (hm : m_X3_beside_56 p0 = some rv) : kEl l yX3_beside wy_X3_beside_56 rm_X3_beside_56 D [] tq rv [] [] [.int p0, .ref (tq 5), .ref (tq 6)] := by
  refine kEl.of cX3_beside 6 (some .long) (by decide) rfl rfl (Nat.le_of_ble_eq_true rfl) ?_
  intro p e s m below meth c A Q C hJ hret
  have l5 : ∀ (n5 : Nat) (x0 : Int32) (x3 : Int64) (x5 : Int32), m_X3_beside_56_l5   n5 x0 x3 x5 = some rv → kv p l e rm_X3_beside_56 s m ([.int p0, .ref (tq 5), .ref (tq 6)] : List Value).toArray below meth c D A 6 0 0 Q [] [(0, .int x0), (1, .ref (tq 5)), (2, .ref (tq 6)), (3, .long x3), (5, .int x5)] 5 [] := by
    intro n5
    induction n5 with
    | zero =>
      intro x0 x3 x5 h
      exact kv_no h
    | succ n5 ih5 =>
      intro x0 x3 x5 h
      replace h : m_X3_beside_56_b5  (m_X3_beside_56_l5   n5)  x0 x3 x5 = some rv := h
      unfold m_X3_beside_56_b5 at h
      refine kv_iload C 4 dX3_beside_5 rfl ?_
      refine kv_aload_n C 1 dX3_beside_7 rfl rfl ?_
      refine kv_tlen C (hJ.2.1 5 _ rfl).2 (v := 2) rfl dX3_beside_8 ?_
      refine kv_icmp_ge C 42 dX3_beside_9 (by decide) (fun c_1 => ?_) (fun c_1 => ?_)
      · have h := oi_t h c_1
        refine kv_lload_n C 3 dX3_beside_42 rfl rfl ?_
        cases h
        exact hret _ _ dX3_beside_43
      · have h := oi_f h c_1
        refine kv_lload_n C 3 dX3_beside_12 rfl rfl ?_
        refine kv_iload_n C 0 dX3_beside_13 rfl rfl ?_
        refine kv_bipush C 8 dX3_beside_14 (by decide) ?_
        refine kv_idiv C dX3_beside_16 (by decide) ?_
        refine kv_aload_n C 1 dX3_beside_17 rfl rfl ?_
        refine kv_iload C 4 dX3_beside_18 rfl ?_
        obtain ⟨g_2, h⟩ := oin_e h
        refine kv_ti C (hJ.2.1 5 _ rfl).2 g_2 rfl dX3_beside_20 ?_
        refine kv_iadd C dX3_beside_21 ?_
        refine kv_iload_n C 0 dX3_beside_22 rfl rfl ?_
        refine kv_bipush C 8 dX3_beside_23 (by decide) ?_
        refine kv_irem C dX3_beside_25 (by decide) ?_
        refine kv_aload_n C 2 dX3_beside_26 rfl rfl ?_
        refine kv_iload C 4 dX3_beside_27 rfl ?_
        obtain ⟨g_3, h⟩ := oin_e h
        refine kv_ti C (hJ.2.1 6 _ rfl).2 g_3 rfl dX3_beside_29 ?_
        refine kv_iadd C dX3_beside_30 ?_
        obtain ⟨r_4, hm_5, h⟩ := ob_e h
        refine kv_callS0l C [.int ((x0 / 8) + (([(-1), (-1)] : List Int32).getD (x5.toNatClampNeg) 0)), .int ((x0 - x0 / 8 * 8) + (([(-1), 1] : List Int32).getD (x5.toNatClampNeg) 0))] (c_X3_at l D ((x0 / 8) + (([(-1), (-1)] : List Int32).getD (x5.toNatClampNeg) 0)) ((x0 - x0 / 8 * 8) + (([(-1), 1] : List Int32).getD (x5.toNatClampNeg) 0)) r_4 hm_5) (cs_X3_at C.ts lm_RX3_54 ⟨Nat.le_of_ble_eq_true rfl, Nat.le_of_ble_eq_true rfl⟩) rfl rfl (Nat.le_of_ble_eq_true rfl) dX3_beside_31 ⟨Nat.zero_le _, Nat.zero_le _⟩ ?_
        refine kv_lor C dX3_beside_34 ?_
        obtain ⟨x3_6, ex3_6, h⟩ := ol_e h
        refine kv_topl ex3_6 ?_
        refine kv_lstore_n C (lv2 := [(0, .int x0), (1, .ref (tq 5)), (2, .ref (tq 6)), (3, .long x3_6), (5, .int x5)]) [1, 2, 3, 0, 4] dX3_beside_35 rfl (by decide) rfl rfl ?_
        obtain ⟨x5_7, ex5_7, h⟩ := ol_e h
        refine kv_iinc C (v := x5_7) (lv2 := [(0, .int x0), (1, .ref (tq 5)), (2, .ref (tq 6)), (3, .long x3_6), (5, .int x5_7)]) 4 [1, 2, 3, 4, 0] dX3_beside_36 rfl ex5_7.symm (by decide) rfl rfl ?_
        refine kv_goto C 5 dX3_beside_39 (by decide) ?_
        exact kv_lv [0, 1, 2, 3, 4] (lv2 := [(0, .int x0), (1, .ref (tq 5)), (2, .ref (tq 6)), (3, .long x3_6), (5, .int x5_7)]) rfl (ih5 x0 x3_6 x5_7 h)
  unfold m_X3_beside_56 at hm
  have h := hm
  refine kv_lv [0, 1, 2] (lv2 := [(0, .int p0), (1, .ref (tq 5)), (2, .ref (tq 6))]) rfl ?_
  refine kv_lconst C 0 dX3_beside_0 (by decide) ?_
  refine kv_lstore_n C (lv2 := [(0, .int p0), (1, .ref (tq 5)), (2, .ref (tq 6)), (3, .long 0)]) [1, 2, 3, 0] dX3_beside_1 rfl (by decide) rfl rfl ?_
  refine kv_iconst C 0 dX3_beside_2 (by decide) ?_
  refine kv_istore C (lv2 := [(0, .int p0), (1, .ref (tq 5)), (2, .ref (tq 6)), (3, .long 0), (5, .int 0)]) [1, 2, 3, 4, 0] dX3_beside_3 (by decide) rfl rfl ?_
  exact kv_lv [0, 1, 2, 3, 4] (lv2 := [(0, .int p0), (1, .ref (tq 5)), (2, .ref (tq 6)), (3, .long 0), (5, .int 0)]) rfl (l5 kF p0 0 0 h)
def m_X0_setUp_b2 (k2 : Int32 → Int32 → (Nat → Int32) → (Nat → Int64) → (Nat → Int64) → Int32 → Option (Int32 × Int32 × (Nat → Int32) × (Nat → Int64) × (Nat → Int64))) (v_rights : Int32) (v_balance : Int32) (a_men : Nat → Int32) (a_kinds : Nat → Int64) (a_sides : Nat → Int64) (a_table : Nat → Int32) (x1 : Int32) : Option (Int32 × Int32 × (Nat → Int32) × (Nat → Int64) × (Nat → Int64)) := if 8 ≤ x1 then some (15, v_balance, a_men, a_kinds, a_sides) else oin (x1) 8 (ob (m_X0_put v_balance a_men a_kinds a_sides a_table x1 (([4, 2, 3, 5, 6, 3, 2, 4] : List Int32).getD (x1.toNatClampNeg) 0)) fun (v_balance_3, a_men_4, a_kinds_5, a_sides_6) => ob (m_X0_put v_balance_3 a_men_4 a_kinds_5 a_sides_6 a_table ((8 : Int32) + x1) 1) fun (v_balance_8, a_men_9, a_kinds_10, a_sides_11) => ob (m_X0_put v_balance_8 a_men_9 a_kinds_10 a_sides_11 a_table ((48 : Int32) + x1) (-1)) fun (v_balance_13, a_men_14, a_kinds_15, a_sides_16) => oin (x1) 8 (ob (m_X0_put v_balance_13 a_men_14 a_kinds_15 a_sides_16 a_table ((56 : Int32) + x1) (-(([4, 2, 3, 5, 6, 3, 2, 4] : List Int32).getD (x1.toNatClampNeg) 0))) fun (v_balance_19, a_men_20, a_kinds_21, a_sides_22) => ol (x1 + 1) fun x1_24 => k2 v_rights v_balance_19 a_men_20 a_kinds_21 a_sides_22 x1_24))
def m_X0_setUp_l2 (a_table : Nat → Int32) (n : Nat) : Int32 → Int32 → (Nat → Int32) → (Nat → Int64) → (Nat → Int64) → Int32 → Option (Int32 × Int32 × (Nat → Int32) × (Nat → Int64) × (Nat → Int64)) := fz (fun _ _ _ _ _ _ => none) (fun k2 v_rights v_balance a_men a_kinds a_sides x1 => m_X0_setUp_b2 k2 v_rights v_balance a_men a_kinds a_sides a_table x1) n
def m_X0_setUp (v_rights : Int32) (v_balance : Int32) (a_men : Nat → Int32) (a_kinds : Nat → Int64) (a_sides : Nat → Int64) (a_table : Nat → Int32) : Option (Int32 × Int32 × (Nat → Int32) × (Nat → Int64) × (Nat → Int64)) := m_X0_setUp_l2 a_table kF v_rights v_balance a_men a_kinds a_sides 0
abbrev rm_X0_setUp : Room := { frames := 2, cells := 0, slots := 0, locals := 46 }
abbrev wy_X0_setUp : List Cond := .code yX0_setUp cX0_setUp 2 none :: gT
theorem cv_X0_setUp {R : Room} {s : State} {args : Array Value} {own : String} {index : Nat} {w0 : Cond} (hts : ∀ w ∈ w0 :: gT, w.before args s = true) (hl : Cond.methodLink own index yX0_setUp ∈ gT) (hR : 2 + 1 ≤ R.frames ∧ 8 + (2 + 11) + 46 ≤ R.locals) : CallW R s args own RX0 index yX0_setUp cX0_setUp 2 none wy_X0_setUp rm_X0_setUp 0 0 0 :=
  cwV 0 hts (gT_call w0 (pre := [.methodLink own index yX0_setUp, .instanceMethod yX0_setUp, .selects RX0 yX0_setUp yX0_setUp, .initialized RX0]) (gT_lc hl (gT_lc ly_yX0_setUp (gT_lc lx_yX0_setUp (gT_l1 li_RX0)))) lc_yX0_setUp) rfl rfl rfl (by decide +kernel) hR
set_option maxRecDepth 100000 in
set_option maxHeartbeats 4000000 in
theorem c_X0_setUp (l : Launch) (D : va_G) (qb : Nat → Nat) (ql : Nat → Nat) (qw : Nat → Nat) (cI : ClassId) (cJ : ClassId) (tq : Nat → Nat) (v_mover : Int32) (v_rights : Int32) (v_passed : Int32) (v_halves : Int32) (v_number : Int32) (v_balance : Int32) (a_men : Nat → Int32) (a_kinds : Nat → Int64) (a_sides : Nat → Int64) (a_rays : Nat → Int64) (a_knights : Nat → Int64) (a_kings : Nat → Int64) (a_pawns : Nat → Int64) (a_table : Nat → Int32) (v_rights' : Int32) (v_balance' : Int32) (a_men' : Nat → Int32) (a_kinds' : Nat → Int64) (a_sides' : Nat → Int64) (hm : m_X0_setUp v_rights v_balance a_men a_kinds a_sides a_table = some (v_rights', v_balance', a_men', a_kinds', a_sides')) : kEv l yX0_setUp wy_X0_setUp rm_X0_setUp D [(cI, .int), (cJ, .long)] tq (wBo qb ql qw cI cJ v_mover v_rights v_passed v_halves v_number v_balance a_men a_kinds a_sides a_rays a_knights a_kings a_pawns a_table) (wBo qb ql qw cI cJ v_mover v_rights' v_passed v_halves v_number v_balance' a_men' a_kinds' a_sides' a_rays a_knights a_kings a_pawns a_table) [.ref (qb 0)] := by
  refine kEv.of cX0_setUp 2 none (by decide) rfl rfl (Nat.le_of_ble_eq_true rfl) ?_
  intro p e s m below meth c A Q C hJ hret
  have hin0 : ∀ w ∈ wsX00, w ∈ wy_X0_setUp := fun w h => List.mem_cons_of_mem _ (inG0 w h)
  have hin3 : ∀ w ∈ wsX30, w ∈ wy_X0_setUp := fun w h => List.mem_cons_of_mem _ (inG3 w h)
  have hin7 : ∀ w ∈ wsX70, w ∈ wy_X0_setUp := fun w h => List.mem_cons_of_mem _ (inG7 w h)
  have l2 : ∀ (n2 : Nat) (v_rights : Int32) (v_balance : Int32) (a_men : Nat → Int32) (a_kinds : Nat → Int64) (a_sides : Nat → Int64) (x1 : Int32), m_X0_setUp_l2  a_table n2 v_rights v_balance a_men a_kinds a_sides x1 = some (v_rights', v_balance', a_men', a_kinds', a_sides') → kv p l e rm_X0_setUp s m ([.ref (qb 0)] : List Value).toArray below meth c D A 2 0 0 Q (wBo qb ql qw cI cJ v_mover v_rights v_passed v_halves v_number v_balance a_men a_kinds a_sides a_rays a_knights a_kings a_pawns a_table) [(0, .ref (qb 0)), (1, .int x1)] 2 [] := by
    intro n2
    induction n2 with
    | zero =>
      intro v_rights v_balance a_men a_kinds a_sides x1 h
      exact kv_no h
    | succ n2 ih2 =>
      intro v_rights v_balance a_men a_kinds a_sides x1 h
      replace h : m_X0_setUp_b2  (m_X0_setUp_l2  a_table n2) v_rights v_balance a_men a_kinds a_sides a_table x1 = some (v_rights', v_balance', a_men', a_kinds', a_sides') := h
      unfold m_X0_setUp_b2 at h
      refine kv_iload_n C 1 dX0_setUp_2 rfl rfl ?_
      refine kv_bipush C 8 dX0_setUp_3 (by decide) ?_
      refine kv_icmp_ge C 56 dX0_setUp_5 (by decide) (fun c_1 => ?_) (fun c_1 => ?_)
      · have h := oi_t h c_1
        refine kv_aload_n C 0 dX0_setUp_56 rfl rfl ?_
        refine kv_bipush C 15 dX0_setUp_57 (by decide) ?_
        refine kv_put C (Cn := RX0) (T := TX0) (N := 11) (ty := .int) (ws1 := (wBo qb ql qw cI cJ v_mover 15 v_passed v_halves v_number v_balance a_men a_kinds a_sides a_rays a_knights a_kings a_pawns a_table)) 0 6 hin0 tyX0 tyX0_ok nmX0 rfl rfl (by decide) (C.ts _ (List.mem_cons_of_mem _ lf_RX0_44)) rfl rfl (by decide +kernel) rfl rfl (Nat.le_of_ble_eq_true rfl) rfl dX0_setUp_59 ?_
        cases h
        exact hret _ _ dX0_setUp_62
      · have h := oi_f h c_1
        refine kv_aload_n C 0 dX0_setUp_8 rfl rfl ?_
        refine kv_iload_n C 1 dX0_setUp_9 rfl rfl ?_
        refine kv_gets C (hJ.2.1 7 _ rfl).1 (C.ts _ (List.mem_cons_of_mem _ lf_RX0_37)) rfl dX0_setUp_10 ?_
        refine kv_iload_n C 1 dX0_setUp_13 rfl rfl ?_
        obtain ⟨g_2, h⟩ := oin_e h
        refine kv_ti C (hJ.2.1 7 _ rfl).2 g_2 rfl dX0_setUp_14 ?_
        obtain ⟨⟨v_balance_3, a_men_4, a_kinds_5, a_sides_6⟩, hm_7, h⟩ := ob_e h
        replace h : _ = _ := h
        refine kv_eVv (ws2 := (wBo qb ql qw cI cJ v_mover v_rights v_passed v_halves v_number v_balance_3 a_men_4 a_kinds_5 a_sides_6 a_rays a_knights a_kings a_pawns a_table)) C hJ [.int x1, .int (([4, 2, 3, 5, 6, 3, 2, 4] : List Int32).getD (x1.toNatClampNeg) 0)] 0 (c_X0_put l D qb ql qw cI cJ tq v_mover v_rights v_passed v_halves v_number v_balance a_men a_kinds a_sides a_rays a_knights a_kings a_pawns a_table x1 (([4, 2, 3, 5, 6, 3, 2, 4] : List Int32).getD (x1.toNatClampNeg) 0) v_balance_3 a_men_4 a_kinds_5 a_sides_6 hm_7) (cv_X0_put C.ts lm_RX0_40 ⟨Nat.le_of_ble_eq_true rfl, Nat.le_of_ble_eq_true rfl⟩) rfl rfl [0, 1, 2, 3, 4, 5, 6, 7, 8, 9, 10] [] [0, 1] [0, 1, 2, 3, 4, 5, 6, 7, 8, 9, 10] rfl rfl rfl rfl rfl (by decide) rfl rfl rfl (Nat.le_of_ble_eq_true rfl) dX0_setUp_15 ⟨Nat.zero_le _, Nat.zero_le _⟩ rfl rfl rfl ?_
        refine kv_aload_n C 0 dX0_setUp_18 rfl rfl ?_
        refine kv_bipush C 8 dX0_setUp_19 (by decide) ?_
        refine kv_iload_n C 1 dX0_setUp_21 rfl rfl ?_
        refine kv_iadd C dX0_setUp_22 ?_
        refine kv_iconst C 1 dX0_setUp_23 (by decide) ?_
        obtain ⟨⟨v_balance_8, a_men_9, a_kinds_10, a_sides_11⟩, hm_12, h⟩ := ob_e h
        replace h : _ = _ := h
        refine kv_eVv (ws2 := (wBo qb ql qw cI cJ v_mover v_rights v_passed v_halves v_number v_balance_8 a_men_9 a_kinds_10 a_sides_11 a_rays a_knights a_kings a_pawns a_table)) C hJ [.int ((8 : Int32) + x1), .int 1] 0 (c_X0_put l D qb ql qw cI cJ tq v_mover v_rights v_passed v_halves v_number v_balance_3 a_men_4 a_kinds_5 a_sides_6 a_rays a_knights a_kings a_pawns a_table ((8 : Int32) + x1) 1 v_balance_8 a_men_9 a_kinds_10 a_sides_11 hm_12) (cv_X0_put C.ts lm_RX0_40 ⟨Nat.le_of_ble_eq_true rfl, Nat.le_of_ble_eq_true rfl⟩) rfl rfl [0, 1, 2, 3, 4, 5, 6, 7, 8, 9, 10] [] [0, 1] [0, 1, 2, 3, 4, 5, 6, 7, 8, 9, 10] rfl rfl rfl rfl rfl (by decide) rfl rfl rfl (Nat.le_of_ble_eq_true rfl) dX0_setUp_24 ⟨Nat.zero_le _, Nat.zero_le _⟩ rfl rfl rfl ?_
        refine kv_aload_n C 0 dX0_setUp_27 rfl rfl ?_
        refine kv_bipush C 48 dX0_setUp_28 (by decide) ?_
        refine kv_iload_n C 1 dX0_setUp_30 rfl rfl ?_
        refine kv_iadd C dX0_setUp_31 ?_
        refine kv_iconst C (-1) dX0_setUp_32 (by decide) ?_
        obtain ⟨⟨v_balance_13, a_men_14, a_kinds_15, a_sides_16⟩, hm_17, h⟩ := ob_e h
        replace h : _ = _ := h
        refine kv_eVv (ws2 := (wBo qb ql qw cI cJ v_mover v_rights v_passed v_halves v_number v_balance_13 a_men_14 a_kinds_15 a_sides_16 a_rays a_knights a_kings a_pawns a_table)) C hJ [.int ((48 : Int32) + x1), .int (-1)] 0 (c_X0_put l D qb ql qw cI cJ tq v_mover v_rights v_passed v_halves v_number v_balance_8 a_men_9 a_kinds_10 a_sides_11 a_rays a_knights a_kings a_pawns a_table ((48 : Int32) + x1) (-1) v_balance_13 a_men_14 a_kinds_15 a_sides_16 hm_17) (cv_X0_put C.ts lm_RX0_40 ⟨Nat.le_of_ble_eq_true rfl, Nat.le_of_ble_eq_true rfl⟩) rfl rfl [0, 1, 2, 3, 4, 5, 6, 7, 8, 9, 10] [] [0, 1] [0, 1, 2, 3, 4, 5, 6, 7, 8, 9, 10] rfl rfl rfl rfl rfl (by decide) rfl rfl rfl (Nat.le_of_ble_eq_true rfl) dX0_setUp_33 ⟨Nat.zero_le _, Nat.zero_le _⟩ rfl rfl rfl ?_
        refine kv_aload_n C 0 dX0_setUp_36 rfl rfl ?_
        refine kv_bipush C 56 dX0_setUp_37 (by decide) ?_
        refine kv_iload_n C 1 dX0_setUp_39 rfl rfl ?_
        refine kv_iadd C dX0_setUp_40 ?_
        refine kv_gets C (hJ.2.1 7 _ rfl).1 (C.ts _ (List.mem_cons_of_mem _ lf_RX0_37)) rfl dX0_setUp_41 ?_
        refine kv_iload_n C 1 dX0_setUp_44 rfl rfl ?_
        obtain ⟨g_18, h⟩ := oin_e h
        refine kv_ti C (hJ.2.1 7 _ rfl).2 g_18 rfl dX0_setUp_45 ?_
        refine kv_ineg C dX0_setUp_46 ?_
        obtain ⟨⟨v_balance_19, a_men_20, a_kinds_21, a_sides_22⟩, hm_23, h⟩ := ob_e h
        replace h : _ = _ := h
        refine kv_eVv (ws2 := (wBo qb ql qw cI cJ v_mover v_rights v_passed v_halves v_number v_balance_19 a_men_20 a_kinds_21 a_sides_22 a_rays a_knights a_kings a_pawns a_table)) C hJ [.int ((56 : Int32) + x1), .int (-(([4, 2, 3, 5, 6, 3, 2, 4] : List Int32).getD (x1.toNatClampNeg) 0))] 0 (c_X0_put l D qb ql qw cI cJ tq v_mover v_rights v_passed v_halves v_number v_balance_13 a_men_14 a_kinds_15 a_sides_16 a_rays a_knights a_kings a_pawns a_table ((56 : Int32) + x1) (-(([4, 2, 3, 5, 6, 3, 2, 4] : List Int32).getD (x1.toNatClampNeg) 0)) v_balance_19 a_men_20 a_kinds_21 a_sides_22 hm_23) (cv_X0_put C.ts lm_RX0_40 ⟨Nat.le_of_ble_eq_true rfl, Nat.le_of_ble_eq_true rfl⟩) rfl rfl [0, 1, 2, 3, 4, 5, 6, 7, 8, 9, 10] [] [0, 1] [0, 1, 2, 3, 4, 5, 6, 7, 8, 9, 10] rfl rfl rfl rfl rfl (by decide) rfl rfl rfl (Nat.le_of_ble_eq_true rfl) dX0_setUp_47 ⟨Nat.zero_le _, Nat.zero_le _⟩ rfl rfl rfl ?_
        obtain ⟨x1_24, ex1_24, h⟩ := ol_e h
        refine kv_iinc C (v := x1_24) (lv2 := [(0, .ref (qb 0)), (1, .int x1_24)]) 1 [1, 0] dX0_setUp_50 rfl ex1_24.symm (by decide) rfl rfl ?_
        refine kv_goto C 2 dX0_setUp_53 (by decide) ?_
        exact kv_lv [0, 1] (lv2 := [(0, .ref (qb 0)), (1, .int x1_24)]) rfl (ih2 v_rights v_balance_19 a_men_20 a_kinds_21 a_sides_22 x1_24 h)
  unfold m_X0_setUp at hm
  have h := hm
  refine kv_lv [0] (lv2 := [(0, .ref (qb 0))]) rfl ?_
  refine kv_iconst C 0 dX0_setUp_0 (by decide) ?_
  refine kv_istore_n C (lv2 := [(0, .ref (qb 0)), (1, .int 0)]) [1, 0] dX0_setUp_1 rfl (by decide) rfl rfl ?_
  exact kv_lv [0, 1] (lv2 := [(0, .ref (qb 0)), (1, .int 0)]) rfl (l2 kF v_rights v_balance a_men a_kinds a_sides 0 h)
