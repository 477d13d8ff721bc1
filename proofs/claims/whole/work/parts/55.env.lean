/-! What holds at the entry of the law. -/
theorem tb_1 {w : Cond} (i : Nat) (h : tables_1_1[i]? = some w) : w ∈ lw_tbl := List.mem_append_right _ (by unfold tables_1; refine List.mem_append_left _ ?_; exact List.mem_of_getElem? h)
theorem tb_2 {w : Cond} (i : Nat) (h : tables_1_2[i]? = some w) : w ∈ lw_tbl := List.mem_append_right _ (by unfold tables_1; refine List.mem_append_right _ ?_; refine List.mem_append_left _ ?_; exact List.mem_of_getElem? h)
theorem tb_3 {w : Cond} (i : Nat) (h : tables_1_3[i]? = some w) : w ∈ lw_tbl := List.mem_append_right _ (by unfold tables_1; refine List.mem_append_right _ ?_; refine List.mem_append_right _ ?_; refine List.mem_append_left _ ?_; exact List.mem_of_getElem? h)
theorem tb_4 {w : Cond} (i : Nat) (h : tables_1_4[i]? = some w) : w ∈ lw_tbl := List.mem_append_right _ (by unfold tables_1; refine List.mem_append_right _ ?_; refine List.mem_append_right _ ?_; refine List.mem_append_right _ ?_; refine List.mem_append_left _ ?_; exact List.mem_of_getElem? h)
theorem tb_5 {w : Cond} (i : Nat) (h : tables_1_5[i]? = some w) : w ∈ lw_tbl := List.mem_append_right _ (by unfold tables_1; refine List.mem_append_right _ ?_; refine List.mem_append_right _ ?_; refine List.mem_append_right _ ?_; refine List.mem_append_right _ ?_; refine List.mem_append_left _ ?_; exact List.mem_of_getElem? h)
theorem tb_6 {w : Cond} (i : Nat) (h : tables_1_6[i]? = some w) : w ∈ lw_tbl := List.mem_append_right _ (by unfold tables_1; refine List.mem_append_right _ ?_; refine List.mem_append_right _ ?_; refine List.mem_append_right _ ?_; refine List.mem_append_right _ ?_; refine List.mem_append_right _ ?_; refine List.mem_append_left _ ?_; exact List.mem_of_getElem? h)
theorem tb_7 {w : Cond} (i : Nat) (h : tables_1_7[i]? = some w) : w ∈ lw_tbl := List.mem_append_right _ (by unfold tables_1; refine List.mem_append_right _ ?_; refine List.mem_append_right _ ?_; refine List.mem_append_right _ ?_; refine List.mem_append_right _ ?_; refine List.mem_append_right _ ?_; refine List.mem_append_right _ ?_; exact List.mem_of_getElem? h)
theorem nestW_in : ∀ w ∈ nestW, w ∈ lw_tbl := by decide +kernel
theorem st_arr {args : Array Value} {s : State} {ty : FieldType} (hp : ∀ cA, s.vm.findClass ("[" ++ ty.toString) = some cA → va_RA s cA ty) (h : (Cond.arrayClass ty).before args s = true) : ∃ cA : ClassId, ArrOfT s cA ty ∧ va_RA s cA ty := by
  obtain ⟨c, k, comp, h1, h2, h3⟩ := Cond.arrayClass_spec h
  exact ⟨c, fun n z => ⟨fun k h => (by cases h), k, h2, comp, h3⟩, hp c h1⟩
theorem st_D {args : Array Value} {s : State} (hts : ∀ w ∈ lw_tbl, w.before args s = true) : ∃ D : va_G, ∀ (k : Nat) (q : vw_C), vwCl[k]? = some q → u_Kn s q.1 q.2.1 q.2.2 (D.1 k) (D.2 k) := by
  obtain ⟨c0, i0, h0⟩ := u_known (C := RX0) (T := TX0) (N := 11) (n := 11) hts (fun w h => gT_in (inG0 w h)) (hts (.instantiable RX0 11) (gT_in lin_RX0))
  obtain ⟨c1, i1, h1⟩ := u_known (C := RX2) (T := TX2) (N := 11) (n := 11) hts (fun w h => gT_in (inG2 w h)) (hts (.instantiable RX2 11) (gT_in lin_RX2))
  obtain ⟨c2, i2, h2⟩ := u_known (C := RX3) (T := TX3) (N := 4) (n := 4) hts (fun w h => gT_in (inG3 w h)) (hts (.instantiable RX3 4) (gT_in lin_RX3))
  obtain ⟨c3, i3, h3⟩ := u_known (C := RX4) (T := TX4) (N := 5) (n := 5) hts (fun w h => gT_in (inG4 w h)) (hts (.instantiable RX4 5) (gT_in lin_RX4))
  obtain ⟨c4, i4, h4⟩ := u_known (C := RX5) (T := TX5) (N := 5) (n := 5) hts (fun w h => gT_in (inG5 w h)) (hts (.instantiable RX5 5) (gT_in lin_RX5))
  obtain ⟨c5, i5, h5⟩ := u_known (C := RX6) (T := TX6) (N := 5) (n := 5) hts (fun w h => gT_in (inG6 w h)) (hts (.instantiable RX6 5) (gT_in lin_RX6))
  obtain ⟨c6, i6, h6⟩ := u_known (C := RX7) (T := TX7) (N := 1) (n := 1) hts (fun w h => gT_in (inG7 w h)) (hts (.instantiable RX7 1) (gT_in lin_RX7))
  obtain ⟨c7, i7, h7⟩ := u_known (C := RX8) (T := TX8) (N := 2) (n := 2) hts (fun w h => gT_in (inG8 w h)) (hts (.instantiable RX8 2) (gT_in lin_RX8))
  obtain ⟨c8, i8, h8⟩ := u_known (C := RX9) (T := TX9) (N := 9) (n := 9) hts (fun w h => gT_in (inG9 w h)) (hts (.instantiable RX9 9) (gT_in lin_RX9))
  obtain ⟨c9, i9, h9⟩ := u_known (C := RX10) (T := TX10) (N := 31) (n := 31) hts (fun w h => gT_in (inG10 w h)) (hts (.instantiable RX10 31) (gT_in lin_RX10))
  refine ⟨(fun k => match k with | 0 => c0 | 1 => c1 | 2 => c2 | 3 => c3 | 4 => c4 | 5 => c5 | 6 => c6 | 7 => c7 | 8 => c8 | _ => c9, fun k => match k with | 0 => i0 | 1 => i1 | 2 => i2 | 3 => i3 | 4 => i4 | 5 => i5 | 6 => i6 | 7 => i7 | 8 => i8 | _ => i9), ?_⟩
  intro k q hq
  match k, hq with
  | 0, hq => cases hq; exact h0
  | 1, hq => cases hq; exact h1
  | 2, hq => cases hq; exact h2
  | 3, hq => cases hq; exact h3
  | 4, hq => cases hq; exact h4
  | 5, hq => cases hq; exact h5
  | 6, hq => cases hq; exact h6
  | 7, hq => cases hq; exact h7
  | 8, hq => cases hq; exact h8
  | 9, hq => cases hq; exact h9
  | k + 10, hq => simp at hq
set_option maxRecDepth 20000 in
theorem st_s0 {args : Array Value} {s : State} {A : Nat → Prop} (hts : ∀ w ∈ lw_tbl, w.before args s = true) (hgv : (Jvm.Cond.and given_1 narrow_1).before args s = true) (hA : ∀ a : Nat, a < s.heap.size → ¬ A a) : ∃ t : Nat, va_Z RX3 "WAY_ROWS" "[I" (.ref t) A s s.heap ∧ va_T .int t 8 (fun j => .int (([0, 1, 1, 1, 0, (-1), (-1), (-1)] : List Int32).getD j 0)) A s s.heap := by
  have hs := flat_of_before _ hgv
  obtain ⟨t, ht, hT⟩ := va_Tof (args := args) (s := s) (tm := (.static "KingsBoard$Lines" "WAY_ROWS" "[I")) (ty := .int) (N := 8) (f := fun j => .int (([0, 1, 1, 1, 0, (-1), (-1), (-1)] : List Int32).getD j 0)) (A := A) (by decide) (hs (.arrayOf (.static "KingsBoard$Lines" "WAY_ROWS" "[I") .int) (by decide +kernel)) (va_eqt (hs (.eq (.length (.static "KingsBoard$Lines" "WAY_ROWS" "[I")) (.int 8)) (by decide +kernel))) (fun j hj => by
    rcases (show j = 0 ∨ j = 1 ∨ j = 2 ∨ j = 3 ∨ j = 4 ∨ j = 5 ∨ j = 6 ∨ j = 7 by omega) with rfl | rfl | rfl | rfl | rfl | rfl | rfl | rfl
    · exact va_eqt (hs (.eq (.elem (.static "KingsBoard$Lines" "WAY_ROWS" "[I") (.int 0)) (.int 0)) (by decide +kernel))
    · exact va_eqt (hs (.eq (.elem (.static "KingsBoard$Lines" "WAY_ROWS" "[I") (.int 1)) (.int 1)) (by decide +kernel))
    · exact va_eqt (hs (.eq (.elem (.static "KingsBoard$Lines" "WAY_ROWS" "[I") (.int 2)) (.int 1)) (by decide +kernel))
    · exact va_eqt (hs (.eq (.elem (.static "KingsBoard$Lines" "WAY_ROWS" "[I") (.int 3)) (.int 1)) (by decide +kernel))
    · exact va_eqt (hs (.eq (.elem (.static "KingsBoard$Lines" "WAY_ROWS" "[I") (.int 4)) (.int 0)) (by decide +kernel))
    · exact va_eqt (hs (.eq (.elem (.static "KingsBoard$Lines" "WAY_ROWS" "[I") (.int 5)) (.int (-1))) (by decide +kernel))
    · exact va_eqt (hs (.eq (.elem (.static "KingsBoard$Lines" "WAY_ROWS" "[I") (.int 6)) (.int (-1))) (by decide +kernel))
    · exact va_eqt (hs (.eq (.elem (.static "KingsBoard$Lines" "WAY_ROWS" "[I") (.int 7)) (.int (-1))) (by decide +kernel))
    ) hA
  exact ⟨t, va_Zref (hts (.laysStatic "KingsBoard$Lines" "WAY_ROWS" "[I") (tb_1 44 rfl)) (hts (.initialized "KingsBoard$Lines") (tb_1 2 rfl)) ht hA, hT⟩
set_option maxRecDepth 20000 in
theorem st_s1 {args : Array Value} {s : State} {A : Nat → Prop} (hts : ∀ w ∈ lw_tbl, w.before args s = true) (hgv : (Jvm.Cond.and given_1 narrow_1).before args s = true) (hA : ∀ a : Nat, a < s.heap.size → ¬ A a) : ∃ t : Nat, va_Z RX3 "WAY_COLUMNS" "[I" (.ref t) A s s.heap ∧ va_T .int t 8 (fun j => .int (([1, 0, 1, (-1), (-1), 0, (-1), 1] : List Int32).getD j 0)) A s s.heap := by
  have hs := flat_of_before _ hgv
  obtain ⟨t, ht, hT⟩ := va_Tof (args := args) (s := s) (tm := (.static "KingsBoard$Lines" "WAY_COLUMNS" "[I")) (ty := .int) (N := 8) (f := fun j => .int (([1, 0, 1, (-1), (-1), 0, (-1), 1] : List Int32).getD j 0)) (A := A) (by decide) (hs (.arrayOf (.static "KingsBoard$Lines" "WAY_COLUMNS" "[I") .int) (by decide +kernel)) (va_eqt (hs (.eq (.length (.static "KingsBoard$Lines" "WAY_COLUMNS" "[I")) (.int 8)) (by decide +kernel))) (fun j hj => by
    rcases (show j = 0 ∨ j = 1 ∨ j = 2 ∨ j = 3 ∨ j = 4 ∨ j = 5 ∨ j = 6 ∨ j = 7 by omega) with rfl | rfl | rfl | rfl | rfl | rfl | rfl | rfl
    · exact va_eqt (hs (.eq (.elem (.static "KingsBoard$Lines" "WAY_COLUMNS" "[I") (.int 0)) (.int 1)) (by decide +kernel))
    · exact va_eqt (hs (.eq (.elem (.static "KingsBoard$Lines" "WAY_COLUMNS" "[I") (.int 1)) (.int 0)) (by decide +kernel))
    · exact va_eqt (hs (.eq (.elem (.static "KingsBoard$Lines" "WAY_COLUMNS" "[I") (.int 2)) (.int 1)) (by decide +kernel))
    · exact va_eqt (hs (.eq (.elem (.static "KingsBoard$Lines" "WAY_COLUMNS" "[I") (.int 3)) (.int (-1))) (by decide +kernel))
    · exact va_eqt (hs (.eq (.elem (.static "KingsBoard$Lines" "WAY_COLUMNS" "[I") (.int 4)) (.int (-1))) (by decide +kernel))
    · exact va_eqt (hs (.eq (.elem (.static "KingsBoard$Lines" "WAY_COLUMNS" "[I") (.int 5)) (.int 0)) (by decide +kernel))
    · exact va_eqt (hs (.eq (.elem (.static "KingsBoard$Lines" "WAY_COLUMNS" "[I") (.int 6)) (.int (-1))) (by decide +kernel))
    · exact va_eqt (hs (.eq (.elem (.static "KingsBoard$Lines" "WAY_COLUMNS" "[I") (.int 7)) (.int 1)) (by decide +kernel))
    ) hA
  exact ⟨t, va_Zref (hts (.laysStatic "KingsBoard$Lines" "WAY_COLUMNS" "[I") (tb_1 46 rfl)) (hts (.initialized "KingsBoard$Lines") (tb_1 2 rfl)) ht hA, hT⟩
set_option maxRecDepth 20000 in
theorem st_s2 {args : Array Value} {s : State} {A : Nat → Prop} (hts : ∀ w ∈ lw_tbl, w.before args s = true) (hgv : (Jvm.Cond.and given_1 narrow_1).before args s = true) (hA : ∀ a : Nat, a < s.heap.size → ¬ A a) : ∃ t : Nat, va_Z RX3 "KNIGHT_ROWS" "[I" (.ref t) A s s.heap ∧ va_T .int t 8 (fun j => .int (([1, 2, 2, 1, (-1), (-2), (-2), (-1)] : List Int32).getD j 0)) A s s.heap := by
  have hs := flat_of_before _ hgv
  obtain ⟨t, ht, hT⟩ := va_Tof (args := args) (s := s) (tm := (.static "KingsBoard$Lines" "KNIGHT_ROWS" "[I")) (ty := .int) (N := 8) (f := fun j => .int (([1, 2, 2, 1, (-1), (-2), (-2), (-1)] : List Int32).getD j 0)) (A := A) (by decide) (hs (.arrayOf (.static "KingsBoard$Lines" "KNIGHT_ROWS" "[I") .int) (by decide +kernel)) (va_eqt (hs (.eq (.length (.static "KingsBoard$Lines" "KNIGHT_ROWS" "[I")) (.int 8)) (by decide +kernel))) (fun j hj => by
    rcases (show j = 0 ∨ j = 1 ∨ j = 2 ∨ j = 3 ∨ j = 4 ∨ j = 5 ∨ j = 6 ∨ j = 7 by omega) with rfl | rfl | rfl | rfl | rfl | rfl | rfl | rfl
    · exact va_eqt (hs (.eq (.elem (.static "KingsBoard$Lines" "KNIGHT_ROWS" "[I") (.int 0)) (.int 1)) (by decide +kernel))
    · exact va_eqt (hs (.eq (.elem (.static "KingsBoard$Lines" "KNIGHT_ROWS" "[I") (.int 1)) (.int 2)) (by decide +kernel))
    · exact va_eqt (hs (.eq (.elem (.static "KingsBoard$Lines" "KNIGHT_ROWS" "[I") (.int 2)) (.int 2)) (by decide +kernel))
    · exact va_eqt (hs (.eq (.elem (.static "KingsBoard$Lines" "KNIGHT_ROWS" "[I") (.int 3)) (.int 1)) (by decide +kernel))
    · exact va_eqt (hs (.eq (.elem (.static "KingsBoard$Lines" "KNIGHT_ROWS" "[I") (.int 4)) (.int (-1))) (by decide +kernel))
    · exact va_eqt (hs (.eq (.elem (.static "KingsBoard$Lines" "KNIGHT_ROWS" "[I") (.int 5)) (.int (-2))) (by decide +kernel))
    · exact va_eqt (hs (.eq (.elem (.static "KingsBoard$Lines" "KNIGHT_ROWS" "[I") (.int 6)) (.int (-2))) (by decide +kernel))
    · exact va_eqt (hs (.eq (.elem (.static "KingsBoard$Lines" "KNIGHT_ROWS" "[I") (.int 7)) (.int (-1))) (by decide +kernel))
    ) hA
  exact ⟨t, va_Zref (hts (.laysStatic "KingsBoard$Lines" "KNIGHT_ROWS" "[I") (tb_1 51 rfl)) (hts (.initialized "KingsBoard$Lines") (tb_1 2 rfl)) ht hA, hT⟩
set_option maxRecDepth 20000 in
theorem st_s3 {args : Array Value} {s : State} {A : Nat → Prop} (hts : ∀ w ∈ lw_tbl, w.before args s = true) (hgv : (Jvm.Cond.and given_1 narrow_1).before args s = true) (hA : ∀ a : Nat, a < s.heap.size → ¬ A a) : ∃ t : Nat, va_Z RX3 "KNIGHT_COLUMNS" "[I" (.ref t) A s s.heap ∧ va_T .int t 8 (fun j => .int (([2, 1, (-1), (-2), (-2), (-1), 1, 2] : List Int32).getD j 0)) A s s.heap := by
  have hs := flat_of_before _ hgv
  obtain ⟨t, ht, hT⟩ := va_Tof (args := args) (s := s) (tm := (.static "KingsBoard$Lines" "KNIGHT_COLUMNS" "[I")) (ty := .int) (N := 8) (f := fun j => .int (([2, 1, (-1), (-2), (-2), (-1), 1, 2] : List Int32).getD j 0)) (A := A) (by decide) (hs (.arrayOf (.static "KingsBoard$Lines" "KNIGHT_COLUMNS" "[I") .int) (by decide +kernel)) (va_eqt (hs (.eq (.length (.static "KingsBoard$Lines" "KNIGHT_COLUMNS" "[I")) (.int 8)) (by decide +kernel))) (fun j hj => by
    rcases (show j = 0 ∨ j = 1 ∨ j = 2 ∨ j = 3 ∨ j = 4 ∨ j = 5 ∨ j = 6 ∨ j = 7 by omega) with rfl | rfl | rfl | rfl | rfl | rfl | rfl | rfl
    · exact va_eqt (hs (.eq (.elem (.static "KingsBoard$Lines" "KNIGHT_COLUMNS" "[I") (.int 0)) (.int 2)) (by decide +kernel))
    · exact va_eqt (hs (.eq (.elem (.static "KingsBoard$Lines" "KNIGHT_COLUMNS" "[I") (.int 1)) (.int 1)) (by decide +kernel))
    · exact va_eqt (hs (.eq (.elem (.static "KingsBoard$Lines" "KNIGHT_COLUMNS" "[I") (.int 2)) (.int (-1))) (by decide +kernel))
    · exact va_eqt (hs (.eq (.elem (.static "KingsBoard$Lines" "KNIGHT_COLUMNS" "[I") (.int 3)) (.int (-2))) (by decide +kernel))
    · exact va_eqt (hs (.eq (.elem (.static "KingsBoard$Lines" "KNIGHT_COLUMNS" "[I") (.int 4)) (.int (-2))) (by decide +kernel))
    · exact va_eqt (hs (.eq (.elem (.static "KingsBoard$Lines" "KNIGHT_COLUMNS" "[I") (.int 5)) (.int (-1))) (by decide +kernel))
    · exact va_eqt (hs (.eq (.elem (.static "KingsBoard$Lines" "KNIGHT_COLUMNS" "[I") (.int 6)) (.int 1)) (by decide +kernel))
    · exact va_eqt (hs (.eq (.elem (.static "KingsBoard$Lines" "KNIGHT_COLUMNS" "[I") (.int 7)) (.int 2)) (by decide +kernel))
    ) hA
  exact ⟨t, va_Zref (hts (.laysStatic "KingsBoard$Lines" "KNIGHT_COLUMNS" "[I") (tb_1 53 rfl)) (hts (.initialized "KingsBoard$Lines") (tb_1 2 rfl)) ht hA, hT⟩
set_option maxRecDepth 20000 in
theorem st_s4 {args : Array Value} {s : State} {A : Nat → Prop} (hts : ∀ w ∈ lw_tbl, w.before args s = true) (hgv : (Jvm.Cond.and given_1 narrow_1).before args s = true) (hA : ∀ a : Nat, a < s.heap.size → ¬ A a) : ∃ t : Nat, va_Z RX3 "WHITE_PAWN_ROWS" "[I" (.ref t) A s s.heap ∧ va_T .int t 2 (fun j => .int (([1, 1] : List Int32).getD j 0)) A s s.heap := by
  have hs := flat_of_before _ hgv
  obtain ⟨t, ht, hT⟩ := va_Tof (args := args) (s := s) (tm := (.static "KingsBoard$Lines" "WHITE_PAWN_ROWS" "[I")) (ty := .int) (N := 2) (f := fun j => .int (([1, 1] : List Int32).getD j 0)) (A := A) (by decide) (hs (.arrayOf (.static "KingsBoard$Lines" "WHITE_PAWN_ROWS" "[I") .int) (by decide +kernel)) (va_eqt (hs (.eq (.length (.static "KingsBoard$Lines" "WHITE_PAWN_ROWS" "[I")) (.int 2)) (by decide +kernel))) (fun j hj => by
    rcases (show j = 0 ∨ j = 1 by omega) with rfl | rfl
    · exact va_eqt (hs (.eq (.elem (.static "KingsBoard$Lines" "WHITE_PAWN_ROWS" "[I") (.int 0)) (.int 1)) (by decide +kernel))
    · exact va_eqt (hs (.eq (.elem (.static "KingsBoard$Lines" "WHITE_PAWN_ROWS" "[I") (.int 1)) (.int 1)) (by decide +kernel))
    ) hA
  exact ⟨t, va_Zref (hts (.laysStatic "KingsBoard$Lines" "WHITE_PAWN_ROWS" "[I") (tb_1 58 rfl)) (hts (.initialized "KingsBoard$Lines") (tb_1 2 rfl)) ht hA, hT⟩
set_option maxRecDepth 20000 in
theorem st_s5 {args : Array Value} {s : State} {A : Nat → Prop} (hts : ∀ w ∈ lw_tbl, w.before args s = true) (hgv : (Jvm.Cond.and given_1 narrow_1).before args s = true) (hA : ∀ a : Nat, a < s.heap.size → ¬ A a) : ∃ t : Nat, va_Z RX3 "BLACK_PAWN_ROWS" "[I" (.ref t) A s s.heap ∧ va_T .int t 2 (fun j => .int (([(-1), (-1)] : List Int32).getD j 0)) A s s.heap := by
  have hs := flat_of_before _ hgv
  obtain ⟨t, ht, hT⟩ := va_Tof (args := args) (s := s) (tm := (.static "KingsBoard$Lines" "BLACK_PAWN_ROWS" "[I")) (ty := .int) (N := 2) (f := fun j => .int (([(-1), (-1)] : List Int32).getD j 0)) (A := A) (by decide) (hs (.arrayOf (.static "KingsBoard$Lines" "BLACK_PAWN_ROWS" "[I") .int) (by decide +kernel)) (va_eqt (hs (.eq (.length (.static "KingsBoard$Lines" "BLACK_PAWN_ROWS" "[I")) (.int 2)) (by decide +kernel))) (fun j hj => by
    rcases (show j = 0 ∨ j = 1 by omega) with rfl | rfl
    · exact va_eqt (hs (.eq (.elem (.static "KingsBoard$Lines" "BLACK_PAWN_ROWS" "[I") (.int 0)) (.int (-1))) (by decide +kernel))
    · exact va_eqt (hs (.eq (.elem (.static "KingsBoard$Lines" "BLACK_PAWN_ROWS" "[I") (.int 1)) (.int (-1))) (by decide +kernel))
    ) hA
  exact ⟨t, va_Zref (hts (.laysStatic "KingsBoard$Lines" "BLACK_PAWN_ROWS" "[I") (tb_1 62 rfl)) (hts (.initialized "KingsBoard$Lines") (tb_1 2 rfl)) ht hA, hT⟩
set_option maxRecDepth 20000 in
theorem st_s6 {args : Array Value} {s : State} {A : Nat → Prop} (hts : ∀ w ∈ lw_tbl, w.before args s = true) (hgv : (Jvm.Cond.and given_1 narrow_1).before args s = true) (hA : ∀ a : Nat, a < s.heap.size → ¬ A a) : ∃ t : Nat, va_Z RX3 "PAWN_COLUMNS" "[I" (.ref t) A s s.heap ∧ va_T .int t 2 (fun j => .int (([(-1), 1] : List Int32).getD j 0)) A s s.heap := by
  have hs := flat_of_before _ hgv
  obtain ⟨t, ht, hT⟩ := va_Tof (args := args) (s := s) (tm := (.static "KingsBoard$Lines" "PAWN_COLUMNS" "[I")) (ty := .int) (N := 2) (f := fun j => .int (([(-1), 1] : List Int32).getD j 0)) (A := A) (by decide) (hs (.arrayOf (.static "KingsBoard$Lines" "PAWN_COLUMNS" "[I") .int) (by decide +kernel)) (va_eqt (hs (.eq (.length (.static "KingsBoard$Lines" "PAWN_COLUMNS" "[I")) (.int 2)) (by decide +kernel))) (fun j hj => by
    rcases (show j = 0 ∨ j = 1 by omega) with rfl | rfl
    · exact va_eqt (hs (.eq (.elem (.static "KingsBoard$Lines" "PAWN_COLUMNS" "[I") (.int 0)) (.int (-1))) (by decide +kernel))
    · exact va_eqt (hs (.eq (.elem (.static "KingsBoard$Lines" "PAWN_COLUMNS" "[I") (.int 1)) (.int 1)) (by decide +kernel))
    ) hA
  exact ⟨t, va_Zref (hts (.laysStatic "KingsBoard$Lines" "PAWN_COLUMNS" "[I") (tb_1 60 rfl)) (hts (.initialized "KingsBoard$Lines") (tb_1 2 rfl)) ht hA, hT⟩
set_option maxRecDepth 20000 in
theorem st_s7 {args : Array Value} {s : State} {A : Nat → Prop} (hts : ∀ w ∈ lw_tbl, w.before args s = true) (hgv : (Jvm.Cond.and given_1 narrow_1).before args s = true) (hA : ∀ a : Nat, a < s.heap.size → ¬ A a) : ∃ t : Nat, va_Z RX0 "FIRST_RANK" "[I" (.ref t) A s s.heap ∧ va_T .int t 8 (fun j => .int (([4, 2, 3, 5, 6, 3, 2, 4] : List Int32).getD j 0)) A s s.heap := by
  have hs := flat_of_before _ hgv
  obtain ⟨t, ht, hT⟩ := va_Tof (args := args) (s := s) (tm := (.static "KingsBoard$Board" "FIRST_RANK" "[I")) (ty := .int) (N := 8) (f := fun j => .int (([4, 2, 3, 5, 6, 3, 2, 4] : List Int32).getD j 0)) (A := A) (by decide) (hs (.arrayOf (.static "KingsBoard$Board" "FIRST_RANK" "[I") .int) (by decide +kernel)) (va_eqt (hs (.eq (.length (.static "KingsBoard$Board" "FIRST_RANK" "[I")) (.int 8)) (by decide +kernel))) (fun j hj => by
    rcases (show j = 0 ∨ j = 1 ∨ j = 2 ∨ j = 3 ∨ j = 4 ∨ j = 5 ∨ j = 6 ∨ j = 7 by omega) with rfl | rfl | rfl | rfl | rfl | rfl | rfl | rfl
    · exact va_eqt (hs (.eq (.elem (.static "KingsBoard$Board" "FIRST_RANK" "[I") (.int 0)) (.int 4)) (by decide +kernel))
    · exact va_eqt (hs (.eq (.elem (.static "KingsBoard$Board" "FIRST_RANK" "[I") (.int 1)) (.int 2)) (by decide +kernel))
    · exact va_eqt (hs (.eq (.elem (.static "KingsBoard$Board" "FIRST_RANK" "[I") (.int 2)) (.int 3)) (by decide +kernel))
    · exact va_eqt (hs (.eq (.elem (.static "KingsBoard$Board" "FIRST_RANK" "[I") (.int 3)) (.int 5)) (by decide +kernel))
    · exact va_eqt (hs (.eq (.elem (.static "KingsBoard$Board" "FIRST_RANK" "[I") (.int 4)) (.int 6)) (by decide +kernel))
    · exact va_eqt (hs (.eq (.elem (.static "KingsBoard$Board" "FIRST_RANK" "[I") (.int 5)) (.int 3)) (by decide +kernel))
    · exact va_eqt (hs (.eq (.elem (.static "KingsBoard$Board" "FIRST_RANK" "[I") (.int 6)) (.int 2)) (by decide +kernel))
    · exact va_eqt (hs (.eq (.elem (.static "KingsBoard$Board" "FIRST_RANK" "[I") (.int 7)) (.int 4)) (by decide +kernel))
    ) hA
  exact ⟨t, va_Zref (hts (.laysStatic "KingsBoard$Board" "FIRST_RANK" "[I") (tb_1 184 rfl)) (hts (.initialized "KingsBoard$Board") (tb_1 5 rfl)) ht hA, hT⟩
set_option maxRecDepth 20000 in
theorem st_t0 {args : Array Value} {s : State} {A : Nat → Prop} (hts : ∀ w ∈ lw_tbl, w.before args s = true) (hgv : (Jvm.Cond.and given_1 narrow_1).before args s = true) (hA : ∀ a : Nat, a < s.heap.size → ¬ A a) : ∃ a v : Nat, vk_R RX5 95 "PNBRQKpnbrqk" a s ∧ kStr a v ([80, 78, 66, 82, 81, 75, 112, 110, 98, 114, 113, 107] : List Int32) A s s.heap := by
  have hs := flat_of_before _ hgv
  have hex := hs (.exactly (.string "KingsBoard$Reader" 95) "java/lang/String") (by decide +kernel)
  obtain ⟨a, c, cA, kA, q1, -⟩ := Cond.exactly_spec (args := args) (first := s) (o := none) (s := s) (idx := []) (t := (.string "KingsBoard$Reader" 95)) (cls := "java/lang/String") hex
  obtain ⟨v, hv, hT⟩ := va_Tof (args := args) (s := s) (tm := (.field (.string "KingsBoard$Reader" 95) "java/lang/String" "value" "[B")) (ty := .byte) (N := 12) (f := fun j => .int (([80, 78, 66, 82, 81, 75, 112, 110, 98, 114, 113, 107] : List Int32).getD j 0)) (A := A) (by decide) (hs (.arrayOf (.field (.string "KingsBoard$Reader" 95) "java/lang/String" "value" "[B") .byte) (by decide +kernel)) (va_eqt (hs (.eq (.length (.field (.string "KingsBoard$Reader" 95) "java/lang/String" "value" "[B")) (.int 12)) (by decide +kernel))) (fun j hj => by
    rcases (show j = 0 ∨ j = 1 ∨ j = 2 ∨ j = 3 ∨ j = 4 ∨ j = 5 ∨ j = 6 ∨ j = 7 ∨ j = 8 ∨ j = 9 ∨ j = 10 ∨ j = 11 by omega) with rfl | rfl | rfl | rfl | rfl | rfl | rfl | rfl | rfl | rfl | rfl | rfl
    · exact va_eqt (hs (.eq (.elem (.field (.string "KingsBoard$Reader" 95) "java/lang/String" "value" "[B") (.int 0)) (.int 80)) (by decide +kernel))
    · exact va_eqt (hs (.eq (.elem (.field (.string "KingsBoard$Reader" 95) "java/lang/String" "value" "[B") (.int 1)) (.int 78)) (by decide +kernel))
    · exact va_eqt (hs (.eq (.elem (.field (.string "KingsBoard$Reader" 95) "java/lang/String" "value" "[B") (.int 2)) (.int 66)) (by decide +kernel))
    · exact va_eqt (hs (.eq (.elem (.field (.string "KingsBoard$Reader" 95) "java/lang/String" "value" "[B") (.int 3)) (.int 82)) (by decide +kernel))
    · exact va_eqt (hs (.eq (.elem (.field (.string "KingsBoard$Reader" 95) "java/lang/String" "value" "[B") (.int 4)) (.int 81)) (by decide +kernel))
    · exact va_eqt (hs (.eq (.elem (.field (.string "KingsBoard$Reader" 95) "java/lang/String" "value" "[B") (.int 5)) (.int 75)) (by decide +kernel))
    · exact va_eqt (hs (.eq (.elem (.field (.string "KingsBoard$Reader" 95) "java/lang/String" "value" "[B") (.int 6)) (.int 112)) (by decide +kernel))
    · exact va_eqt (hs (.eq (.elem (.field (.string "KingsBoard$Reader" 95) "java/lang/String" "value" "[B") (.int 7)) (.int 110)) (by decide +kernel))
    · exact va_eqt (hs (.eq (.elem (.field (.string "KingsBoard$Reader" 95) "java/lang/String" "value" "[B") (.int 8)) (.int 98)) (by decide +kernel))
    · exact va_eqt (hs (.eq (.elem (.field (.string "KingsBoard$Reader" 95) "java/lang/String" "value" "[B") (.int 9)) (.int 114)) (by decide +kernel))
    · exact va_eqt (hs (.eq (.elem (.field (.string "KingsBoard$Reader" 95) "java/lang/String" "value" "[B") (.int 10)) (.int 113)) (by decide +kernel))
    · exact va_eqt (hs (.eq (.elem (.field (.string "KingsBoard$Reader" 95) "java/lang/String" "value" "[B") (.int 11)) (.int 107)) (by decide +kernel))
    ) hA
  exact ⟨a, v, vk_R.of (hts (.stringRef "KingsBoard$Reader" 95 "PNBRQKpnbrqk") (tb_2 147 rfl)) q1, va_Oof hex q1 hA, vk_OFof q1 (va_eqt (hs (.eq (.field (.string "KingsBoard$Reader" 95) "java/lang/String" "coder" "B") (.int 0)) (by decide +kernel))) hA, vk_OFof q1 hv hA, hT⟩
set_option maxRecDepth 20000 in
theorem st_t1 {args : Array Value} {s : State} {A : Nat → Prop} (hts : ∀ w ∈ lw_tbl, w.before args s = true) (hgv : (Jvm.Cond.and given_1 narrow_1).before args s = true) (hA : ∀ a : Nat, a < s.heap.size → ¬ A a) : ∃ a v : Nat, vk_R RX5 105 "KQkq" a s ∧ kStr a v ([75, 81, 107, 113] : List Int32) A s s.heap := by
  have hs := flat_of_before _ hgv
  have hex := hs (.exactly (.string "KingsBoard$Reader" 105) "java/lang/String") (by decide +kernel)
  obtain ⟨a, c, cA, kA, q1, -⟩ := Cond.exactly_spec (args := args) (first := s) (o := none) (s := s) (idx := []) (t := (.string "KingsBoard$Reader" 105)) (cls := "java/lang/String") hex
  obtain ⟨v, hv, hT⟩ := va_Tof (args := args) (s := s) (tm := (.field (.string "KingsBoard$Reader" 105) "java/lang/String" "value" "[B")) (ty := .byte) (N := 4) (f := fun j => .int (([75, 81, 107, 113] : List Int32).getD j 0)) (A := A) (by decide) (hs (.arrayOf (.field (.string "KingsBoard$Reader" 105) "java/lang/String" "value" "[B") .byte) (by decide +kernel)) (va_eqt (hs (.eq (.length (.field (.string "KingsBoard$Reader" 105) "java/lang/String" "value" "[B")) (.int 4)) (by decide +kernel))) (fun j hj => by
    rcases (show j = 0 ∨ j = 1 ∨ j = 2 ∨ j = 3 by omega) with rfl | rfl | rfl | rfl
    · exact va_eqt (hs (.eq (.elem (.field (.string "KingsBoard$Reader" 105) "java/lang/String" "value" "[B") (.int 0)) (.int 75)) (by decide +kernel))
    · exact va_eqt (hs (.eq (.elem (.field (.string "KingsBoard$Reader" 105) "java/lang/String" "value" "[B") (.int 1)) (.int 81)) (by decide +kernel))
    · exact va_eqt (hs (.eq (.elem (.field (.string "KingsBoard$Reader" 105) "java/lang/String" "value" "[B") (.int 2)) (.int 107)) (by decide +kernel))
    · exact va_eqt (hs (.eq (.elem (.field (.string "KingsBoard$Reader" 105) "java/lang/String" "value" "[B") (.int 3)) (.int 113)) (by decide +kernel))
    ) hA
  exact ⟨a, v, vk_R.of (hts (.stringRef "KingsBoard$Reader" 105 "KQkq") (tb_3 1 rfl)) q1, va_Oof hex q1 hA, vk_OFof q1 (va_eqt (hs (.eq (.field (.string "KingsBoard$Reader" 105) "java/lang/String" "coder" "B") (.int 0)) (by decide +kernel))) hA, vk_OFof q1 hv hA, hT⟩
set_option maxRecDepth 20000 in
theorem st_t2 {args : Array Value} {s : State} {A : Nat → Prop} (hts : ∀ w ∈ lw_tbl, w.before args s = true) (hgv : (Jvm.Cond.and given_1 narrow_1).before args s = true) (hA : ∀ a : Nat, a < s.heap.size → ¬ A a) : ∃ a v : Nat, vk_R RX8 61 " PNBRQK" a s ∧ kStr a v ([32, 80, 78, 66, 82, 81, 75] : List Int32) A s s.heap := by
  have hs := flat_of_before _ hgv
  have hex := hs (.exactly (.string "KingsBoard$Writer" 61) "java/lang/String") (by decide +kernel)
  obtain ⟨a, c, cA, kA, q1, -⟩ := Cond.exactly_spec (args := args) (first := s) (o := none) (s := s) (idx := []) (t := (.string "KingsBoard$Writer" 61)) (cls := "java/lang/String") hex
  obtain ⟨v, hv, hT⟩ := va_Tof (args := args) (s := s) (tm := (.field (.string "KingsBoard$Writer" 61) "java/lang/String" "value" "[B")) (ty := .byte) (N := 7) (f := fun j => .int (([32, 80, 78, 66, 82, 81, 75] : List Int32).getD j 0)) (A := A) (by decide) (hs (.arrayOf (.field (.string "KingsBoard$Writer" 61) "java/lang/String" "value" "[B") .byte) (by decide +kernel)) (va_eqt (hs (.eq (.length (.field (.string "KingsBoard$Writer" 61) "java/lang/String" "value" "[B")) (.int 7)) (by decide +kernel))) (fun j hj => by
    rcases (show j = 0 ∨ j = 1 ∨ j = 2 ∨ j = 3 ∨ j = 4 ∨ j = 5 ∨ j = 6 by omega) with rfl | rfl | rfl | rfl | rfl | rfl | rfl
    · exact va_eqt (hs (.eq (.elem (.field (.string "KingsBoard$Writer" 61) "java/lang/String" "value" "[B") (.int 0)) (.int 32)) (by decide +kernel))
    · exact va_eqt (hs (.eq (.elem (.field (.string "KingsBoard$Writer" 61) "java/lang/String" "value" "[B") (.int 1)) (.int 80)) (by decide +kernel))
    · exact va_eqt (hs (.eq (.elem (.field (.string "KingsBoard$Writer" 61) "java/lang/String" "value" "[B") (.int 2)) (.int 78)) (by decide +kernel))
    · exact va_eqt (hs (.eq (.elem (.field (.string "KingsBoard$Writer" 61) "java/lang/String" "value" "[B") (.int 3)) (.int 66)) (by decide +kernel))
    · exact va_eqt (hs (.eq (.elem (.field (.string "KingsBoard$Writer" 61) "java/lang/String" "value" "[B") (.int 4)) (.int 82)) (by decide +kernel))
    · exact va_eqt (hs (.eq (.elem (.field (.string "KingsBoard$Writer" 61) "java/lang/String" "value" "[B") (.int 5)) (.int 81)) (by decide +kernel))
    · exact va_eqt (hs (.eq (.elem (.field (.string "KingsBoard$Writer" 61) "java/lang/String" "value" "[B") (.int 6)) (.int 75)) (by decide +kernel))
    ) hA
  exact ⟨a, v, vk_R.of (hts (.stringRef "KingsBoard$Writer" 61 " PNBRQK") (tb_3 132 rfl)) q1, va_Oof hex q1 hA, vk_OFof q1 (va_eqt (hs (.eq (.field (.string "KingsBoard$Writer" 61) "java/lang/String" "coder" "B") (.int 0)) (by decide +kernel))) hA, vk_OFof q1 hv hA, hT⟩
set_option maxRecDepth 20000 in
theorem st_t3 {args : Array Value} {s : State} {A : Nat → Prop} (hts : ∀ w ∈ lw_tbl, w.before args s = true) (hgv : (Jvm.Cond.and given_1 narrow_1).before args s = true) (hA : ∀ a : Nat, a < s.heap.size → ¬ A a) : ∃ a v : Nat, vk_R RX8 69 " pnbrqk" a s ∧ kStr a v ([32, 112, 110, 98, 114, 113, 107] : List Int32) A s s.heap := by
  have hs := flat_of_before _ hgv
  have hex := hs (.exactly (.string "KingsBoard$Writer" 69) "java/lang/String") (by decide +kernel)
  obtain ⟨a, c, cA, kA, q1, -⟩ := Cond.exactly_spec (args := args) (first := s) (o := none) (s := s) (idx := []) (t := (.string "KingsBoard$Writer" 69)) (cls := "java/lang/String") hex
  obtain ⟨v, hv, hT⟩ := va_Tof (args := args) (s := s) (tm := (.field (.string "KingsBoard$Writer" 69) "java/lang/String" "value" "[B")) (ty := .byte) (N := 7) (f := fun j => .int (([32, 112, 110, 98, 114, 113, 107] : List Int32).getD j 0)) (A := A) (by decide) (hs (.arrayOf (.field (.string "KingsBoard$Writer" 69) "java/lang/String" "value" "[B") .byte) (by decide +kernel)) (va_eqt (hs (.eq (.length (.field (.string "KingsBoard$Writer" 69) "java/lang/String" "value" "[B")) (.int 7)) (by decide +kernel))) (fun j hj => by
    rcases (show j = 0 ∨ j = 1 ∨ j = 2 ∨ j = 3 ∨ j = 4 ∨ j = 5 ∨ j = 6 by omega) with rfl | rfl | rfl | rfl | rfl | rfl | rfl
    · exact va_eqt (hs (.eq (.elem (.field (.string "KingsBoard$Writer" 69) "java/lang/String" "value" "[B") (.int 0)) (.int 32)) (by decide +kernel))
    · exact va_eqt (hs (.eq (.elem (.field (.string "KingsBoard$Writer" 69) "java/lang/String" "value" "[B") (.int 1)) (.int 112)) (by decide +kernel))
    · exact va_eqt (hs (.eq (.elem (.field (.string "KingsBoard$Writer" 69) "java/lang/String" "value" "[B") (.int 2)) (.int 110)) (by decide +kernel))
    · exact va_eqt (hs (.eq (.elem (.field (.string "KingsBoard$Writer" 69) "java/lang/String" "value" "[B") (.int 3)) (.int 98)) (by decide +kernel))
    · exact va_eqt (hs (.eq (.elem (.field (.string "KingsBoard$Writer" 69) "java/lang/String" "value" "[B") (.int 4)) (.int 114)) (by decide +kernel))
    · exact va_eqt (hs (.eq (.elem (.field (.string "KingsBoard$Writer" 69) "java/lang/String" "value" "[B") (.int 5)) (.int 113)) (by decide +kernel))
    · exact va_eqt (hs (.eq (.elem (.field (.string "KingsBoard$Writer" 69) "java/lang/String" "value" "[B") (.int 6)) (.int 107)) (by decide +kernel))
    ) hA
  exact ⟨a, v, vk_R.of (hts (.stringRef "KingsBoard$Writer" 69 " pnbrqk") (tb_3 134 rfl)) q1, va_Oof hex q1 hA, vk_OFof q1 (va_eqt (hs (.eq (.field (.string "KingsBoard$Writer" 69) "java/lang/String" "coder" "B") (.int 0)) (by decide +kernel))) hA, vk_OFof q1 hv hA, hT⟩
set_option maxRecDepth 20000 in
theorem st_t4 {args : Array Value} {s : State} {A : Nat → Prop} (hts : ∀ w ∈ lw_tbl, w.before args s = true) (hgv : (Jvm.Cond.and given_1 narrow_1).before args s = true) (hA : ∀ a : Nat, a < s.heap.size → ¬ A a) : ∃ a v : Nat, vk_R RX8 71 "KQkq" a s ∧ kStr a v ([75, 81, 107, 113] : List Int32) A s s.heap := by
  have hs := flat_of_before _ hgv
  have hex := hs (.exactly (.string "KingsBoard$Writer" 71) "java/lang/String") (by decide +kernel)
  obtain ⟨a, c, cA, kA, q1, -⟩ := Cond.exactly_spec (args := args) (first := s) (o := none) (s := s) (idx := []) (t := (.string "KingsBoard$Writer" 71)) (cls := "java/lang/String") hex
  obtain ⟨v, hv, hT⟩ := va_Tof (args := args) (s := s) (tm := (.field (.string "KingsBoard$Writer" 71) "java/lang/String" "value" "[B")) (ty := .byte) (N := 4) (f := fun j => .int (([75, 81, 107, 113] : List Int32).getD j 0)) (A := A) (by decide) (hs (.arrayOf (.field (.string "KingsBoard$Writer" 71) "java/lang/String" "value" "[B") .byte) (by decide +kernel)) (va_eqt (hs (.eq (.length (.field (.string "KingsBoard$Writer" 71) "java/lang/String" "value" "[B")) (.int 4)) (by decide +kernel))) (fun j hj => by
    rcases (show j = 0 ∨ j = 1 ∨ j = 2 ∨ j = 3 by omega) with rfl | rfl | rfl | rfl
    · exact va_eqt (hs (.eq (.elem (.field (.string "KingsBoard$Writer" 71) "java/lang/String" "value" "[B") (.int 0)) (.int 75)) (by decide +kernel))
    · exact va_eqt (hs (.eq (.elem (.field (.string "KingsBoard$Writer" 71) "java/lang/String" "value" "[B") (.int 1)) (.int 81)) (by decide +kernel))
    · exact va_eqt (hs (.eq (.elem (.field (.string "KingsBoard$Writer" 71) "java/lang/String" "value" "[B") (.int 2)) (.int 107)) (by decide +kernel))
    · exact va_eqt (hs (.eq (.elem (.field (.string "KingsBoard$Writer" 71) "java/lang/String" "value" "[B") (.int 3)) (.int 113)) (by decide +kernel))
    ) hA
  exact ⟨a, v, vk_R.of (hts (.stringRef "KingsBoard$Writer" 71 "KQkq") (tb_3 139 rfl)) q1, va_Oof hex q1 hA, vk_OFof q1 (va_eqt (hs (.eq (.field (.string "KingsBoard$Writer" 71) "java/lang/String" "coder" "B") (.int 0)) (by decide +kernel))) hA, vk_OFof q1 hv hA, hT⟩
set_option maxRecDepth 20000 in
theorem st_J {args : Array Value} {s : State} {A : Nat → Prop} (hts : ∀ w ∈ lw_tbl, w.before args s = true) (hgv : (Jvm.Cond.and given_1 narrow_1).before args s = true) (hA : ∀ a : Nat, a < s.heap.size → ¬ A a) : ∃ tq : Nat → Nat, kJ tq A s s.heap := by
  have hs := flat_of_before _ hgv
  obtain ⟨t0, hz0, hT0⟩ := st_s0 hts hgv hA
  obtain ⟨t1, hz1, hT1⟩ := st_s1 hts hgv hA
  obtain ⟨t2, hz2, hT2⟩ := st_s2 hts hgv hA
  obtain ⟨t3, hz3, hT3⟩ := st_s3 hts hgv hA
  obtain ⟨t4, hz4, hT4⟩ := st_s4 hts hgv hA
  obtain ⟨t5, hz5, hT5⟩ := st_s5 hts hgv hA
  obtain ⟨t6, hz6, hT6⟩ := st_s6 hts hgv hA
  obtain ⟨t7, hz7, hT7⟩ := st_s7 hts hgv hA
  obtain ⟨a0, v0, hr0, hk0⟩ := st_t0 hts hgv hA
  obtain ⟨a1, v1, hr1, hk1⟩ := st_t1 hts hgv hA
  obtain ⟨a2, v2, hr2, hk2⟩ := st_t2 hts hgv hA
  obtain ⟨a3, v3, hr3, hk3⟩ := st_t3 hts hgv hA
  obtain ⟨a4, v4, hr4, hk4⟩ := st_t4 hts hgv hA
  refine ⟨fun n => match n with | 0 => t0 | 1 => t1 | 2 => t2 | 3 => t3 | 4 => t4 | 5 => t5 | 6 => t6 | 7 => t7 | 8 => a0 | 9 => a1 | 10 => a2 | 11 => a3 | 12 => a4 | 13 => v0 | 14 => v1 | 15 => v2 | 16 => v3 | _ => v4, fun w h => va_Nw.of (nestW_tabs h) (hts w (nestW_in w h)), ?_, ?_, ?_⟩
  · intro k q hq
    match k, hq with
    | 0, hq => cases hq; exact ⟨hz0, hT0⟩
    | 1, hq => cases hq; exact ⟨hz1, hT1⟩
    | 2, hq => cases hq; exact ⟨hz2, hT2⟩
    | 3, hq => cases hq; exact ⟨hz3, hT3⟩
    | 4, hq => cases hq; exact ⟨hz4, hT4⟩
    | 5, hq => cases hq; exact ⟨hz5, hT5⟩
    | 6, hq => cases hq; exact ⟨hz6, hT6⟩
    | 7, hq => cases hq; exact ⟨hz7, hT7⟩
    | k + 8, hq => simp [stT] at hq
  · intro k q hq
    match k, hq with
    | 0, hq => cases hq; exact ⟨hr0, hk0⟩
    | 1, hq => cases hq; exact ⟨hr1, hk1⟩
    | 2, hq => cases hq; exact ⟨hr2, hk2⟩
    | 3, hq => cases hq; exact ⟨hr3, hk3⟩
    | 4, hq => cases hq; exact ⟨hr4, hk4⟩
    | k + 5, hq => simp [skT] at hq
  · exact ⟨va_Zof (hts (.laysStatic "java/lang/String" "COMPACT_STRINGS" "Z") (tb_2 161 rfl)) (hts (.initialized "java/lang/String") (tb_1 17 rfl)) (va_eqi (hs (.eq (.static "java/lang/String" "COMPACT_STRINGS" "Z") (.int 1)) (by decide +kernel))) hA, va_Zqof (hts (.laysStatic "jdk/internal/util/Preconditions" "SIOOBE_FORMATTER" "Ljava/util/function/BiFunction;") (tb_2 202 rfl)) (hts (.initialized "jdk/internal/util/Preconditions") (tb_1 20 rfl)) (hs (.isRef (.static "jdk/internal/util/Preconditions" "SIOOBE_FORMATTER" "Ljava/util/function/BiFunction;")) (by decide +kernel)) hA, vx_Zqof (hts (.laysStatic "java/lang/Throwable" "UNASSIGNED_STACK" "[Ljava/lang/StackTraceElement;") (tb_4 69 rfl)) (hts (.initialized "java/lang/Throwable") (tb_1 12 rfl)) (hs (.isRef (.static "java/lang/Throwable" "UNASSIGNED_STACK" "[Ljava/lang/StackTraceElement;")) (by decide +kernel)) hA, vx_Zqof (hts (.laysStatic "java/lang/Throwable" "SUPPRESSED_SENTINEL" "Ljava/util/List;") (tb_4 71 rfl)) (hts (.initialized "java/lang/Throwable") (tb_1 12 rfl)) (hs (.isRef (.static "java/lang/Throwable" "SUPPRESSED_SENTINEL" "Ljava/util/List;")) (by decide +kernel)) hA, va_Nc.of (hs (.not (.castable "java/lang/IllegalStateException" "java/lang/IllegalArgumentException")) (by decide +kernel)), va_Nc.of (hs (.not (.castable "java/lang/IllegalArgumentException" "java/lang/IndexOutOfBoundsException")) (by decide +kernel)), va_Nc.of (hs (.not (.castable "java/lang/IllegalStateException" "java/lang/IndexOutOfBoundsException")) (by decide +kernel)), va_AOA.of (hts (.arrayOver (.array .int)) (tb_2 26 rfl))⟩
