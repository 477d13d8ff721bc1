/-! What methods of the class need beside their cells: links to nest mates, the static rows, the string constants. -/
def nestW : List Cond := [.methodLinkNest RX0 76 yX9_leastOf RX9, .methodLinkNest RX1 57 yX9_upOf RX9, .methodLinkNest RX0 109 yX9_upOf RX9, .methodLinkNest RX2 54 yX9_leastOf RX9, .methodLinkNest RX2 144 yX9_upOf RX9, .methodLinkNest RX2 75 yX9_moveOf RX9, .methodLinkNest RX4 29 yX9_fromOf RX9, .methodLinkNest RX4 33 yX9_toOf RX9, .methodLinkNest RX0 117 yX9_toOf RX9, .methodLinkNest RX0 120 yX9_fromOf RX9, .methodLinkNest RX4 56 yX9_becomesOf RX9, .methodLinkNest RX9 197 yX6_countWays RX9, .methodLinkNest RX0 126 yX9_becomesOf RX9, .castable "java/lang/IllegalArgumentException" "java/lang/IllegalArgumentException", .castable "java/lang/IllegalStateException" "java/lang/IllegalStateException", .castable "java/lang/IndexOutOfBoundsException" "java/lang/IndexOutOfBoundsException", .declares ⟨"java/lang/RuntimeException", "<init>", "()V"⟩, .declares ⟨"java/lang/RuntimeException", "<init>", "(Ljava/lang/String;)V"⟩, .declares ⟨"java/lang/Exception", "<init>", "()V"⟩, .declares ⟨"java/lang/Exception", "<init>", "(Ljava/lang/String;)V"⟩, .declares ⟨"java/lang/Throwable", "<init>", "()V"⟩, .declares ⟨"java/lang/Throwable", "<init>", "(Ljava/lang/String;)V"⟩]
/-- the static rows: class, field, what they hold -/
def stT : List (String × String × List Int32) := [(RX3, "WAY_ROWS", [0, 1, 1, 1, 0, (-1), (-1), (-1)]), (RX3, "WAY_COLUMNS", [1, 0, 1, (-1), (-1), 0, (-1), 1]), (RX3, "KNIGHT_ROWS", [1, 2, 2, 1, (-1), (-2), (-2), (-1)]), (RX3, "KNIGHT_COLUMNS", [2, 1, (-1), (-2), (-2), (-1), 1, 2]), (RX3, "WHITE_PAWN_ROWS", [1, 1]), (RX3, "BLACK_PAWN_ROWS", [(-1), (-1)]), (RX3, "PAWN_COLUMNS", [(-1), 1]), (RX0, "FIRST_RANK", [4, 2, 3, 5, 6, 3, 2, 4])]
/-- the string constants: class, entry, text, bytes -/
def skT : List (String × Nat × String × List Int32) := [(RX5, 95, "PNBRQKpnbrqk", [80, 78, 66, 82, 81, 75, 112, 110, 98, 114, 113, 107]), (RX5, 105, "KQkq", [75, 81, 107, 113]), (RX8, 61, " PNBRQK", [32, 80, 78, 66, 82, 81, 75]), (RX8, 69, " pnbrqk", [32, 112, 110, 98, 114, 113, 107]), (RX8, 71, "KQkq", [75, 81, 107, 113])]
def kStr (a v : Nat) (b : List Int32) (A : Nat → Prop) (U : State) (H : Heap) : Prop := va_O "java/lang/String" a A U H ∧ va_OF "java/lang/String" "coder" "B" (.int 0) a A U H ∧ va_OF "java/lang/String" "value" "[B" (.ref v) a A U H ∧ va_T .byte v b.length (fun j => .int (b.getD j 0)) A U H
theorem va_AOA.moved {t : FieldType} {u U : State} (hvm : u.vm.Alike U.vm) (h : va_AOA t u) : va_AOA t U := by
  have e := Cond.arrayOver_setVmC (args := #[]) (s := u) hvm (.array t)
  have e2 : (Cond.arrayOver (.array t)).before #[] (u.setVm U.vm) = (Cond.arrayOver (.array t)).before #[] U := rfl
  unfold va_AOA
  rw [← e2, e]
  exact h
def kJ (tq : Nat → Nat) (A : Nat → Prop) (U : State) (H : Heap) : Prop :=
  (∀ w ∈ nestW, va_Nw w U) ∧ (∀ (k : Nat) (q : String × String × List Int32), stT[k]? = some q → va_Z q.1 q.2.1 "[I" (.ref (tq k)) A U H ∧ va_T .int (tq k) q.2.2.length (fun j => .int (q.2.2.getD j 0)) A U H) ∧
  (∀ (k : Nat) (q : String × Nat × String × List Int32), skT[k]? = some q → vk_R q.1 q.2.1 q.2.2.1 (tq (8 + k)) U ∧ kStr (tq (8 + k)) (tq (13 + k)) q.2.2.2 A U H) ∧ va_Z "java/lang/String" "COMPACT_STRINGS" "Z" (.int 1) A U H ∧ va_Zq "jdk/internal/util/Preconditions" "SIOOBE_FORMATTER" "Ljava/util/function/BiFunction;" A U H ∧ vx_Zq Bundle.tN "UNASSIGNED_STACK" Bundle.steD A U H ∧ vx_Zq Bundle.tN "SUPPRESSED_SENTINEL" Bundle.listD A U H ∧ va_Nc "java/lang/IllegalStateException" "java/lang/IllegalArgumentException" U ∧ va_Nc "java/lang/IllegalArgumentException" "java/lang/IndexOutOfBoundsException" U ∧ va_Nc "java/lang/IllegalStateException" "java/lang/IndexOutOfBoundsException" U ∧ va_AOA .int U
theorem nestW_warm {s U : State} (hW : s.WarmedH U.vm) (h : ∀ w ∈ nestW, va_Nw w s) : ∀ w ∈ nestW, va_Nw w U := by
  unfold nestW at h ⊢
  simp only [List.forall_mem_cons] at h ⊢
  obtain ⟨h0, h1, h2, h3, h4, h5, h6, h7, h8, h9, h10, h11, h12, h13, h14, h15, h16, h17, h18, h19, h20, h21, _⟩ := h
  exact ⟨va_Nw.warmM hW h0, va_Nw.warmM hW h1, va_Nw.warmM hW h2, va_Nw.warmM hW h3, va_Nw.warmM hW h4, va_Nw.warmM hW h5, va_Nw.warmM hW h6, va_Nw.warmM hW h7, va_Nw.warmM hW h8, va_Nw.warmM hW h9, va_Nw.warmM hW h10, va_Nw.warmM hW h11, va_Nw.warmM hW h12, va_Nw.warmC hW h13, va_Nw.warmC hW h14, va_Nw.warmC hW h15, va_Nw.warmD hW h16, va_Nw.warmD hW h17, va_Nw.warmD hW h18, va_Nw.warmD hW h19, va_Nw.warmD hW h20, va_Nw.warmD hW h21, fun _ q => by cases q⟩
theorem nestW_tabs {w : Cond} (h : w ∈ nestW) : w.onTables = true := by
  unfold nestW at h
  simp only [List.mem_cons, List.not_mem_nil, or_false] at h
  rcases h with rfl | rfl | rfl | rfl | rfl | rfl | rfl | rfl | rfl | rfl | rfl | rfl | rfl | rfl | rfl | rfl | rfl | rfl | rfl | rfl | rfl | rfl <;> rfl
theorem kStr.call {a v : Nat} {b : List Int32} {A B : Nat → Prop} {s U : State} {H : Heap} (h : kStr a v b A s s.heap) (hk : ∀ q : Nat, q < s.heap.size → ¬ A q → H[q]? = s.heap[q]?) (hvm : s.vm.Alike U.vm) (hAB : ∀ q, B q → A q) : kStr a v b B U H :=
  ⟨((h.1.kept hk).narrow hAB).moved hvm, ((h.2.1.kept hk).narrow hAB).moved hvm, ((h.2.2.1.kept hk).narrow hAB).moved hvm, ((h.2.2.2.kept hk).narrow hAB).moved hvm⟩
theorem kJ.call {tq : Nat → Nat} {A B : Nat → Prop} {s U : State} {H : Heap} {locs : List Loc} (h : kJ tq A s s.heap) (hS : va_S A s.heap H locs) (hU : U.heap = H) (hW : s.WarmedH U.vm) (hAB : ∀ q, B q → A q) : kJ tq B U U.heap := by
  subst hU
  refine ⟨nestW_warm hW h.1, fun k q hq => ?_, fun k q hq => ?_, ?_⟩
  · obtain ⟨h1, h2⟩ := h.2.1 k q hq
    exact ⟨((h1.kept hS.2.1).narrow hAB).moved hW.alike, ((h2.kept hS.2.1).narrow hAB).moved hW.alike⟩
  · obtain ⟨h1, h2⟩ := h.2.2.1 k q hq
    exact ⟨h1.warm hW, h2.call hS.2.1 hW.alike hAB⟩
  · exact ⟨((h.2.2.2.1.kept hS.2.1).narrow hAB).moved hW.alike, ((h.2.2.2.2.1.kept hS.2.1).narrow hAB).moved hW.alike, ((h.2.2.2.2.2.1.kept hS.2.1).narrow hAB).moved hW.alike, ((h.2.2.2.2.2.2.1.kept hS.2.1).narrow hAB).moved hW.alike, h.2.2.2.2.2.2.2.1.moved hW.alike, h.2.2.2.2.2.2.2.2.1.moved hW.alike, h.2.2.2.2.2.2.2.2.2.1.moved hW.alike, h.2.2.2.2.2.2.2.2.2.2.moved hW.alike⟩
theorem kJ.blind {tq : Nat → Nat} {A : Nat → Prop} {U : State} (h : kJ tq A U U.heap) (g : JFrame) (mk : MethodId) (a : Array Value) : kJ tq A (U.calling g mk a) (U.calling g mk a).heap := by
  refine ⟨fun w hw => va_Nw.same (nestW_tabs hw) (u := U) rfl (h.1 w hw), fun k q hq => ?_, fun k q hq => ?_, ?_⟩
  · obtain ⟨h1, h2⟩ := h.2.1 k q hq
    exact ⟨h1.moved (U := U.calling g mk a) (Vm.Alike.refl U.vm), h2.moved (U := U.calling g mk a) (Vm.Alike.refl U.vm)⟩
  · obtain ⟨h1, h2⟩ := h.2.2.1 k q hq
    exact ⟨h1.same (U := U.calling g mk a) rfl, h2.1.moved (U := U.calling g mk a) (Vm.Alike.refl U.vm), h2.2.1.moved (U := U.calling g mk a) (Vm.Alike.refl U.vm), h2.2.2.1.moved (U := U.calling g mk a) (Vm.Alike.refl U.vm), h2.2.2.2.moved (U := U.calling g mk a) (Vm.Alike.refl U.vm)⟩
  · exact ⟨h.2.2.2.1.moved (U := U.calling g mk a) (Vm.Alike.refl U.vm), h.2.2.2.2.1.moved (U := U.calling g mk a) (Vm.Alike.refl U.vm), h.2.2.2.2.2.1.moved (U := U.calling g mk a) (Vm.Alike.refl U.vm), h.2.2.2.2.2.2.1.moved (U := U.calling g mk a) (Vm.Alike.refl U.vm), h.2.2.2.2.2.2.2.1.moved (U := U.calling g mk a) (Vm.Alike.refl U.vm), h.2.2.2.2.2.2.2.2.1.moved (U := U.calling g mk a) (Vm.Alike.refl U.vm), h.2.2.2.2.2.2.2.2.2.1.moved (U := U.calling g mk a) (Vm.Alike.refl U.vm), h.2.2.2.2.2.2.2.2.2.2.moved (U := U.calling g mk a) (Vm.Alike.refl U.vm)⟩
/-- a contract of a method of the class: as kDi, with kJ at the start -/
def kEi (l : Launch) (y : MethodName) (wsY : List Cond) (rm : Room) (D : va_G) (tys : List (ClassId × FieldType)) (tq : Nat → Nat) (rv : Int32) (wc w2 : va_W) (av : List Value) : Prop :=
  ∀ sz : Nat, Met l y wsY rm (va_Pc av (fun U => U.heap.size = sz ∧ va_P D vwCl wc U.heap ∧ va_K D vwCl tys U ∧ va_D (fun _ => True) wc ∧ kJ tq (va_A wc sz) U U.heap)) (va_Qi (fun r (_ : Unit) => r = rv) (fun _ t => va_P D vwCl w2 t.heap ∧ va_K D vwCl tys t ∧ va_D (va_A wc sz) w2) (va_A wc sz)) 0 0 (va_A wc sz)
/-- a contract of a method of the class: as kDl, with kJ at the start -/
def kEl (l : Launch) (y : MethodName) (wsY : List Cond) (rm : Room) (D : va_G) (tys : List (ClassId × FieldType)) (tq : Nat → Nat) (rv : Int64) (wc w2 : va_W) (av : List Value) : Prop :=
  ∀ sz : Nat, Met l y wsY rm (va_Pc av (fun U => U.heap.size = sz ∧ va_P D vwCl wc U.heap ∧ va_K D vwCl tys U ∧ va_D (fun _ => True) wc ∧ kJ tq (va_A wc sz) U U.heap)) (va_Ql (fun r (_ : Unit) => r = rv) (fun _ t => va_P D vwCl w2 t.heap ∧ va_K D vwCl tys t ∧ va_D (va_A wc sz) w2) (va_A wc sz)) 0 0 (va_A wc sz)
/-- a contract of a method of the class: as kDv, with kJ at the start -/
def kEv (l : Launch) (y : MethodName) (wsY : List Cond) (rm : Room) (D : va_G) (tys : List (ClassId × FieldType)) (tq : Nat → Nat) (wc w2 : va_W) (av : List Value) : Prop :=
  ∀ sz : Nat, Met l y wsY rm (va_Pc av (fun U => U.heap.size = sz ∧ va_P D vwCl wc U.heap ∧ va_K D vwCl tys U ∧ va_D (fun _ => True) wc ∧ kJ tq (va_A wc sz) U U.heap)) (va_Qv (fun (_ : Unit) => True) (fun _ t => va_P D vwCl w2 t.heap ∧ va_K D vwCl tys t ∧ va_D (va_A wc sz) w2) (va_A wc sz)) 0 0 (va_A wc sz)
theorem kEi.of {l : Launch} {y : MethodName} {wsY ws' : List Cond} {rm : Room} {D : va_G} {tys : List (ClassId × FieldType)} {tq : Nat → Nat} {rv : Int32} {wc w2 : va_W} {av : List Value} (cc : ByteArray) (nL : Nat) (ret : Option FieldType) (hy : plainName y.cls = true) (hw : wsY = Cond.code y cc nL ret :: ws') (hrt : ret = some .int ∨ ret = some .boolean) (hav : (lg_sl av).length ≤ nL)
    (body : ∀ (p : Program) (e : Env) (s : State) (m : MethodId) (below : List Frame) (meth : Method) (c : Code) (A : Nat → Prop) (Q : State → Prop), kc p s m c cc nL av.toArray wsY y.cls D tys A → kJ tq A s s.heap → kRi p l e rm s m av.toArray below meth c D A nL 0 0 Q cc ret rv w2 → kv p l e rm s m av.toArray below meth c D A nL 0 0 Q wc (lv_args 0 av) 0 []) : kEi l y wsY rm D tys tq rv wc w2 av := by
  intro sz
  refine Met.ofW (cc := cc) (maxL := nL) (ret := ret) hy hw ?_
  intro p e s m args below meth c s₁ B hml hv
  obtain ⟨rfl, hsz, hP, hK, hD0, hJ⟩ := hv
  subst hsz
  have hD := hD0.self (sz := s.heap.size)
  have hl := lv_entry av (n := nL) hav
  rw [lg_entry_eq]
  refine body p e s m below meth c (va_A wc s.heap.size) _ ⟨B.exec, B.bytes, hml, findClass_of_methodNamed B.named, atoms_spec (ws := wsY) B.pre, hK, fun q h => Or.inr h⟩ hJ ?_ s.heap [] _ hP hD va_S.rf hl
  intro lv pc hdg hnb H locs ls hP hD hS hl
  rcases hrt with hrt | hrt
  · exact W.iret B.exec B.bytes (B.returns.trans hrt) (fun t ht hW => ⟨⟨rv, (), rfl, rfl, by rw [ht]; exact hP, va_K.moved hW.alike hK, hD⟩, hS.F ht⟩) hS.2.2 hdg
  · exact W.zret (ty := .boolean) B.exec B.bytes (B.returns.trans hrt) (kv_bool (hnb hrt)) (fun t ht hW => ⟨⟨rv, (), rfl, rfl, by rw [ht]; exact hP, va_K.moved hW.alike hK, hD⟩, hS.F ht⟩) hS.2.2 hdg
theorem kEl.of {l : Launch} {y : MethodName} {wsY ws' : List Cond} {rm : Room} {D : va_G} {tys : List (ClassId × FieldType)} {tq : Nat → Nat} {rv : Int64} {wc w2 : va_W} {av : List Value} (cc : ByteArray) (nL : Nat) (ret : Option FieldType) (hy : plainName y.cls = true) (hw : wsY = Cond.code y cc nL ret :: ws') (hrt : ret = some .long) (hav : (lg_sl av).length ≤ nL)
    (body : ∀ (p : Program) (e : Env) (s : State) (m : MethodId) (below : List Frame) (meth : Method) (c : Code) (A : Nat → Prop) (Q : State → Prop), kc p s m c cc nL av.toArray wsY y.cls D tys A → kJ tq A s s.heap → kRl p l e rm s m av.toArray below meth c D A nL 0 0 Q cc ret rv w2 → kv p l e rm s m av.toArray below meth c D A nL 0 0 Q wc (lv_args 0 av) 0 []) : kEl l y wsY rm D tys tq rv wc w2 av := by
  intro sz
  refine Met.ofW (cc := cc) (maxL := nL) (ret := ret) hy hw ?_
  intro p e s m args below meth c s₁ B hml hv
  obtain ⟨rfl, hsz, hP, hK, hD0, hJ⟩ := hv
  subst hsz
  have hD := hD0.self (sz := s.heap.size)
  have hl := lv_entry av (n := nL) hav
  rw [lg_entry_eq]
  refine body p e s m below meth c (va_A wc s.heap.size) _ ⟨B.exec, B.bytes, hml, findClass_of_methodNamed B.named, atoms_spec (ws := wsY) B.pre, hK, fun q h => Or.inr h⟩ hJ ?_ s.heap [] _ hP hD va_S.rf hl
  intro lv pc hdg H locs ls hP hD hS hl
  exact W.lret B.exec B.bytes (B.returns.trans hrt) (fun t ht hW => ⟨⟨rv, (), rfl, rfl, by rw [ht]; exact hP, va_K.moved hW.alike hK, hD⟩, hS.F ht⟩) hS.2.2 hdg
theorem kEv.of {l : Launch} {y : MethodName} {wsY ws' : List Cond} {rm : Room} {D : va_G} {tys : List (ClassId × FieldType)} {tq : Nat → Nat} {wc w2 : va_W} {av : List Value} (cc : ByteArray) (nL : Nat) (ret : Option FieldType) (hy : plainName y.cls = true) (hw : wsY = Cond.code y cc nL ret :: ws') (hrt : ret = none) (hav : (lg_sl av).length ≤ nL)
    (body : ∀ (p : Program) (e : Env) (s : State) (m : MethodId) (below : List Frame) (meth : Method) (c : Code) (A : Nat → Prop) (Q : State → Prop), kc p s m c cc nL av.toArray wsY y.cls D tys A → kJ tq A s s.heap → kRv p l e rm s m av.toArray below meth c D A nL 0 0 Q cc ret w2 → kv p l e rm s m av.toArray below meth c D A nL 0 0 Q wc (lv_args 0 av) 0 []) : kEv l y wsY rm D tys tq wc w2 av := by
  intro sz
  refine Met.ofW (cc := cc) (maxL := nL) (ret := ret) hy hw ?_
  intro p e s m args below meth c s₁ B hml hv
  obtain ⟨rfl, hsz, hP, hK, hD0, hJ⟩ := hv
  subst hsz
  have hD := hD0.self (sz := s.heap.size)
  have hl := lv_entry av (n := nL) hav
  rw [lg_entry_eq]
  refine body p e s m below meth c (va_A wc s.heap.size) _ ⟨B.exec, B.bytes, hml, findClass_of_methodNamed B.named, atoms_spec (ws := wsY) B.pre, hK, fun q h => Or.inr h⟩ hJ ?_ s.heap [] _ hP hD va_S.rf hl
  intro lv pc hdg H locs ls hP hD hS hl
  exact W.vret B.exec B.bytes (B.returns.trans hrt) (fun t ht hW => ⟨⟨(), rfl, trivial, by rw [ht]; exact hP, va_K.moved hW.alike hK, hD⟩, hS.F ht⟩) hS.2.2 hdg
section KVE
variable {p : Program} {l : Launch} {e : Env} {R : Room} {s : State} {m : MethodId} {args : Array Value} {below : List Frame} {meth : Method} {c : Code} {D : va_G} {A : Nat → Prop} {nL ce sl : Nat} {Q : State → Prop} {ws : va_W} {lv : List (Nat × Value)} {pc : Nat} {rest st0 : List Value} {cc : ByteArray} {Ts : List Cond} {own : String} {tys : List (ClassId × FieldType)}
theorem kv_eSi {y : MethodName} {wsY : List Cond} {rm : Room} {tysc : List (ClassId × FieldType)} {tq : Nat → Nat} {rv : Int32} {wc w2 ws2 : va_W} (C : kc p s m c cc nL args Ts own D tys A) (hJ : kJ tq A s s.heap) {bytes : ByteArray} {maxL n index : Nat} {ret : Option FieldType} (As : List Value) (hM : kEi l y wsY rm D tysc tq rv wc w2 As) (cw : CallB R s args own index y bytes maxL ret wsY rm 0 0 n ∧ (Cond.static y).before args s = true) (isC isR js pm : List Nat) (hC : isC.map (fun i => ws[i]?) = wc.map some) (hC2 : isC.filterMap (fun i => ws[i]?) = wc) (hR : isR.map (fun i => ws[i]?) = (isR.filterMap (fun i => ws[i]?)).map some) (hnC : va_nd isC = true) (hn : va_nd isR = true) (hdis : ∀ i ∈ isR, i ∉ isC) (hty : js.filterMap (fun i => tys[i]?) = tysc) (hAs : As.length = n) (hst : st0 = As.reverse ++ rest) (hW : (rest.map fun v => v.category).sum ≤ 8) (hdg : decode cc pc = .ok (.invokestatic index, 3)) (hce : ce ≤ R.cells ∧ sl ≤ R.slots) (hp1 : pm.filterMap (fun i => ((isR.filterMap (fun i => ws[i]?)) ++ w2)[i]?) = ws2) (hp2 : pm.map (fun i => ((isR.filterMap (fun i => ws[i]?)) ++ w2)[i]?) = ws2.map some) (hp3 : va_nd pm = true) (kk : kv p l e R s m args below meth c D A nL ce sl Q ws2 lv (pc + 3) (.int rv :: rest)) : kv p l e R s m args below meth c D A nL ce sl Q ws lv pc st0 := by
  subst hst
  intro H locs ls hP hD hS hl
  have hPc := hP.sub (ws' := wc) isC hC2
  have hDc := hD.sub (ws' := wc) isC hnC hC
  have hKc := C.k.sub (tys' := tysc) js hty
  have hFc := va_free (wc := wc) hD hS C.a isC hC
  refine va_calli (va_runS (As := As) (rest := rest) ⟨C.x, C.b, C.ml, C.ow, C.ts⟩ (hM H.size) cw ⟨fun a U g mk q => by obtain ⟨q0, q1, qP, qK, qD, qJ⟩ := q; exact ⟨q0, q1, qP, va_K.moved (u := U) (U := U.calling g mk a) (Vm.Alike.refl U.vm) qK, qD, qJ.blind g mk a⟩, fun U hU hW => ⟨rfl, by rw [hU], by rw [hU]; exact hPc, va_K.moved hW.alike hKc, hDc.weaken (fun _ _ _ _ => trivial), hJ.call hS hU hW hFc⟩⟩ rfl hAs hl.1 rfl (lv_room hW) hdg hce) hS (fun q _ h => hFc q h) hFc (fun r u t H1 locs1 ht hvm hw hB hz1 hk1 hS => ?_)
  subst hw
  obtain ⟨hP1, hK1, hD1⟩ := hB
  rw [ht] at hP1
  obtain ⟨hP, hD⟩ := va_join (wr := isR.filterMap (fun i => ws[i]?)) (w1 := w2) hP hD isC isR hC hR hn hdis hk1 hFc hP1 hD1
  exact kk _ _ _ (hP.sub pm hp1) (hD.sub pm hp3 hp2) hS hl
theorem kv_eVi {y : MethodName} {wsY : List Cond} {rm : Room} {tysc : List (ClassId × FieldType)} {tq : Nat → Nat} {rv : Int32} {wc w2 ws2 : va_W} (C : kc p s m c cc nL args Ts own D tys A) (hJ : kJ tq A s s.heap) {b ci N : Nat} {T : u_T} {fs : List Value} {bytes : ByteArray} {maxL n index : Nat} {ret : Option FieldType} {Cn : String} (As : List Value) (q0 : Nat) (hM : kEi l y wsY rm D tysc tq rv wc w2 (.ref b :: As)) (cw : CallW R s args own Cn index y bytes maxL ret wsY rm 0 0 n) (hc : vwCl[ci]? = some (Cn, T, N)) (he : wc[q0]? = some (b, .inr (ci, fs))) (isC isR js pm : List Nat) (hC : isC.map (fun i => ws[i]?) = wc.map some) (hC2 : isC.filterMap (fun i => ws[i]?) = wc) (hR : isR.map (fun i => ws[i]?) = (isR.filterMap (fun i => ws[i]?)).map some) (hnC : va_nd isC = true) (hn : va_nd isR = true) (hdis : ∀ i ∈ isR, i ∉ isC) (hty : js.filterMap (fun i => tys[i]?) = tysc) (hAs : As.length = n) (hst : st0 = As.reverse ++ .ref b :: rest) (hW : (rest.map fun v => v.category).sum ≤ 8) (hdg : decode cc pc = .ok (.invokevirtual index, 3)) (hce : ce ≤ R.cells ∧ sl ≤ R.slots) (hp1 : pm.filterMap (fun i => ((isR.filterMap (fun i => ws[i]?)) ++ w2)[i]?) = ws2) (hp2 : pm.map (fun i => ((isR.filterMap (fun i => ws[i]?)) ++ w2)[i]?) = ws2.map some) (hp3 : va_nd pm = true) (kk : kv p l e R s m args below meth c D A nL ce sl Q ws2 lv (pc + 3) (.int rv :: rest)) : kv p l e R s m args below meth c D A nL ce sl Q ws lv pc st0 := by
  subst hst
  intro H locs ls hP hD hS hl
  have hPc := hP.sub (ws' := wc) isC hC2
  have hDc := hD.sub (ws' := wc) isC hnC hC
  have hKc := C.k.sub (tys' := tysc) js hty
  have hFc := va_free (wc := wc) hD hS C.a isC hC
  refine va_calli (va_runV (As := As) (rest := rest) ⟨C.x, C.b, C.ml, C.ow, C.ts⟩ (hM H.size) cw ⟨fun a U g mk q => by obtain ⟨q0, q1, qP, qK, qD, qJ⟩ := q; exact ⟨q0, q1, qP, va_K.moved (u := U) (U := U.calling g mk a) (Vm.Alike.refl U.vm) qK, qD, qJ.blind g mk a⟩, va_recv hKc hPc (ci := ci) (q0 := q0) hc he, fun U hU hW => ⟨rfl, by rw [hU], by rw [hU]; exact hPc, va_K.moved hW.alike hKc, hDc.weaken (fun _ _ _ _ => trivial), hJ.call hS hU hW hFc⟩⟩ rfl hAs hl.1 rfl (lv_room hW) hdg hce) hS (fun q _ h => hFc q h) hFc (fun r u t H1 locs1 ht hvm hw hB hz1 hk1 hS => ?_)
  subst hw
  obtain ⟨hP1, hK1, hD1⟩ := hB
  rw [ht] at hP1
  obtain ⟨hP, hD⟩ := va_join (wr := isR.filterMap (fun i => ws[i]?)) (w1 := w2) hP hD isC isR hC hR hn hdis hk1 hFc hP1 hD1
  exact kk _ _ _ (hP.sub pm hp1) (hD.sub pm hp3 hp2) hS hl
theorem kv_eVNi {y : MethodName} {wsY : List Cond} {rm : Room} {tysc : List (ClassId × FieldType)} {tq : Nat → Nat} {rv : Int32} {wc w2 ws2 : va_W} (C : kc p s m c cc nL args Ts own D tys A) (hJ : kJ tq A s s.heap) {b ci N : Nat} {T : u_T} {fs : List Value} {bytes : ByteArray} {maxL n index : Nat} {ret : Option FieldType} {Cn host : String} (As : List Value) (q0 : Nat) (hM : kEi l y wsY rm D tysc tq rv wc w2 (.ref b :: As)) (cw : va_CN R s args own index y host bytes maxL ret wsY rm 0 0 n ∧ (Cond.instanceMethod y).before args s = true ∧ (Cond.selects Cn y y).before args s = true) (hc : vwCl[ci]? = some (Cn, T, N)) (he : wc[q0]? = some (b, .inr (ci, fs))) (isC isR js pm : List Nat) (hC : isC.map (fun i => ws[i]?) = wc.map some) (hC2 : isC.filterMap (fun i => ws[i]?) = wc) (hR : isR.map (fun i => ws[i]?) = (isR.filterMap (fun i => ws[i]?)).map some) (hnC : va_nd isC = true) (hn : va_nd isR = true) (hdis : ∀ i ∈ isR, i ∉ isC) (hty : js.filterMap (fun i => tys[i]?) = tysc) (hAs : As.length = n) (hst : st0 = As.reverse ++ .ref b :: rest) (hW : (rest.map fun v => v.category).sum ≤ 8) (hdg : decode cc pc = .ok (.invokevirtual index, 3)) (hce : ce ≤ R.cells ∧ sl ≤ R.slots) (hp1 : pm.filterMap (fun i => ((isR.filterMap (fun i => ws[i]?)) ++ w2)[i]?) = ws2) (hp2 : pm.map (fun i => ((isR.filterMap (fun i => ws[i]?)) ++ w2)[i]?) = ws2.map some) (hp3 : va_nd pm = true) (kk : kv p l e R s m args below meth c D A nL ce sl Q ws2 lv (pc + 3) (.int rv :: rest)) : kv p l e R s m args below meth c D A nL ce sl Q ws lv pc st0 := by
  subst hst
  intro H locs ls hP hD hS hl
  have hPc := hP.sub (ws' := wc) isC hC2
  have hDc := hD.sub (ws' := wc) isC hnC hC
  have hKc := C.k.sub (tys' := tysc) js hty
  have hFc := va_free (wc := wc) hD hS C.a isC hC
  refine va_calli (va_runVN (As := As) (rest := rest) ⟨C.x, C.b, C.ml, C.ow, C.ts⟩ (hM H.size) cw ⟨fun a U g mk q => by obtain ⟨q0, q1, qP, qK, qD, qJ⟩ := q; exact ⟨q0, q1, qP, va_K.moved (u := U) (U := U.calling g mk a) (Vm.Alike.refl U.vm) qK, qD, qJ.blind g mk a⟩, va_recv hKc hPc (ci := ci) (q0 := q0) hc he, fun U hU hW => ⟨rfl, by rw [hU], by rw [hU]; exact hPc, va_K.moved hW.alike hKc, hDc.weaken (fun _ _ _ _ => trivial), hJ.call hS hU hW hFc⟩⟩ rfl hAs hl.1 rfl (lv_room hW) hdg hce) hS (fun q _ h => hFc q h) hFc (fun r u t H1 locs1 ht hvm hw hB hz1 hk1 hS => ?_)
  subst hw
  obtain ⟨hP1, hK1, hD1⟩ := hB
  rw [ht] at hP1
  obtain ⟨hP, hD⟩ := va_join (wr := isR.filterMap (fun i => ws[i]?)) (w1 := w2) hP hD isC isR hC hR hn hdis hk1 hFc hP1 hD1
  exact kk _ _ _ (hP.sub pm hp1) (hD.sub pm hp3 hp2) hS hl
theorem kv_SN0i {y : MethodName} {wsY : List Cond} {rm : Room} {rv : Int32}  (C : kc p s m c cc nL args Ts own D tys A) {bytes : ByteArray} {maxL n index : Nat} {ret : Option FieldType} {host : String} (As : List Value) (hM : kDi l y wsY rm D [] rv [] [] As) (cw : va_CN R s args own index y host bytes maxL ret wsY rm 0 0 n ∧ (Cond.static y).before args s = true ∧ True) (hAs : As.length = n) (hst : st0 = As.reverse ++ rest) (hW : (rest.map fun v => v.category).sum ≤ 8) (hdg : decode cc pc = .ok (.invokestatic index, 3)) (hce : ce ≤ R.cells ∧ sl ≤ R.slots) (kk : kv p l e R s m args below meth c D A nL ce sl Q ws lv (pc + 3) (.int rv :: rest)) : kv p l e R s m args below meth c D A nL ce sl Q ws lv pc st0 := by
  subst hst
  intro H locs ls hP hD hS hl
  have hKc := C.k.sub (tys' := []) [] rfl
  have hFc := va_free (wc := []) hD hS C.a [] rfl
  refine va_calli (va_runSN (As := As) (rest := rest) ⟨C.x, C.b, C.ml, C.ow, C.ts⟩ (hM H.size) cw ⟨fun a U g mk q => by obtain ⟨q0, q1, qP, qK, qD⟩ := q; exact ⟨q0, q1, qP, va_K.moved (u := U) (U := U.calling g mk a) (Vm.Alike.refl U.vm) qK, qD⟩, fun U hU hW => ⟨rfl, by rw [hU], fun k q h => by simp at h, va_K.moved hW.alike hKc, ⟨fun i j p q h => by simp at h, fun k q h => by simp at h⟩⟩⟩ rfl hAs hl.1 rfl (lv_room hW) hdg hce) hS (fun q _ h => hFc q h) hFc (fun r u t H1 locs1 ht hvm hw hB hz1 hk1 hS => ?_)
  subst hw
  obtain ⟨hP1, hK1, hD1⟩ := hB
  rw [ht] at hP1
  obtain ⟨hP, hD⟩ := va_join (wr := ws) (w1 := []) hP hD [] (List.range ws.length) rfl (kv_rng ws) (kv_rngN _) (fun _ _ h => by cases h) hk1 hFc hP1 hD1
  rw [List.append_nil] at hP hD
  exact kk _ _ _ hP hD hS hl
theorem kv_eS0i {y : MethodName} {wsY : List Cond} {rm : Room} {tq : Nat → Nat} {rv : Int32} (C : kc p s m c cc nL args Ts own D tys A) (hJ : kJ tq A s s.heap) {bytes : ByteArray} {maxL n index : Nat} {ret : Option FieldType} (As : List Value) (hM : kEi l y wsY rm D [] tq rv [] [] As) (cw : CallB R s args own index y bytes maxL ret wsY rm 0 0 n ∧ (Cond.static y).before args s = true) (hAs : As.length = n) (hst : st0 = As.reverse ++ rest) (hW : (rest.map fun v => v.category).sum ≤ 8) (hdg : decode cc pc = .ok (.invokestatic index, 3)) (hce : ce ≤ R.cells ∧ sl ≤ R.slots) (kk : kv p l e R s m args below meth c D A nL ce sl Q ws lv (pc + 3) (.int rv :: rest)) : kv p l e R s m args below meth c D A nL ce sl Q ws lv pc st0 :=
  kv_eSi (ws2 := ws) C hJ As hM cw [] (List.range ws.length) [] (List.range ws.length) rfl rfl (by rw [kv_rngF]; exact kv_rng ws) rfl (kv_rngN _) (fun _ _ h => by cases h) rfl hAs hst hW hdg hce (by rw [List.append_nil, kv_rngF]; exact kv_rngF ws) (by rw [List.append_nil, kv_rngF]; exact kv_rng ws) (kv_rngN _) kk
theorem kv_eO0i {y : MethodName} {wsY : List Cond} {rm : Room} {tq : Nat → Nat} {rv : Int32} (C : kc p s m c cc nL args Ts own D tys A) (hJ : kJ tq A s s.heap) {b : Nat} {bytes : ByteArray} {maxL n index : Nat} {ret : Option FieldType} (As : List Value) (hM : kEi l y wsY rm D [] tq rv [] [] (.ref b :: As)) (cw : CallW R s args own "java/lang/String" index y bytes maxL ret wsY rm 0 0 n) (hO : va_O "java/lang/String" b A s s.heap) (hAs : As.length = n) (hst : st0 = As.reverse ++ .ref b :: rest) (hW : (rest.map fun v => v.category).sum ≤ 8) (hdg : decode cc pc = .ok (.invokevirtual index, 3)) (hce : ce ≤ R.cells ∧ sl ≤ R.slots) (kk : kv p l e R s m args below meth c D A nL ce sl Q ws lv (pc + 3) (.int rv :: rest)) : kv p l e R s m args below meth c D A nL ce sl Q ws lv pc st0 := by
  subst hst
  intro H locs ls hP hD hS hl
  have hKc := C.k.sub (tys' := []) [] rfl
  have hFc := va_free (wc := []) hD hS C.a [] rfl
  have hrec : ∃ cell : Cell, H[b]? = some cell ∧ cell.vm.isStatics = false ∧ s.vm.findClass "java/lang/String" = some cell.cls := by
    obtain ⟨cell, h1, h2, h3, -⟩ := hO.kept hS.2.1
    exact ⟨cell, h1, h2, h3⟩
  refine va_calli (va_runV (As := As) (rest := rest) ⟨C.x, C.b, C.ml, C.ow, C.ts⟩ (hM H.size) cw ⟨fun a U g mk q => by obtain ⟨q0, q1, qP, qK, qD, qJ⟩ := q; exact ⟨q0, q1, qP, va_K.moved (u := U) (U := U.calling g mk a) (Vm.Alike.refl U.vm) qK, qD, qJ.blind g mk a⟩, hrec, fun U hU hW => ⟨rfl, by rw [hU], fun k q h => by simp at h, va_K.moved hW.alike hKc, ⟨fun i j p q h => by simp at h, fun k q h => by simp at h⟩, hJ.call hS hU hW hFc⟩⟩ rfl hAs hl.1 rfl (lv_room hW) hdg hce) hS (fun q _ h => hFc q h) hFc (fun r u t H1 locs1 ht hvm hw hB hz1 hk1 hS => ?_)
  subst hw
  obtain ⟨hP1, hK1, hD1⟩ := hB
  rw [ht] at hP1
  obtain ⟨hP, hD⟩ := va_join (wr := ws) (w1 := []) hP hD [] (List.range ws.length) rfl (kv_rng ws) (kv_rngN _) (fun _ _ h => by cases h) hk1 hFc hP1 hD1
  rw [List.append_nil] at hP hD
  exact kk _ _ _ hP hD hS hl
end KVE
section KVE
variable {p : Program} {l : Launch} {e : Env} {R : Room} {s : State} {m : MethodId} {args : Array Value} {below : List Frame} {meth : Method} {c : Code} {D : va_G} {A : Nat → Prop} {nL ce sl : Nat} {Q : State → Prop} {ws : va_W} {lv : List (Nat × Value)} {pc : Nat} {rest st0 : List Value} {cc : ByteArray} {Ts : List Cond} {own : String} {tys : List (ClassId × FieldType)}
theorem kv_eSl {y : MethodName} {wsY : List Cond} {rm : Room} {tysc : List (ClassId × FieldType)} {tq : Nat → Nat} {rv : Int64} {wc w2 ws2 : va_W} (C : kc p s m c cc nL args Ts own D tys A) (hJ : kJ tq A s s.heap) {bytes : ByteArray} {maxL n index : Nat} {ret : Option FieldType} (As : List Value) (hM : kEl l y wsY rm D tysc tq rv wc w2 As) (cw : CallB R s args own index y bytes maxL ret wsY rm 0 0 n ∧ (Cond.static y).before args s = true) (isC isR js pm : List Nat) (hC : isC.map (fun i => ws[i]?) = wc.map some) (hC2 : isC.filterMap (fun i => ws[i]?) = wc) (hR : isR.map (fun i => ws[i]?) = (isR.filterMap (fun i => ws[i]?)).map some) (hnC : va_nd isC = true) (hn : va_nd isR = true) (hdis : ∀ i ∈ isR, i ∉ isC) (hty : js.filterMap (fun i => tys[i]?) = tysc) (hAs : As.length = n) (hst : st0 = As.reverse ++ rest) (hW : (rest.map fun v => v.category).sum ≤ 8) (hdg : decode cc pc = .ok (.invokestatic index, 3)) (hce : ce ≤ R.cells ∧ sl ≤ R.slots) (hp1 : pm.filterMap (fun i => ((isR.filterMap (fun i => ws[i]?)) ++ w2)[i]?) = ws2) (hp2 : pm.map (fun i => ((isR.filterMap (fun i => ws[i]?)) ++ w2)[i]?) = ws2.map some) (hp3 : va_nd pm = true) (kk : kv p l e R s m args below meth c D A nL ce sl Q ws2 lv (pc + 3) (.long rv :: rest)) : kv p l e R s m args below meth c D A nL ce sl Q ws lv pc st0 := by
  subst hst
  intro H locs ls hP hD hS hl
  have hPc := hP.sub (ws' := wc) isC hC2
  have hDc := hD.sub (ws' := wc) isC hnC hC
  have hKc := C.k.sub (tys' := tysc) js hty
  have hFc := va_free (wc := wc) hD hS C.a isC hC
  refine va_calll (va_runS (As := As) (rest := rest) ⟨C.x, C.b, C.ml, C.ow, C.ts⟩ (hM H.size) cw ⟨fun a U g mk q => by obtain ⟨q0, q1, qP, qK, qD, qJ⟩ := q; exact ⟨q0, q1, qP, va_K.moved (u := U) (U := U.calling g mk a) (Vm.Alike.refl U.vm) qK, qD, qJ.blind g mk a⟩, fun U hU hW => ⟨rfl, by rw [hU], by rw [hU]; exact hPc, va_K.moved hW.alike hKc, hDc.weaken (fun _ _ _ _ => trivial), hJ.call hS hU hW hFc⟩⟩ rfl hAs hl.1 rfl (lv_room hW) hdg hce) hS (fun q _ h => hFc q h) hFc (fun r u t H1 locs1 ht hvm hw hB hz1 hk1 hS => ?_)
  subst hw
  obtain ⟨hP1, hK1, hD1⟩ := hB
  rw [ht] at hP1
  obtain ⟨hP, hD⟩ := va_join (wr := isR.filterMap (fun i => ws[i]?)) (w1 := w2) hP hD isC isR hC hR hn hdis hk1 hFc hP1 hD1
  exact kk _ _ _ (hP.sub pm hp1) (hD.sub pm hp3 hp2) hS hl
theorem kv_eVl {y : MethodName} {wsY : List Cond} {rm : Room} {tysc : List (ClassId × FieldType)} {tq : Nat → Nat} {rv : Int64} {wc w2 ws2 : va_W} (C : kc p s m c cc nL args Ts own D tys A) (hJ : kJ tq A s s.heap) {b ci N : Nat} {T : u_T} {fs : List Value} {bytes : ByteArray} {maxL n index : Nat} {ret : Option FieldType} {Cn : String} (As : List Value) (q0 : Nat) (hM : kEl l y wsY rm D tysc tq rv wc w2 (.ref b :: As)) (cw : CallW R s args own Cn index y bytes maxL ret wsY rm 0 0 n) (hc : vwCl[ci]? = some (Cn, T, N)) (he : wc[q0]? = some (b, .inr (ci, fs))) (isC isR js pm : List Nat) (hC : isC.map (fun i => ws[i]?) = wc.map some) (hC2 : isC.filterMap (fun i => ws[i]?) = wc) (hR : isR.map (fun i => ws[i]?) = (isR.filterMap (fun i => ws[i]?)).map some) (hnC : va_nd isC = true) (hn : va_nd isR = true) (hdis : ∀ i ∈ isR, i ∉ isC) (hty : js.filterMap (fun i => tys[i]?) = tysc) (hAs : As.length = n) (hst : st0 = As.reverse ++ .ref b :: rest) (hW : (rest.map fun v => v.category).sum ≤ 8) (hdg : decode cc pc = .ok (.invokevirtual index, 3)) (hce : ce ≤ R.cells ∧ sl ≤ R.slots) (hp1 : pm.filterMap (fun i => ((isR.filterMap (fun i => ws[i]?)) ++ w2)[i]?) = ws2) (hp2 : pm.map (fun i => ((isR.filterMap (fun i => ws[i]?)) ++ w2)[i]?) = ws2.map some) (hp3 : va_nd pm = true) (kk : kv p l e R s m args below meth c D A nL ce sl Q ws2 lv (pc + 3) (.long rv :: rest)) : kv p l e R s m args below meth c D A nL ce sl Q ws lv pc st0 := by
  subst hst
  intro H locs ls hP hD hS hl
  have hPc := hP.sub (ws' := wc) isC hC2
  have hDc := hD.sub (ws' := wc) isC hnC hC
  have hKc := C.k.sub (tys' := tysc) js hty
  have hFc := va_free (wc := wc) hD hS C.a isC hC
  refine va_calll (va_runV (As := As) (rest := rest) ⟨C.x, C.b, C.ml, C.ow, C.ts⟩ (hM H.size) cw ⟨fun a U g mk q => by obtain ⟨q0, q1, qP, qK, qD, qJ⟩ := q; exact ⟨q0, q1, qP, va_K.moved (u := U) (U := U.calling g mk a) (Vm.Alike.refl U.vm) qK, qD, qJ.blind g mk a⟩, va_recv hKc hPc (ci := ci) (q0 := q0) hc he, fun U hU hW => ⟨rfl, by rw [hU], by rw [hU]; exact hPc, va_K.moved hW.alike hKc, hDc.weaken (fun _ _ _ _ => trivial), hJ.call hS hU hW hFc⟩⟩ rfl hAs hl.1 rfl (lv_room hW) hdg hce) hS (fun q _ h => hFc q h) hFc (fun r u t H1 locs1 ht hvm hw hB hz1 hk1 hS => ?_)
  subst hw
  obtain ⟨hP1, hK1, hD1⟩ := hB
  rw [ht] at hP1
  obtain ⟨hP, hD⟩ := va_join (wr := isR.filterMap (fun i => ws[i]?)) (w1 := w2) hP hD isC isR hC hR hn hdis hk1 hFc hP1 hD1
  exact kk _ _ _ (hP.sub pm hp1) (hD.sub pm hp3 hp2) hS hl
theorem kv_eVNl {y : MethodName} {wsY : List Cond} {rm : Room} {tysc : List (ClassId × FieldType)} {tq : Nat → Nat} {rv : Int64} {wc w2 ws2 : va_W} (C : kc p s m c cc nL args Ts own D tys A) (hJ : kJ tq A s s.heap) {b ci N : Nat} {T : u_T} {fs : List Value} {bytes : ByteArray} {maxL n index : Nat} {ret : Option FieldType} {Cn host : String} (As : List Value) (q0 : Nat) (hM : kEl l y wsY rm D tysc tq rv wc w2 (.ref b :: As)) (cw : va_CN R s args own index y host bytes maxL ret wsY rm 0 0 n ∧ (Cond.instanceMethod y).before args s = true ∧ (Cond.selects Cn y y).before args s = true) (hc : vwCl[ci]? = some (Cn, T, N)) (he : wc[q0]? = some (b, .inr (ci, fs))) (isC isR js pm : List Nat) (hC : isC.map (fun i => ws[i]?) = wc.map some) (hC2 : isC.filterMap (fun i => ws[i]?) = wc) (hR : isR.map (fun i => ws[i]?) = (isR.filterMap (fun i => ws[i]?)).map some) (hnC : va_nd isC = true) (hn : va_nd isR = true) (hdis : ∀ i ∈ isR, i ∉ isC) (hty : js.filterMap (fun i => tys[i]?) = tysc) (hAs : As.length = n) (hst : st0 = As.reverse ++ .ref b :: rest) (hW : (rest.map fun v => v.category).sum ≤ 8) (hdg : decode cc pc = .ok (.invokevirtual index, 3)) (hce : ce ≤ R.cells ∧ sl ≤ R.slots) (hp1 : pm.filterMap (fun i => ((isR.filterMap (fun i => ws[i]?)) ++ w2)[i]?) = ws2) (hp2 : pm.map (fun i => ((isR.filterMap (fun i => ws[i]?)) ++ w2)[i]?) = ws2.map some) (hp3 : va_nd pm = true) (kk : kv p l e R s m args below meth c D A nL ce sl Q ws2 lv (pc + 3) (.long rv :: rest)) : kv p l e R s m args below meth c D A nL ce sl Q ws lv pc st0 := by
  subst hst
  intro H locs ls hP hD hS hl
  have hPc := hP.sub (ws' := wc) isC hC2
  have hDc := hD.sub (ws' := wc) isC hnC hC
  have hKc := C.k.sub (tys' := tysc) js hty
  have hFc := va_free (wc := wc) hD hS C.a isC hC
  refine va_calll (va_runVN (As := As) (rest := rest) ⟨C.x, C.b, C.ml, C.ow, C.ts⟩ (hM H.size) cw ⟨fun a U g mk q => by obtain ⟨q0, q1, qP, qK, qD, qJ⟩ := q; exact ⟨q0, q1, qP, va_K.moved (u := U) (U := U.calling g mk a) (Vm.Alike.refl U.vm) qK, qD, qJ.blind g mk a⟩, va_recv hKc hPc (ci := ci) (q0 := q0) hc he, fun U hU hW => ⟨rfl, by rw [hU], by rw [hU]; exact hPc, va_K.moved hW.alike hKc, hDc.weaken (fun _ _ _ _ => trivial), hJ.call hS hU hW hFc⟩⟩ rfl hAs hl.1 rfl (lv_room hW) hdg hce) hS (fun q _ h => hFc q h) hFc (fun r u t H1 locs1 ht hvm hw hB hz1 hk1 hS => ?_)
  subst hw
  obtain ⟨hP1, hK1, hD1⟩ := hB
  rw [ht] at hP1
  obtain ⟨hP, hD⟩ := va_join (wr := isR.filterMap (fun i => ws[i]?)) (w1 := w2) hP hD isC isR hC hR hn hdis hk1 hFc hP1 hD1
  exact kk _ _ _ (hP.sub pm hp1) (hD.sub pm hp3 hp2) hS hl
theorem kv_SN0l {y : MethodName} {wsY : List Cond} {rm : Room} {rv : Int64}  (C : kc p s m c cc nL args Ts own D tys A) {bytes : ByteArray} {maxL n index : Nat} {ret : Option FieldType} {host : String} (As : List Value) (hM : kDl l y wsY rm D [] rv [] [] As) (cw : va_CN R s args own index y host bytes maxL ret wsY rm 0 0 n ∧ (Cond.static y).before args s = true ∧ True) (hAs : As.length = n) (hst : st0 = As.reverse ++ rest) (hW : (rest.map fun v => v.category).sum ≤ 8) (hdg : decode cc pc = .ok (.invokestatic index, 3)) (hce : ce ≤ R.cells ∧ sl ≤ R.slots) (kk : kv p l e R s m args below meth c D A nL ce sl Q ws lv (pc + 3) (.long rv :: rest)) : kv p l e R s m args below meth c D A nL ce sl Q ws lv pc st0 := by
  subst hst
  intro H locs ls hP hD hS hl
  have hKc := C.k.sub (tys' := []) [] rfl
  have hFc := va_free (wc := []) hD hS C.a [] rfl
  refine va_calll (va_runSN (As := As) (rest := rest) ⟨C.x, C.b, C.ml, C.ow, C.ts⟩ (hM H.size) cw ⟨fun a U g mk q => by obtain ⟨q0, q1, qP, qK, qD⟩ := q; exact ⟨q0, q1, qP, va_K.moved (u := U) (U := U.calling g mk a) (Vm.Alike.refl U.vm) qK, qD⟩, fun U hU hW => ⟨rfl, by rw [hU], fun k q h => by simp at h, va_K.moved hW.alike hKc, ⟨fun i j p q h => by simp at h, fun k q h => by simp at h⟩⟩⟩ rfl hAs hl.1 rfl (lv_room hW) hdg hce) hS (fun q _ h => hFc q h) hFc (fun r u t H1 locs1 ht hvm hw hB hz1 hk1 hS => ?_)
  subst hw
  obtain ⟨hP1, hK1, hD1⟩ := hB
  rw [ht] at hP1
  obtain ⟨hP, hD⟩ := va_join (wr := ws) (w1 := []) hP hD [] (List.range ws.length) rfl (kv_rng ws) (kv_rngN _) (fun _ _ h => by cases h) hk1 hFc hP1 hD1
  rw [List.append_nil] at hP hD
  exact kk _ _ _ hP hD hS hl
theorem kv_eS0l {y : MethodName} {wsY : List Cond} {rm : Room} {tq : Nat → Nat} {rv : Int64} (C : kc p s m c cc nL args Ts own D tys A) (hJ : kJ tq A s s.heap) {bytes : ByteArray} {maxL n index : Nat} {ret : Option FieldType} (As : List Value) (hM : kEl l y wsY rm D [] tq rv [] [] As) (cw : CallB R s args own index y bytes maxL ret wsY rm 0 0 n ∧ (Cond.static y).before args s = true) (hAs : As.length = n) (hst : st0 = As.reverse ++ rest) (hW : (rest.map fun v => v.category).sum ≤ 8) (hdg : decode cc pc = .ok (.invokestatic index, 3)) (hce : ce ≤ R.cells ∧ sl ≤ R.slots) (kk : kv p l e R s m args below meth c D A nL ce sl Q ws lv (pc + 3) (.long rv :: rest)) : kv p l e R s m args below meth c D A nL ce sl Q ws lv pc st0 :=
  kv_eSl (ws2 := ws) C hJ As hM cw [] (List.range ws.length) [] (List.range ws.length) rfl rfl (by rw [kv_rngF]; exact kv_rng ws) rfl (kv_rngN _) (fun _ _ h => by cases h) rfl hAs hst hW hdg hce (by rw [List.append_nil, kv_rngF]; exact kv_rngF ws) (by rw [List.append_nil, kv_rngF]; exact kv_rng ws) (kv_rngN _) kk
theorem kv_eO0l {y : MethodName} {wsY : List Cond} {rm : Room} {tq : Nat → Nat} {rv : Int64} (C : kc p s m c cc nL args Ts own D tys A) (hJ : kJ tq A s s.heap) {b : Nat} {bytes : ByteArray} {maxL n index : Nat} {ret : Option FieldType} (As : List Value) (hM : kEl l y wsY rm D [] tq rv [] [] (.ref b :: As)) (cw : CallW R s args own "java/lang/String" index y bytes maxL ret wsY rm 0 0 n) (hO : va_O "java/lang/String" b A s s.heap) (hAs : As.length = n) (hst : st0 = As.reverse ++ .ref b :: rest) (hW : (rest.map fun v => v.category).sum ≤ 8) (hdg : decode cc pc = .ok (.invokevirtual index, 3)) (hce : ce ≤ R.cells ∧ sl ≤ R.slots) (kk : kv p l e R s m args below meth c D A nL ce sl Q ws lv (pc + 3) (.long rv :: rest)) : kv p l e R s m args below meth c D A nL ce sl Q ws lv pc st0 := by
  subst hst
  intro H locs ls hP hD hS hl
  have hKc := C.k.sub (tys' := []) [] rfl
  have hFc := va_free (wc := []) hD hS C.a [] rfl
  have hrec : ∃ cell : Cell, H[b]? = some cell ∧ cell.vm.isStatics = false ∧ s.vm.findClass "java/lang/String" = some cell.cls := by
    obtain ⟨cell, h1, h2, h3, -⟩ := hO.kept hS.2.1
    exact ⟨cell, h1, h2, h3⟩
  refine va_calll (va_runV (As := As) (rest := rest) ⟨C.x, C.b, C.ml, C.ow, C.ts⟩ (hM H.size) cw ⟨fun a U g mk q => by obtain ⟨q0, q1, qP, qK, qD, qJ⟩ := q; exact ⟨q0, q1, qP, va_K.moved (u := U) (U := U.calling g mk a) (Vm.Alike.refl U.vm) qK, qD, qJ.blind g mk a⟩, hrec, fun U hU hW => ⟨rfl, by rw [hU], fun k q h => by simp at h, va_K.moved hW.alike hKc, ⟨fun i j p q h => by simp at h, fun k q h => by simp at h⟩, hJ.call hS hU hW hFc⟩⟩ rfl hAs hl.1 rfl (lv_room hW) hdg hce) hS (fun q _ h => hFc q h) hFc (fun r u t H1 locs1 ht hvm hw hB hz1 hk1 hS => ?_)
  subst hw
  obtain ⟨hP1, hK1, hD1⟩ := hB
  rw [ht] at hP1
  obtain ⟨hP, hD⟩ := va_join (wr := ws) (w1 := []) hP hD [] (List.range ws.length) rfl (kv_rng ws) (kv_rngN _) (fun _ _ h => by cases h) hk1 hFc hP1 hD1
  rw [List.append_nil] at hP hD
  exact kk _ _ _ hP hD hS hl
end KVE
section KVE
variable {p : Program} {l : Launch} {e : Env} {R : Room} {s : State} {m : MethodId} {args : Array Value} {below : List Frame} {meth : Method} {c : Code} {D : va_G} {A : Nat → Prop} {nL ce sl : Nat} {Q : State → Prop} {ws : va_W} {lv : List (Nat × Value)} {pc : Nat} {rest st0 : List Value} {cc : ByteArray} {Ts : List Cond} {own : String} {tys : List (ClassId × FieldType)}
theorem kv_eSv {y : MethodName} {wsY : List Cond} {rm : Room} {tysc : List (ClassId × FieldType)} {tq : Nat → Nat} {wc w2 ws2 : va_W} (C : kc p s m c cc nL args Ts own D tys A) (hJ : kJ tq A s s.heap) {bytes : ByteArray} {maxL n index : Nat} {ret : Option FieldType} (As : List Value) (hM : kEv l y wsY rm D tysc tq wc w2 As) (cw : CallB R s args own index y bytes maxL ret wsY rm 0 0 n ∧ (Cond.static y).before args s = true) (isC isR js pm : List Nat) (hC : isC.map (fun i => ws[i]?) = wc.map some) (hC2 : isC.filterMap (fun i => ws[i]?) = wc) (hR : isR.map (fun i => ws[i]?) = (isR.filterMap (fun i => ws[i]?)).map some) (hnC : va_nd isC = true) (hn : va_nd isR = true) (hdis : ∀ i ∈ isR, i ∉ isC) (hty : js.filterMap (fun i => tys[i]?) = tysc) (hAs : As.length = n) (hst : st0 = As.reverse ++ rest) (hW : (rest.map fun v => v.category).sum ≤ 8) (hdg : decode cc pc = .ok (.invokestatic index, 3)) (hce : ce ≤ R.cells ∧ sl ≤ R.slots) (hp1 : pm.filterMap (fun i => ((isR.filterMap (fun i => ws[i]?)) ++ w2)[i]?) = ws2) (hp2 : pm.map (fun i => ((isR.filterMap (fun i => ws[i]?)) ++ w2)[i]?) = ws2.map some) (hp3 : va_nd pm = true) (kk : kv p l e R s m args below meth c D A nL ce sl Q ws2 lv (pc + 3) (rest)) : kv p l e R s m args below meth c D A nL ce sl Q ws lv pc st0 := by
  subst hst
  intro H locs ls hP hD hS hl
  have hPc := hP.sub (ws' := wc) isC hC2
  have hDc := hD.sub (ws' := wc) isC hnC hC
  have hKc := C.k.sub (tys' := tysc) js hty
  have hFc := va_free (wc := wc) hD hS C.a isC hC
  refine va_callv (va_runS (As := As) (rest := rest) ⟨C.x, C.b, C.ml, C.ow, C.ts⟩ (hM H.size) cw ⟨fun a U g mk q => by obtain ⟨q0, q1, qP, qK, qD, qJ⟩ := q; exact ⟨q0, q1, qP, va_K.moved (u := U) (U := U.calling g mk a) (Vm.Alike.refl U.vm) qK, qD, qJ.blind g mk a⟩, fun U hU hW => ⟨rfl, by rw [hU], by rw [hU]; exact hPc, va_K.moved hW.alike hKc, hDc.weaken (fun _ _ _ _ => trivial), hJ.call hS hU hW hFc⟩⟩ rfl hAs hl.1 rfl (lv_room hW) hdg hce) hS (fun q _ h => hFc q h) hFc (fun u t H1 locs1 ht hvm hw hB hz1 hk1 hS => ?_)
  obtain ⟨hP1, hK1, hD1⟩ := hB
  rw [ht] at hP1
  obtain ⟨hP, hD⟩ := va_join (wr := isR.filterMap (fun i => ws[i]?)) (w1 := w2) hP hD isC isR hC hR hn hdis hk1 hFc hP1 hD1
  exact kk _ _ _ (hP.sub pm hp1) (hD.sub pm hp3 hp2) hS hl
theorem kv_eVv {y : MethodName} {wsY : List Cond} {rm : Room} {tysc : List (ClassId × FieldType)} {tq : Nat → Nat} {wc w2 ws2 : va_W} (C : kc p s m c cc nL args Ts own D tys A) (hJ : kJ tq A s s.heap) {b ci N : Nat} {T : u_T} {fs : List Value} {bytes : ByteArray} {maxL n index : Nat} {ret : Option FieldType} {Cn : String} (As : List Value) (q0 : Nat) (hM : kEv l y wsY rm D tysc tq wc w2 (.ref b :: As)) (cw : CallW R s args own Cn index y bytes maxL ret wsY rm 0 0 n) (hc : vwCl[ci]? = some (Cn, T, N)) (he : wc[q0]? = some (b, .inr (ci, fs))) (isC isR js pm : List Nat) (hC : isC.map (fun i => ws[i]?) = wc.map some) (hC2 : isC.filterMap (fun i => ws[i]?) = wc) (hR : isR.map (fun i => ws[i]?) = (isR.filterMap (fun i => ws[i]?)).map some) (hnC : va_nd isC = true) (hn : va_nd isR = true) (hdis : ∀ i ∈ isR, i ∉ isC) (hty : js.filterMap (fun i => tys[i]?) = tysc) (hAs : As.length = n) (hst : st0 = As.reverse ++ .ref b :: rest) (hW : (rest.map fun v => v.category).sum ≤ 8) (hdg : decode cc pc = .ok (.invokevirtual index, 3)) (hce : ce ≤ R.cells ∧ sl ≤ R.slots) (hp1 : pm.filterMap (fun i => ((isR.filterMap (fun i => ws[i]?)) ++ w2)[i]?) = ws2) (hp2 : pm.map (fun i => ((isR.filterMap (fun i => ws[i]?)) ++ w2)[i]?) = ws2.map some) (hp3 : va_nd pm = true) (kk : kv p l e R s m args below meth c D A nL ce sl Q ws2 lv (pc + 3) (rest)) : kv p l e R s m args below meth c D A nL ce sl Q ws lv pc st0 := by
  subst hst
  intro H locs ls hP hD hS hl
  have hPc := hP.sub (ws' := wc) isC hC2
  have hDc := hD.sub (ws' := wc) isC hnC hC
  have hKc := C.k.sub (tys' := tysc) js hty
  have hFc := va_free (wc := wc) hD hS C.a isC hC
  refine va_callv (va_runV (As := As) (rest := rest) ⟨C.x, C.b, C.ml, C.ow, C.ts⟩ (hM H.size) cw ⟨fun a U g mk q => by obtain ⟨q0, q1, qP, qK, qD, qJ⟩ := q; exact ⟨q0, q1, qP, va_K.moved (u := U) (U := U.calling g mk a) (Vm.Alike.refl U.vm) qK, qD, qJ.blind g mk a⟩, va_recv hKc hPc (ci := ci) (q0 := q0) hc he, fun U hU hW => ⟨rfl, by rw [hU], by rw [hU]; exact hPc, va_K.moved hW.alike hKc, hDc.weaken (fun _ _ _ _ => trivial), hJ.call hS hU hW hFc⟩⟩ rfl hAs hl.1 rfl (lv_room hW) hdg hce) hS (fun q _ h => hFc q h) hFc (fun u t H1 locs1 ht hvm hw hB hz1 hk1 hS => ?_)
  obtain ⟨hP1, hK1, hD1⟩ := hB
  rw [ht] at hP1
  obtain ⟨hP, hD⟩ := va_join (wr := isR.filterMap (fun i => ws[i]?)) (w1 := w2) hP hD isC isR hC hR hn hdis hk1 hFc hP1 hD1
  exact kk _ _ _ (hP.sub pm hp1) (hD.sub pm hp3 hp2) hS hl
theorem kv_eVNv {y : MethodName} {wsY : List Cond} {rm : Room} {tysc : List (ClassId × FieldType)} {tq : Nat → Nat} {wc w2 ws2 : va_W} (C : kc p s m c cc nL args Ts own D tys A) (hJ : kJ tq A s s.heap) {b ci N : Nat} {T : u_T} {fs : List Value} {bytes : ByteArray} {maxL n index : Nat} {ret : Option FieldType} {Cn host : String} (As : List Value) (q0 : Nat) (hM : kEv l y wsY rm D tysc tq wc w2 (.ref b :: As)) (cw : va_CN R s args own index y host bytes maxL ret wsY rm 0 0 n ∧ (Cond.instanceMethod y).before args s = true ∧ (Cond.selects Cn y y).before args s = true) (hc : vwCl[ci]? = some (Cn, T, N)) (he : wc[q0]? = some (b, .inr (ci, fs))) (isC isR js pm : List Nat) (hC : isC.map (fun i => ws[i]?) = wc.map some) (hC2 : isC.filterMap (fun i => ws[i]?) = wc) (hR : isR.map (fun i => ws[i]?) = (isR.filterMap (fun i => ws[i]?)).map some) (hnC : va_nd isC = true) (hn : va_nd isR = true) (hdis : ∀ i ∈ isR, i ∉ isC) (hty : js.filterMap (fun i => tys[i]?) = tysc) (hAs : As.length = n) (hst : st0 = As.reverse ++ .ref b :: rest) (hW : (rest.map fun v => v.category).sum ≤ 8) (hdg : decode cc pc = .ok (.invokevirtual index, 3)) (hce : ce ≤ R.cells ∧ sl ≤ R.slots) (hp1 : pm.filterMap (fun i => ((isR.filterMap (fun i => ws[i]?)) ++ w2)[i]?) = ws2) (hp2 : pm.map (fun i => ((isR.filterMap (fun i => ws[i]?)) ++ w2)[i]?) = ws2.map some) (hp3 : va_nd pm = true) (kk : kv p l e R s m args below meth c D A nL ce sl Q ws2 lv (pc + 3) (rest)) : kv p l e R s m args below meth c D A nL ce sl Q ws lv pc st0 := by
  subst hst
  intro H locs ls hP hD hS hl
  have hPc := hP.sub (ws' := wc) isC hC2
  have hDc := hD.sub (ws' := wc) isC hnC hC
  have hKc := C.k.sub (tys' := tysc) js hty
  have hFc := va_free (wc := wc) hD hS C.a isC hC
  refine va_callv (va_runVN (As := As) (rest := rest) ⟨C.x, C.b, C.ml, C.ow, C.ts⟩ (hM H.size) cw ⟨fun a U g mk q => by obtain ⟨q0, q1, qP, qK, qD, qJ⟩ := q; exact ⟨q0, q1, qP, va_K.moved (u := U) (U := U.calling g mk a) (Vm.Alike.refl U.vm) qK, qD, qJ.blind g mk a⟩, va_recv hKc hPc (ci := ci) (q0 := q0) hc he, fun U hU hW => ⟨rfl, by rw [hU], by rw [hU]; exact hPc, va_K.moved hW.alike hKc, hDc.weaken (fun _ _ _ _ => trivial), hJ.call hS hU hW hFc⟩⟩ rfl hAs hl.1 rfl (lv_room hW) hdg hce) hS (fun q _ h => hFc q h) hFc (fun u t H1 locs1 ht hvm hw hB hz1 hk1 hS => ?_)
  obtain ⟨hP1, hK1, hD1⟩ := hB
  rw [ht] at hP1
  obtain ⟨hP, hD⟩ := va_join (wr := isR.filterMap (fun i => ws[i]?)) (w1 := w2) hP hD isC isR hC hR hn hdis hk1 hFc hP1 hD1
  exact kk _ _ _ (hP.sub pm hp1) (hD.sub pm hp3 hp2) hS hl
theorem kv_SN0v {y : MethodName} {wsY : List Cond} {rm : Room}  (C : kc p s m c cc nL args Ts own D tys A) {bytes : ByteArray} {maxL n index : Nat} {ret : Option FieldType} {host : String} (As : List Value) (hM : kDv l y wsY rm D [] [] [] As) (cw : va_CN R s args own index y host bytes maxL ret wsY rm 0 0 n ∧ (Cond.static y).before args s = true ∧ True) (hAs : As.length = n) (hst : st0 = As.reverse ++ rest) (hW : (rest.map fun v => v.category).sum ≤ 8) (hdg : decode cc pc = .ok (.invokestatic index, 3)) (hce : ce ≤ R.cells ∧ sl ≤ R.slots) (kk : kv p l e R s m args below meth c D A nL ce sl Q ws lv (pc + 3) (rest)) : kv p l e R s m args below meth c D A nL ce sl Q ws lv pc st0 := by
  subst hst
  intro H locs ls hP hD hS hl
  have hKc := C.k.sub (tys' := []) [] rfl
  have hFc := va_free (wc := []) hD hS C.a [] rfl
  refine va_callv (va_runSN (As := As) (rest := rest) ⟨C.x, C.b, C.ml, C.ow, C.ts⟩ (hM H.size) cw ⟨fun a U g mk q => by obtain ⟨q0, q1, qP, qK, qD⟩ := q; exact ⟨q0, q1, qP, va_K.moved (u := U) (U := U.calling g mk a) (Vm.Alike.refl U.vm) qK, qD⟩, fun U hU hW => ⟨rfl, by rw [hU], fun k q h => by simp at h, va_K.moved hW.alike hKc, ⟨fun i j p q h => by simp at h, fun k q h => by simp at h⟩⟩⟩ rfl hAs hl.1 rfl (lv_room hW) hdg hce) hS (fun q _ h => hFc q h) hFc (fun u t H1 locs1 ht hvm hw hB hz1 hk1 hS => ?_)
  obtain ⟨hP1, hK1, hD1⟩ := hB
  rw [ht] at hP1
  obtain ⟨hP, hD⟩ := va_join (wr := ws) (w1 := []) hP hD [] (List.range ws.length) rfl (kv_rng ws) (kv_rngN _) (fun _ _ h => by cases h) hk1 hFc hP1 hD1
  rw [List.append_nil] at hP hD
  exact kk _ _ _ hP hD hS hl
theorem kv_eS0v {y : MethodName} {wsY : List Cond} {rm : Room} {tq : Nat → Nat} (C : kc p s m c cc nL args Ts own D tys A) (hJ : kJ tq A s s.heap) {bytes : ByteArray} {maxL n index : Nat} {ret : Option FieldType} (As : List Value) (hM : kEv l y wsY rm D [] tq [] [] As) (cw : CallB R s args own index y bytes maxL ret wsY rm 0 0 n ∧ (Cond.static y).before args s = true) (hAs : As.length = n) (hst : st0 = As.reverse ++ rest) (hW : (rest.map fun v => v.category).sum ≤ 8) (hdg : decode cc pc = .ok (.invokestatic index, 3)) (hce : ce ≤ R.cells ∧ sl ≤ R.slots) (kk : kv p l e R s m args below meth c D A nL ce sl Q ws lv (pc + 3) (rest)) : kv p l e R s m args below meth c D A nL ce sl Q ws lv pc st0 :=
  kv_eSv (ws2 := ws) C hJ As hM cw [] (List.range ws.length) [] (List.range ws.length) rfl rfl (by rw [kv_rngF]; exact kv_rng ws) rfl (kv_rngN _) (fun _ _ h => by cases h) rfl hAs hst hW hdg hce (by rw [List.append_nil, kv_rngF]; exact kv_rngF ws) (by rw [List.append_nil, kv_rngF]; exact kv_rng ws) (kv_rngN _) kk
theorem kv_eO0v {y : MethodName} {wsY : List Cond} {rm : Room} {tq : Nat → Nat} (C : kc p s m c cc nL args Ts own D tys A) (hJ : kJ tq A s s.heap) {b : Nat} {bytes : ByteArray} {maxL n index : Nat} {ret : Option FieldType} (As : List Value) (hM : kEv l y wsY rm D [] tq [] [] (.ref b :: As)) (cw : CallW R s args own "java/lang/String" index y bytes maxL ret wsY rm 0 0 n) (hO : va_O "java/lang/String" b A s s.heap) (hAs : As.length = n) (hst : st0 = As.reverse ++ .ref b :: rest) (hW : (rest.map fun v => v.category).sum ≤ 8) (hdg : decode cc pc = .ok (.invokevirtual index, 3)) (hce : ce ≤ R.cells ∧ sl ≤ R.slots) (kk : kv p l e R s m args below meth c D A nL ce sl Q ws lv (pc + 3) (rest)) : kv p l e R s m args below meth c D A nL ce sl Q ws lv pc st0 := by
  subst hst
  intro H locs ls hP hD hS hl
  have hKc := C.k.sub (tys' := []) [] rfl
  have hFc := va_free (wc := []) hD hS C.a [] rfl
  have hrec : ∃ cell : Cell, H[b]? = some cell ∧ cell.vm.isStatics = false ∧ s.vm.findClass "java/lang/String" = some cell.cls := by
    obtain ⟨cell, h1, h2, h3, -⟩ := hO.kept hS.2.1
    exact ⟨cell, h1, h2, h3⟩
  refine va_callv (va_runV (As := As) (rest := rest) ⟨C.x, C.b, C.ml, C.ow, C.ts⟩ (hM H.size) cw ⟨fun a U g mk q => by obtain ⟨q0, q1, qP, qK, qD, qJ⟩ := q; exact ⟨q0, q1, qP, va_K.moved (u := U) (U := U.calling g mk a) (Vm.Alike.refl U.vm) qK, qD, qJ.blind g mk a⟩, hrec, fun U hU hW => ⟨rfl, by rw [hU], fun k q h => by simp at h, va_K.moved hW.alike hKc, ⟨fun i j p q h => by simp at h, fun k q h => by simp at h⟩, hJ.call hS hU hW hFc⟩⟩ rfl hAs hl.1 rfl (lv_room hW) hdg hce) hS (fun q _ h => hFc q h) hFc (fun u t H1 locs1 ht hvm hw hB hz1 hk1 hS => ?_)
  obtain ⟨hP1, hK1, hD1⟩ := hB
  rw [ht] at hP1
  obtain ⟨hP, hD⟩ := va_join (wr := ws) (w1 := []) hP hD [] (List.range ws.length) rfl (kv_rng ws) (kv_rngN _) (fun _ _ h => by cases h) hk1 hFc hP1 hD1
  rw [List.append_nil] at hP hD
  exact kk _ _ _ hP hD hS hl
end KVE
theorem kDi.ofF {l : Launch} {y : MethodName} {wsY ws' : List Cond} {rm : Room} {D : va_G} {tys : List (ClassId × FieldType)} {rv : Int32} {wc w2 : va_W} {av : List Value} (cc : ByteArray) (nL : Nat) (ret : Option FieldType) (hy : plainFor y = true) (hw : wsY = Cond.code y cc nL ret :: ws') (hrt : ret = some .int ∨ ret = some .boolean) (hav : (lg_sl av).length ≤ nL)
    (body : ∀ (p : Program) (e : Env) (s : State) (m : MethodId) (below : List Frame) (meth : Method) (c : Code) (A : Nat → Prop) (Q : State → Prop), kc p s m c cc nL av.toArray wsY y.cls D tys A → kRi p l e rm s m av.toArray below meth c D A nL 0 0 Q cc ret rv w2 → kv p l e rm s m av.toArray below meth c D A nL 0 0 Q wc (lv_args 0 av) 0 []) : kDi l y wsY rm D tys rv wc w2 av := by
  intro sz
  refine va_MetF (cc := cc) (maxL := nL) (ret := ret) hy hw ?_
  intro p e s m args below meth c s₁ B hml hv
  obtain ⟨rfl, hsz, hP, hK, hD0⟩ := hv
  subst hsz
  have hD := hD0.self (sz := s.heap.size)
  have hl := lv_entry av (n := nL) hav
  rw [lg_entry_eq]
  refine body p e s m below meth c (va_A wc s.heap.size) _ ⟨B.exec, B.bytes, hml, findClass_of_methodNamed B.named, atoms_spec (ws := wsY) B.pre, hK, fun q h => Or.inr h⟩ ?_ s.heap [] _ hP hD va_S.rf hl
  intro lv pc hdg hnb H locs ls hP hD hS hl
  rcases hrt with hrt | hrt
  · exact W.iret B.exec B.bytes (B.returns.trans hrt) (fun t ht hW => ⟨⟨rv, (), rfl, rfl, by rw [ht]; exact hP, va_K.moved hW.alike hK, hD⟩, hS.F ht⟩) hS.2.2 hdg
  · exact W.zret (ty := .boolean) B.exec B.bytes (B.returns.trans hrt) (kv_bool (hnb hrt)) (fun t ht hW => ⟨⟨rv, (), rfl, rfl, by rw [ht]; exact hP, va_K.moved hW.alike hK, hD⟩, hS.F ht⟩) hS.2.2 hdg
section KV3
variable {p : Program} {l : Launch} {e : Env} {R : Room} {s : State} {m : MethodId} {args : Array Value} {below : List Frame} {meth : Method} {c : Code} {D : va_G} {A : Nat → Prop} {nL ce sl : Nat} {Q : State → Prop} {ws : va_W} {lv : List (Nat × Value)} {pc : Nat} {st : List Value} {cc : ByteArray} {Ts : List Cond} {own : String} {tys : List (ClassId × FieldType)}
theorem kv_cald (C : kc p s m c cc nL args Ts own D tys A) {a n : Nat} {cA : ClassId} {f : Nat → Int32} (q0 t0 : Nat) (ha : ws[q0]? = some (a, .inl (cA, n, .inl f))) (ht : tys[t0]? = some (cA, .char)) {i : Int32} (hin : vp_in i n) (hdg : decode cc pc = .ok (.caload, 1)) (kk : kv p l e R s m args below meth c D A nL ce sl Q ws lv (pc + 1) (.int (f i.toNatClampNeg) :: st)) : kv p l e R s m args below meth c D A nL ce sl Q ws lv pc (.int i :: .ref a :: st) := fun H locs ls hP hD hS hl => va_cald C.x C.b C.k hP q0 t0 ha ht hin hdg (kk H locs ls hP hD hS hl)
theorem kv_cast2 (C : kc p s m c cc nL args Ts own D tys A) {a n : Nat} {cA : ClassId} {f g : Nat → Int32} {ws1 : va_W} (q0 t0 : Nat) (ha : ws[q0]? = some (a, .inl (cA, n, .inl f))) (ht : tys[t0]? = some (cA, .char)) {i x : Int32} (hin : vp_in i n) (hg : g = upd f i.toNatClampNeg (vp_nar .char x)) (hws : ws.set q0 (a, .inl (cA, n, .inl g)) = ws1) (hdg : decode cc pc = .ok (.castore, 1)) (kk : kv p l e R s m args below meth c D A nL ce sl Q ws1 lv (pc + 1) st) : kv p l e R s m args below meth c D A nL ce sl Q ws lv pc (.int x :: .int i :: .ref a :: st) := by
  subst hws
  subst hg
  exact fun H locs ls hP hD hS hl => va_cast C.x C.b C.k hP hD hS q0 t0 ha ht hin hdg (fun H locs hP hD hS => kk H locs ls hP hD hS hl)
theorem kv_gets (C : kc p s m c cc nL args Ts own D tys A) {Cn n d ref : String} {v : Value} {index : Nat} (hZ : va_Z Cn n d v A s s.heap) (hlink : (Cond.fieldLink own index ref n d).before args s = true) (hsame : Cn = ref) (hdg : decode cc pc = .ok (.getstatic index, 3)) (kk : kv p l e R s m args below meth c D A nL ce sl Q ws lv (pc + 3) (v :: st)) : kv p l e R s m args below meth c D A nL ce sl Q ws lv pc st := fun H locs ls hP hD hS hl => va_gets C.x C.b hZ hS C.ow hlink (fun _ h9 => hsame ▸ h9) hdg (kk H locs ls hP hD hS hl)
theorem kv_ti (C : kc p s m c cc nL args Ts own D tys A) {t N : Nat} {f : Nat → Value} {x : Int32} (hT : va_T .int t N f A s s.heap) {i : Int32} (hin : vp_in i N) (hv : f i.toNatClampNeg = .int x) (hdg : decode cc pc = .ok (.iaload, 1)) (kk : kv p l e R s m args below meth c D A nL ce sl Q ws lv (pc + 1) (.int x :: st)) : kv p l e R s m args below meth c D A nL ce sl Q ws lv pc (.int i :: .ref t :: st) := fun H locs ls hP hD hS hl => va_ti C.x C.b hT hS hin hv hdg (kk H locs ls hP hD hS hl)
theorem kv_tlen (C : kc p s m c cc nL args Ts own D tys A) {t N : Nat} {ty : FieldType} {f : Nat → Value} {v : Int32} (hT : va_T ty t N f A s s.heap) (hv : Int32.ofNat N = v) (hdg : decode cc pc = .ok (.arraylength, 1)) (kk : kv p l e R s m args below meth c D A nL ce sl Q ws lv (pc + 1) (.int v :: st)) : kv p l e R s m args below meth c D A nL ce sl Q ws lv pc (.ref t :: st) := fun H locs ls hP hD hS hl => va_tlen C.x C.b hT hS hv hdg (kk H locs ls hP hD hS hl)
theorem kv_ldcS (C : kc p s m c cc nL args Ts own D tys A) {tx : String} {index q : Nat} (hZ : vk_R own index tx q s) (hdg : decode cc pc = .ok (.ldc index, 2)) (k : kv p l e R s m args below meth c D A nL ce sl Q ws lv (pc + 2) (.ref q :: st)) : kv p l e R s m args below meth c D A nL ce sl Q ws lv pc st := fun H locs ls hP hD hS hl => va_ldcS C.x C.b C.ow hZ hdg (k H locs ls hP hD hS hl)
theorem kv_iushr (C : kc p s m c cc nL args Ts own D tys A) {x y : Int32} (hdg : decode cc pc = .ok (.iushr, 1)) (k : kv p l e R s m args below meth c D A nL ce sl Q ws lv (pc + 1) (.int (x.toUInt32 >>> (y.toUInt32 &&& Int32.toUInt32 31)).toInt32 :: st)) : kv p l e R s m args below meth c D A nL ce sl Q ws lv pc (.int y :: .int x :: st) := fun H locs ls hP hD hS hl => lv_iushr C.x C.b hdg rfl (k H locs ls hP hD hS hl)
theorem kv_aald (C : kc p s m c cc nL args Ts own D tys A) {a n q : Nat} {cA : ClassId} {f : Nat → Option Nat} (q0 t0 : Nat) (ha : ws[q0]? = some (a, .inl (cA, n, .inr (.inr (.inr (.inr f)))))) (ht : tys[t0]? = some (cA, .array .int)) {i : Int32} (hin : vp_in i n) (hq : f i.toNatClampNeg = some q) (hdg : decode cc pc = .ok (.aaload, 1)) (kk : kv p l e R s m args below meth c D A nL ce sl Q ws lv (pc + 1) (.ref q :: st)) : kv p l e R s m args below meth c D A nL ce sl Q ws lv pc (.int i :: .ref a :: st) := by
  intro H locs ls hP hD hS hl
  have hlt : i.toNatClampNeg < n := Nat.not_le.mp fun q => hin (Or.inr q)
  refine W.aald (v := va_rf (f i.toNatClampNeg)) (ty := .array .int) C.x C.b (hP q0 _ ha) ((C.k.2 t0 _ ht).1 n (fun j => va_rf (f j))) rfl (fun q => by cases q) (by show ¬ (i < 0 ∨ (arrV _ _ _).slots.size ≤ _); rw [arrV_size]; exact hin) (by show (arrV _ _ _).slots[_]? = _; rw [arrV_read _ _ hlt]) rfl rfl hdg ?_
  rw [hq]
  exact kk H locs ls hP hD hS hl
theorem kv_copyi (C : kc p s m c cc nL args Ts own D tys A) {a a0 n0 n1 index : Nat} {c0 : ClassId} {f g g1 : Nat → Int32} {ws1 : va_W} (q0 q1 t0 k : Nat) (hlink : (Cond.methodLink own index arraycopyName).before args s = true) (hnat : (Cond.native arraycopyName).before args s = true) (hstat : (Cond.static arraycopyName).before args s = true) (hini : (Cond.initialized "java/lang/System").before args s = true) (ha0 : ws[q0]? = some (a0, .inl (c0, n0, .inl f))) (ha1 : ws[q1]? = some (a, .inl (c0, n1, .inl g))) (ht0 : tys[t0]? = some (c0, .int)) {n : Int32} (h3 : ¬ n < 0) (h4 : n.toNatClampNeg = k) (h5 : k ≤ n0 ∧ k ≤ n1) (hg : g1 = va_cpy f g 0 0 k) (hws : ws.set q1 (a, .inl (c0, n1, .inl g1)) = ws1) (hframes : 1 ≤ R.frames) (hlocals : (st.map fun v => v.category).sum + (nativeFrameWords "java/lang/System" "arraycopy" 5 + 11) ≤ R.locals) (hdg : decode cc pc = .ok (.invokestatic index, 3)) (kk : kv p l e R s m args below meth c D A nL ce sl Q ws1 lv (pc + 3) st) : kv p l e R s m args below meth c D A nL ce sl Q ws lv pc (.int n :: .int 0 :: .ref a :: .int 0 :: .ref a0 :: st) := by
  subst hg
  subst hws
  subst h4
  intro H locs ls hP hD hS hl
  exact va_copyi C.x C.b (C.ml.trans hl.1.symm) C.ow hlink hnat hstat hini C.k hP hD hS q0 q1 t0 t0 ha0 ha1 ht0 ht0 rfl (sp := 0) (dp := 0) (by decide) (by decide) h3 (by have := h5.1; simpa using this) (by have := h5.2; simpa using this) (fun _ _ => rfl) hframes hlocals hdg (fun H1 locs1 hP hD hS => kk H1 locs1 ls hP hD hS hl)
theorem kv_copyl (C : kc p s m c cc nL args Ts own D tys A) {a a0 n0 n1 index : Nat} {c0 : ClassId} {f g g1 : Nat → Int64} {ws1 : va_W} (q0 q1 t0 k : Nat) (hlink : (Cond.methodLink own index arraycopyName).before args s = true) (hnat : (Cond.native arraycopyName).before args s = true) (hstat : (Cond.static arraycopyName).before args s = true) (hini : (Cond.initialized "java/lang/System").before args s = true) (ha0 : ws[q0]? = some (a0, .inl (c0, n0, .inr (.inl f)))) (ha1 : ws[q1]? = some (a, .inl (c0, n1, .inr (.inl g)))) (ht0 : tys[t0]? = some (c0, .long)) {n : Int32} (h3 : ¬ n < 0) (h4 : n.toNatClampNeg = k) (h5 : k ≤ n0 ∧ k ≤ n1) (hg : g1 = va_cpy f g 0 0 k) (hws : ws.set q1 (a, .inl (c0, n1, .inr (.inl g1))) = ws1) (hframes : 1 ≤ R.frames) (hlocals : (st.map fun v => v.category).sum + (nativeFrameWords "java/lang/System" "arraycopy" 5 + 11) ≤ R.locals) (hdg : decode cc pc = .ok (.invokestatic index, 3)) (kk : kv p l e R s m args below meth c D A nL ce sl Q ws1 lv (pc + 3) st) : kv p l e R s m args below meth c D A nL ce sl Q ws lv pc (.int n :: .int 0 :: .ref a :: .int 0 :: .ref a0 :: st) := by
  subst hg
  subst hws
  subst h4
  intro H locs ls hP hD hS hl
  exact va_copyl C.x C.b (C.ml.trans hl.1.symm) C.ow hlink hnat hstat hini C.k hP hD hS q0 q1 t0 t0 ha0 ha1 ht0 ht0 rfl (sp := 0) (dp := 0) (by decide) (by decide) h3 (by have := h5.1; simpa using this) (by have := h5.2; simpa using this) (fun _ _ => rfl) hframes hlocals hdg (fun H1 locs1 hP hD hS => kk H1 locs1 ls hP hD hS hl)
theorem kv_getO (C : kc p s m c cc nL args Ts own D tys A) {o n d ref : String} {index q : Nat} {v : Value} (hE : va_OF o n d v q A s s.heap) (hlink : (Cond.fieldLink own index ref n d).before args s = true) (hsame : o = ref) (hdg : decode cc pc = .ok (.getfield index, 3)) (kk : kv p l e R s m args below meth c D A nL ce sl Q ws lv (pc + 3) (v :: st)) : kv p l e R s m args below meth c D A nL ce sl Q ws lv pc (.ref q :: st) := fun H locs ls hP hD hS hl => vk_getf C.x C.b hE hS C.ow hlink (fun _ h9 => hsame ▸ h9) hdg (kk H locs ls hP hD hS hl)
theorem kv_tb (C : kc p s m c cc nL args Ts own D tys A) {t N : Nat} {f : Nat → Value} {x : Int32} (hT : va_T .byte t N f A s s.heap) {i : Int32} (hin : vp_in i N) (hv : f i.toNatClampNeg = .int x) (hdg : decode cc pc = .ok (.baload, 1)) (kk : kv p l e R s m args below meth c D A nL ce sl Q ws lv (pc + 1) (.int x :: st)) : kv p l e R s m args below meth c D A nL ce sl Q ws lv pc (.int i :: .ref t :: st) := fun H locs ls hP hD hS hl => va_tb C.x C.b hT hS hin hv hdg (kk H locs ls hP hD hS hl)
theorem kv_i2b (C : kc p s m c cc nL args Ts own D tys A) {x : Int32} (hdg : decode cc pc = .ok (.i2b, 1)) (k : kv p l e R s m args below meth c D A nL ce sl Q ws lv (pc + 1) (.int x.toInt8.toInt32 :: st)) : kv p l e R s m args below meth c D A nL ce sl Q ws lv pc (.int x :: st) := fun H locs ls hP hD hS hl => lv_i2b C.x C.b hdg rfl (k H locs ls hP hD hS hl)
theorem kv_aload_nN (C : kc p s m c cc nL args Ts own D tys A) {j : Fin 4} {i : Nat} (q : Nat) (hdg : decode cc pc = .ok (.aload_n j, 1)) (hi : (j : Nat) = i) (hq : lv[q]? = some (i, .null)) (k : kv p l e R s m args below meth c D A nL ce sl Q ws lv (pc + 1) (.null :: st)) : kv p l e R s m args below meth c D A nL ce sl Q ws lv pc st := fun H locs ls hP hD hS hl => lv_aload_nN C.x C.b hdg hi (lv_at hl q hq) (k H locs ls hP hD hS hl)
end KV3
/-- guards of what a method returns as a char, as a byte -/
def onc {T : Type} (v : Int32) (e : Option T) : Option T := if v.toUInt32.toUInt16.toUInt32.toInt32 = v then e else none
theorem onc_e {T : Type} {v : Int32} {e : Option T} {r : T} (h : onc v e = some r) : v.toUInt32.toUInt16.toUInt32.toInt32 = v ∧ e = some r := by
  unfold onc at h
  split at h
  · exact ⟨‹_›, h⟩
  · cases h
def onb {T : Type} (v : Int32) (e : Option T) : Option T := if v.toInt8.toInt32 = v then e else none
theorem onb_e {T : Type} {v : Int32} {e : Option T} {r : T} (h : onb v e = some r) : v.toInt8.toInt32 = v ∧ e = some r := by
  unfold onb at h
  split at h
  · exact ⟨‹_›, h⟩
  · cases h
def kRn (p : Program) (l : Launch) (e : Env) (R : Room) (s : State) (m : MethodId) (args : Array Value) (below : List Frame) (meth : Method) (c : Code) (D : va_G) (A : Nat → Prop) (nL ce sl : Nat) (Q : State → Prop) (cc : ByteArray) (ty : FieldType) (rv : Int32) (w2 : va_W) : Prop :=
  ∀ (lv : List (Nat × Value)) (pc : Nat), decode cc pc = .ok (.ireturn, 1) → narrow ty (.int rv) = .int rv → kv p l e R s m args below meth c D A nL ce sl Q w2 lv pc [.int rv]
theorem kEi.ofN {l : Launch} {y : MethodName} {wsY ws' : List Cond} {rm : Room} {D : va_G} {tys : List (ClassId × FieldType)} {tq : Nat → Nat} {rv : Int32} {wc w2 : va_W} {av : List Value} (cc : ByteArray) (nL : Nat) (ty : FieldType) (hy : plainFor y = true) (hw : wsY = Cond.code y cc nL (some ty) :: ws') (hav : (lg_sl av).length ≤ nL)
    (body : ∀ (p : Program) (e : Env) (s : State) (m : MethodId) (below : List Frame) (meth : Method) (c : Code) (A : Nat → Prop) (Q : State → Prop), kc p s m c cc nL av.toArray wsY y.cls D tys A → kJ tq A s s.heap → kRn p l e rm s m av.toArray below meth c D A nL 0 0 Q cc ty rv w2 → kv p l e rm s m av.toArray below meth c D A nL 0 0 Q wc (lv_args 0 av) 0 []) : kEi l y wsY rm D tys tq rv wc w2 av := by
  intro sz
  refine va_MetF (cc := cc) (maxL := nL) (ret := some ty) hy hw ?_
  intro p e s m args below meth c s₁ B hml hv
  obtain ⟨rfl, hsz, hP, hK, hD0, hJ⟩ := hv
  subst hsz
  have hD := hD0.self (sz := s.heap.size)
  have hl := lv_entry av (n := nL) hav
  rw [lg_entry_eq]
  refine body p e s m below meth c (va_A wc s.heap.size) _ ⟨B.exec, B.bytes, hml, findClass_of_methodNamed B.named, atoms_spec (ws := wsY) B.pre, hK, fun q h => Or.inr h⟩ hJ ?_ s.heap [] _ hP hD va_S.rf hl
  intro lv pc hdg hn H locs ls hP hD hS hl
  exact W.zret (ty := ty) B.exec B.bytes B.returns hn (fun t ht hW => ⟨⟨rv, (), rfl, rfl, by rw [ht]; exact hP, va_K.moved hW.alike hK, hD⟩, hS.F ht⟩) hS.2.2 hdg
theorem kEv.ofF {l : Launch} {y : MethodName} {wsY ws' : List Cond} {rm : Room} {D : va_G} {tys : List (ClassId × FieldType)} {tq : Nat → Nat} {wc w2 : va_W} {av : List Value} (cc : ByteArray) (nL : Nat) (hy : plainFor y = true) (hw : wsY = Cond.code y cc nL none :: ws') (hav : (lg_sl av).length ≤ nL)
    (body : ∀ (p : Program) (e : Env) (s : State) (m : MethodId) (below : List Frame) (meth : Method) (c : Code) (A : Nat → Prop) (Q : State → Prop), kc p s m c cc nL av.toArray wsY y.cls D tys A → kJ tq A s s.heap → kRv p l e rm s m av.toArray below meth c D A nL 0 0 Q cc none w2 → kv p l e rm s m av.toArray below meth c D A nL 0 0 Q wc (lv_args 0 av) 0 []) : kEv l y wsY rm D tys tq wc w2 av := by
  intro sz
  refine va_MetF (cc := cc) (maxL := nL) (ret := none) hy hw ?_
  intro p e s m args below meth c s₁ B hml hv
  obtain ⟨rfl, hsz, hP, hK, hD0, hJ⟩ := hv
  subst hsz
  have hD := hD0.self (sz := s.heap.size)
  have hl := lv_entry av (n := nL) hav
  rw [lg_entry_eq]
  refine body p e s m below meth c (va_A wc s.heap.size) _ ⟨B.exec, B.bytes, hml, findClass_of_methodNamed B.named, atoms_spec (ws := wsY) B.pre, hK, fun q h => Or.inr h⟩ hJ ?_ s.heap [] _ hP hD va_S.rf hl
  intro lv pc hdg H locs ls hP hD hS hl
  exact W.vret B.exec B.bytes B.returns (fun t ht hW => ⟨⟨(), rfl, trivial, by rw [ht]; exact hP, va_K.moved hW.alike hK, hD⟩, hS.F ht⟩) hS.2.2 hdg
