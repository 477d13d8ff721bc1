/-! Contracts of methods that return or throw. k is 0 when it returns, else the number of the exception. -/
def kExc (k : Int32) : String := if k = 1 then "java/lang/IndexOutOfBoundsException" else if k = 2 then "java/lang/IllegalArgumentException" else "java/lang/IllegalStateException"
def kNm : List String := ["java/lang/RuntimeException", "java/lang/Exception"]
/-- what a throw of E by own needs of the tables -/
def kTw (own : String) (ik ic : Nat) (E : String) : Prop := Cond.classLink own ik E ∈ gT ∧ Cond.initialized E ∈ gT ∧ (∀ w ∈ (vx_at0 own ic E kNm).filter goodWord, w ∈ gT) ∧ (∀ w ∈ (vx_at0 own ic E kNm).filter (fun w => !goodWord w), w ∈ nestW) ∧ Bundle.fit E = true ∧ (∀ n ∈ kNm, Bundle.fit n = true) ∧ ∀ w ∈ Cond.classLink own ik E :: Cond.initialized E :: vx_at0 own ic E kNm, vx_ot w = true
theorem kT_iob : kTw RX9 120 122 "java/lang/IndexOutOfBoundsException" := ⟨by decide +kernel, by decide +kernel, by decide +kernel, by decide +kernel, by decide +kernel, by decide +kernel, by decide +kernel⟩
theorem kT_iae : kTw RX9 83 85 "java/lang/IllegalArgumentException" := ⟨by decide +kernel, by decide +kernel, by decide +kernel, by decide +kernel, by decide +kernel, by decide +kernel, by decide +kernel⟩
theorem kT_ise : kTw RX9 90 92 "java/lang/IllegalStateException" := ⟨by decide +kernel, by decide +kernel, by decide +kernel, by decide +kernel, by decide +kernel, by decide +kernel, by decide +kernel⟩
def kXi (l : Launch) (y : MethodName) (wsY : List Cond) (rm : Room) (D : va_G) (tys : List (ClassId × FieldType)) (tq : Nat → Nat) (k rv : Int32) (wc w2 : va_W) (av : List Value) : Prop :=
  ∀ sz : Nat, vx_Met l y wsY rm (va_Pc av (fun U => U.heap.size = sz ∧ va_P D vwCl wc U.heap ∧ va_K D vwCl tys U ∧ va_D (fun _ => True) wc ∧ kJ tq (va_A wc sz) U U.heap)) (va_Qi (fun r (_ : Unit) => k = 0 ∧ r = rv) (fun _ t => va_P D vwCl w2 t.heap ∧ va_K D vwCl tys t ∧ va_D (va_A wc sz) w2) (va_A wc sz)) (vx_X (fun (_ : Unit) => ¬ k = 0) (fun E _ t => E = kExc k ∧ va_P D vwCl w2 t.heap ∧ va_K D vwCl tys t ∧ va_D (va_A wc sz) w2) (va_A wc sz)) 1 6 (va_A wc sz)
theorem kXi.of {l : Launch} (hst : l.stackTraces = false) {y : MethodName} {wsY : List Cond} {rm : Room} {D : va_G} {tys : List (ClassId × FieldType)} {tq : Nat → Nat} {k rv : Int32} {wc w2 : va_W} {av : List Value} (cc : ByteArray) (nL : Nat) (ret : Option FieldType) (hy : plainName y.cls = true) (hw : wsY = Cond.code y cc nL ret :: gT) (hrt : ret = some .int ∨ ret = some .boolean) (hav : (lg_sl av).length ≤ nL) (hrm : 6 ≤ rm.frames ∧ 89 ≤ rm.locals ∧ 1 ≤ rm.cells ∧ 6 ≤ rm.slots)
    (body : ∀ (p : Program) (e : Env) (s : State) (m : MethodId) (below : List Frame) (meth : Method) (c : Code) (A : Nat → Prop) (Q : State → Prop), kc p s m c cc nL av.toArray wsY y.cls D tys A → kJ tq A s s.heap → (k = 0 → kRi p l e rm s m av.toArray below meth c D A nL 0 0 Q cc ret rv w2) →
      (∀ (E : String) (ik ic : Nat), kTw y.cls ik ic E → E = kExc k → ¬ k = 0 → ∀ (lv : List (Nat × Value)) (pc : Nat) (st : List Value), decode cc pc = .ok (.new ik, 3) → decode cc (pc + 3) = .ok (.dup, 1) → decode cc (pc + 4) = .ok (.invokespecial ic, 3) → decode cc (pc + 7) = .ok (.athrow, 1) → (st.map fun v => v.category).sum ≤ 8 → kv p l e rm s m av.toArray below meth c D A nL 0 0 Q w2 lv pc st) →
      kv p l e rm s m av.toArray below meth c D A nL 0 0 Q wc (lv_args 0 av) 0 []) : kXi l y wsY rm D tys tq k rv wc w2 av := by
  intro sz
  refine vx_ofW (cc := cc) (maxL := nL) (ret := ret) hy hw ?_
  intro p e s m args below meth c s₁ B hml hex hv
  obtain ⟨rfl, hsz, hP, hK, hD0, hJ⟩ := hv
  subst hsz
  have hD := hD0.self (sz := s.heap.size)
  have hl := lv_entry av (n := nL) hav
  have hts := atoms_spec (ws := wsY) B.pre
  rw [lg_entry_eq]
  refine body p e s m below meth c (va_A wc s.heap.size) _ ⟨B.exec, B.bytes, hml, findClass_of_methodNamed B.named, hts, hK, fun q h => Or.inr h⟩ hJ ?_ ?_ s.heap [] _ hP hD va_S.rf hl
  · intro hk lv pc hdg hnb H locs ls hP hD hS hl
    refine W.widen (k := 1) (n := 6) (by omega) (by omega) (vx_ret ?_)
    rcases hrt with hrt | hrt
    · exact W.iret B.exec B.bytes (B.returns.trans hrt) (fun t ht hW => ⟨⟨rv, (), rfl, ⟨hk, rfl⟩, by rw [ht]; exact hP, va_K.moved hW.alike hK, hD⟩, hS.F ht⟩) hS.2.2 hdg
    · exact W.zret (ty := .boolean) B.exec B.bytes (B.returns.trans hrt) (kv_bool (hnb hrt)) (fun t ht hW => ⟨⟨rv, (), rfl, ⟨hk, rfl⟩, by rw [ht]; exact hP, va_K.moved hW.alike hK, hD⟩, hS.F ht⟩) hS.2.2 hdg
  · intro E ik ic hT hE hk lv pc st d0 d3 d4 d7 hcat H locs ls hP hD hS hl
    obtain ⟨t1, t2, t3, t4, t5, t6, t7⟩ := hT
    have hin : ∀ {w : Cond}, w ∈ gT → w.before av.toArray s = true := fun h => hts _ (by rw [hw]; exact List.mem_cons_of_mem _ h)
    refine vx_throw0 (cls := E) (names := kNm) (ik := ik) (ic := ic) (A := va_A wc s.heap.size) B.exec B.bytes hst (findClass_of_methodNamed B.named) t5 t6 (hin t1) (hin t2) (vx_hat (fun w h => hin (t3 w h)) (fun w h => t4 w h) (fun w h => va_Nw.use (nestW_tabs h) (hJ.1 w h))) t7 hJ.2.2.2.2.2.1 hJ.2.2.2.2.2.2.1 hS (hl.1.trans hml.symm) d0 d3 d4 d7 (fun x hx => (hex x hx).elim) (by show 2 + 3 < rm.frames; have := hrm.1; omega) (by show _ + (13 * (2 + 1) + 42) ≤ rm.locals; have := hrm.2.1; omega) (by show 0 + 1 ≤ rm.cells; have := hrm.2.2.1; omega) (by show 0 + 6 ≤ rm.slots; have := hrm.2.2.2; omega) B.notSynchronized (fun t hal hsz hkp => ⟨(), hk, ⟨hE, hP.kept (fun k q hq => hkp q.1 (hP k q hq).lt), va_K.moved hal hK, hD⟩, ?_⟩) hS.2.2 (by omega) (by omega)
    exact ⟨Nat.le_trans hS.1 hsz, fun q h1 h2 => (hkp q (Nat.lt_of_lt_of_le h1 hS.1)).trans (hS.2.1 q h1 h2)⟩
