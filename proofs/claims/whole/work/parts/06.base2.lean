/-! More rows of kv: stores by a name, calls that take the whole world or none of it; guards of mirrors. -/
section KV2
variable {p : Program} {l : Launch} {e : Env} {R : Room} {s : State} {m : MethodId} {args : Array Value} {below : List Frame} {meth : Method} {c : Code} {D : va_G} {A : Nat → Prop} {nL ce sl : Nat} {Q : State → Prop} {ws : va_W} {lv : List (Nat × Value)} {pc : Nat} {st : List Value} {cc : ByteArray} {Ts : List Cond} {own : String} {tys : List (ClassId × FieldType)}
theorem kv_top2 {x y : Int32} {v : Value} (h : y = x) (k : kv p l e R s m args below meth c D A nL ce sl Q ws lv pc (v :: .int y :: st)) : kv p l e R s m args below meth c D A nL ce sl Q ws lv pc (v :: .int x :: st) := h ▸ k
theorem kv_iast2 (C : kc p s m c cc nL args Ts own D tys A) {a n : Nat} {cA : ClassId} {f g : Nat → Int32} {ws1 : va_W} (q0 t0 : Nat) (ha : ws[q0]? = some (a, .inl (cA, n, .inl f))) (ht : tys[t0]? = some (cA, .int)) {i x : Int32} (hin : vp_in i n) (hg : g = upd f i.toNatClampNeg x) (hws : ws.set q0 (a, .inl (cA, n, .inl g)) = ws1) (hdg : decode cc pc = .ok (.iastore, 1)) (kk : kv p l e R s m args below meth c D A nL ce sl Q ws1 lv (pc + 1) st) : kv p l e R s m args below meth c D A nL ce sl Q ws lv pc (.int x :: .int i :: .ref a :: st) := kv_iast C q0 t0 ha ht hin (by rw [← hg]; exact hws) hdg kk
theorem kv_last2 (C : kc p s m c cc nL args Ts own D tys A) {a n : Nat} {cA : ClassId} {f g : Nat → Int64} {ws1 : va_W} (q0 t0 : Nat) (ha : ws[q0]? = some (a, .inl (cA, n, .inr (.inl f)))) (ht : tys[t0]? = some (cA, .long)) {i : Int32} {x : Int64} (hin : vp_in i n) (hg : g = vp_updL f i.toNatClampNeg x) (hws : ws.set q0 (a, .inl (cA, n, .inr (.inl g))) = ws1) (hdg : decode cc pc = .ok (.lastore, 1)) (kk : kv p l e R s m args below meth c D A nL ce sl Q ws1 lv (pc + 1) st) : kv p l e R s m args below meth c D A nL ce sl Q ws lv pc (.long x :: .int i :: .ref a :: st) := kv_last C q0 t0 ha ht hin (by rw [← hg]; exact hws) hdg kk
end KV2
theorem kv_rng (ws : va_W) : (List.range ws.length).map (fun i => ws[i]?) = ws.map some := by
  apply List.ext_getElem?
  intro i
  simp only [List.getElem?_map]
  by_cases h : i < ws.length
  · simp [List.getElem?_range, h]
  · simp [h, Nat.not_lt.mp h]
theorem kv_rngF (ws : va_W) : (List.range ws.length).filterMap (fun i => ws[i]?) = ws := by
  have h := kv_rng ws
  have e : (List.range ws.length).filterMap (fun i => ws[i]?) = ((List.range ws.length).map (fun i => ws[i]?)).filterMap id := by
    rw [List.filterMap_map]; rfl
  rw [e, h, List.filterMap_map]
  simp
theorem va_nd_of : ∀ (l : List Nat), l.Nodup → va_nd l = true
  | [], _ => rfl
  | a :: l, h => by
    have h := List.nodup_cons.mp h
    simp [va_nd, h.1, va_nd_of l h.2]
theorem kv_rngN (n : Nat) : va_nd (List.range n) = true := va_nd_of _ List.nodup_range
theorem kv_rngT (tys : List (ClassId × FieldType)) : (List.range tys.length).filterMap (fun i => tys[i]?) = tys := by
  have h : (List.range tys.length).map (fun i => tys[i]?) = tys.map some := by
    apply List.ext_getElem?
    intro i
    simp only [List.getElem?_map]
    by_cases h : i < tys.length
    · simp [List.getElem?_range, h]
    · simp [h, Nat.not_lt.mp h]
  have e : (List.range tys.length).filterMap (fun i => tys[i]?) = ((List.range tys.length).map (fun i => tys[i]?)).filterMap id := by
    rw [List.filterMap_map]; rfl
  rw [e, h, List.filterMap_map]
  simp
section KVC2
variable {p : Program} {l : Launch} {e : Env} {R : Room} {s : State} {m : MethodId} {args : Array Value} {below : List Frame} {meth : Method} {c : Code} {D : va_G} {A : Nat → Prop} {nL ce sl : Nat} {Q : State → Prop} {ws : va_W} {lv : List (Nat × Value)} {pc : Nat} {rest st0 : List Value} {cc : ByteArray} {Ts : List Cond} {own : String} {tys : List (ClassId × FieldType)}
theorem kv_callS0i {y : MethodName} {wsY : List Cond} {rm : Room} {rv : Int32} (C : kc p s m c cc nL args Ts own D tys A) {bytes : ByteArray} {maxL n index : Nat} {ret : Option FieldType} (As : List Value) (hM : kDi l y wsY rm D [] rv [] [] As) (cw : CallB R s args own index y bytes maxL ret wsY rm 0 0 n ∧ (Cond.static y).before args s = true) (hAs : As.length = n) (hst : st0 = As.reverse ++ rest) (hW : (rest.map fun v => v.category).sum ≤ 8) (hdg : decode cc pc = .ok (.invokestatic index, 3)) (hce : ce ≤ R.cells ∧ sl ≤ R.slots) (kk : kv p l e R s m args below meth c D A nL ce sl Q ws lv (pc + 3) (.int rv :: rest)) : kv p l e R s m args below meth c D A nL ce sl Q ws lv pc st0 :=
  kv_callSi C As hM cw [] (List.range ws.length) [] rfl rfl (kv_rng ws) rfl (kv_rngN _) (fun _ _ h => by cases h) rfl hAs hst hW hdg hce (List.append_nil ws) kk
theorem kv_callWi {y : MethodName} {wsY : List Cond} {rm : Room} {rv : Int32} {w2 : va_W} (C : kc p s m c cc nL args Ts own D tys A) {b ci N : Nat} {T : u_T} {fs : List Value} {bytes : ByteArray} {maxL n index : Nat} {ret : Option FieldType} {Cn : String} (As : List Value) (q0 : Nat) (hM : kDi l y wsY rm D tys rv ws w2 (.ref b :: As)) (cw : CallW R s args own Cn index y bytes maxL ret wsY rm 0 0 n) (hc : vwCl[ci]? = some (Cn, T, N)) (he : ws[q0]? = some (b, .inr (ci, fs))) (hAs : As.length = n) (hst : st0 = As.reverse ++ .ref b :: rest) (hW : (rest.map fun v => v.category).sum ≤ 8) (hdg : decode cc pc = .ok (.invokevirtual index, 3)) (hce : ce ≤ R.cells ∧ sl ≤ R.slots) (kk : kv p l e R s m args below meth c D A nL ce sl Q w2 lv (pc + 3) (.int rv :: rest)) : kv p l e R s m args below meth c D A nL ce sl Q ws lv pc st0 :=
  kv_callVi (wr := []) C As q0 hM cw hc he (List.range ws.length) [] (List.range tys.length) (kv_rng ws) (kv_rngF ws) rfl (kv_rngN _) rfl (fun _ h => by cases h) (kv_rngT tys) hAs hst hW hdg hce rfl kk
end KVC2
section KVC2
variable {p : Program} {l : Launch} {e : Env} {R : Room} {s : State} {m : MethodId} {args : Array Value} {below : List Frame} {meth : Method} {c : Code} {D : va_G} {A : Nat → Prop} {nL ce sl : Nat} {Q : State → Prop} {ws : va_W} {lv : List (Nat × Value)} {pc : Nat} {rest st0 : List Value} {cc : ByteArray} {Ts : List Cond} {own : String} {tys : List (ClassId × FieldType)}
theorem kv_callS0l {y : MethodName} {wsY : List Cond} {rm : Room} {rv : Int64} (C : kc p s m c cc nL args Ts own D tys A) {bytes : ByteArray} {maxL n index : Nat} {ret : Option FieldType} (As : List Value) (hM : kDl l y wsY rm D [] rv [] [] As) (cw : CallB R s args own index y bytes maxL ret wsY rm 0 0 n ∧ (Cond.static y).before args s = true) (hAs : As.length = n) (hst : st0 = As.reverse ++ rest) (hW : (rest.map fun v => v.category).sum ≤ 8) (hdg : decode cc pc = .ok (.invokestatic index, 3)) (hce : ce ≤ R.cells ∧ sl ≤ R.slots) (kk : kv p l e R s m args below meth c D A nL ce sl Q ws lv (pc + 3) (.long rv :: rest)) : kv p l e R s m args below meth c D A nL ce sl Q ws lv pc st0 :=
  kv_callSl C As hM cw [] (List.range ws.length) [] rfl rfl (kv_rng ws) rfl (kv_rngN _) (fun _ _ h => by cases h) rfl hAs hst hW hdg hce (List.append_nil ws) kk
theorem kv_callWl {y : MethodName} {wsY : List Cond} {rm : Room} {rv : Int64} {w2 : va_W} (C : kc p s m c cc nL args Ts own D tys A) {b ci N : Nat} {T : u_T} {fs : List Value} {bytes : ByteArray} {maxL n index : Nat} {ret : Option FieldType} {Cn : String} (As : List Value) (q0 : Nat) (hM : kDl l y wsY rm D tys rv ws w2 (.ref b :: As)) (cw : CallW R s args own Cn index y bytes maxL ret wsY rm 0 0 n) (hc : vwCl[ci]? = some (Cn, T, N)) (he : ws[q0]? = some (b, .inr (ci, fs))) (hAs : As.length = n) (hst : st0 = As.reverse ++ .ref b :: rest) (hW : (rest.map fun v => v.category).sum ≤ 8) (hdg : decode cc pc = .ok (.invokevirtual index, 3)) (hce : ce ≤ R.cells ∧ sl ≤ R.slots) (kk : kv p l e R s m args below meth c D A nL ce sl Q w2 lv (pc + 3) (.long rv :: rest)) : kv p l e R s m args below meth c D A nL ce sl Q ws lv pc st0 :=
  kv_callVl (wr := []) C As q0 hM cw hc he (List.range ws.length) [] (List.range tys.length) (kv_rng ws) (kv_rngF ws) rfl (kv_rngN _) rfl (fun _ h => by cases h) (kv_rngT tys) hAs hst hW hdg hce rfl kk
end KVC2
section KVC2
variable {p : Program} {l : Launch} {e : Env} {R : Room} {s : State} {m : MethodId} {args : Array Value} {below : List Frame} {meth : Method} {c : Code} {D : va_G} {A : Nat → Prop} {nL ce sl : Nat} {Q : State → Prop} {ws : va_W} {lv : List (Nat × Value)} {pc : Nat} {rest st0 : List Value} {cc : ByteArray} {Ts : List Cond} {own : String} {tys : List (ClassId × FieldType)}
theorem kv_callS0v {y : MethodName} {wsY : List Cond} {rm : Room} (C : kc p s m c cc nL args Ts own D tys A) {bytes : ByteArray} {maxL n index : Nat} {ret : Option FieldType} (As : List Value) (hM : kDv l y wsY rm D [] [] [] As) (cw : CallB R s args own index y bytes maxL ret wsY rm 0 0 n ∧ (Cond.static y).before args s = true) (hAs : As.length = n) (hst : st0 = As.reverse ++ rest) (hW : (rest.map fun v => v.category).sum ≤ 8) (hdg : decode cc pc = .ok (.invokestatic index, 3)) (hce : ce ≤ R.cells ∧ sl ≤ R.slots) (kk : kv p l e R s m args below meth c D A nL ce sl Q ws lv (pc + 3) (rest)) : kv p l e R s m args below meth c D A nL ce sl Q ws lv pc st0 :=
  kv_callSv C As hM cw [] (List.range ws.length) [] rfl rfl (kv_rng ws) rfl (kv_rngN _) (fun _ _ h => by cases h) rfl hAs hst hW hdg hce (List.append_nil ws) kk
theorem kv_callWv {y : MethodName} {wsY : List Cond} {rm : Room} {w2 : va_W} (C : kc p s m c cc nL args Ts own D tys A) {b ci N : Nat} {T : u_T} {fs : List Value} {bytes : ByteArray} {maxL n index : Nat} {ret : Option FieldType} {Cn : String} (As : List Value) (q0 : Nat) (hM : kDv l y wsY rm D tys ws w2 (.ref b :: As)) (cw : CallW R s args own Cn index y bytes maxL ret wsY rm 0 0 n) (hc : vwCl[ci]? = some (Cn, T, N)) (he : ws[q0]? = some (b, .inr (ci, fs))) (hAs : As.length = n) (hst : st0 = As.reverse ++ .ref b :: rest) (hW : (rest.map fun v => v.category).sum ≤ 8) (hdg : decode cc pc = .ok (.invokevirtual index, 3)) (hce : ce ≤ R.cells ∧ sl ≤ R.slots) (kk : kv p l e R s m args below meth c D A nL ce sl Q w2 lv (pc + 3) (rest)) : kv p l e R s m args below meth c D A nL ce sl Q ws lv pc st0 :=
  kv_callVv (wr := []) C As q0 hM cw hc he (List.range ws.length) [] (List.range tys.length) (kv_rng ws) (kv_rngF ws) rfl (kv_rngN _) rfl (fun _ h => by cases h) (kv_rngT tys) hAs hst hW hdg hce rfl kk
end KVC2
def oin {T : Type} (i : Int32) (n : Nat) (e : Option T) : Option T := if i < 0 ∨ n ≤ i.toNatClampNeg then none else e
theorem oin_e {T : Type} {i : Int32} {n : Nat} {e : Option T} {r : T} (h : oin i n e = some r) : vp_in i n ∧ e = some r := by
  unfold oin at h
  split at h
  · cases h
  · exact ⟨‹_›, h⟩
theorem oin_t {T : Type} {i : Int32} {n : Nat} {e : Option T} (h : vp_in i n) : oin i n e = e := if_neg h
def odz {T : Type} (y : Int32) (e : Option T) : Option T := if y = 0 then none else e
theorem odz_e {T : Type} {y : Int32} {e : Option T} {r : T} (h : odz y e = some r) : ¬ y = 0 ∧ e = some r := by
  unfold odz at h
  split at h
  · cases h
  · exact ⟨‹_›, h⟩
theorem odz_t {T : Type} {y : Int32} {e : Option T} (h : ¬ y = 0) : odz y e = e := if_neg h
def obl {T : Type} (v : Int32) (e : Option T) : Option T := if v &&& 1 = v then e else none
theorem obl_e {T : Type} {v : Int32} {e : Option T} {r : T} (h : obl v e = some r) : v &&& 1 = v ∧ e = some r := by
  unfold obl at h
  split at h
  · exact ⟨‹_›, h⟩
  · cases h
theorem kv_ne {x v : Int32} (h : ¬ x = v) : x.toInt ≠ v.toInt := fun q => h (Int32.toInt_inj.mp q)
theorem kv_no {T : Type} {r : T} {P : Prop} (h : none = some r) : P := by cases h
