/-! The law: its wrappers, the script, calls of the reference. -/
/-- a wrapper's contract: it returns rv; one cell of six slots may be new -/
def kYi (l : Launch) (y : MethodName) (wsY : List Cond) (rm : Room) (D : va_G) (tys : List (ClassId × FieldType)) (tq : Nat → Nat) (rv : Int32) (wc w2 : va_W) (av : List Value) : Prop :=
  ∀ sz : Nat, Met l y wsY rm (va_Pc av (fun U => U.heap.size = sz ∧ va_P D vwCl wc U.heap ∧ va_K D vwCl tys U ∧ va_D (fun _ => True) wc ∧ kJ tq (va_A wc sz) U U.heap)) (va_Qi (fun r (_ : Unit) => r = rv) (fun _ t => va_P D vwCl w2 t.heap ∧ va_K D vwCl tys t ∧ va_D (va_A wc sz) w2) (va_A wc sz)) 1 6 (va_A wc sz)
theorem kYi.of {l : Launch} {y : MethodName} {wsY : List Cond} {rm : Room} {D : va_G} {tys : List (ClassId × FieldType)} {tq : Nat → Nat} {rv : Int32} {wc w2 : va_W} {av : List Value} (cc : ByteArray) (nL : Nat) (hh : List (Nat × Nat × Nat × Nat)) (hy : plainName y.cls = true) (hw : wsY = Cond.codeWith y cc nL (some .int) hh :: gT) (hav : (lg_sl av).length ≤ nL)
    (body : ∀ (p : Program) (e : Env) (s : State) (m : MethodId) (below : List Frame) (meth : Method) (c : Code) (A : Nat → Prop) (Q : State → Prop), kc p s m c cc nL av.toArray wsY y.cls D tys A → kJ tq A s s.heap → c.exceptionTable.toList = tableOf hh → (∀ (lv : List (Nat × Value)) (pc : Nat), decode cc pc = .ok (.ireturn, 1) → kv p l e rm s m av.toArray below meth c D A nL 1 6 Q w2 lv pc [.int rv]) → kv p l e rm s m av.toArray below meth c D A nL 0 0 Q wc (lv_args 0 av) 0 []) : kYi l y wsY rm D tys tq rv wc w2 av := by
  intro sz
  refine va_MetW (cc := cc) (maxL := nL) (ret := some .int) (hh := hh) hy hw ?_
  intro p e s m args below meth c s₁ B hml hv
  obtain ⟨rfl, hsz, hP, hK, hD0, hJ⟩ := hv
  subst hsz
  have hD := hD0.self (sz := s.heap.size)
  have hl := lv_entry av (n := nL) hav
  have hts := atoms_spec (ws := wsY) B.pre
  rw [lg_entry_eq]
  refine body p e s m below meth c (va_A wc s.heap.size) _ ⟨B.exec, B.bytes, hml, findClass_of_methodNamed B.named, hts, hK, fun q h => Or.inr h⟩ hJ (vx_table (x := y) B (hts _ (by rw [hw]; exact List.mem_cons_self))) ?_ s.heap [] _ hP hD va_S.rf hl
  intro lv pc hdg H locs ls hP hD hS hl
  exact W.iret B.exec B.bytes B.returns (fun t ht hW => ⟨⟨rv, (), rfl, rfl, by rw [ht]; exact hP, va_K.moved hW.alike hK, hD⟩, hS.F ht⟩) hS.2.2 hdg
/-- an exception of class E is on its way, at pc -/
def kvx (p : Program) (l : Launch) (e : Env) (R : Room) (s : State) (m : MethodId) (args : Array Value) (below : List Frame) (meth : Method) (c : Code) (D : va_G) (A : Nat → Prop) (nL ce sl : Nat) (Q : State → Prop) (ws : va_W) (lv : List (Nat × Value)) (pc : Nat) (st : List Value) (E : String) : Prop :=
  ∀ (H : Heap) (locs : List Loc) (ls : Array Slot) (q : Nat) (cell : Cell), va_P D vwCl ws H → va_D A ws → va_S A s.heap H locs → lv_has ls nL lv → H[q]? = some cell → cell.vm = .none → s.vm.findClass E = some cell.cls → vx_W p l e R s m args below meth c H locs ce sl Q (F0 m pc ls st) q
section KV7
variable {p : Program} {l : Launch} {e : Env} {R : Room} {s : State} {m : MethodId} {args : Array Value} {below : List Frame} {meth : Method} {c : Code} {D : va_G} {A : Nat → Prop} {nL ce sl : Nat} {Q : State → Prop} {ws : va_W} {lv : List (Nat × Value)} {pc : Nat} {st : List Value} {cc : ByteArray} {Ts : List Cond} {own : String} {tys : List (ClassId × FieldType)}
theorem kv_catch (C : kc p s m c cc nL args Ts own D tys A) {name E : String} (pre : List ExceptionTableEntry) (z : ExceptionTableEntry) (suf : List ExceptionTableEntry) (hsplit : c.exceptionTable.toList = pre ++ z :: suf) (hpass : ∀ z ∈ pre, covers z pc = false ∨ (z.catchType ≠ 0 ∧ ∃ nm : String, (Cond.classLink own z.catchType nm).before args s = true ∧ va_Nc E nm s)) (hx : covers z pc = true) (h0 : z.catchType ≠ 0) (hlink : (Cond.classLink own z.catchType name).before args s = true) (hcast : (Cond.castable E name).before args s = true) (kk : ∀ q : Nat, kv p l e R s m args below meth c D A nL ce sl Q ws lv z.handlerPc [.ref q]) : kvx p l e R s m args below meth c D A nL ce sl Q ws lv pc st E := fun H locs ls q cell hP hD hS hl hc hv hcl => vx_catch C.ow pre z suf hsplit hpass hx h0 hlink hcast hc hv hcl (kk q H locs ls hP hD hS hl)
theorem kv_sld (C : kc p s m c cc nL args Ts own D tys A) {b L : Nat} {xs : Nat → Int32} (hX : va_X b L xs s s.heap) (hbl : b < s.heap.size) (hbA : ¬ A b) {i : Int32} (hin : vp_in i L) (hdg : decode cc pc = .ok (.iaload, 1)) (kk : kv p l e R s m args below meth c D A nL ce sl Q ws lv (pc + 1) (.int (xs i.toNatClampNeg) :: st)) : kv p l e R s m args below meth c D A nL ce sl Q ws lv pc (.int i :: .ref b :: st) := fun H locs ls hP hD hS hl => va_sld C.x C.b hX hbl hbA hS hin hdg (kk H locs ls hP hD hS hl)
theorem kv_slen (C : kc p s m c cc nL args Ts own D tys A) {b L : Nat} {xs : Nat → Int32} (hX : va_X b L xs s s.heap) (hbl : b < s.heap.size) (hbA : ¬ A b) (hdg : decode cc pc = .ok (.arraylength, 1)) (kk : kv p l e R s m args below meth c D A nL ce sl Q ws lv (pc + 1) (.int (nI L) :: st)) : kv p l e R s m args below meth c D A nL ce sl Q ws lv pc (.ref b :: st) := fun H locs ls hP hD hS hl => va_slen C.x C.b hX hbl hbA hS hdg (kk H locs ls hP hD hS hl)
theorem kv_widen {k n : Nat} (h1 : ce ≤ k) (h2 : sl ≤ n) (kk : kv p l e R s m args below meth c D A nL (k) (n) Q ws lv pc st) : kv p l e R s m args below meth c D A nL ce sl Q ws lv pc st := fun H locs ls hP hD hS hl => W.widen h1 h2 (kk H locs ls hP hD hS hl)
end KV7
section KV7C
variable {p : Program} {l : Launch} {e : Env} {R : Room} {s : State} {m : MethodId} {args : Array Value} {below : List Frame} {meth : Method} {c : Code} {D : va_G} {A : Nat → Prop} {nL ce sl : Nat} {Q : State → Prop} {ws : va_W} {lv : List (Nat × Value)} {pc : Nat} {rest st0 : List Value} {cc : ByteArray} {Ts : List Cond} {own : String} {tys : List (ClassId × FieldType)}
theorem kv_xV {y : MethodName} {wsY : List Cond} {rm : Room} {tysc : List (ClassId × FieldType)} {tq : Nat → Nat} {k rv : Int32} {wc w2 ws2 : va_W} (C : kc p s m c cc nL args Ts own D tys A) (hJ : kJ tq A s s.heap) {b ci N : Nat} {T : u_T} {fs : List Value} {bytes : ByteArray} {maxL n index : Nat} {ret : Option FieldType} {Cn : String} (As : List Value) (q0 : Nat) (hM : kXi l y wsY rm D tysc tq k rv wc w2 (.ref b :: As)) (cw : CallW R s args own Cn index y bytes maxL ret wsY rm 1 6 n) (hc : vwCl[ci]? = some (Cn, T, N)) (he : wc[q0]? = some (b, .inr (ci, fs))) (isC isR js pm : List Nat) (hC : isC.map (fun i => ws[i]?) = wc.map some) (hC2 : isC.filterMap (fun i => ws[i]?) = wc) (hR : isR.map (fun i => ws[i]?) = (isR.filterMap (fun i => ws[i]?)).map some) (hnC : va_nd isC = true) (hn : va_nd isR = true) (hdis : ∀ i ∈ isR, i ∉ isC) (hty : js.filterMap (fun i => tys[i]?) = tysc) (hAs : As.length = n) (hst : st0 = As.reverse ++ .ref b :: rest) (hW : (rest.map fun v => v.category).sum ≤ 8) (hdg : decode cc pc = .ok (.invokevirtual index, 3)) (hce : ce + 1 ≤ R.cells ∧ sl + 6 ≤ R.slots) (hp1 : pm.filterMap (fun i => ((isR.filterMap (fun i => ws[i]?)) ++ w2)[i]?) = ws2) (hp2 : pm.map (fun i => ((isR.filterMap (fun i => ws[i]?)) ++ w2)[i]?) = ws2.map some) (hp3 : va_nd pm = true) (kx : ¬ k = 0 → kvx p l e R s m args below meth c D A nL (ce + 1) (sl + 6) Q ws2 lv pc rest (kExc k)) (kk : k = 0 → kv p l e R s m args below meth c D A nL (ce + 1) (sl + 6) Q ws2 lv (pc + 3) (.int rv :: rest)) : kv p l e R s m args below meth c D A nL ce sl Q ws lv pc st0 := by
  subst hst
  intro H locs ls hP hD hS hl
  have hPc := hP.sub (ws' := wc) isC hC2
  have hDc := hD.sub (ws' := wc) isC hnC hC
  have hKc := C.k.sub (tys' := tysc) js hty
  have hFc := va_free (wc := wc) hD hS C.a isC hC
  refine vx_calli (vx_runV (As := As) (rest := rest) ⟨C.x, C.b, C.ml, C.ow, C.ts⟩ (hM H.size) cw ⟨fun a U g mk q => by obtain ⟨q0, q1, qP, qK, qD, qJ⟩ := q; exact ⟨q0, q1, qP, va_K.moved (u := U) (U := U.calling g mk a) (Vm.Alike.refl U.vm) qK, qD, qJ.blind g mk a⟩, va_recv hKc hPc (ci := ci) (q0 := q0) hc he, fun U hU hW => ⟨rfl, by rw [hU], by rw [hU]; exact hPc, va_K.moved hW.alike hKc, hDc.weaken (fun _ _ _ _ => trivial), hJ.call hS hU hW hFc⟩⟩ rfl hAs hl.1 rfl (lv_room hW) hdg hce) hS (fun q _ h => hFc q h) hFc (fun q _ h => hFc q h) (fun E cell q9 u t H1 locs1 ht hvm hw hB hz1 hk1 hS h9 hv9 hc9 => ?_) (fun r u t H1 locs1 ht hvm hw hB hz1 hk1 hS => ?_)
  · obtain ⟨hE, hB⟩ := hB
    subst hE
    obtain ⟨hP1, hK1, hD1⟩ := hB
    rw [ht] at hP1
    obtain ⟨hP, hD⟩ := va_join (wr := isR.filterMap (fun i => ws[i]?)) (w1 := w2) hP hD isC isR hC hR hn hdis hk1 hFc hP1 hD1
    exact kx hw _ _ _ q9 cell (hP.sub pm hp1) (hD.sub pm hp3 hp2) hS hl h9 hv9 hc9
  · obtain ⟨hk, hr⟩ := hw
    subst hr
    obtain ⟨hP1, hK1, hD1⟩ := hB
    rw [ht] at hP1
    obtain ⟨hP, hD⟩ := va_join (wr := isR.filterMap (fun i => ws[i]?)) (w1 := w2) hP hD isC isR hC hR hn hdis hk1 hFc hP1 hD1
    exact kk hk _ _ _ (hP.sub pm hp1) (hD.sub pm hp3 hp2) hS hl
theorem kv_yS {y : MethodName} {wsY : List Cond} {rm : Room} {tysc : List (ClassId × FieldType)} {tq : Nat → Nat} {rv : Int32} {wc w2 ws2 : va_W} (C : kc p s m c cc nL args Ts own D tys A) (hJ : kJ tq A s s.heap) {bytes : ByteArray} {maxL n index : Nat} {ret : Option FieldType} {hh : List (Nat × Nat × Nat × Nat)} (As : List Value) (hM : kYi l y wsY rm D tysc tq rv wc w2 As) (cw : vx_CSW R s args own index y bytes maxL ret hh wsY rm 1 6 n) (isC isR js pm : List Nat) (hC : isC.map (fun i => ws[i]?) = wc.map some) (hC2 : isC.filterMap (fun i => ws[i]?) = wc) (hR : isR.map (fun i => ws[i]?) = (isR.filterMap (fun i => ws[i]?)).map some) (hnC : va_nd isC = true) (hn : va_nd isR = true) (hdis : ∀ i ∈ isR, i ∉ isC) (hty : js.filterMap (fun i => tys[i]?) = tysc) (hAs : As.length = n) (hst : st0 = As.reverse ++ rest) (hW : (rest.map fun v => v.category).sum ≤ 8) (hdg : decode cc pc = .ok (.invokestatic index, 3)) (hce : ce + 1 ≤ R.cells ∧ sl + 6 ≤ R.slots) (hp1 : pm.filterMap (fun i => ((isR.filterMap (fun i => ws[i]?)) ++ w2)[i]?) = ws2) (hp2 : pm.map (fun i => ((isR.filterMap (fun i => ws[i]?)) ++ w2)[i]?) = ws2.map some) (hp3 : va_nd pm = true) (kk : kv p l e R s m args below meth c D A nL (ce + 1) (sl + 6) Q ws2 lv (pc + 3) (.int rv :: rest)) : kv p l e R s m args below meth c D A nL ce sl Q ws lv pc st0 := by
  subst hst
  intro H locs ls hP hD hS hl
  have hPc := hP.sub (ws' := wc) isC hC2
  have hDc := hD.sub (ws' := wc) isC hnC hC
  have hKc := C.k.sub (tys' := tysc) js hty
  have hFc := va_free (wc := wc) hD hS C.a isC hC
  refine va_calli (vx_runSW (As := As) (rest := rest) ⟨C.x, C.b, C.ml, C.ow, C.ts⟩ (hM H.size) cw ⟨fun a U g mk q => by obtain ⟨q0, q1, qP, qK, qD, qJ⟩ := q; exact ⟨q0, q1, qP, va_K.moved (u := U) (U := U.calling g mk a) (Vm.Alike.refl U.vm) qK, qD, qJ.blind g mk a⟩, fun U hU hW => ⟨rfl, by rw [hU], by rw [hU]; exact hPc, va_K.moved hW.alike hKc, hDc.weaken (fun _ _ _ _ => trivial), hJ.call hS hU hW hFc⟩⟩ rfl hAs hl.1 rfl (lv_room hW) hdg hce) hS (fun q _ h => hFc q h) hFc (fun r u t H1 locs1 ht hvm hw hB hz1 hk1 hS => ?_)
  subst hw
  obtain ⟨hP1, hK1, hD1⟩ := hB
  rw [ht] at hP1
  obtain ⟨hP, hD⟩ := va_join (wr := isR.filterMap (fun i => ws[i]?)) (w1 := w2) hP hD isC isR hC hR hn hdis hk1 hFc hP1 hD1
  exact kk _ _ _ (hP.sub pm hp1) (hD.sub pm hp3 hp2) hS hl
theorem kv_dVi {y : MethodName} {wsY : List Cond} {rm : Room} {tysc : List (ClassId × FieldType)} {rv : Int32} {wc w2 ws2 : va_W} (C : kc p s m c cc nL args Ts own D tys A) {b ci N : Nat} {T : u_T} {fs : List Value} {bytes : ByteArray} {maxL n index : Nat} {ret : Option FieldType} {Cn : String} (As : List Value) (q0 : Nat) (hM : kDi l y wsY rm D tysc rv wc w2 (.ref b :: As)) (cw : CallW R s args own Cn index y bytes maxL ret wsY rm 0 0 n) (hc : vwCl[ci]? = some (Cn, T, N)) (he : wc[q0]? = some (b, .inr (ci, fs))) (isC isR js pm : List Nat) (hC : isC.map (fun i => ws[i]?) = wc.map some) (hC2 : isC.filterMap (fun i => ws[i]?) = wc) (hR : isR.map (fun i => ws[i]?) = (isR.filterMap (fun i => ws[i]?)).map some) (hnC : va_nd isC = true) (hn : va_nd isR = true) (hdis : ∀ i ∈ isR, i ∉ isC) (hty : js.filterMap (fun i => tys[i]?) = tysc) (hAs : As.length = n) (hst : st0 = As.reverse ++ .ref b :: rest) (hW : (rest.map fun v => v.category).sum ≤ 8) (hdg : decode cc pc = .ok (.invokevirtual index, 3)) (hce : ce ≤ R.cells ∧ sl ≤ R.slots) (hp1 : pm.filterMap (fun i => ((isR.filterMap (fun i => ws[i]?)) ++ w2)[i]?) = ws2) (hp2 : pm.map (fun i => ((isR.filterMap (fun i => ws[i]?)) ++ w2)[i]?) = ws2.map some) (hp3 : va_nd pm = true) (kk : kv p l e R s m args below meth c D A nL ce sl Q ws2 lv (pc + 3) (.int rv :: rest)) : kv p l e R s m args below meth c D A nL ce sl Q ws lv pc st0 := by
  subst hst
  intro H locs ls hP hD hS hl
  have hPc := hP.sub (ws' := wc) isC hC2
  have hDc := hD.sub (ws' := wc) isC hnC hC
  have hKc := C.k.sub (tys' := tysc) js hty
  have hFc := va_free (wc := wc) hD hS C.a isC hC
  refine va_calli (va_runV (As := As) (rest := rest) ⟨C.x, C.b, C.ml, C.ow, C.ts⟩ (hM H.size) cw ⟨fun a U g mk q => by obtain ⟨q0, q1, qP, qK, qD⟩ := q; exact ⟨q0, q1, qP, va_K.moved (u := U) (U := U.calling g mk a) (Vm.Alike.refl U.vm) qK, qD⟩, va_recv hKc hPc (ci := ci) (q0 := q0) hc he, fun U hU hW => ⟨rfl, by rw [hU], by rw [hU]; exact hPc, va_K.moved hW.alike hKc, hDc.weaken (fun _ _ _ _ => trivial)⟩⟩ rfl hAs hl.1 rfl (lv_room hW) hdg hce) hS (fun q _ h => hFc q h) hFc (fun r u t H1 locs1 ht hvm hw hB hz1 hk1 hS => ?_)
  subst hw
  obtain ⟨hP1, hK1, hD1⟩ := hB
  rw [ht] at hP1
  obtain ⟨hP, hD⟩ := va_join (wr := isR.filterMap (fun i => ws[i]?)) (w1 := w2) hP hD isC isR hC hR hn hdis hk1 hFc hP1 hD1
  exact kk _ _ _ (hP.sub pm hp1) (hD.sub pm hp3 hp2) hS hl
end KV7C
/-! Worlds that are put together of two: calls that take the first, or the second. -/
theorem kl_m {n : Nat} {f : Nat → Option (Nat × va_E)} {ws : va_W} (h : (List.range n).map f = ws.map some) : (List.range n).filterMap f = ws := by
  have e : (List.range n).filterMap f = ((List.range n).map f).filterMap id := by
    rw [List.filterMap_map]; rfl
  rw [e, h, List.filterMap_map]
  simp
theorem kl_A (wc wr : va_W) : (List.range wc.length).map (fun i => (wc ++ wr)[i]?) = wc.map some := by
  apply List.ext_getElem?
  intro i
  simp only [List.getElem?_map]
  by_cases h : i < wc.length
  · simp [List.getElem?_range, h, List.getElem?_append_left h]
  · simp [h, Nat.not_lt.mp h]
theorem kl_AF (wc wr : va_W) : (List.range wc.length).filterMap (fun i => (wc ++ wr)[i]?) = wc := kl_m (kl_A wc wr)
theorem kl_B0 (wc wr : va_W) : (List.range wr.length).map (fun i => (wc ++ wr)[wc.length + i]?) = wr.map some := by
  have e : (fun i => (wc ++ wr)[wc.length + i]?) = (fun i => wr[i]?) := by
    funext i
    rw [List.getElem?_append_right (by omega)]
    congr 1
    omega
  rw [e]
  exact kv_rng wr
def kl_i (c n : Nat) : List Nat := (List.range n).map (fun i => c + i)
theorem kl_B (wc wr : va_W) : (kl_i wc.length wr.length).map (fun i => (wc ++ wr)[i]?) = wr.map some := by
  unfold kl_i
  rw [List.map_map]
  exact kl_B0 wc wr
theorem kl_BF (wc wr : va_W) : (kl_i wc.length wr.length).filterMap (fun i => (wc ++ wr)[i]?) = wr := by
  unfold kl_i
  rw [List.filterMap_map]
  exact kl_m (kl_B0 wc wr)
theorem kl_n (c n : Nat) : va_nd (kl_i c n) = true := va_nd_of _ (List.Pairwise.map _ (fun a b h => by omega) List.nodup_range)
theorem kl_d (c n : Nat) : ∀ i ∈ kl_i c n, i ∉ List.range c := by
  intro i h
  obtain ⟨j, -, rfl⟩ := List.mem_map.mp h
  simp
theorem kl_d2 (c n : Nat) : ∀ i ∈ List.range c, i ∉ kl_i c n := by
  intro i h h2
  exact kl_d c n i h2 h
theorem kl_p (wr w2 : va_W) : (kl_i wr.length w2.length ++ List.range wr.length).map (fun i => (wr ++ w2)[i]?) = (w2 ++ wr).map some := by
  rw [List.map_append, kl_B, kl_A, List.map_append]
theorem kl_pF (wr w2 : va_W) : (kl_i wr.length w2.length ++ List.range wr.length).filterMap (fun i => (wr ++ w2)[i]?) = w2 ++ wr := by
  rw [List.filterMap_append, kl_BF, kl_AF]
theorem kl_pn (a b : Nat) : va_nd (kl_i a b ++ List.range a) = true := va_nd_of _ (List.nodup_append.mpr ⟨List.Pairwise.map _ (fun a b h => by omega) List.nodup_range, List.nodup_range, fun x hx y hy e => kl_d a b x hx (e ▸ hy)⟩)
section KV7P
variable {p : Program} {l : Launch} {e : Env} {R : Room} {s : State} {m : MethodId} {args : Array Value} {below : List Frame} {meth : Method} {c : Code} {D : va_G} {A : Nat → Prop} {nL ce sl : Nat} {Q : State → Prop} {lv : List (Nat × Value)} {pc : Nat} {rest st0 : List Value} {cc : ByteArray} {Ts : List Cond} {own : String} {tys : List (ClassId × FieldType)}
theorem kv_yP {y : MethodName} {wsY : List Cond} {rm : Room} {tysc : List (ClassId × FieldType)} {rv : Int32} {wc w2 wr : va_W} {tq : Nat → Nat} (C : kc p s m c cc nL args Ts own D tys A) (hJ : kJ tq A s s.heap) {bytes : ByteArray} {maxL n index : Nat} {ret : Option FieldType} {hh : List (Nat × Nat × Nat × Nat)} (As : List Value) (hM : kYi l y wsY rm D tysc tq rv wc w2 As) (cw : vx_CSW R s args own index y bytes maxL ret hh wsY rm 1 6 n) (js : List Nat) (hty : js.filterMap (fun i => tys[i]?) = tysc) (hAs : As.length = n) (hst : st0 = As.reverse ++ rest) (hW : (rest.map fun v => v.category).sum ≤ 8) (hdg : decode cc pc = .ok (.invokestatic index, 3)) (hce : ce + 1 ≤ R.cells ∧ sl + 6 ≤ R.slots) (kk : kv p l e R s m args below meth c D A nL (ce + 1) (sl + 6) Q (w2 ++ wr) lv (pc + 3) (.int rv :: rest)) : kv p l e R s m args below meth c D A nL ce sl Q (wc ++ wr) lv pc st0 :=
  kv_yS (ws2 := w2 ++ wr) C hJ As hM cw (List.range wc.length) (kl_i wc.length wr.length) js (kl_i wr.length w2.length ++ List.range wr.length) (kl_A wc wr) (kl_AF wc wr) (by rw [kl_BF]; exact kl_B wc wr) (kv_rngN _) (kl_n _ _) (kl_d _ _) hty hAs hst hW hdg hce (by rw [kl_BF]; exact kl_pF wr w2) (by rw [kl_BF]; exact kl_p wr w2) (kl_pn _ _) kk
theorem kv_eP {y : MethodName} {wsY : List Cond} {rm : Room} {tysc : List (ClassId × FieldType)} {rv : Int32} {wc w2 wr : va_W} {tq : Nat → Nat} (C : kc p s m c cc nL args Ts own D tys A) (hJ : kJ tq A s s.heap) {b ci N : Nat} {T : u_T} {fs : List Value} {bytes : ByteArray} {maxL n index : Nat} {ret : Option FieldType} {Cn : String} (As : List Value) (q0 : Nat) (hM : kEi l y wsY rm D tysc tq rv wc w2 (.ref b :: As)) (cw : CallW R s args own Cn index y bytes maxL ret wsY rm 0 0 n) (hc : vwCl[ci]? = some (Cn, T, N)) (he : wc[q0]? = some (b, .inr (ci, fs))) (js : List Nat) (hty : js.filterMap (fun i => tys[i]?) = tysc) (hAs : As.length = n) (hst : st0 = As.reverse ++ .ref b :: rest) (hW : (rest.map fun v => v.category).sum ≤ 8) (hdg : decode cc pc = .ok (.invokevirtual index, 3)) (hce : ce ≤ R.cells ∧ sl ≤ R.slots) (kk : kv p l e R s m args below meth c D A nL ce sl Q (w2 ++ wr) lv (pc + 3) (.int rv :: rest)) : kv p l e R s m args below meth c D A nL ce sl Q (wc ++ wr) lv pc st0 :=
  kv_eVi (ws2 := w2 ++ wr) C hJ As q0 hM cw hc he (List.range wc.length) (kl_i wc.length wr.length) js (kl_i wr.length w2.length ++ List.range wr.length) (kl_A wc wr) (kl_AF wc wr) (by rw [kl_BF]; exact kl_B wc wr) (kv_rngN _) (kl_n _ _) (kl_d _ _) hty hAs hst hW hdg hce (by rw [kl_BF]; exact kl_pF wr w2) (by rw [kl_BF]; exact kl_p wr w2) (kl_pn _ _) kk
theorem kv_dQ {y : MethodName} {wsY : List Cond} {rm : Room} {tysc : List (ClassId × FieldType)} {rv : Int32} {wc w2 wr : va_W} (C : kc p s m c cc nL args Ts own D tys A) {b ci N : Nat} {T : u_T} {fs : List Value} {bytes : ByteArray} {maxL n index : Nat} {ret : Option FieldType} {Cn : String} (As : List Value) (q0 : Nat) (hM : kDi l y wsY rm D tysc rv wc w2 (.ref b :: As)) (cw : CallW R s args own Cn index y bytes maxL ret wsY rm 0 0 n) (hc : vwCl[ci]? = some (Cn, T, N)) (he : wc[q0]? = some (b, .inr (ci, fs))) (js : List Nat) (hty : js.filterMap (fun i => tys[i]?) = tysc) (hAs : As.length = n) (hst : st0 = As.reverse ++ .ref b :: rest) (hW : (rest.map fun v => v.category).sum ≤ 8) (hdg : decode cc pc = .ok (.invokevirtual index, 3)) (hce : ce ≤ R.cells ∧ sl ≤ R.slots) (kk : kv p l e R s m args below meth c D A nL ce sl Q (wr ++ w2) lv (pc + 3) (.int rv :: rest)) : kv p l e R s m args below meth c D A nL ce sl Q (wr ++ wc) lv pc st0 :=
  kv_dVi (ws2 := wr ++ w2) C As q0 hM cw hc he (kl_i wr.length wc.length) (List.range wr.length) js (List.range (wr ++ w2).length) (kl_B wr wc) (kl_BF wr wc) (by rw [kl_AF]; exact kl_A wr wc) (kl_n _ _) (kv_rngN _) (kl_d2 _ _) hty hAs hst hW hdg hce (by rw [kl_AF]; exact kv_rngF _) (by rw [kl_AF]; exact kv_rng _) (kv_rngN _) kk
end KV7P
