/-! Rows that make cells; contracts of constructors: what is made has the addresses that u tells; u 0 is the object itself. -/
section KV6
variable {p : Program} {l : Launch} {e : Env} {R : Room} {s : State} {m : MethodId} {args : Array Value} {below : List Frame} {meth : Method} {c : Code} {D : va_G} {A : Nat → Prop} {nL ce sl : Nat} {Q : State → Prop} {ws : va_W} {lv : List (Nat × Value)} {pc : Nat} {st : List Value} {cc : ByteArray} {Ts : List Cond} {own : String} {tys : List (ClassId × FieldType)}
theorem kv_new (C : kc p s m c cc nL args Ts own D tys A) {Cn : String} {T : u_T} {N ci index : Nat} (hin : ∀ w ∈ u_ws Cn T N, w ∈ Ts) (ty : Nat → FieldType) (hty : ∀ k, k < N → parseFieldDescriptor (T k).2.2.1 = some (ty k)) (hcl : (Cond.classLink own index Cn).before args s = true) (hinst : (Cond.instantiable Cn N).before args s = true) (hini : (Cond.initialized Cn).before args s = true) (hc : vwCl[ci]? = some (Cn, T, N)) (fs : List Value) (hfs : ∀ j, j < N → defaultValue (ty j) = vp_V fs j) (hcells : ce + 1 ≤ R.cells) (hslots : sl + N ≤ R.slots) (hdg : decode cc pc = .ok (.new index, 3)) (kk : ∀ q : Nat, kv p l e R s m args below meth c D A nL (ce + 1) (sl + N) Q (ws ++ [(q, .inr (ci, fs))]) lv (pc + 3) (.ref q :: st)) : kv p l e R s m args below meth c D A nL ce sl Q ws lv pc st := fun H locs ls hP hD hS hl => va_new C.x C.b C.ts hin ty hty C.ow hcl hinst hini C.k hP hD hS C.a hc hfs hcells hslots hdg (fun q H1 hP hD hS => kk q H1 locs ls hP hD hS hl)
theorem kv_newa (C : kc p s m c cc nL args Ts own D tys A) {atype : ArrayType} (harr : (Cond.arrayClass (newarray.typeOf atype)).before args s = true) {cA : ClassId} (t0 : Nat) (ht : tys[t0]? = some (cA, newarray.typeOf atype)) {n : Int32} {N' : Nat} (a0 : vp_A) (ha : ∀ cB : ClassId, vp_cell cB a0 = arrV cB N' (fun _ => defaultValue (newarray.typeOf atype))) (hn : ¬ n < 0) (hN : n.toNatClampNeg = N') (hbytes : N' * componentBytes (newarray.typeOf atype) ≤ 536870912) (hcells : ce + 1 ≤ R.cells) (hslots : sl + N' ≤ R.slots) (hdg : decode cc pc = .ok (.newarray atype, 2)) (kk : ∀ q : Nat, kv p l e R s m args below meth c D A nL (ce + 1) (sl + N') Q (ws ++ [(q, .inl (cA, a0))]) lv (pc + 2) (.ref q :: st)) : kv p l e R s m args below meth c D A nL ce sl Q ws lv pc (.int n :: st) := by
  intro H locs ls hP hD hS hl
  refine va_newaK C.x C.b harr rfl hdg rfl hn hN hbytes hcells hslots rfl fun H1 cB e1 z1 o1 hAr hNm => ?_
  have hcB : cB = cA := by
    have h2 : va_RA s cA (newarray.typeOf atype) := (C.k.2 t0 _ ht).2
    have h3 : va_RA s cB (newarray.typeOf atype) := by cases atype <;> exact hNm
    cases atype <;> exact Option.some.inj (h3.symm.trans h2)
  subst hcB
  have hk : ∀ (k : Nat) (x : Nat × va_E), ws[k]? = some x → H1[x.1]? = H[x.1]? := fun k x hx => o1 x.1 ((hP k x hx).lt)
  refine kk H.size H1 locs ls ((hP.kept hk).app (fun k x hx => ?_)) (hD.push hP rfl (C.a _ hS.1)) ⟨Nat.le_trans hS.1 (by omega), fun x h1 h2 => (o1 x (Nat.lt_of_lt_of_le h1 hS.1)).trans (hS.2.1 x h1 h2), hS.2.2⟩ hl
  have hz : k < 1 := (List.getElem?_eq_some_iff.mp hx).1
  rw [show k = 0 by omega] at hx
  cases hx
  show H1[H.size]? = some (vp_cell _ _)
  rw [ha]
  exact e1
theorem kv_putF (C : kc p s m c cc nL args Ts own D tys A) (hini : meth.name = "<init>") {ref Cn : String} {T : u_T} {N ci index a : Nat} (q0 k : Nat) (hin : ∀ w ∈ u_ws Cn T N, w ∈ Ts) (ty0 : Nat → FieldType) (hty : ∀ k, k < N → parseFieldDescriptor (T k).2.2.1 = some (ty0 k)) (hnm : ∀ a, a < N → ∀ b, b < N → a ≠ b → (T a).2.1 ≠ (T b).2.1) {fs : List Value} {v : Value} {ws1 : va_W} (he : ws[q0]? = some (a, .inr (ci, fs))) (hc : vwCl[ci]? = some (Cn, T, N)) (hk : k < N) (hlink : (Cond.fieldLink own index ref (T k).2.1 (T k).2.2.1).before args s = true) (hsame : (T k).1 = ref) (hrefo : own = ref) (hfin : (T k).2.2.2 = true) {ty : FieldType} (hd : parseFieldDescriptor (T k).2.2.1 = some ty) (hn : narrow ty v = v) (hfit : fits ty v = true) (hlen : k < fs.length) (hws : ws.set q0 (a, .inr (ci, fs.set k v)) = ws1) (hdg : decode cc pc = .ok (.putfield index, 3)) (kk : kv p l e R s m args below meth c D A nL ce sl Q ws1 lv (pc + 3) st) : kv p l e R s m args below meth c D A nL ce sl Q ws lv pc (v :: .ref a :: st) := by
  subst hws
  subst hrefo
  exact fun H locs ls hP hD hS hl => va_putF C.x C.b C.ts hin ty0 hty hnm C.ow C.k hP hD hS q0 he hc k hk hlink (fun _ h9 => hsame ▸ h9) hfin hini hsame hd hn hfit hlen hdg (fun H locs hP hD hS => kk H locs ls hP hD hS hl)
theorem kv_objInit (C : kc p s m c cc nL args Ts own D tys A) {index a : Nat} (hlink : (Cond.methodLink own index Lib.objectInit).before args s = true) (hinst : (Cond.instanceMethod Lib.objectInit).before args s = true) (hcode : (Cond.code Lib.objectInit ⟨#[0xb1]⟩ 1 none).before args s = true) (hd : decode cc pc = .ok (.invokespecial index, 3)) (hframes : 1 ≤ R.frames) (hlocals : (st.map fun v => v.category).sum + 12 ≤ R.locals) (kk : kv p l e R s m args below meth c D A nL ce sl Q ws lv (pc + 3) st) : kv p l e R s m args below meth c D A nL ce sl Q ws lv pc (.ref a :: st) := fun H locs ls hP hD hS hl => W.objInit C.x C.b C.ow hlink hinst hcode rfl (by rw [C.ml]; exact hl.1) rfl hd hframes (by have : 2 * (F0 m pc ls (.ref a :: st)).monitorRoom = 0 := rfl; omega) (kk H locs ls hP hD hS hl)
end KV6
/-- a constructor's contract: from the cells wc, the cells w2 u, with u 0 the object; mc cells of ms slots are made -/
def kN (l : Launch) (y : MethodName) (wsY : List Cond) (rm : Room) (D : va_G) (tys : List (ClassId × FieldType)) (tys2 : ClassId → List (ClassId × FieldType)) (tq : Nat → Nat) (h0 : Nat) (wc : va_W) (w2 : (Nat → Nat) → ClassId → va_W) (av : List Value) (mc ms : Nat) : Prop :=
  ∀ sz : Nat, Met l y wsY rm (va_Pc av (fun U => U.heap.size = sz ∧ va_P D vwCl wc U.heap ∧ va_K D vwCl tys U ∧ va_D (fun _ => True) wc ∧ kJ tq (va_A wc sz) U U.heap)) (va_Qv (fun (u : (Nat → Nat) × ClassId) => u.1 0 = h0) (fun u t => va_P D vwCl (w2 u.1 u.2) t.heap ∧ va_K D vwCl (tys2 u.2) t ∧ va_D (va_A wc sz) (w2 u.1 u.2)) (va_A wc sz)) mc ms (va_A wc sz)
def kRN (p : Program) (l : Launch) (e : Env) (R : Room) (s : State) (m : MethodId) (args : Array Value) (below : List Frame) (meth : Method) (c : Code) (D : va_G) (A : Nat → Prop) (nL ce sl : Nat) (Q : State → Prop) (cc : ByteArray) (h0 : Nat) (tys2 : ClassId → List (ClassId × FieldType)) (w2 : (Nat → Nat) → ClassId → va_W) : Prop :=
  ∀ (u : Nat → Nat) (cR : ClassId) (lv : List (Nat × Value)) (pc : Nat), u 0 = h0 → va_K D vwCl (tys2 cR) s → decode cc pc = .ok (.return_, 1) → kv p l e R s m args below meth c D A nL ce sl Q (w2 u cR) lv pc []
theorem kN.of {l : Launch} {y : MethodName} {wsY ws' : List Cond} {rm : Room} {D : va_G} {tys : List (ClassId × FieldType)} {tys2 : ClassId → List (ClassId × FieldType)} {tq : Nat → Nat} {h0 : Nat} {wc : va_W} {w2 : (Nat → Nat) → ClassId → va_W} {av : List Value} {mc ms : Nat} (cc : ByteArray) (nL : Nat) (hy : plainName y.cls = true) (hyn : y.name = "<init>") (hw : wsY = Cond.code y cc nL none :: ws') (hav : (lg_sl av).length ≤ nL)
    (body : ∀ (p : Program) (e : Env) (s : State) (m : MethodId) (below : List Frame) (meth : Method) (c : Code) (A : Nat → Prop) (Q : State → Prop), meth.name = "<init>" → kc p s m c cc nL av.toArray wsY y.cls D tys A → kJ tq A s s.heap → kRN p l e rm s m av.toArray below meth c D A nL mc ms Q cc h0 tys2 w2 → kv p l e rm s m av.toArray below meth c D A nL 0 0 Q wc (lv_args 0 av) 0 []) : kN l y wsY rm D tys tys2 tq h0 wc w2 av mc ms := by
  intro sz
  refine Met.ofW (cc := cc) (maxL := nL) (ret := none) hy hw ?_
  intro p e s m args below meth c s₁ B hml hv
  obtain ⟨rfl, hsz, hP, hK, hD0, hJ⟩ := hv
  subst hsz
  have hD := hD0.self (sz := s.heap.size)
  have hl := lv_entry av (n := nL) hav
  rw [lg_entry_eq]
  refine body p e s m below meth c (va_A wc s.heap.size) _ ((name_of_methodNamed B.named B.method).1.trans hyn) ⟨B.exec, B.bytes, hml, findClass_of_methodNamed B.named, atoms_spec (ws := wsY) B.pre, hK, fun q h => Or.inr h⟩ hJ ?_ s.heap [] _ hP hD va_S.rf hl
  intro u cR lv pc hu hK2 hdg H locs ls hP hD hS hl
  exact W.vret B.exec B.bytes B.returns (fun t ht hW => ⟨⟨(u, cR), rfl, hu, by rw [ht]; exact hP, va_K.moved hW.alike hK2, hD⟩, hS.F ht⟩) hS.2.2 hdg
section KVN
variable {p : Program} {l : Launch} {e : Env} {R : Room} {s : State} {m : MethodId} {args : Array Value} {below : List Frame} {meth : Method} {c : Code} {D : va_G} {A : Nat → Prop} {nL ce sl : Nat} {Q : State → Prop} {ws : va_W} {lv : List (Nat × Value)} {pc : Nat} {rest st0 : List Value} {cc : ByteArray} {Ts : List Cond} {own : String} {tys : List (ClassId × FieldType)}
theorem kv_nI {y : MethodName} {wsY : List Cond} {rm : Room} {tysc : List (ClassId × FieldType)} {tys2 : ClassId → List (ClassId × FieldType)} {tq : Nat → Nat} {wc : va_W} {w2 ws2 : (Nat → Nat) → ClassId → va_W} {mc ms : Nat} (C : kc p s m c cc nL args Ts own D tys A) (hJ : kJ tq A s s.heap) {b : Nat} {bytes : ByteArray} {maxL n index : Nat} (As : List Value) (hM : kN l y wsY rm D tysc tys2 tq b wc w2 (.ref b :: As) mc ms) (cw : CallB R s args own index y bytes maxL none wsY rm mc ms n ∧ y.name = "<init>" ∧ (Cond.instanceMethod y).before args s = true) (isC isR js pm : List Nat) (hC : isC.map (fun i => ws[i]?) = wc.map some) (hC2 : isC.filterMap (fun i => ws[i]?) = wc) (hR : isR.map (fun i => ws[i]?) = (isR.filterMap (fun i => ws[i]?)).map some) (hnC : va_nd isC = true) (hn : va_nd isR = true) (hdis : ∀ i ∈ isR, i ∉ isC) (hty : js.filterMap (fun i => tys[i]?) = tysc) (hAs : As.length = n) (hst : st0 = As.reverse ++ .ref b :: rest) (hW : (rest.map fun v => v.category).sum ≤ 8) (hdg : decode cc pc = .ok (.invokespecial index, 3)) (hce : ce + mc ≤ R.cells ∧ sl + ms ≤ R.slots) (hp1 : ∀ u cR, pm.filterMap (fun i => ((isR.filterMap (fun i => ws[i]?)) ++ w2 u cR)[i]?) = ws2 u cR) (hp2 : ∀ u cR, pm.map (fun i => ((isR.filterMap (fun i => ws[i]?)) ++ w2 u cR)[i]?) = (ws2 u cR).map some) (hp3 : va_nd pm = true)
    (kk : ∀ (u : Nat → Nat) (cR : ClassId), u 0 = b → va_K D vwCl (tys2 cR) s → kv p l e R s m args below meth c D A nL (ce + mc) (sl + ms) Q (ws2 u cR) lv (pc + 3) rest) : kv p l e R s m args below meth c D A nL ce sl Q ws lv pc st0 := by
  subst hst
  intro H locs ls hP hD hS hl
  have hPc := hP.sub (ws' := wc) isC hC2
  have hDc := hD.sub (ws' := wc) isC hnC hC
  have hKc := C.k.sub (tys' := tysc) js hty
  have hFc := va_free (wc := wc) hD hS C.a isC hC
  refine va_callv (va_runI (As := As) (rest := rest) ⟨C.x, C.b, C.ml, C.ow, C.ts⟩ (hM H.size) cw ⟨fun a U g mk q => by obtain ⟨q0, q1, qP, qK, qD, qJ⟩ := q; exact ⟨q0, q1, qP, va_K.moved (u := U) (U := U.calling g mk a) (Vm.Alike.refl U.vm) qK, qD, qJ.blind g mk a⟩, fun U hU hW => ⟨rfl, by rw [hU], by rw [hU]; exact hPc, va_K.moved hW.alike hKc, hDc.weaken (fun _ _ _ _ => trivial), hJ.call hS hU hW hFc⟩⟩ rfl hAs hl.1 rfl (lv_room hW) hdg hce) hS (fun q _ h => hFc q h) hFc (fun u t H1 locs1 ht hvm hw hB hz1 hk1 hS => ?_)
  obtain ⟨u, cR⟩ := u
  obtain ⟨hP1, hK1, hD1⟩ := hB
  rw [ht] at hP1
  obtain ⟨hP, hD⟩ := va_join (wr := isR.filterMap (fun i => ws[i]?)) (w1 := w2 u cR) hP hD isC isR hC hR hn hdis hk1 hFc hP1 hD1
  exact kk u cR hw (va_K.moved hvm.symm hK1) _ _ _ (hP.sub pm (hp1 u cR)) (hD.sub pm hp3 (hp2 u cR)) hS hl
end KVN
theorem kc.more {p : Program} {s : State} {m : MethodId} {c : Code} {cc : ByteArray} {nL : Nat} {args : Array Value} {Ts : List Cond} {own : String} {D : va_G} {tys tys1 : List (ClassId × FieldType)} {A : Nat → Prop} (C : kc p s m c cc nL args Ts own D tys A) (h : va_K D vwCl tys1 s) : kc p s m c cc nL args Ts own D tys1 A := ⟨C.1, C.2.1, C.2.2.1, C.2.2.2.1, C.2.2.2.2.1, h, C.2.2.2.2.2.2⟩
