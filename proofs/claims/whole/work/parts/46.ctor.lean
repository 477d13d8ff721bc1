/-! Constructors. -/
theorem kv_eqw {p : Program} {l : Launch} {e : Env} {R : Room} {s : State} {m : MethodId} {args : Array Value} {below : List Frame} {meth : Method} {c : Code} {D : va_G} {A : Nat → Prop} {nL ce sl : Nat} {Q : State → Prop} {ws ws2 : va_W} {lv : List (Nat × Value)} {pc : Nat} {st : List Value} (h : ws = ws2) (k : kv p l e R s m args below meth c D A nL ce sl Q ws2 lv pc st) : kv p l e R s m args below meth c D A nL ce sl Q ws lv pc st := h ▸ k
def kSeq (h0 q : Nat) (r : Nat → Nat) : Nat → Nat := fun k => if k = 0 then h0 else if k = 1 then q else r (k - 2)
theorem kSeq_f {h0 q : Nat} {r : Nat → Nat} : (fun i => if i < 3 then some (r i) else none) = (fun i => if i < 3 then some ((kSeq h0 q r) (2 + i)) else none) := by
  funext i
  have : kSeq h0 q r (2 + i) = r i := by simp [kSeq, show ¬ 2 + i = 0 by omega, show ¬ 2 + i = 1 by omega]
  rw [this]
def m_X3_init_b48 (k40 : (Nat → Int64) → (Nat → Int64) → (Nat → Int64) → (Nat → Int64) → Int32 → Option ((Nat → Int64) × (Nat → Int64) × (Nat → Int64) × (Nat → Int64))) (k48 : (Nat → Int64) → (Nat → Int64) → (Nat → Int64) → (Nat → Int64) → Int32 → Int32 → Option ((Nat → Int64) × (Nat → Int64) × (Nat → Int64) × (Nat → Int64))) (a_rays : Nat → Int64) (a_knights : Nat → Int64) (a_kings : Nat → Int64) (a_pawns : Nat → Int64) (x1 : Int32) (x2 : Int32) : Option ((Nat → Int64) × (Nat → Int64) × (Nat → Int64) × (Nat → Int64)) := if 8 ≤ x2 then ob (m_X3_beside_23 x1) fun r_6 => oin (x1) 64 (ol (vp_updL a_knights (x1.toNatClampNeg) r_6) fun a_knights_9 => ob (m_X3_beside_01 x1) fun r_10 => oin (x1) 64 (ol (vp_updL a_kings (x1.toNatClampNeg) r_10) fun a_kings_13 => ob (m_X3_beside_46 x1) fun r_14 => oin (x1) 128 (ol (vp_updL a_pawns (x1.toNatClampNeg) r_14) fun a_pawns_17 => ob (m_X3_beside_56 x1) fun r_18 => oin ((64 : Int32) + x1) 128 (ol (vp_updL a_pawns_17 (((64 : Int32) + x1).toNatClampNeg) r_18) fun a_pawns_21 => ol (x1 + 1) fun x1_22 => k40 a_rays a_knights_9 a_kings_13 a_pawns_21 x1_22)))) else ob (m_X3_rayFrom x1 x2) fun r_23 => oin ((x2 * 64) + x1) 512 (ol (vp_updL a_rays (((x2 * 64) + x1).toNatClampNeg) r_23) fun a_rays_26 => ol (x2 + 1) fun x2_27 => k48 a_rays_26 a_knights a_kings a_pawns x1 x2_27)
def m_X3_init_l48 (k40 : (Nat → Int64) → (Nat → Int64) → (Nat → Int64) → (Nat → Int64) → Int32 → Option ((Nat → Int64) × (Nat → Int64) × (Nat → Int64) × (Nat → Int64))) (n : Nat) : (Nat → Int64) → (Nat → Int64) → (Nat → Int64) → (Nat → Int64) → Int32 → Int32 → Option ((Nat → Int64) × (Nat → Int64) × (Nat → Int64) × (Nat → Int64)) := fz (fun _ _ _ _ _ _ => none) (fun k48 a_rays a_knights a_kings a_pawns x1 x2 => m_X3_init_b48 k40 k48 a_rays a_knights a_kings a_pawns x1 x2) n
def m_X3_init_b40 (k40 : (Nat → Int64) → (Nat → Int64) → (Nat → Int64) → (Nat → Int64) → Int32 → Option ((Nat → Int64) × (Nat → Int64) × (Nat → Int64) × (Nat → Int64))) (a_rays : Nat → Int64) (a_knights : Nat → Int64) (a_kings : Nat → Int64) (a_pawns : Nat → Int64) (x1 : Int32) : Option ((Nat → Int64) × (Nat → Int64) × (Nat → Int64) × (Nat → Int64)) := if 64 ≤ x1 then some (a_rays, a_knights, a_kings, a_pawns) else m_X3_init_l48 k40 kF a_rays a_knights a_kings a_pawns x1 0
def m_X3_init_l40 (n : Nat) : (Nat → Int64) → (Nat → Int64) → (Nat → Int64) → (Nat → Int64) → Int32 → Option ((Nat → Int64) × (Nat → Int64) × (Nat → Int64) × (Nat → Int64)) := fz (fun _ _ _ _ _ => none) (fun k40 a_rays a_knights a_kings a_pawns x1 => m_X3_init_b40 k40 a_rays a_knights a_kings a_pawns x1) n
def m_X3_init (a_rays : Nat → Int64) (a_knights : Nat → Int64) (a_kings : Nat → Int64) (a_pawns : Nat → Int64) : Option ((Nat → Int64) × (Nat → Int64) × (Nat → Int64) × (Nat → Int64)) := m_X3_init_l40 kF a_rays a_knights a_kings a_pawns 0
abbrev rm_X3_init : Room := { frames := 2, cells := 4, slots := 768, locals := 48 }
abbrev wy_X3_init : List Cond := .code yX3_init cX3_init 3 none :: gT
theorem ci_X3_init {R : Room} {s : State} {args : Array Value} {own : String} {index : Nat} {w0 : Cond} (hts : ∀ w ∈ w0 :: gT, w.before args s = true) (hl : Cond.methodLink own index yX3_init ∈ gT) (hR : 2 + 1 ≤ R.frames ∧ 8 + (3 + 11) + 48 ≤ R.locals) : CallB R s args own index yX3_init cX3_init 3 none wy_X3_init rm_X3_init 4 768 0 ∧ yX3_init.name = "<init>" ∧ (Cond.instanceMethod yX3_init).before args s = true :=
  cwI 0 hts (gT_call w0 (pre := []) (fun _ h => by cases h) lc_yX3_init) rfl rfl rfl (hts _ (List.mem_cons_of_mem _ li_RX3)) (hts _ (List.mem_cons_of_mem _ hl)) (hts _ (List.mem_cons_of_mem _ ly_yX3_init)) rfl (by decide +kernel) hR
set_option maxRecDepth 100000 in
set_option maxHeartbeats 4000000 in
theorem c_X3_init (l : Launch) (D : va_G) (cJ : ClassId) (tq : Nat → Nat) (h0 : Nat) (a_rays' : Nat → Int64) (a_knights' : Nat → Int64) (a_kings' : Nat → Int64) (a_pawns' : Nat → Int64) (hm : m_X3_init (fun _ => 0) (fun _ => 0) (fun _ => 0) (fun _ => 0) = some (a_rays', a_knights', a_kings', a_pawns')) : kN l yX3_init wy_X3_init rm_X3_init D [(cJ, .long)] (fun _ => [(cJ, .long)]) tq h0 [(h0, .inr (2, [.null, .null, .null, .null]))] (fun u cR => [((u 0), .inr (2, [.ref (u 1), .ref (u 2), .ref (u 3), .ref (u 4)])), ((u 1), .inl (cJ, 512, .inr (.inl a_rays'))), ((u 2), .inl (cJ, 64, .inr (.inl a_knights'))), ((u 3), .inl (cJ, 64, .inr (.inl a_kings'))), ((u 4), .inl (cJ, 128, .inr (.inl a_pawns')))]) [.ref h0] 4 768 := by
  refine kN.of cX3_init 3 (by decide) rfl rfl (Nat.le_of_ble_eq_true rfl) ?_
  intro p e s m below meth c A Q hini C hJ hret
  have hin3 : ∀ w ∈ wsX30, w ∈ wy_X3_init := fun w h => List.mem_cons_of_mem _ (inG3 w h)
  refine kv_lv [0] (lv2 := [(0, .ref h0)]) rfl ?_
  refine kv_aload_n C 0 dX3_init_0 rfl rfl ?_
  refine kv_objInit C (C.ts _ (List.mem_cons_of_mem _ lob_RX3_3)) (C.ts _ (List.mem_cons_of_mem _ lob_inst)) (C.ts _ (List.mem_cons_of_mem _ lob_code)) dX3_init_1 (Nat.le_of_ble_eq_true rfl) (Nat.le_of_ble_eq_true rfl) ?_
  refine kv_aload_n C 0 dX3_init_4 rfl rfl ?_
  refine kv_sipush C 512 dX3_init_5 (by decide) ?_
  refine kv_newa C (atype := .long) (C.ts _ (List.mem_cons_of_mem _ lar_long)) 0 rfl (512, .inr (.inl (fun _ => 0))) (fun _ => rfl) (by decide) (by decide) (by decide) (Nat.le_of_ble_eq_true rfl) (Nat.le_of_ble_eq_true rfl) dX3_init_8 (fun q_1 => ?_)
  refine kv_putF C hini (Cn := RX3) (T := TX3) (N := 4) (ty := (.array .long)) (ws1 := [(h0, .inr (2, [.ref q_1, .null, .null, .null])), (q_1, .inl (cJ, 512, .inr (.inl (fun _ => 0))))]) 0 0 hin3 tyX3 tyX3_ok nmX3 rfl rfl (by decide) (C.ts _ (List.mem_cons_of_mem _ lf_RX3_11)) rfl rfl rfl (by decide +kernel) rfl rfl (Nat.le_of_ble_eq_true rfl) rfl dX3_init_10 ?_
  refine kv_aload_n C 0 dX3_init_13 rfl rfl ?_
  refine kv_bipush C 64 dX3_init_14 (by decide) ?_
  refine kv_newa C (atype := .long) (C.ts _ (List.mem_cons_of_mem _ lar_long)) 0 rfl (64, .inr (.inl (fun _ => 0))) (fun _ => rfl) (by decide) (by decide) (by decide) (Nat.le_of_ble_eq_true rfl) (Nat.le_of_ble_eq_true rfl) dX3_init_16 (fun q_2 => ?_)
  refine kv_putF C hini (Cn := RX3) (T := TX3) (N := 4) (ty := (.array .long)) (ws1 := [(h0, .inr (2, [.ref q_1, .ref q_2, .null, .null])), (q_1, .inl (cJ, 512, .inr (.inl (fun _ => 0)))), (q_2, .inl (cJ, 64, .inr (.inl (fun _ => 0))))]) 0 1 hin3 tyX3 tyX3_ok nmX3 rfl rfl (by decide) (C.ts _ (List.mem_cons_of_mem _ lf_RX3_15)) rfl rfl rfl (by decide +kernel) rfl rfl (Nat.le_of_ble_eq_true rfl) rfl dX3_init_18 ?_
  refine kv_aload_n C 0 dX3_init_21 rfl rfl ?_
  refine kv_bipush C 64 dX3_init_22 (by decide) ?_
  refine kv_newa C (atype := .long) (C.ts _ (List.mem_cons_of_mem _ lar_long)) 0 rfl (64, .inr (.inl (fun _ => 0))) (fun _ => rfl) (by decide) (by decide) (by decide) (Nat.le_of_ble_eq_true rfl) (Nat.le_of_ble_eq_true rfl) dX3_init_24 (fun q_3 => ?_)
  refine kv_putF C hini (Cn := RX3) (T := TX3) (N := 4) (ty := (.array .long)) (ws1 := [(h0, .inr (2, [.ref q_1, .ref q_2, .ref q_3, .null])), (q_1, .inl (cJ, 512, .inr (.inl (fun _ => 0)))), (q_2, .inl (cJ, 64, .inr (.inl (fun _ => 0)))), (q_3, .inl (cJ, 64, .inr (.inl (fun _ => 0))))]) 0 2 hin3 tyX3 tyX3_ok nmX3 rfl rfl (by decide) (C.ts _ (List.mem_cons_of_mem _ lf_RX3_18)) rfl rfl rfl (by decide +kernel) rfl rfl (Nat.le_of_ble_eq_true rfl) rfl dX3_init_26 ?_
  refine kv_aload_n C 0 dX3_init_29 rfl rfl ?_
  refine kv_sipush C 128 dX3_init_30 (by decide) ?_
  refine kv_newa C (atype := .long) (C.ts _ (List.mem_cons_of_mem _ lar_long)) 0 rfl (128, .inr (.inl (fun _ => 0))) (fun _ => rfl) (by decide) (by decide) (by decide) (Nat.le_of_ble_eq_true rfl) (Nat.le_of_ble_eq_true rfl) dX3_init_33 (fun q_4 => ?_)
  refine kv_putF C hini (Cn := RX3) (T := TX3) (N := 4) (ty := (.array .long)) (ws1 := [(h0, .inr (2, [.ref q_1, .ref q_2, .ref q_3, .ref q_4])), (q_1, .inl (cJ, 512, .inr (.inl (fun _ => 0)))), (q_2, .inl (cJ, 64, .inr (.inl (fun _ => 0)))), (q_3, .inl (cJ, 64, .inr (.inl (fun _ => 0)))), (q_4, .inl (cJ, 128, .inr (.inl (fun _ => 0))))]) 0 3 hin3 tyX3 tyX3_ok nmX3 rfl rfl (by decide) (C.ts _ (List.mem_cons_of_mem _ lf_RX3_21)) rfl rfl rfl (by decide +kernel) rfl rfl (Nat.le_of_ble_eq_true rfl) rfl dX3_init_35 ?_
  obtain ⟨ql, e0, e1, e2, e3, e4⟩ : ∃ ql : Nat → Nat, ql 0 = h0 ∧ ql 1 = q_1 ∧ ql 2 = q_2 ∧ ql 3 = q_3 ∧ ql 4 = q_4 := ⟨fun k => match k with | 0 => h0 | 1 => q_1 | 2 => q_2 | 3 => q_3 | _ => q_4, rfl, rfl, rfl, rfl, rfl⟩
  subst e0
  subst e1
  subst e2
  subst e3
  subst e4
  show kv p l e rm_X3_init s m ([.ref (ql 0)] : List Value).toArray below meth c D A 3 4 768 Q (wLi ql cJ (fun _ => 0) (fun _ => 0) (fun _ => 0) (fun _ => 0)) [(0, .ref (ql 0))] 38 []
  have l40 : ∀ (n40 : Nat) (a_rays : Nat → Int64) (a_knights : Nat → Int64) (a_kings : Nat → Int64) (a_pawns : Nat → Int64) (x1 : Int32), m_X3_init_l40   n40 a_rays a_knights a_kings a_pawns x1 = some (a_rays', a_knights', a_kings', a_pawns') → kv p l e rm_X3_init s m ([.ref (ql 0)] : List Value).toArray below meth c D A 3 4 768 Q (wLi ql cJ a_rays a_knights a_kings a_pawns) [(0, .ref (ql 0)), (1, .int x1)] 40 [] := by
    intro n40
    induction n40 with
    | zero =>
      intro a_rays a_knights a_kings a_pawns x1 h
      exact kv_no h
    | succ n40 ih40 =>
      have l48 : ∀ (n48 : Nat) (a_rays : Nat → Int64) (a_knights : Nat → Int64) (a_kings : Nat → Int64) (a_pawns : Nat → Int64) (x1 : Int32) (x2 : Int32), m_X3_init_l48 (m_X3_init_l40   n40)  n48 a_rays a_knights a_kings a_pawns x1 x2 = some (a_rays', a_knights', a_kings', a_pawns') → kv p l e rm_X3_init s m ([.ref (ql 0)] : List Value).toArray below meth c D A 3 4 768 Q (wLi ql cJ a_rays a_knights a_kings a_pawns) [(0, .ref (ql 0)), (1, .int x1), (2, .int x2)] 48 [] := by
        intro n48
        induction n48 with
        | zero =>
          intro a_rays a_knights a_kings a_pawns x1 x2 h
          exact kv_no h
        | succ n48 ih48 =>
          intro a_rays a_knights a_kings a_pawns x1 x2 h
          replace h : m_X3_init_b48 (m_X3_init_l40   n40) (m_X3_init_l48 (m_X3_init_l40   n40)  n48) a_rays a_knights a_kings a_pawns x1 x2 = some (a_rays', a_knights', a_kings', a_pawns') := h
          unfold m_X3_init_b48 at h
          refine kv_iload_n C 2 dX3_init_48 rfl rfl ?_
          refine kv_bipush C 8 dX3_init_49 (by decide) ?_
          refine kv_icmp_ge C 76 dX3_init_51 (by decide) (fun c_5 => ?_) (fun c_5 => ?_)
          · have h := oi_t h c_5
            refine kv_aload_n C 0 dX3_init_76 rfl rfl ?_
            refine kv_get C (Cn := RX3) (T := TX3) (N := 4) 0 1 hin3 rfl rfl (by decide) (C.ts _ (List.mem_cons_of_mem _ lf_RX3_15)) rfl rfl dX3_init_77 ?_
            refine kv_iload_n C 1 dX3_init_80 rfl rfl ?_
            refine kv_iload_n C 1 dX3_init_81 rfl rfl ?_
            refine kv_gets C (hJ.2.1 2 _ rfl).1 (C.ts _ (List.mem_cons_of_mem _ lf_RX3_28)) rfl dX3_init_82 ?_
            refine kv_gets C (hJ.2.1 3 _ rfl).1 (C.ts _ (List.mem_cons_of_mem _ lf_RX3_32)) rfl dX3_init_85 ?_
            obtain ⟨r_6, hm_7, h⟩ := ob_e h
            refine kv_eS0l C hJ [.int x1, .ref (tq 2), .ref (tq 3)] (c_X3_beside_23 l D tq   x1 r_6 hm_7) (cs_X3_beside_23 C.ts lm_RX3_35 ⟨Nat.le_of_ble_eq_true rfl, Nat.le_of_ble_eq_true rfl⟩) rfl rfl (Nat.le_of_ble_eq_true rfl) dX3_init_88 ⟨(Nat.le_of_ble_eq_true rfl), (Nat.le_of_ble_eq_true rfl)⟩ ?_
            obtain ⟨g_8, h⟩ := oin_e h
            obtain ⟨a_knights_9, ea_knights_9, h⟩ := ol_e h
            refine kv_last2 C (ws1 := (wLi ql cJ a_rays a_knights_9 a_kings a_pawns)) 2 0 rfl rfl g_8 ea_knights_9 rfl dX3_init_91 ?_
            refine kv_aload_n C 0 dX3_init_92 rfl rfl ?_
            refine kv_get C (Cn := RX3) (T := TX3) (N := 4) 0 2 hin3 rfl rfl (by decide) (C.ts _ (List.mem_cons_of_mem _ lf_RX3_18)) rfl rfl dX3_init_93 ?_
            refine kv_iload_n C 1 dX3_init_96 rfl rfl ?_
            refine kv_iload_n C 1 dX3_init_97 rfl rfl ?_
            refine kv_gets C (hJ.2.1 0 _ rfl).1 (C.ts _ (List.mem_cons_of_mem _ lf_RX3_39)) rfl dX3_init_98 ?_
            refine kv_gets C (hJ.2.1 1 _ rfl).1 (C.ts _ (List.mem_cons_of_mem _ lf_RX3_42)) rfl dX3_init_101 ?_
            obtain ⟨r_10, hm_11, h⟩ := ob_e h
            refine kv_eS0l C hJ [.int x1, .ref (tq 0), .ref (tq 1)] (c_X3_beside_01 l D tq   x1 r_10 hm_11) (cs_X3_beside_01 C.ts lm_RX3_35 ⟨Nat.le_of_ble_eq_true rfl, Nat.le_of_ble_eq_true rfl⟩) rfl rfl (Nat.le_of_ble_eq_true rfl) dX3_init_104 ⟨(Nat.le_of_ble_eq_true rfl), (Nat.le_of_ble_eq_true rfl)⟩ ?_
            obtain ⟨g_12, h⟩ := oin_e h
            obtain ⟨a_kings_13, ea_kings_13, h⟩ := ol_e h
            refine kv_last2 C (ws1 := (wLi ql cJ a_rays a_knights_9 a_kings_13 a_pawns)) 3 0 rfl rfl g_12 ea_kings_13 rfl dX3_init_107 ?_
            refine kv_aload_n C 0 dX3_init_108 rfl rfl ?_
            refine kv_get C (Cn := RX3) (T := TX3) (N := 4) 0 3 hin3 rfl rfl (by decide) (C.ts _ (List.mem_cons_of_mem _ lf_RX3_21)) rfl rfl dX3_init_109 ?_
            refine kv_iload_n C 1 dX3_init_112 rfl rfl ?_
            refine kv_iload_n C 1 dX3_init_113 rfl rfl ?_
            refine kv_gets C (hJ.2.1 4 _ rfl).1 (C.ts _ (List.mem_cons_of_mem _ lf_RX3_45)) rfl dX3_init_114 ?_
            refine kv_gets C (hJ.2.1 6 _ rfl).1 (C.ts _ (List.mem_cons_of_mem _ lf_RX3_48)) rfl dX3_init_117 ?_
            obtain ⟨r_14, hm_15, h⟩ := ob_e h
            refine kv_eS0l C hJ [.int x1, .ref (tq 4), .ref (tq 6)] (c_X3_beside_46 l D tq   x1 r_14 hm_15) (cs_X3_beside_46 C.ts lm_RX3_35 ⟨Nat.le_of_ble_eq_true rfl, Nat.le_of_ble_eq_true rfl⟩) rfl rfl (Nat.le_of_ble_eq_true rfl) dX3_init_120 ⟨(Nat.le_of_ble_eq_true rfl), (Nat.le_of_ble_eq_true rfl)⟩ ?_
            obtain ⟨g_16, h⟩ := oin_e h
            obtain ⟨a_pawns_17, ea_pawns_17, h⟩ := ol_e h
            refine kv_last2 C (ws1 := (wLi ql cJ a_rays a_knights_9 a_kings_13 a_pawns_17)) 4 0 rfl rfl g_16 ea_pawns_17 rfl dX3_init_123 ?_
            refine kv_aload_n C 0 dX3_init_124 rfl rfl ?_
            refine kv_get C (Cn := RX3) (T := TX3) (N := 4) 0 3 hin3 rfl rfl (by decide) (C.ts _ (List.mem_cons_of_mem _ lf_RX3_21)) rfl rfl dX3_init_125 ?_
            refine kv_bipush C 64 dX3_init_128 (by decide) ?_
            refine kv_iload_n C 1 dX3_init_130 rfl rfl ?_
            refine kv_iadd C dX3_init_131 ?_
            refine kv_iload_n C 1 dX3_init_132 rfl rfl ?_
            refine kv_gets C (hJ.2.1 5 _ rfl).1 (C.ts _ (List.mem_cons_of_mem _ lf_RX3_51)) rfl dX3_init_133 ?_
            refine kv_gets C (hJ.2.1 6 _ rfl).1 (C.ts _ (List.mem_cons_of_mem _ lf_RX3_48)) rfl dX3_init_136 ?_
            obtain ⟨r_18, hm_19, h⟩ := ob_e h
            refine kv_eS0l C hJ [.int x1, .ref (tq 5), .ref (tq 6)] (c_X3_beside_56 l D tq   x1 r_18 hm_19) (cs_X3_beside_56 C.ts lm_RX3_35 ⟨Nat.le_of_ble_eq_true rfl, Nat.le_of_ble_eq_true rfl⟩) rfl rfl (Nat.le_of_ble_eq_true rfl) dX3_init_139 ⟨(Nat.le_of_ble_eq_true rfl), (Nat.le_of_ble_eq_true rfl)⟩ ?_
            obtain ⟨g_20, h⟩ := oin_e h
            obtain ⟨a_pawns_21, ea_pawns_21, h⟩ := ol_e h
            refine kv_last2 C (ws1 := (wLi ql cJ a_rays a_knights_9 a_kings_13 a_pawns_21)) 4 0 rfl rfl g_20 ea_pawns_21 rfl dX3_init_142 ?_
            obtain ⟨x1_22, ex1_22, h⟩ := ol_e h
            refine kv_iinc C (v := x1_22) (lv2 := [(0, .ref (ql 0)), (1, .int x1_22)]) 1 [1, 0] dX3_init_143 rfl ex1_22.symm (by decide) rfl rfl ?_
            refine kv_goto C 40 dX3_init_146 (by decide) ?_
            exact kv_lv [0, 1] (lv2 := [(0, .ref (ql 0)), (1, .int x1_22)]) rfl (ih40 a_rays a_knights_9 a_kings_13 a_pawns_21 x1_22 h)
          · have h := oi_f h c_5
            refine kv_aload_n C 0 dX3_init_54 rfl rfl ?_
            refine kv_get C (Cn := RX3) (T := TX3) (N := 4) 0 0 hin3 rfl rfl (by decide) (C.ts _ (List.mem_cons_of_mem _ lf_RX3_11)) rfl rfl dX3_init_55 ?_
            refine kv_iload_n C 2 dX3_init_58 rfl rfl ?_
            refine kv_bipush C 64 dX3_init_59 (by decide) ?_
            refine kv_imul C dX3_init_61 ?_
            refine kv_iload_n C 1 dX3_init_62 rfl rfl ?_
            refine kv_iadd C dX3_init_63 ?_
            refine kv_iload_n C 1 dX3_init_64 rfl rfl ?_
            refine kv_iload_n C 2 dX3_init_65 rfl rfl ?_
            obtain ⟨r_23, hm_24, h⟩ := ob_e h
            refine kv_eS0l C hJ [.int x1, .int x2] (c_X3_rayFrom l D tq   x1 x2 r_23 hm_24) (cs_X3_rayFrom C.ts lm_RX3_24 ⟨Nat.le_of_ble_eq_true rfl, Nat.le_of_ble_eq_true rfl⟩) rfl rfl (Nat.le_of_ble_eq_true rfl) dX3_init_66 ⟨(Nat.le_of_ble_eq_true rfl), (Nat.le_of_ble_eq_true rfl)⟩ ?_
            obtain ⟨g_25, h⟩ := oin_e h
            obtain ⟨a_rays_26, ea_rays_26, h⟩ := ol_e h
            refine kv_last2 C (ws1 := (wLi ql cJ a_rays_26 a_knights a_kings a_pawns)) 1 0 rfl rfl g_25 ea_rays_26 rfl dX3_init_69 ?_
            obtain ⟨x2_27, ex2_27, h⟩ := ol_e h
            refine kv_iinc C (v := x2_27) (lv2 := [(0, .ref (ql 0)), (1, .int x1), (2, .int x2_27)]) 2 [1, 2, 0] dX3_init_70 rfl ex2_27.symm (by decide) rfl rfl ?_
            refine kv_goto C 48 dX3_init_73 (by decide) ?_
            exact kv_lv [0, 1, 2] (lv2 := [(0, .ref (ql 0)), (1, .int x1), (2, .int x2_27)]) rfl (ih48 a_rays_26 a_knights a_kings a_pawns x1 x2_27 h)
      intro a_rays a_knights a_kings a_pawns x1 h
      replace h : m_X3_init_b40  (m_X3_init_l40   n40) a_rays a_knights a_kings a_pawns x1 = some (a_rays', a_knights', a_kings', a_pawns') := h
      unfold m_X3_init_b40 at h
      refine kv_iload_n C 1 dX3_init_40 rfl rfl ?_
      refine kv_bipush C 64 dX3_init_41 (by decide) ?_
      refine kv_icmp_ge C 149 dX3_init_43 (by decide) (fun c_28 => ?_) (fun c_28 => ?_)
      · have h := oi_t h c_28
        cases h
        exact hret ql cJ _ _ rfl C.k dX3_init_149
      · have h := oi_f h c_28
        refine kv_iconst C 0 dX3_init_46 (by decide) ?_
        refine kv_istore_n C (lv2 := [(0, .ref (ql 0)), (1, .int x1), (2, .int 0)]) [1, 2, 0] dX3_init_47 rfl (by decide) rfl rfl ?_
        exact kv_lv [0, 1, 2] (lv2 := [(0, .ref (ql 0)), (1, .int x1), (2, .int 0)]) rfl (l48 kF a_rays a_knights a_kings a_pawns x1 0 h)
  have h := hm
  unfold m_X3_init at h
  refine kv_iconst C 0 dX3_init_38 (by decide) ?_
  refine kv_istore_n C (lv2 := [(0, .ref (ql 0)), (1, .int 0)]) [1, 0] dX3_init_39 rfl (by decide) rfl rfl ?_
  exact kv_lv [0, 1] (lv2 := [(0, .ref (ql 0)), (1, .int 0)]) rfl (l40 kF (fun _ => 0) (fun _ => 0) (fun _ => 0) (fun _ => 0) 0 h)
def m_X7_init_b23 (k15 : (Nat → Int32) → Int32 → Option ((Nat → Int32))) (k23 : (Nat → Int32) → Int32 → Int32 → Option ((Nat → Int32))) (a_table : Nat → Int32) (x1 : Int32) (x2 : Int32) : Option ((Nat → Int32)) := if 64 ≤ x2 then ol (x1 + 1) fun x1_3 => k15 a_table x1_3 else ob (m_X7_worthOf x1 (x2 / 8) (x2 - x2 / 8 * 8)) fun r_4 => oin ((x1 * 64) + x2) 448 (ol (upd a_table (((x1 * 64) + x2).toNatClampNeg) r_4) fun a_table_7 => ol (x2 + 1) fun x2_8 => k23 a_table_7 x1 x2_8)
def m_X7_init_l23 (k15 : (Nat → Int32) → Int32 → Option ((Nat → Int32))) (n : Nat) : (Nat → Int32) → Int32 → Int32 → Option ((Nat → Int32)) := fz (fun _ _ _ => none) (fun k23 a_table x1 x2 => m_X7_init_b23 k15 k23 a_table x1 x2) n
def m_X7_init_b15 (k15 : (Nat → Int32) → Int32 → Option ((Nat → Int32))) (a_table : Nat → Int32) (x1 : Int32) : Option ((Nat → Int32)) := if 6 < x1 then some a_table else m_X7_init_l23 k15 kF a_table x1 0
def m_X7_init_l15 (n : Nat) : (Nat → Int32) → Int32 → Option ((Nat → Int32)) := fz (fun _ _ => none) (fun k15 a_table x1 => m_X7_init_b15 k15 a_table x1) n
def m_X7_init (a_table : Nat → Int32) : Option ((Nat → Int32)) := m_X7_init_l15 kF a_table 1
abbrev rm_X7_init : Room := { frames := 2, cells := 1, slots := 448, locals := 45 }
abbrev wy_X7_init : List Cond := .code yX7_init cX7_init 3 none :: gT
theorem ci_X7_init {R : Room} {s : State} {args : Array Value} {own : String} {index : Nat} {w0 : Cond} (hts : ∀ w ∈ w0 :: gT, w.before args s = true) (hl : Cond.methodLink own index yX7_init ∈ gT) (hR : 2 + 1 ≤ R.frames ∧ 8 + (3 + 11) + 45 ≤ R.locals) : CallB R s args own index yX7_init cX7_init 3 none wy_X7_init rm_X7_init 1 448 0 ∧ yX7_init.name = "<init>" ∧ (Cond.instanceMethod yX7_init).before args s = true :=
  cwI 0 hts (gT_call w0 (pre := []) (fun _ h => by cases h) lc_yX7_init) rfl rfl rfl (hts _ (List.mem_cons_of_mem _ li_RX7)) (hts _ (List.mem_cons_of_mem _ hl)) (hts _ (List.mem_cons_of_mem _ ly_yX7_init)) rfl (by decide +kernel) hR
set_option maxRecDepth 100000 in
set_option maxHeartbeats 4000000 in
theorem c_X7_init (l : Launch) (D : va_G) (cI : ClassId) (tq : Nat → Nat) (h0 : Nat) (a_table' : Nat → Int32) (hm : m_X7_init (fun _ => 0) = some a_table') : kN l yX7_init wy_X7_init rm_X7_init D [(cI, .int)] (fun _ => [(cI, .int)]) tq h0 [(h0, .inr (6, [.null]))] (fun u cR => [((u 0), .inr (6, [.ref (u 1)])), ((u 1), .inl (cI, 448, .inl a_table'))]) [.ref h0] 1 448 := by
  refine kN.of cX7_init 3 (by decide) rfl rfl (Nat.le_of_ble_eq_true rfl) ?_
  intro p e s m below meth c A Q hini C hJ hret
  have hin7 : ∀ w ∈ wsX70, w ∈ wy_X7_init := fun w h => List.mem_cons_of_mem _ (inG7 w h)
  refine kv_lv [0] (lv2 := [(0, .ref h0)]) rfl ?_
  refine kv_aload_n C 0 dX7_init_0 rfl rfl ?_
  refine kv_objInit C (C.ts _ (List.mem_cons_of_mem _ lob_RX7_3)) (C.ts _ (List.mem_cons_of_mem _ lob_inst)) (C.ts _ (List.mem_cons_of_mem _ lob_code)) dX7_init_1 (Nat.le_of_ble_eq_true rfl) (Nat.le_of_ble_eq_true rfl) ?_
  refine kv_aload_n C 0 dX7_init_4 rfl rfl ?_
  refine kv_sipush C 448 dX7_init_5 (by decide) ?_
  refine kv_newa C (atype := .int) (C.ts _ (List.mem_cons_of_mem _ lar_int)) 0 rfl (448, .inl (fun _ => 0)) (fun _ => rfl) (by decide) (by decide) (by decide) (Nat.le_of_ble_eq_true rfl) (Nat.le_of_ble_eq_true rfl) dX7_init_8 (fun q_1 => ?_)
  refine kv_putF C hini (Cn := RX7) (T := TX7) (N := 1) (ty := (.array .int)) (ws1 := [(h0, .inr (6, [.ref q_1])), (q_1, .inl (cI, 448, .inl (fun _ => 0)))]) 0 0 hin7 tyX7 tyX7_ok nmX7 rfl rfl (by decide) (C.ts _ (List.mem_cons_of_mem _ lf_RX7_9)) rfl rfl rfl (by decide +kernel) rfl rfl (Nat.le_of_ble_eq_true rfl) rfl dX7_init_10 ?_
  obtain ⟨qw, e0, e1⟩ : ∃ qw : Nat → Nat, qw 0 = h0 ∧ qw 1 = q_1 := ⟨fun k => match k with | 0 => h0 | _ => q_1, rfl, rfl⟩
  subst e0
  subst e1
  show kv p l e rm_X7_init s m ([.ref (qw 0)] : List Value).toArray below meth c D A 3 1 448 Q (wWo qw cI (fun _ => 0)) [(0, .ref (qw 0))] 13 []
  have l15 : ∀ (n15 : Nat) (a_table : Nat → Int32) (x1 : Int32), m_X7_init_l15   n15 a_table x1 = some a_table' → kv p l e rm_X7_init s m ([.ref (qw 0)] : List Value).toArray below meth c D A 3 1 448 Q (wWo qw cI a_table) [(0, .ref (qw 0)), (1, .int x1)] 15 [] := by
    intro n15
    induction n15 with
    | zero =>
      intro a_table x1 h
      exact kv_no h
    | succ n15 ih15 =>
      have l23 : ∀ (n23 : Nat) (a_table : Nat → Int32) (x1 : Int32) (x2 : Int32), m_X7_init_l23 (m_X7_init_l15   n15)  n23 a_table x1 x2 = some a_table' → kv p l e rm_X7_init s m ([.ref (qw 0)] : List Value).toArray below meth c D A 3 1 448 Q (wWo qw cI a_table) [(0, .ref (qw 0)), (1, .int x1), (2, .int x2)] 23 [] := by
        intro n23
        induction n23 with
        | zero =>
          intro a_table x1 x2 h
          exact kv_no h
        | succ n23 ih23 =>
          intro a_table x1 x2 h
          replace h : m_X7_init_b23 (m_X7_init_l15   n15) (m_X7_init_l23 (m_X7_init_l15   n15)  n23) a_table x1 x2 = some a_table' := h
          unfold m_X7_init_b23 at h
          refine kv_iload_n C 2 dX7_init_23 rfl rfl ?_
          refine kv_bipush C 64 dX7_init_24 (by decide) ?_
          refine kv_icmp_ge C 58 dX7_init_26 (by decide) (fun c_2 => ?_) (fun c_2 => ?_)
          · have h := oi_t h c_2
            obtain ⟨x1_3, ex1_3, h⟩ := ol_e h
            refine kv_iinc C (v := x1_3) (lv2 := [(0, .ref (qw 0)), (1, .int x1_3)]) 1 [1, 0] dX7_init_58 rfl ex1_3.symm (by decide) rfl rfl ?_
            refine kv_goto C 15 dX7_init_61 (by decide) ?_
            exact kv_lv [0, 1] (lv2 := [(0, .ref (qw 0)), (1, .int x1_3)]) rfl (ih15 a_table x1_3 h)
          · have h := oi_f h c_2
            refine kv_aload_n C 0 dX7_init_29 rfl rfl ?_
            refine kv_get C (Cn := RX7) (T := TX7) (N := 1) 0 0 hin7 rfl rfl (by decide) (C.ts _ (List.mem_cons_of_mem _ lf_RX7_9)) rfl rfl dX7_init_30 ?_
            refine kv_iload_n C 1 dX7_init_33 rfl rfl ?_
            refine kv_bipush C 64 dX7_init_34 (by decide) ?_
            refine kv_imul C dX7_init_36 ?_
            refine kv_iload_n C 2 dX7_init_37 rfl rfl ?_
            refine kv_iadd C dX7_init_38 ?_
            refine kv_iload_n C 1 dX7_init_39 rfl rfl ?_
            refine kv_iload_n C 2 dX7_init_40 rfl rfl ?_
            refine kv_bipush C 8 dX7_init_41 (by decide) ?_
            refine kv_idiv C dX7_init_43 (by decide) ?_
            refine kv_iload_n C 2 dX7_init_44 rfl rfl ?_
            refine kv_bipush C 8 dX7_init_45 (by decide) ?_
            refine kv_irem C dX7_init_47 (by decide) ?_
            obtain ⟨r_4, hm_5, h⟩ := ob_e h
            refine kv_callS0i C [.int x1, .int (x2 / 8), .int (x2 - x2 / 8 * 8)] (c_X7_worthOf l D x1 (x2 / 8) (x2 - x2 / 8 * 8) r_4 hm_5) (cs_X7_worthOf C.ts lm_RX7_15 ⟨Nat.le_of_ble_eq_true rfl, Nat.le_of_ble_eq_true rfl⟩) rfl rfl (Nat.le_of_ble_eq_true rfl) dX7_init_48 ⟨(Nat.le_of_ble_eq_true rfl), (Nat.le_of_ble_eq_true rfl)⟩ ?_
            obtain ⟨g_6, h⟩ := oin_e h
            obtain ⟨a_table_7, ea_table_7, h⟩ := ol_e h
            refine kv_iast2 C (ws1 := (wWo qw cI a_table_7)) 1 0 rfl rfl g_6 ea_table_7 rfl dX7_init_51 ?_
            obtain ⟨x2_8, ex2_8, h⟩ := ol_e h
            refine kv_iinc C (v := x2_8) (lv2 := [(0, .ref (qw 0)), (1, .int x1), (2, .int x2_8)]) 2 [1, 2, 0] dX7_init_52 rfl ex2_8.symm (by decide) rfl rfl ?_
            refine kv_goto C 23 dX7_init_55 (by decide) ?_
            exact kv_lv [0, 1, 2] (lv2 := [(0, .ref (qw 0)), (1, .int x1), (2, .int x2_8)]) rfl (ih23 a_table_7 x1 x2_8 h)
      intro a_table x1 h
      replace h : m_X7_init_b15  (m_X7_init_l15   n15) a_table x1 = some a_table' := h
      unfold m_X7_init_b15 at h
      refine kv_iload_n C 1 dX7_init_15 rfl rfl ?_
      refine kv_bipush C 6 dX7_init_16 (by decide) ?_
      refine kv_icmp_gt C 64 dX7_init_18 (by decide) (fun c_9 => ?_) (fun c_9 => ?_)
      · have h := oi_t h c_9
        cases h
        exact hret qw cI _ _ rfl C.k dX7_init_64
      · have h := oi_f h c_9
        refine kv_iconst C 0 dX7_init_21 (by decide) ?_
        refine kv_istore_n C (lv2 := [(0, .ref (qw 0)), (1, .int x1), (2, .int 0)]) [1, 2, 0] dX7_init_22 rfl (by decide) rfl rfl ?_
        exact kv_lv [0, 1, 2] (lv2 := [(0, .ref (qw 0)), (1, .int x1), (2, .int 0)]) rfl (l23 kF a_table x1 0 h)
  have h := hm
  unfold m_X7_init at h
  refine kv_iconst C 1 dX7_init_13 (by decide) ?_
  refine kv_istore_n C (lv2 := [(0, .ref (qw 0)), (1, .int 1)]) [1, 0] dX7_init_14 rfl (by decide) rfl rfl ?_
  exact kv_lv [0, 1] (lv2 := [(0, .ref (qw 0)), (1, .int 1)]) rfl (l15 kF (fun _ => 0) 1 h)
abbrev rm_X0_init : Room := { frames := 1, cells := 3, slots := 73, locals := 30 }
abbrev wy_X0_init : List Cond := .code yX0_init cX0_init 3 none :: gT
theorem ci_X0_init {R : Room} {s : State} {args : Array Value} {own : String} {index : Nat} {w0 : Cond} (hts : ∀ w ∈ w0 :: gT, w.before args s = true) (hl : Cond.methodLink own index yX0_init ∈ gT) (hR : 1 + 1 ≤ R.frames ∧ 8 + (3 + 11) + 30 ≤ R.locals) : CallB R s args own index yX0_init cX0_init 3 none wy_X0_init rm_X0_init 3 73 2 ∧ yX0_init.name = "<init>" ∧ (Cond.instanceMethod yX0_init).before args s = true :=
  cwI 2 hts (gT_call w0 (pre := []) (fun _ h => by cases h) lc_yX0_init) rfl rfl rfl (hts _ (List.mem_cons_of_mem _ li_RX0)) (hts _ (List.mem_cons_of_mem _ hl)) (hts _ (List.mem_cons_of_mem _ ly_yX0_init)) rfl (by decide +kernel) hR
set_option maxRecDepth 100000 in
set_option maxHeartbeats 4000000 in
theorem c_X0_init (l : Launch) (D : va_G) (cI : ClassId) (cJ : ClassId) (tq : Nat → Nat) (h0 : Nat) (hl : Nat) (hw : Nat) : kN l yX0_init wy_X0_init rm_X0_init D [(cI, .int), (cJ, .long)] (fun _ => [(cI, .int), (cJ, .long)]) tq h0 [(h0, .inr (0, [.null, .null, .null, .null, .null, .int 0, .int 0, .int 0, .int 0, .int 0, .int 0]))] (fun u cR => [((u 0), .inr (0, [.ref hl, .ref hw, .ref (u 1), .ref (u 2), .ref (u 3), .int 0, .int 0, .int (-1), .int 0, .int 1, .int 0])), ((u 1), .inl (cI, 64, .inl (fun _ => 0))), ((u 2), .inl (cJ, 7, .inr (.inl (fun _ => 0)))), ((u 3), .inl (cJ, 2, .inr (.inl (fun _ => 0))))]) [.ref h0, .ref hl, .ref hw] 3 73 := by
  refine kN.of cX0_init 3 (by decide) rfl rfl (Nat.le_of_ble_eq_true rfl) ?_
  intro p e s m below meth c A Q hini C hJ hret
  have hin0 : ∀ w ∈ wsX00, w ∈ wy_X0_init := fun w h => List.mem_cons_of_mem _ (inG0 w h)
  refine kv_lv [0, 1, 2] (lv2 := [(0, .ref h0), (1, .ref hl), (2, .ref hw)]) rfl ?_
  refine kv_aload_n C 0 dX0_init_0 rfl rfl ?_
  refine kv_objInit C (C.ts _ (List.mem_cons_of_mem _ lob_RX0_3)) (C.ts _ (List.mem_cons_of_mem _ lob_inst)) (C.ts _ (List.mem_cons_of_mem _ lob_code)) dX0_init_1 (Nat.le_of_ble_eq_true rfl) (Nat.le_of_ble_eq_true rfl) ?_
  refine kv_aload_n C 0 dX0_init_4 rfl rfl ?_
  refine kv_aload_n C 1 dX0_init_5 rfl rfl ?_
  refine kv_putF C hini (Cn := RX0) (T := TX0) (N := 11) (ty := (.object "KingsBoard$Lines")) (ws1 := [(h0, .inr (0, [.ref hl, .null, .null, .null, .null, .int 0, .int 0, .int 0, .int 0, .int 0, .int 0]))]) 0 0 hin0 tyX0 tyX0_ok nmX0 rfl rfl (by decide) (C.ts _ (List.mem_cons_of_mem _ lf_RX0_9)) rfl rfl rfl (by decide +kernel) rfl rfl (Nat.le_of_ble_eq_true rfl) rfl dX0_init_6 ?_
  refine kv_aload_n C 0 dX0_init_9 rfl rfl ?_
  refine kv_aload_n C 2 dX0_init_10 rfl rfl ?_
  refine kv_putF C hini (Cn := RX0) (T := TX0) (N := 11) (ty := (.object "KingsBoard$Worths")) (ws1 := [(h0, .inr (0, [.ref hl, .ref hw, .null, .null, .null, .int 0, .int 0, .int 0, .int 0, .int 0, .int 0]))]) 0 1 hin0 tyX0 tyX0_ok nmX0 rfl rfl (by decide) (C.ts _ (List.mem_cons_of_mem _ lf_RX0_15)) rfl rfl rfl (by decide +kernel) rfl rfl (Nat.le_of_ble_eq_true rfl) rfl dX0_init_11 ?_
  refine kv_aload_n C 0 dX0_init_14 rfl rfl ?_
  refine kv_bipush C 64 dX0_init_15 (by decide) ?_
  refine kv_newa C (atype := .int) (C.ts _ (List.mem_cons_of_mem _ lar_int)) 0 rfl (64, .inl (fun _ => 0)) (fun _ => rfl) (by decide) (by decide) (by decide) (Nat.le_of_ble_eq_true rfl) (Nat.le_of_ble_eq_true rfl) dX0_init_17 (fun q_1 => ?_)
  refine kv_putF C hini (Cn := RX0) (T := TX0) (N := 11) (ty := (.array .int)) (ws1 := [(h0, .inr (0, [.ref hl, .ref hw, .ref q_1, .null, .null, .int 0, .int 0, .int 0, .int 0, .int 0, .int 0])), (q_1, .inl (cI, 64, .inl (fun _ => 0)))]) 0 2 hin0 tyX0 tyX0_ok nmX0 rfl rfl (by decide) (C.ts _ (List.mem_cons_of_mem _ lf_RX0_19)) rfl rfl rfl (by decide +kernel) rfl rfl (Nat.le_of_ble_eq_true rfl) rfl dX0_init_19 ?_
  refine kv_aload_n C 0 dX0_init_22 rfl rfl ?_
  refine kv_bipush C 7 dX0_init_23 (by decide) ?_
  refine kv_newa C (atype := .long) (C.ts _ (List.mem_cons_of_mem _ lar_long)) 1 rfl (7, .inr (.inl (fun _ => 0))) (fun _ => rfl) (by decide) (by decide) (by decide) (Nat.le_of_ble_eq_true rfl) (Nat.le_of_ble_eq_true rfl) dX0_init_25 (fun q_2 => ?_)
  refine kv_putF C hini (Cn := RX0) (T := TX0) (N := 11) (ty := (.array .long)) (ws1 := [(h0, .inr (0, [.ref hl, .ref hw, .ref q_1, .ref q_2, .null, .int 0, .int 0, .int 0, .int 0, .int 0, .int 0])), (q_1, .inl (cI, 64, .inl (fun _ => 0))), (q_2, .inl (cJ, 7, .inr (.inl (fun _ => 0))))]) 0 3 hin0 tyX0 tyX0_ok nmX0 rfl rfl (by decide) (C.ts _ (List.mem_cons_of_mem _ lf_RX0_23)) rfl rfl rfl (by decide +kernel) rfl rfl (Nat.le_of_ble_eq_true rfl) rfl dX0_init_27 ?_
  refine kv_aload_n C 0 dX0_init_30 rfl rfl ?_
  refine kv_iconst C 2 dX0_init_31 (by decide) ?_
  refine kv_newa C (atype := .long) (C.ts _ (List.mem_cons_of_mem _ lar_long)) 1 rfl (2, .inr (.inl (fun _ => 0))) (fun _ => rfl) (by decide) (by decide) (by decide) (Nat.le_of_ble_eq_true rfl) (Nat.le_of_ble_eq_true rfl) dX0_init_32 (fun q_3 => ?_)
  refine kv_putF C hini (Cn := RX0) (T := TX0) (N := 11) (ty := (.array .long)) (ws1 := [(h0, .inr (0, [.ref hl, .ref hw, .ref q_1, .ref q_2, .ref q_3, .int 0, .int 0, .int 0, .int 0, .int 0, .int 0])), (q_1, .inl (cI, 64, .inl (fun _ => 0))), (q_2, .inl (cJ, 7, .inr (.inl (fun _ => 0)))), (q_3, .inl (cJ, 2, .inr (.inl (fun _ => 0))))]) 0 4 hin0 tyX0 tyX0_ok nmX0 rfl rfl (by decide) (C.ts _ (List.mem_cons_of_mem _ lf_RX0_27)) rfl rfl rfl (by decide +kernel) rfl rfl (Nat.le_of_ble_eq_true rfl) rfl dX0_init_34 ?_
  refine kv_aload_n C 0 dX0_init_37 rfl rfl ?_
  refine kv_iconst C (-1) dX0_init_38 (by decide) ?_
  refine kv_put C (Cn := RX0) (T := TX0) (N := 11) (ty := .int) (ws1 := [(h0, .inr (0, [.ref hl, .ref hw, .ref q_1, .ref q_2, .ref q_3, .int 0, .int 0, .int (-1), .int 0, .int 0, .int 0])), (q_1, .inl (cI, 64, .inl (fun _ => 0))), (q_2, .inl (cJ, 7, .inr (.inl (fun _ => 0)))), (q_3, .inl (cJ, 2, .inr (.inl (fun _ => 0))))]) 0 7 hin0 tyX0 tyX0_ok nmX0 rfl rfl (by decide) (C.ts _ (List.mem_cons_of_mem _ lf_RX0_30)) rfl rfl (by decide +kernel) rfl rfl (Nat.le_of_ble_eq_true rfl) rfl dX0_init_39 ?_
  refine kv_aload_n C 0 dX0_init_42 rfl rfl ?_
  refine kv_iconst C 1 dX0_init_43 (by decide) ?_
  refine kv_put C (Cn := RX0) (T := TX0) (N := 11) (ty := .int) (ws1 := [(h0, .inr (0, [.ref hl, .ref hw, .ref q_1, .ref q_2, .ref q_3, .int 0, .int 0, .int (-1), .int 0, .int 1, .int 0])), (q_1, .inl (cI, 64, .inl (fun _ => 0))), (q_2, .inl (cJ, 7, .inr (.inl (fun _ => 0)))), (q_3, .inl (cJ, 2, .inr (.inl (fun _ => 0))))]) 0 9 hin0 tyX0 tyX0_ok nmX0 rfl rfl (by decide) (C.ts _ (List.mem_cons_of_mem _ lf_RX0_34)) rfl rfl (by decide +kernel) rfl rfl (Nat.le_of_ble_eq_true rfl) rfl dX0_init_44 ?_
  exact hret (fun k => match k with | 0 => h0 | 1 => q_1 | 2 => q_2 | _ => q_3) cI _ _ rfl C.k dX0_init_47
abbrev rm_X2_init : Room := { frames := 1, cells := 2, slots := 32, locals := 30 }
abbrev wy_X2_init : List Cond := .code yX2_init cX2_init 3 none :: gT
theorem ci_X2_init {R : Room} {s : State} {args : Array Value} {own : String} {index : Nat} {w0 : Cond} (hts : ∀ w ∈ w0 :: gT, w.before args s = true) (hl : Cond.methodLink own index yX2_init ∈ gT) (hR : 1 + 1 ≤ R.frames ∧ 8 + (3 + 11) + 30 ≤ R.locals) : CallB R s args own index yX2_init cX2_init 3 none wy_X2_init rm_X2_init 2 32 2 ∧ yX2_init.name = "<init>" ∧ (Cond.instanceMethod yX2_init).before args s = true :=
  cwI 2 hts (gT_call w0 (pre := []) (fun _ h => by cases h) lc_yX2_init) rfl rfl rfl (hts _ (List.mem_cons_of_mem _ li_RX2)) (hts _ (List.mem_cons_of_mem _ hl)) (hts _ (List.mem_cons_of_mem _ ly_yX2_init)) rfl (by decide +kernel) hR
set_option maxRecDepth 100000 in
set_option maxHeartbeats 4000000 in
theorem c_X2_init (l : Launch) (D : va_G) (cI : ClassId) (cJ : ClassId) (tq : Nat → Nat) (h0 : Nat) (hb : Nat) (hl : Nat) : kN l yX2_init wy_X2_init rm_X2_init D [(cI, .int), (cJ, .long)] (fun _ => [(cI, .int), (cJ, .long)]) tq h0 [(h0, .inr (1, [.null, .null, .null, .null, .int 0, .long 0, .long 0, .int 0, .long 0, .long 0, .long 0]))] (fun u cR => [((u 0), .inr (1, [.ref hb, .ref hl, .ref (u 1), .ref (u 2), .int 0, .long 0, .long 0, .int 0, .long 0, .long 0, .long 0])), ((u 1), .inl (cI, 16, .inl (fun _ => 0))), ((u 2), .inl (cJ, 16, .inr (.inl (fun _ => 0))))]) [.ref h0, .ref hb, .ref hl] 2 32 := by
  refine kN.of cX2_init 3 (by decide) rfl rfl (Nat.le_of_ble_eq_true rfl) ?_
  intro p e s m below meth c A Q hini C hJ hret
  have hin2 : ∀ w ∈ wsX20, w ∈ wy_X2_init := fun w h => List.mem_cons_of_mem _ (inG2 w h)
  refine kv_lv [0, 1, 2] (lv2 := [(0, .ref h0), (1, .ref hb), (2, .ref hl)]) rfl ?_
  refine kv_aload_n C 0 dX2_init_0 rfl rfl ?_
  refine kv_objInit C (C.ts _ (List.mem_cons_of_mem _ lob_RX2_3)) (C.ts _ (List.mem_cons_of_mem _ lob_inst)) (C.ts _ (List.mem_cons_of_mem _ lob_code)) dX2_init_1 (Nat.le_of_ble_eq_true rfl) (Nat.le_of_ble_eq_true rfl) ?_
  refine kv_aload_n C 0 dX2_init_4 rfl rfl ?_
  refine kv_aload_n C 1 dX2_init_5 rfl rfl ?_
  refine kv_putF C hini (Cn := RX2) (T := TX2) (N := 11) (ty := (.object "KingsBoard$Board")) (ws1 := [(h0, .inr (1, [.ref hb, .null, .null, .null, .int 0, .long 0, .long 0, .int 0, .long 0, .long 0, .long 0]))]) 0 0 hin2 tyX2 tyX2_ok nmX2 rfl rfl (by decide) (C.ts _ (List.mem_cons_of_mem _ lf_RX2_9)) rfl rfl rfl (by decide +kernel) rfl rfl (Nat.le_of_ble_eq_true rfl) rfl dX2_init_6 ?_
  refine kv_aload_n C 0 dX2_init_9 rfl rfl ?_
  refine kv_aload_n C 2 dX2_init_10 rfl rfl ?_
  refine kv_putF C hini (Cn := RX2) (T := TX2) (N := 11) (ty := (.object "KingsBoard$Lines")) (ws1 := [(h0, .inr (1, [.ref hb, .ref hl, .null, .null, .int 0, .long 0, .long 0, .int 0, .long 0, .long 0, .long 0]))]) 0 1 hin2 tyX2 tyX2_ok nmX2 rfl rfl (by decide) (C.ts _ (List.mem_cons_of_mem _ lf_RX2_15)) rfl rfl rfl (by decide +kernel) rfl rfl (Nat.le_of_ble_eq_true rfl) rfl dX2_init_11 ?_
  refine kv_aload_n C 0 dX2_init_14 rfl rfl ?_
  refine kv_bipush C 16 dX2_init_15 (by decide) ?_
  refine kv_newa C (atype := .int) (C.ts _ (List.mem_cons_of_mem _ lar_int)) 0 rfl (16, .inl (fun _ => 0)) (fun _ => rfl) (by decide) (by decide) (by decide) (Nat.le_of_ble_eq_true rfl) (Nat.le_of_ble_eq_true rfl) dX2_init_17 (fun q_1 => ?_)
  refine kv_putF C hini (Cn := RX2) (T := TX2) (N := 11) (ty := (.array .int)) (ws1 := [(h0, .inr (1, [.ref hb, .ref hl, .ref q_1, .null, .int 0, .long 0, .long 0, .int 0, .long 0, .long 0, .long 0])), (q_1, .inl (cI, 16, .inl (fun _ => 0)))]) 0 2 hin2 tyX2 tyX2_ok nmX2 rfl rfl (by decide) (C.ts _ (List.mem_cons_of_mem _ lf_RX2_19)) rfl rfl rfl (by decide +kernel) rfl rfl (Nat.le_of_ble_eq_true rfl) rfl dX2_init_19 ?_
  refine kv_aload_n C 0 dX2_init_22 rfl rfl ?_
  refine kv_bipush C 16 dX2_init_23 (by decide) ?_
  refine kv_newa C (atype := .long) (C.ts _ (List.mem_cons_of_mem _ lar_long)) 1 rfl (16, .inr (.inl (fun _ => 0))) (fun _ => rfl) (by decide) (by decide) (by decide) (Nat.le_of_ble_eq_true rfl) (Nat.le_of_ble_eq_true rfl) dX2_init_25 (fun q_2 => ?_)
  refine kv_putF C hini (Cn := RX2) (T := TX2) (N := 11) (ty := (.array .long)) (ws1 := [(h0, .inr (1, [.ref hb, .ref hl, .ref q_1, .ref q_2, .int 0, .long 0, .long 0, .int 0, .long 0, .long 0, .long 0])), (q_1, .inl (cI, 16, .inl (fun _ => 0))), (q_2, .inl (cJ, 16, .inr (.inl (fun _ => 0))))]) 0 3 hin2 tyX2 tyX2_ok nmX2 rfl rfl (by decide) (C.ts _ (List.mem_cons_of_mem _ lf_RX2_23)) rfl rfl rfl (by decide +kernel) rfl rfl (Nat.le_of_ble_eq_true rfl) rfl dX2_init_27 ?_
  exact hret (fun k => match k with | 0 => h0 | 1 => q_1 | _ => q_2) cI _ _ rfl C.k dX2_init_30
abbrev rm_X4_init : Room := { frames := 1, cells := 3, slots := 2118, locals := 30 }
abbrev wy_X4_init : List Cond := .code yX4_init cX4_init 2 none :: gT
theorem ci_X4_init {R : Room} {s : State} {args : Array Value} {own : String} {index : Nat} {w0 : Cond} (hts : ∀ w ∈ w0 :: gT, w.before args s = true) (hl : Cond.methodLink own index yX4_init ∈ gT) (hR : 1 + 1 ≤ R.frames ∧ 8 + (2 + 11) + 30 ≤ R.locals) : CallB R s args own index yX4_init cX4_init 2 none wy_X4_init rm_X4_init 3 2118 1 ∧ yX4_init.name = "<init>" ∧ (Cond.instanceMethod yX4_init).before args s = true :=
  cwI 1 hts (gT_call w0 (pre := []) (fun _ h => by cases h) lc_yX4_init) rfl rfl rfl (hts _ (List.mem_cons_of_mem _ li_RX4)) (hts _ (List.mem_cons_of_mem _ hl)) (hts _ (List.mem_cons_of_mem _ ly_yX4_init)) rfl (by decide +kernel) hR
set_option maxRecDepth 100000 in
set_option maxHeartbeats 4000000 in
theorem c_X4_init (l : Launch) (D : va_G) (cI : ClassId) (tq : Nat → Nat) (h0 : Nat) (hb : Nat) : kN l yX4_init wy_X4_init rm_X4_init D [(cI, .int)] (fun _ => [(cI, .int)]) tq h0 [(h0, .inr (3, [.null, .null, .null, .null, .int 0]))] (fun u cR => [((u 0), .inr (3, [.ref hb, .ref (u 1), .ref (u 2), .ref (u 3), .int 0])), ((u 1), .inl (cI, 1027, .inl (fun _ => 0))), ((u 2), .inl (cI, 1027, .inl (fun _ => 0))), ((u 3), .inl (cI, 64, .inl (fun _ => 0)))]) [.ref h0, .ref hb] 3 2118 := by
  refine kN.of cX4_init 2 (by decide) rfl rfl (Nat.le_of_ble_eq_true rfl) ?_
  intro p e s m below meth c A Q hini C hJ hret
  have hin4 : ∀ w ∈ wsX40, w ∈ wy_X4_init := fun w h => List.mem_cons_of_mem _ (inG4 w h)
  refine kv_lv [0, 1] (lv2 := [(0, .ref h0), (1, .ref hb)]) rfl ?_
  refine kv_aload_n C 0 dX4_init_0 rfl rfl ?_
  refine kv_objInit C (C.ts _ (List.mem_cons_of_mem _ lob_RX4_3)) (C.ts _ (List.mem_cons_of_mem _ lob_inst)) (C.ts _ (List.mem_cons_of_mem _ lob_code)) dX4_init_1 (Nat.le_of_ble_eq_true rfl) (Nat.le_of_ble_eq_true rfl) ?_
  refine kv_aload_n C 0 dX4_init_4 rfl rfl ?_
  refine kv_aload_n C 1 dX4_init_5 rfl rfl ?_
  refine kv_putF C hini (Cn := RX4) (T := TX4) (N := 5) (ty := (.object "KingsBoard$Board")) (ws1 := [(h0, .inr (3, [.ref hb, .null, .null, .null, .int 0]))]) 0 0 hin4 tyX4 tyX4_ok nmX4 rfl rfl (by decide) (C.ts _ (List.mem_cons_of_mem _ lf_RX4_9)) rfl rfl rfl (by decide +kernel) rfl rfl (Nat.le_of_ble_eq_true rfl) rfl dX4_init_6 ?_
  refine kv_aload_n C 0 dX4_init_9 rfl rfl ?_
  refine kv_sipush C 1027 dX4_init_10 (by decide) ?_
  refine kv_newa C (atype := .int) (C.ts _ (List.mem_cons_of_mem _ lar_int)) 0 rfl (1027, .inl (fun _ => 0)) (fun _ => rfl) (by decide) (by decide) (by decide) (Nat.le_of_ble_eq_true rfl) (Nat.le_of_ble_eq_true rfl) dX4_init_13 (fun q_1 => ?_)
  refine kv_putF C hini (Cn := RX4) (T := TX4) (N := 5) (ty := (.array .int)) (ws1 := [(h0, .inr (3, [.ref hb, .ref q_1, .null, .null, .int 0])), (q_1, .inl (cI, 1027, .inl (fun _ => 0)))]) 0 1 hin4 tyX4 tyX4_ok nmX4 rfl rfl (by decide) (C.ts _ (List.mem_cons_of_mem _ lf_RX4_15)) rfl rfl rfl (by decide +kernel) rfl rfl (Nat.le_of_ble_eq_true rfl) rfl dX4_init_15 ?_
  refine kv_aload_n C 0 dX4_init_18 rfl rfl ?_
  refine kv_sipush C 1027 dX4_init_19 (by decide) ?_
  refine kv_newa C (atype := .int) (C.ts _ (List.mem_cons_of_mem _ lar_int)) 0 rfl (1027, .inl (fun _ => 0)) (fun _ => rfl) (by decide) (by decide) (by decide) (Nat.le_of_ble_eq_true rfl) (Nat.le_of_ble_eq_true rfl) dX4_init_22 (fun q_2 => ?_)
  refine kv_putF C hini (Cn := RX4) (T := TX4) (N := 5) (ty := (.array .int)) (ws1 := [(h0, .inr (3, [.ref hb, .ref q_1, .ref q_2, .null, .int 0])), (q_1, .inl (cI, 1027, .inl (fun _ => 0))), (q_2, .inl (cI, 1027, .inl (fun _ => 0)))]) 0 2 hin4 tyX4 tyX4_ok nmX4 rfl rfl (by decide) (C.ts _ (List.mem_cons_of_mem _ lf_RX4_19)) rfl rfl rfl (by decide +kernel) rfl rfl (Nat.le_of_ble_eq_true rfl) rfl dX4_init_24 ?_
  refine kv_aload_n C 0 dX4_init_27 rfl rfl ?_
  refine kv_bipush C 64 dX4_init_28 (by decide) ?_
  refine kv_newa C (atype := .int) (C.ts _ (List.mem_cons_of_mem _ lar_int)) 0 rfl (64, .inl (fun _ => 0)) (fun _ => rfl) (by decide) (by decide) (by decide) (Nat.le_of_ble_eq_true rfl) (Nat.le_of_ble_eq_true rfl) dX4_init_30 (fun q_3 => ?_)
  refine kv_putF C hini (Cn := RX4) (T := TX4) (N := 5) (ty := (.array .int)) (ws1 := [(h0, .inr (3, [.ref hb, .ref q_1, .ref q_2, .ref q_3, .int 0])), (q_1, .inl (cI, 1027, .inl (fun _ => 0))), (q_2, .inl (cI, 1027, .inl (fun _ => 0))), (q_3, .inl (cI, 64, .inl (fun _ => 0)))]) 0 3 hin4 tyX4 tyX4_ok nmX4 rfl rfl (by decide) (C.ts _ (List.mem_cons_of_mem _ lf_RX4_22)) rfl rfl rfl (by decide +kernel) rfl rfl (Nat.le_of_ble_eq_true rfl) rfl dX4_init_32 ?_
  exact hret (fun k => match k with | 0 => h0 | 1 => q_1 | 2 => q_2 | _ => q_3) cI _ _ rfl C.k dX4_init_35
abbrev rm_X5_init : Room := { frames := 1, cells := 1, slots := 128, locals := 30 }
abbrev wy_X5_init : List Cond := .code yX5_init cX5_init 2 none :: gT
theorem ci_X5_init {R : Room} {s : State} {args : Array Value} {own : String} {index : Nat} {w0 : Cond} (hts : ∀ w ∈ w0 :: gT, w.before args s = true) (hl : Cond.methodLink own index yX5_init ∈ gT) (hR : 1 + 1 ≤ R.frames ∧ 8 + (2 + 11) + 30 ≤ R.locals) : CallB R s args own index yX5_init cX5_init 2 none wy_X5_init rm_X5_init 1 128 1 ∧ yX5_init.name = "<init>" ∧ (Cond.instanceMethod yX5_init).before args s = true :=
  cwI 1 hts (gT_call w0 (pre := []) (fun _ h => by cases h) lc_yX5_init) rfl rfl rfl (hts _ (List.mem_cons_of_mem _ li_RX5)) (hts _ (List.mem_cons_of_mem _ hl)) (hts _ (List.mem_cons_of_mem _ ly_yX5_init)) rfl (by decide +kernel) hR
set_option maxRecDepth 100000 in
set_option maxHeartbeats 4000000 in
theorem c_X5_init (l : Launch) (D : va_G) (cC : ClassId) (tq : Nat → Nat) (h0 : Nat) (hd : Nat) : kN l yX5_init wy_X5_init rm_X5_init D [(cC, .char)] (fun _ => [(cC, .char)]) tq h0 [(h0, .inr (4, [.null, .int 0, .null, .int 0, .int 0]))] (fun u cR => [((u 0), .inr (4, [.ref hd, .int (-1), .ref (u 1), .int 0, .int 0])), ((u 1), .inl (cC, 128, .inl (fun _ => 0)))]) [.ref h0, .ref hd] 1 128 := by
  refine kN.of cX5_init 2 (by decide) rfl rfl (Nat.le_of_ble_eq_true rfl) ?_
  intro p e s m below meth c A Q hini C hJ hret
  have hin5 : ∀ w ∈ wsX50, w ∈ wy_X5_init := fun w h => List.mem_cons_of_mem _ (inG5 w h)
  refine kv_lv [0, 1] (lv2 := [(0, .ref h0), (1, .ref hd)]) rfl ?_
  refine kv_aload_n C 0 dX5_init_0 rfl rfl ?_
  refine kv_objInit C (C.ts _ (List.mem_cons_of_mem _ lob_RX5_3)) (C.ts _ (List.mem_cons_of_mem _ lob_inst)) (C.ts _ (List.mem_cons_of_mem _ lob_code)) dX5_init_1 (Nat.le_of_ble_eq_true rfl) (Nat.le_of_ble_eq_true rfl) ?_
  refine kv_aload_n C 0 dX5_init_4 rfl rfl ?_
  refine kv_aload_n C 1 dX5_init_5 rfl rfl ?_
  refine kv_putF C hini (Cn := RX5) (T := TX5) (N := 5) (ty := (.object "KingsBoard$Board")) (ws1 := [(h0, .inr (4, [.ref hd, .int 0, .null, .int 0, .int 0]))]) 0 0 hin5 tyX5 tyX5_ok nmX5 rfl rfl (by decide) (C.ts _ (List.mem_cons_of_mem _ lf_RX5_9)) rfl rfl rfl (by decide +kernel) rfl rfl (Nat.le_of_ble_eq_true rfl) rfl dX5_init_6 ?_
  refine kv_aload_n C 0 dX5_init_9 rfl rfl ?_
  refine kv_iconst C (-1) dX5_init_10 (by decide) ?_
  refine kv_put C (Cn := RX5) (T := TX5) (N := 5) (ty := .int) (ws1 := [(h0, .inr (4, [.ref hd, .int (-1), .null, .int 0, .int 0]))]) 0 1 hin5 tyX5 tyX5_ok nmX5 rfl rfl (by decide) (C.ts _ (List.mem_cons_of_mem _ lf_RX5_15)) rfl rfl (by decide +kernel) rfl rfl (Nat.le_of_ble_eq_true rfl) rfl dX5_init_11 ?_
  refine kv_aload_n C 0 dX5_init_14 rfl rfl ?_
  refine kv_sipush C 128 dX5_init_15 (by decide) ?_
  refine kv_newa C (atype := .char) (C.ts _ (List.mem_cons_of_mem _ lar_char)) 0 rfl (128, .inl (fun _ => 0)) (fun _ => rfl) (by decide) (by decide) (by decide) (Nat.le_of_ble_eq_true rfl) (Nat.le_of_ble_eq_true rfl) dX5_init_18 (fun q_1 => ?_)
  refine kv_putF C hini (Cn := RX5) (T := TX5) (N := 5) (ty := (.array .char)) (ws1 := [(h0, .inr (4, [.ref hd, .int (-1), .ref q_1, .int 0, .int 0])), (q_1, .inl (cC, 128, .inl (fun _ => 0)))]) 0 2 hin5 tyX5 tyX5_ok nmX5 rfl rfl (by decide) (C.ts _ (List.mem_cons_of_mem _ lf_RX5_19)) rfl rfl rfl (by decide +kernel) rfl rfl (Nat.le_of_ble_eq_true rfl) rfl dX5_init_20 ?_
  exact hret (fun k => match k with | 0 => h0 | _ => q_1) cC _ _ rfl C.k dX5_init_23
abbrev rm_X8_init : Room := { frames := 1, cells := 1, slots := 128, locals := 30 }
abbrev wy_X8_init : List Cond := .code yX8_init cX8_init 1 none :: gT
theorem ci_X8_init {R : Room} {s : State} {args : Array Value} {own : String} {index : Nat} {w0 : Cond} (hts : ∀ w ∈ w0 :: gT, w.before args s = true) (hl : Cond.methodLink own index yX8_init ∈ gT) (hR : 1 + 1 ≤ R.frames ∧ 8 + (1 + 11) + 30 ≤ R.locals) : CallB R s args own index yX8_init cX8_init 1 none wy_X8_init rm_X8_init 1 128 0 ∧ yX8_init.name = "<init>" ∧ (Cond.instanceMethod yX8_init).before args s = true :=
  cwI 0 hts (gT_call w0 (pre := []) (fun _ h => by cases h) lc_yX8_init) rfl rfl rfl (hts _ (List.mem_cons_of_mem _ li_RX8)) (hts _ (List.mem_cons_of_mem _ hl)) (hts _ (List.mem_cons_of_mem _ ly_yX8_init)) rfl (by decide +kernel) hR
set_option maxRecDepth 100000 in
set_option maxHeartbeats 4000000 in
theorem c_X8_init (l : Launch) (D : va_G) (cC : ClassId) (tq : Nat → Nat) (h0 : Nat) : kN l yX8_init wy_X8_init rm_X8_init D [(cC, .char)] (fun _ => [(cC, .char)]) tq h0 [(h0, .inr (7, [.null, .int 0]))] (fun u cR => [((u 0), .inr (7, [.ref (u 1), .int 0])), ((u 1), .inl (cC, 128, .inl (fun _ => 0)))]) [.ref h0] 1 128 := by
  refine kN.of cX8_init 1 (by decide) rfl rfl (Nat.le_of_ble_eq_true rfl) ?_
  intro p e s m below meth c A Q hini C hJ hret
  have hin8 : ∀ w ∈ wsX80, w ∈ wy_X8_init := fun w h => List.mem_cons_of_mem _ (inG8 w h)
  refine kv_lv [0] (lv2 := [(0, .ref h0)]) rfl ?_
  refine kv_aload_n C 0 dX8_init_0 rfl rfl ?_
  refine kv_objInit C (C.ts _ (List.mem_cons_of_mem _ lob_RX8_3)) (C.ts _ (List.mem_cons_of_mem _ lob_inst)) (C.ts _ (List.mem_cons_of_mem _ lob_code)) dX8_init_1 (Nat.le_of_ble_eq_true rfl) (Nat.le_of_ble_eq_true rfl) ?_
  refine kv_aload_n C 0 dX8_init_4 rfl rfl ?_
  refine kv_sipush C 128 dX8_init_5 (by decide) ?_
  refine kv_newa C (atype := .char) (C.ts _ (List.mem_cons_of_mem _ lar_char)) 0 rfl (128, .inl (fun _ => 0)) (fun _ => rfl) (by decide) (by decide) (by decide) (Nat.le_of_ble_eq_true rfl) (Nat.le_of_ble_eq_true rfl) dX8_init_8 (fun q_1 => ?_)
  refine kv_putF C hini (Cn := RX8) (T := TX8) (N := 2) (ty := (.array .char)) (ws1 := [(h0, .inr (7, [.ref q_1, .int 0])), (q_1, .inl (cC, 128, .inl (fun _ => 0)))]) 0 0 hin8 tyX8 tyX8_ok nmX8 rfl rfl (by decide) (C.ts _ (List.mem_cons_of_mem _ lf_RX8_9)) rfl rfl rfl (by decide +kernel) rfl rfl (Nat.le_of_ble_eq_true rfl) rfl dX8_init_10 ?_
  exact hret (fun k => match k with | 0 => h0 | _ => q_1) cC _ _ rfl C.k dX8_init_13
def m_X10_init_b181 (k121 : Int32 → Int32 → (Nat → Int32) → Int32 → Option (Int32 × Int32 × (Nat → Int32))) (v_rights : Int32) (v_number : Int32) (a_board : Nat → Int32) (x1 : Int32) (t0 : Int32) : Option (Int32 × Int32 × (Nat → Int32)) := oin (x1) 64 (ol (upd a_board (x1.toNatClampNeg) t0) fun a_board_13 => oin ((8 : Int32) + x1) 64 (ol (upd a_board_13 (((8 : Int32) + x1).toNatClampNeg) 1) fun a_board_15 => oin ((48 : Int32) + x1) 64 (ol (upd a_board_15 (((48 : Int32) + x1).toNatClampNeg) (-1)) fun a_board_17 => ol (-t0) fun y_18 => oin ((56 : Int32) + x1) 64 (ol (upd a_board_17 (((56 : Int32) + x1).toNatClampNeg) y_18) fun a_board_20 => ol (x1 + 1) fun x1_21 => k121 v_rights v_number a_board_20 x1_21))))
def m_X10_init_b166 (k121 : Int32 → Int32 → (Nat → Int32) → Int32 → Option (Int32 × Int32 × (Nat → Int32))) (v_rights : Int32) (v_number : Int32) (a_board : Nat → Int32) (x1 : Int32) : Option (Int32 × Int32 × (Nat → Int32)) := m_X10_init_b181 k121 v_rights v_number a_board x1 3
def m_X10_init_b152 (k121 : Int32 → Int32 → (Nat → Int32) → Int32 → Option (Int32 × Int32 × (Nat → Int32))) (v_rights : Int32) (v_number : Int32) (a_board : Nat → Int32) (x1 : Int32) : Option (Int32 × Int32 × (Nat → Int32)) := m_X10_init_b181 k121 v_rights v_number a_board x1 2
def m_X10_init_b137 (k121 : Int32 → Int32 → (Nat → Int32) → Int32 → Option (Int32 × Int32 × (Nat → Int32))) (v_rights : Int32) (v_number : Int32) (a_board : Nat → Int32) (x1 : Int32) : Option (Int32 × Int32 × (Nat → Int32)) := m_X10_init_b181 k121 v_rights v_number a_board x1 4
def m_X10_init_b121 (k121 : Int32 → Int32 → (Nat → Int32) → Int32 → Option (Int32 × Int32 × (Nat → Int32))) (v_rights : Int32) (v_number : Int32) (a_board : Nat → Int32) (x1 : Int32) : Option (Int32 × Int32 × (Nat → Int32)) := if 8 ≤ x1 then some (15, 1, a_board) else if x1 = 0 then m_X10_init_b137 k121 v_rights v_number a_board x1 else if x1 = 7 then m_X10_init_b137 k121 v_rights v_number a_board x1 else if x1 = 1 then m_X10_init_b152 k121 v_rights v_number a_board x1 else if x1 = 6 then m_X10_init_b152 k121 v_rights v_number a_board x1 else if x1 = 2 then m_X10_init_b166 k121 v_rights v_number a_board x1 else if x1 = 5 then m_X10_init_b166 k121 v_rights v_number a_board x1 else if x1 = 3 then m_X10_init_b181 k121 v_rights v_number a_board x1 5 else m_X10_init_b181 k121 v_rights v_number a_board x1 6
def m_X10_init_l121 (n : Nat) : Int32 → Int32 → (Nat → Int32) → Int32 → Option (Int32 × Int32 × (Nat → Int32)) := fz (fun _ _ _ _ => none) (fun k121 v_rights v_number a_board x1 => m_X10_init_b121 k121 v_rights v_number a_board x1) n
def m_X10_init (v_rights : Int32) (v_number : Int32) (a_board : Nat → Int32) : Option (Int32 × Int32 × (Nat → Int32)) := m_X10_init_l121 kF v_rights v_number a_board 0
abbrev rm_X10_init : Room := { frames := 1, cells := 11, slots := 79147, locals := 30 }
abbrev wy_X10_init : List Cond := .code yX10_init cX10_init 3 none :: gT
theorem ci_X10_init {R : Room} {s : State} {args : Array Value} {own : String} {index : Nat} {w0 : Cond} (hts : ∀ w ∈ w0 :: gT, w.before args s = true) (hl : Cond.methodLink own index yX10_init ∈ gT) (hR : 1 + 1 ≤ R.frames ∧ 8 + (3 + 11) + 30 ≤ R.locals) : CallB R s args own index yX10_init cX10_init 3 none wy_X10_init rm_X10_init 11 79147 0 ∧ yX10_init.name = "<init>" ∧ (Cond.instanceMethod yX10_init).before args s = true :=
  cwI 0 hts (gT_call w0 (pre := []) (fun _ h => by cases h) lc_yX10_init) rfl rfl rfl (hts _ (List.mem_cons_of_mem _ li_RX10)) (hts _ (List.mem_cons_of_mem _ hl)) (hts _ (List.mem_cons_of_mem _ ly_yX10_init)) rfl (by decide +kernel) hR
set_option maxRecDepth 100000 in
set_option maxHeartbeats 4000000 in
theorem c_X10_init (l : Launch) (D : va_G) (cI : ClassId) (tq : Nat → Nat) (h0 : Nat) (v_rights' : Int32) (v_number' : Int32) (a_board' : Nat → Int32) (hm : m_X10_init 0 0 (fun _ => 0) = some (v_rights', v_number', a_board')) : kN l yX10_init wy_X10_init rm_X10_init D [(cI, .int)] (fun _ => [(cI, .int)]) tq h0 [(h0, .inr (9, [.int 0, .null, .int 0, .int 0, .int 0, .int 0, .int 0, .null, .int 0, .null, .int 0, .int 0, .int 0, .null, .int 0, .null, .null, .null, .null, .int 0, .int 0, .int 0, .null, .null, .int 0, .null, .int 0, .int 0, .int 0, .int 0, .int 0]))] (fun u cR => [((u 0), .inr (9, [.int 0, .ref (u 1), .int 0, .int v_rights', .int (-1), .int 0, .int v_number', .ref (u 7), .int 0, .ref (u 9), .int 0, .int 0, .int (-1), .ref (u 13), .int 0, .ref (u 15), .ref (u 16), .ref (u 17), .ref (u 18), .int (-1), .int (-1), .int (-1), .ref (u 22), .ref (u 23), .int 0, .ref (u 25), .int 0, .int 0, .int 0, .int 0, .int 0])), ((u 1), .inl (cI, 64, .inl a_board')), ((u 7), .inl (cI, 71070, .inl (fun _ => 0))), ((u 9), .inl (cI, 128, .inl (fun _ => 0))), ((u 13), .inl (cI, 128, .inl (fun _ => 0))), ((u 15), .inl (cI, 2560, .inl (fun _ => 0))), ((u 16), .inl (cI, 2560, .inl (fun _ => 0))), ((u 17), .inl (cI, 2560, .inl (fun _ => 0))), ((u 18), .inl (cI, 5, .inl (fun _ => 0))), ((u 22), .inl (cI, 4, .inl (fun _ => 0))), ((u 23), .inl (cI, 4, .inl (fun _ => 0))), ((u 25), .inl (cI, 64, .inl (fun _ => 0)))]) [.ref h0] 11 79147 := by
  refine kN.of cX10_init 3 (by decide) rfl rfl (Nat.le_of_ble_eq_true rfl) ?_
  intro p e s m below meth c A Q hini C hJ hret
  have hin10 : ∀ w ∈ wsX100, w ∈ wy_X10_init := fun w h => List.mem_cons_of_mem _ (inG10 w h)
  refine kv_lv [0] (lv2 := [(0, .ref h0)]) rfl ?_
  refine kv_aload_n C 0 dX10_init_0 rfl rfl ?_
  refine kv_objInit C (C.ts _ (List.mem_cons_of_mem _ lob_RX10_1)) (C.ts _ (List.mem_cons_of_mem _ lob_inst)) (C.ts _ (List.mem_cons_of_mem _ lob_code)) dX10_init_1 (Nat.le_of_ble_eq_true rfl) (Nat.le_of_ble_eq_true rfl) ?_
  refine kv_aload_n C 0 dX10_init_4 rfl rfl ?_
  refine kv_bipush C 64 dX10_init_5 (by decide) ?_
  refine kv_newa C (atype := .int) (C.ts _ (List.mem_cons_of_mem _ lar_int)) 0 rfl (64, .inl (fun _ => 0)) (fun _ => rfl) (by decide) (by decide) (by decide) (Nat.le_of_ble_eq_true rfl) (Nat.le_of_ble_eq_true rfl) dX10_init_7 (fun q_1 => ?_)
  refine kv_putF C hini (Cn := RX10) (T := TX10) (N := 31) (ty := (.array .int)) (ws1 := [(h0, .inr (9, [.int 0, .ref q_1, .int 0, .int 0, .int 0, .int 0, .int 0, .null, .int 0, .null, .int 0, .int 0, .int 0, .null, .int 0, .null, .null, .null, .null, .int 0, .int 0, .int 0, .null, .null, .int 0, .null, .int 0, .int 0, .int 0, .int 0, .int 0])), (q_1, .inl (cI, 64, .inl (fun _ => 0)))]) 0 1 hin10 tyX10 tyX10_ok nmX10 rfl rfl (by decide) (C.ts _ (List.mem_cons_of_mem _ lf_RX10_7)) rfl rfl rfl (by decide +kernel) rfl rfl (Nat.le_of_ble_eq_true rfl) rfl dX10_init_9 ?_
  refine kv_aload_n C 0 dX10_init_12 rfl rfl ?_
  refine kv_iconst C (-1) dX10_init_13 (by decide) ?_
  refine kv_put C (Cn := RX10) (T := TX10) (N := 31) (ty := .int) (ws1 := [(h0, .inr (9, [.int 0, .ref q_1, .int 0, .int 0, .int (-1), .int 0, .int 0, .null, .int 0, .null, .int 0, .int 0, .int 0, .null, .int 0, .null, .null, .null, .null, .int 0, .int 0, .int 0, .null, .null, .int 0, .null, .int 0, .int 0, .int 0, .int 0, .int 0])), (q_1, .inl (cI, 64, .inl (fun _ => 0)))]) 0 4 hin10 tyX10 tyX10_ok nmX10 rfl rfl (by decide) (C.ts _ (List.mem_cons_of_mem _ lf_RX10_13)) rfl rfl (by decide +kernel) rfl rfl (Nat.le_of_ble_eq_true rfl) rfl dX10_init_14 ?_
  refine kv_aload_n C 0 dX10_init_17 rfl rfl ?_
  refine kv_ldc C (C.ts _ (List.mem_cons_of_mem _ lk_RX10_17)) dX10_init_18 ?_
  refine kv_newa C (atype := .int) (C.ts _ (List.mem_cons_of_mem _ lar_int)) 0 rfl (71070, .inl (fun _ => 0)) (fun _ => rfl) (by decide) (by decide) (by decide) (Nat.le_of_ble_eq_true rfl) (Nat.le_of_ble_eq_true rfl) dX10_init_20 (fun q_2 => ?_)
  refine kv_putF C hini (Cn := RX10) (T := TX10) (N := 31) (ty := (.array .int)) (ws1 := [(h0, .inr (9, [.int 0, .ref q_1, .int 0, .int 0, .int (-1), .int 0, .int 0, .ref q_2, .int 0, .null, .int 0, .int 0, .int 0, .null, .int 0, .null, .null, .null, .null, .int 0, .int 0, .int 0, .null, .null, .int 0, .null, .int 0, .int 0, .int 0, .int 0, .int 0])), (q_1, .inl (cI, 64, .inl (fun _ => 0))), (q_2, .inl (cI, 71070, .inl (fun _ => 0)))]) 0 7 hin10 tyX10 tyX10_ok nmX10 rfl rfl (by decide) (C.ts _ (List.mem_cons_of_mem _ lf_RX10_18)) rfl rfl rfl (by decide +kernel) rfl rfl (Nat.le_of_ble_eq_true rfl) rfl dX10_init_22 ?_
  refine kv_aload_n C 0 dX10_init_25 rfl rfl ?_
  refine kv_sipush C 128 dX10_init_26 (by decide) ?_
  refine kv_newa C (atype := .int) (C.ts _ (List.mem_cons_of_mem _ lar_int)) 0 rfl (128, .inl (fun _ => 0)) (fun _ => rfl) (by decide) (by decide) (by decide) (Nat.le_of_ble_eq_true rfl) (Nat.le_of_ble_eq_true rfl) dX10_init_29 (fun q_3 => ?_)
  refine kv_putF C hini (Cn := RX10) (T := TX10) (N := 31) (ty := (.array .int)) (ws1 := [(h0, .inr (9, [.int 0, .ref q_1, .int 0, .int 0, .int (-1), .int 0, .int 0, .ref q_2, .int 0, .ref q_3, .int 0, .int 0, .int 0, .null, .int 0, .null, .null, .null, .null, .int 0, .int 0, .int 0, .null, .null, .int 0, .null, .int 0, .int 0, .int 0, .int 0, .int 0])), (q_1, .inl (cI, 64, .inl (fun _ => 0))), (q_2, .inl (cI, 71070, .inl (fun _ => 0))), (q_3, .inl (cI, 128, .inl (fun _ => 0)))]) 0 9 hin10 tyX10 tyX10_ok nmX10 rfl rfl (by decide) (C.ts _ (List.mem_cons_of_mem _ lf_RX10_21)) rfl rfl rfl (by decide +kernel) rfl rfl (Nat.le_of_ble_eq_true rfl) rfl dX10_init_31 ?_
  refine kv_aload_n C 0 dX10_init_34 rfl rfl ?_
  refine kv_iconst C (-1) dX10_init_35 (by decide) ?_
  refine kv_put C (Cn := RX10) (T := TX10) (N := 31) (ty := .int) (ws1 := [(h0, .inr (9, [.int 0, .ref q_1, .int 0, .int 0, .int (-1), .int 0, .int 0, .ref q_2, .int 0, .ref q_3, .int 0, .int 0, .int (-1), .null, .int 0, .null, .null, .null, .null, .int 0, .int 0, .int 0, .null, .null, .int 0, .null, .int 0, .int 0, .int 0, .int 0, .int 0])), (q_1, .inl (cI, 64, .inl (fun _ => 0))), (q_2, .inl (cI, 71070, .inl (fun _ => 0))), (q_3, .inl (cI, 128, .inl (fun _ => 0)))]) 0 12 hin10 tyX10 tyX10_ok nmX10 rfl rfl (by decide) (C.ts _ (List.mem_cons_of_mem _ lf_RX10_24)) rfl rfl (by decide +kernel) rfl rfl (Nat.le_of_ble_eq_true rfl) rfl dX10_init_36 ?_
  refine kv_aload_n C 0 dX10_init_39 rfl rfl ?_
  refine kv_sipush C 128 dX10_init_40 (by decide) ?_
  refine kv_newa C (atype := .int) (C.ts _ (List.mem_cons_of_mem _ lar_int)) 0 rfl (128, .inl (fun _ => 0)) (fun _ => rfl) (by decide) (by decide) (by decide) (Nat.le_of_ble_eq_true rfl) (Nat.le_of_ble_eq_true rfl) dX10_init_43 (fun q_4 => ?_)
  refine kv_putF C hini (Cn := RX10) (T := TX10) (N := 31) (ty := (.array .int)) (ws1 := [(h0, .inr (9, [.int 0, .ref q_1, .int 0, .int 0, .int (-1), .int 0, .int 0, .ref q_2, .int 0, .ref q_3, .int 0, .int 0, .int (-1), .ref q_4, .int 0, .null, .null, .null, .null, .int 0, .int 0, .int 0, .null, .null, .int 0, .null, .int 0, .int 0, .int 0, .int 0, .int 0])), (q_1, .inl (cI, 64, .inl (fun _ => 0))), (q_2, .inl (cI, 71070, .inl (fun _ => 0))), (q_3, .inl (cI, 128, .inl (fun _ => 0))), (q_4, .inl (cI, 128, .inl (fun _ => 0)))]) 0 13 hin10 tyX10 tyX10_ok nmX10 rfl rfl (by decide) (C.ts _ (List.mem_cons_of_mem _ lf_RX10_27)) rfl rfl rfl (by decide +kernel) rfl rfl (Nat.le_of_ble_eq_true rfl) rfl dX10_init_45 ?_
  refine kv_aload_n C 0 dX10_init_48 rfl rfl ?_
  refine kv_sipush C 2560 dX10_init_49 (by decide) ?_
  refine kv_newa C (atype := .int) (C.ts _ (List.mem_cons_of_mem _ lar_int)) 0 rfl (2560, .inl (fun _ => 0)) (fun _ => rfl) (by decide) (by decide) (by decide) (Nat.le_of_ble_eq_true rfl) (Nat.le_of_ble_eq_true rfl) dX10_init_52 (fun q_5 => ?_)
  refine kv_putF C hini (Cn := RX10) (T := TX10) (N := 31) (ty := (.array .int)) (ws1 := [(h0, .inr (9, [.int 0, .ref q_1, .int 0, .int 0, .int (-1), .int 0, .int 0, .ref q_2, .int 0, .ref q_3, .int 0, .int 0, .int (-1), .ref q_4, .int 0, .ref q_5, .null, .null, .null, .int 0, .int 0, .int 0, .null, .null, .int 0, .null, .int 0, .int 0, .int 0, .int 0, .int 0])), (q_1, .inl (cI, 64, .inl (fun _ => 0))), (q_2, .inl (cI, 71070, .inl (fun _ => 0))), (q_3, .inl (cI, 128, .inl (fun _ => 0))), (q_4, .inl (cI, 128, .inl (fun _ => 0))), (q_5, .inl (cI, 2560, .inl (fun _ => 0)))]) 0 15 hin10 tyX10 tyX10_ok nmX10 rfl rfl (by decide) (C.ts _ (List.mem_cons_of_mem _ lf_RX10_30)) rfl rfl rfl (by decide +kernel) rfl rfl (Nat.le_of_ble_eq_true rfl) rfl dX10_init_54 ?_
  refine kv_aload_n C 0 dX10_init_57 rfl rfl ?_
  refine kv_sipush C 2560 dX10_init_58 (by decide) ?_
  refine kv_newa C (atype := .int) (C.ts _ (List.mem_cons_of_mem _ lar_int)) 0 rfl (2560, .inl (fun _ => 0)) (fun _ => rfl) (by decide) (by decide) (by decide) (Nat.le_of_ble_eq_true rfl) (Nat.le_of_ble_eq_true rfl) dX10_init_61 (fun q_6 => ?_)
  refine kv_putF C hini (Cn := RX10) (T := TX10) (N := 31) (ty := (.array .int)) (ws1 := [(h0, .inr (9, [.int 0, .ref q_1, .int 0, .int 0, .int (-1), .int 0, .int 0, .ref q_2, .int 0, .ref q_3, .int 0, .int 0, .int (-1), .ref q_4, .int 0, .ref q_5, .ref q_6, .null, .null, .int 0, .int 0, .int 0, .null, .null, .int 0, .null, .int 0, .int 0, .int 0, .int 0, .int 0])), (q_1, .inl (cI, 64, .inl (fun _ => 0))), (q_2, .inl (cI, 71070, .inl (fun _ => 0))), (q_3, .inl (cI, 128, .inl (fun _ => 0))), (q_4, .inl (cI, 128, .inl (fun _ => 0))), (q_5, .inl (cI, 2560, .inl (fun _ => 0))), (q_6, .inl (cI, 2560, .inl (fun _ => 0)))]) 0 16 hin10 tyX10 tyX10_ok nmX10 rfl rfl (by decide) (C.ts _ (List.mem_cons_of_mem _ lf_RX10_33)) rfl rfl rfl (by decide +kernel) rfl rfl (Nat.le_of_ble_eq_true rfl) rfl dX10_init_63 ?_
  refine kv_aload_n C 0 dX10_init_66 rfl rfl ?_
  refine kv_sipush C 2560 dX10_init_67 (by decide) ?_
  refine kv_newa C (atype := .int) (C.ts _ (List.mem_cons_of_mem _ lar_int)) 0 rfl (2560, .inl (fun _ => 0)) (fun _ => rfl) (by decide) (by decide) (by decide) (Nat.le_of_ble_eq_true rfl) (Nat.le_of_ble_eq_true rfl) dX10_init_70 (fun q_7 => ?_)
  refine kv_putF C hini (Cn := RX10) (T := TX10) (N := 31) (ty := (.array .int)) (ws1 := [(h0, .inr (9, [.int 0, .ref q_1, .int 0, .int 0, .int (-1), .int 0, .int 0, .ref q_2, .int 0, .ref q_3, .int 0, .int 0, .int (-1), .ref q_4, .int 0, .ref q_5, .ref q_6, .ref q_7, .null, .int 0, .int 0, .int 0, .null, .null, .int 0, .null, .int 0, .int 0, .int 0, .int 0, .int 0])), (q_1, .inl (cI, 64, .inl (fun _ => 0))), (q_2, .inl (cI, 71070, .inl (fun _ => 0))), (q_3, .inl (cI, 128, .inl (fun _ => 0))), (q_4, .inl (cI, 128, .inl (fun _ => 0))), (q_5, .inl (cI, 2560, .inl (fun _ => 0))), (q_6, .inl (cI, 2560, .inl (fun _ => 0))), (q_7, .inl (cI, 2560, .inl (fun _ => 0)))]) 0 17 hin10 tyX10 tyX10_ok nmX10 rfl rfl (by decide) (C.ts _ (List.mem_cons_of_mem _ lf_RX10_36)) rfl rfl rfl (by decide +kernel) rfl rfl (Nat.le_of_ble_eq_true rfl) rfl dX10_init_72 ?_
  refine kv_aload_n C 0 dX10_init_75 rfl rfl ?_
  refine kv_iconst C 5 dX10_init_76 (by decide) ?_
  refine kv_newa C (atype := .int) (C.ts _ (List.mem_cons_of_mem _ lar_int)) 0 rfl (5, .inl (fun _ => 0)) (fun _ => rfl) (by decide) (by decide) (by decide) (Nat.le_of_ble_eq_true rfl) (Nat.le_of_ble_eq_true rfl) dX10_init_77 (fun q_8 => ?_)
  refine kv_putF C hini (Cn := RX10) (T := TX10) (N := 31) (ty := (.array .int)) (ws1 := [(h0, .inr (9, [.int 0, .ref q_1, .int 0, .int 0, .int (-1), .int 0, .int 0, .ref q_2, .int 0, .ref q_3, .int 0, .int 0, .int (-1), .ref q_4, .int 0, .ref q_5, .ref q_6, .ref q_7, .ref q_8, .int 0, .int 0, .int 0, .null, .null, .int 0, .null, .int 0, .int 0, .int 0, .int 0, .int 0])), (q_1, .inl (cI, 64, .inl (fun _ => 0))), (q_2, .inl (cI, 71070, .inl (fun _ => 0))), (q_3, .inl (cI, 128, .inl (fun _ => 0))), (q_4, .inl (cI, 128, .inl (fun _ => 0))), (q_5, .inl (cI, 2560, .inl (fun _ => 0))), (q_6, .inl (cI, 2560, .inl (fun _ => 0))), (q_7, .inl (cI, 2560, .inl (fun _ => 0))), (q_8, .inl (cI, 5, .inl (fun _ => 0)))]) 0 18 hin10 tyX10 tyX10_ok nmX10 rfl rfl (by decide) (C.ts _ (List.mem_cons_of_mem _ lf_RX10_39)) rfl rfl rfl (by decide +kernel) rfl rfl (Nat.le_of_ble_eq_true rfl) rfl dX10_init_79 ?_
  refine kv_aload_n C 0 dX10_init_82 rfl rfl ?_
  refine kv_iconst C (-1) dX10_init_83 (by decide) ?_
  refine kv_put C (Cn := RX10) (T := TX10) (N := 31) (ty := .int) (ws1 := [(h0, .inr (9, [.int 0, .ref q_1, .int 0, .int 0, .int (-1), .int 0, .int 0, .ref q_2, .int 0, .ref q_3, .int 0, .int 0, .int (-1), .ref q_4, .int 0, .ref q_5, .ref q_6, .ref q_7, .ref q_8, .int (-1), .int 0, .int 0, .null, .null, .int 0, .null, .int 0, .int 0, .int 0, .int 0, .int 0])), (q_1, .inl (cI, 64, .inl (fun _ => 0))), (q_2, .inl (cI, 71070, .inl (fun _ => 0))), (q_3, .inl (cI, 128, .inl (fun _ => 0))), (q_4, .inl (cI, 128, .inl (fun _ => 0))), (q_5, .inl (cI, 2560, .inl (fun _ => 0))), (q_6, .inl (cI, 2560, .inl (fun _ => 0))), (q_7, .inl (cI, 2560, .inl (fun _ => 0))), (q_8, .inl (cI, 5, .inl (fun _ => 0)))]) 0 19 hin10 tyX10 tyX10_ok nmX10 rfl rfl (by decide) (C.ts _ (List.mem_cons_of_mem _ lf_RX10_42)) rfl rfl (by decide +kernel) rfl rfl (Nat.le_of_ble_eq_true rfl) rfl dX10_init_84 ?_
  refine kv_aload_n C 0 dX10_init_87 rfl rfl ?_
  refine kv_iconst C (-1) dX10_init_88 (by decide) ?_
  refine kv_put C (Cn := RX10) (T := TX10) (N := 31) (ty := .int) (ws1 := [(h0, .inr (9, [.int 0, .ref q_1, .int 0, .int 0, .int (-1), .int 0, .int 0, .ref q_2, .int 0, .ref q_3, .int 0, .int 0, .int (-1), .ref q_4, .int 0, .ref q_5, .ref q_6, .ref q_7, .ref q_8, .int (-1), .int (-1), .int 0, .null, .null, .int 0, .null, .int 0, .int 0, .int 0, .int 0, .int 0])), (q_1, .inl (cI, 64, .inl (fun _ => 0))), (q_2, .inl (cI, 71070, .inl (fun _ => 0))), (q_3, .inl (cI, 128, .inl (fun _ => 0))), (q_4, .inl (cI, 128, .inl (fun _ => 0))), (q_5, .inl (cI, 2560, .inl (fun _ => 0))), (q_6, .inl (cI, 2560, .inl (fun _ => 0))), (q_7, .inl (cI, 2560, .inl (fun _ => 0))), (q_8, .inl (cI, 5, .inl (fun _ => 0)))]) 0 20 hin10 tyX10 tyX10_ok nmX10 rfl rfl (by decide) (C.ts _ (List.mem_cons_of_mem _ lf_RX10_45)) rfl rfl (by decide +kernel) rfl rfl (Nat.le_of_ble_eq_true rfl) rfl dX10_init_89 ?_
  refine kv_aload_n C 0 dX10_init_92 rfl rfl ?_
  refine kv_iconst C (-1) dX10_init_93 (by decide) ?_
  refine kv_put C (Cn := RX10) (T := TX10) (N := 31) (ty := .int) (ws1 := [(h0, .inr (9, [.int 0, .ref q_1, .int 0, .int 0, .int (-1), .int 0, .int 0, .ref q_2, .int 0, .ref q_3, .int 0, .int 0, .int (-1), .ref q_4, .int 0, .ref q_5, .ref q_6, .ref q_7, .ref q_8, .int (-1), .int (-1), .int (-1), .null, .null, .int 0, .null, .int 0, .int 0, .int 0, .int 0, .int 0])), (q_1, .inl (cI, 64, .inl (fun _ => 0))), (q_2, .inl (cI, 71070, .inl (fun _ => 0))), (q_3, .inl (cI, 128, .inl (fun _ => 0))), (q_4, .inl (cI, 128, .inl (fun _ => 0))), (q_5, .inl (cI, 2560, .inl (fun _ => 0))), (q_6, .inl (cI, 2560, .inl (fun _ => 0))), (q_7, .inl (cI, 2560, .inl (fun _ => 0))), (q_8, .inl (cI, 5, .inl (fun _ => 0)))]) 0 21 hin10 tyX10 tyX10_ok nmX10 rfl rfl (by decide) (C.ts _ (List.mem_cons_of_mem _ lf_RX10_48)) rfl rfl (by decide +kernel) rfl rfl (Nat.le_of_ble_eq_true rfl) rfl dX10_init_94 ?_
  refine kv_aload_n C 0 dX10_init_97 rfl rfl ?_
  refine kv_iconst C 4 dX10_init_98 (by decide) ?_
  refine kv_newa C (atype := .int) (C.ts _ (List.mem_cons_of_mem _ lar_int)) 0 rfl (4, .inl (fun _ => 0)) (fun _ => rfl) (by decide) (by decide) (by decide) (Nat.le_of_ble_eq_true rfl) (Nat.le_of_ble_eq_true rfl) dX10_init_99 (fun q_9 => ?_)
  refine kv_putF C hini (Cn := RX10) (T := TX10) (N := 31) (ty := (.array .int)) (ws1 := [(h0, .inr (9, [.int 0, .ref q_1, .int 0, .int 0, .int (-1), .int 0, .int 0, .ref q_2, .int 0, .ref q_3, .int 0, .int 0, .int (-1), .ref q_4, .int 0, .ref q_5, .ref q_6, .ref q_7, .ref q_8, .int (-1), .int (-1), .int (-1), .ref q_9, .null, .int 0, .null, .int 0, .int 0, .int 0, .int 0, .int 0])), (q_1, .inl (cI, 64, .inl (fun _ => 0))), (q_2, .inl (cI, 71070, .inl (fun _ => 0))), (q_3, .inl (cI, 128, .inl (fun _ => 0))), (q_4, .inl (cI, 128, .inl (fun _ => 0))), (q_5, .inl (cI, 2560, .inl (fun _ => 0))), (q_6, .inl (cI, 2560, .inl (fun _ => 0))), (q_7, .inl (cI, 2560, .inl (fun _ => 0))), (q_8, .inl (cI, 5, .inl (fun _ => 0))), (q_9, .inl (cI, 4, .inl (fun _ => 0)))]) 0 22 hin10 tyX10 tyX10_ok nmX10 rfl rfl (by decide) (C.ts _ (List.mem_cons_of_mem _ lf_RX10_51)) rfl rfl rfl (by decide +kernel) rfl rfl (Nat.le_of_ble_eq_true rfl) rfl dX10_init_101 ?_
  refine kv_aload_n C 0 dX10_init_104 rfl rfl ?_
  refine kv_iconst C 4 dX10_init_105 (by decide) ?_
  refine kv_newa C (atype := .int) (C.ts _ (List.mem_cons_of_mem _ lar_int)) 0 rfl (4, .inl (fun _ => 0)) (fun _ => rfl) (by decide) (by decide) (by decide) (Nat.le_of_ble_eq_true rfl) (Nat.le_of_ble_eq_true rfl) dX10_init_106 (fun q_10 => ?_)
  refine kv_putF C hini (Cn := RX10) (T := TX10) (N := 31) (ty := (.array .int)) (ws1 := [(h0, .inr (9, [.int 0, .ref q_1, .int 0, .int 0, .int (-1), .int 0, .int 0, .ref q_2, .int 0, .ref q_3, .int 0, .int 0, .int (-1), .ref q_4, .int 0, .ref q_5, .ref q_6, .ref q_7, .ref q_8, .int (-1), .int (-1), .int (-1), .ref q_9, .ref q_10, .int 0, .null, .int 0, .int 0, .int 0, .int 0, .int 0])), (q_1, .inl (cI, 64, .inl (fun _ => 0))), (q_2, .inl (cI, 71070, .inl (fun _ => 0))), (q_3, .inl (cI, 128, .inl (fun _ => 0))), (q_4, .inl (cI, 128, .inl (fun _ => 0))), (q_5, .inl (cI, 2560, .inl (fun _ => 0))), (q_6, .inl (cI, 2560, .inl (fun _ => 0))), (q_7, .inl (cI, 2560, .inl (fun _ => 0))), (q_8, .inl (cI, 5, .inl (fun _ => 0))), (q_9, .inl (cI, 4, .inl (fun _ => 0))), (q_10, .inl (cI, 4, .inl (fun _ => 0)))]) 0 23 hin10 tyX10 tyX10_ok nmX10 rfl rfl (by decide) (C.ts _ (List.mem_cons_of_mem _ lf_RX10_54)) rfl rfl rfl (by decide +kernel) rfl rfl (Nat.le_of_ble_eq_true rfl) rfl dX10_init_108 ?_
  refine kv_aload_n C 0 dX10_init_111 rfl rfl ?_
  refine kv_bipush C 64 dX10_init_112 (by decide) ?_
  refine kv_newa C (atype := .int) (C.ts _ (List.mem_cons_of_mem _ lar_int)) 0 rfl (64, .inl (fun _ => 0)) (fun _ => rfl) (by decide) (by decide) (by decide) (Nat.le_of_ble_eq_true rfl) (Nat.le_of_ble_eq_true rfl) dX10_init_114 (fun q_11 => ?_)
  refine kv_putF C hini (Cn := RX10) (T := TX10) (N := 31) (ty := (.array .int)) (ws1 := [(h0, .inr (9, [.int 0, .ref q_1, .int 0, .int 0, .int (-1), .int 0, .int 0, .ref q_2, .int 0, .ref q_3, .int 0, .int 0, .int (-1), .ref q_4, .int 0, .ref q_5, .ref q_6, .ref q_7, .ref q_8, .int (-1), .int (-1), .int (-1), .ref q_9, .ref q_10, .int 0, .ref q_11, .int 0, .int 0, .int 0, .int 0, .int 0])), (q_1, .inl (cI, 64, .inl (fun _ => 0))), (q_2, .inl (cI, 71070, .inl (fun _ => 0))), (q_3, .inl (cI, 128, .inl (fun _ => 0))), (q_4, .inl (cI, 128, .inl (fun _ => 0))), (q_5, .inl (cI, 2560, .inl (fun _ => 0))), (q_6, .inl (cI, 2560, .inl (fun _ => 0))), (q_7, .inl (cI, 2560, .inl (fun _ => 0))), (q_8, .inl (cI, 5, .inl (fun _ => 0))), (q_9, .inl (cI, 4, .inl (fun _ => 0))), (q_10, .inl (cI, 4, .inl (fun _ => 0))), (q_11, .inl (cI, 64, .inl (fun _ => 0)))]) 0 25 hin10 tyX10 tyX10_ok nmX10 rfl rfl (by decide) (C.ts _ (List.mem_cons_of_mem _ lf_RX10_57)) rfl rfl rfl (by decide +kernel) rfl rfl (Nat.le_of_ble_eq_true rfl) rfl dX10_init_116 ?_
  obtain ⟨q, e0, e1, e7, e9, e13, e15, e16, e17, e18, e22, e23, e25⟩ : ∃ q : Nat → Nat, q 0 = h0 ∧ q 1 = q_1 ∧ q 7 = q_2 ∧ q 9 = q_3 ∧ q 13 = q_4 ∧ q 15 = q_5 ∧ q 16 = q_6 ∧ q 17 = q_7 ∧ q 18 = q_8 ∧ q 22 = q_9 ∧ q 23 = q_10 ∧ q 25 = q_11 := ⟨fun k => match k with | 0 => h0 | 1 => q_1 | 7 => q_2 | 9 => q_3 | 13 => q_4 | 15 => q_5 | 16 => q_6 | 17 => q_7 | 18 => q_8 | 22 => q_9 | 23 => q_10 | _ => q_11, rfl, rfl, rfl, rfl, rfl, rfl, rfl, rfl, rfl, rfl, rfl, rfl⟩
  subst e0
  subst e1
  subst e7
  subst e9
  subst e13
  subst e15
  subst e16
  subst e17
  subst e18
  subst e22
  subst e23
  subst e25
  show kv p l e rm_X10_init s m ([.ref (q 0)] : List Value).toArray below meth c D A 3 11 79147 Q (wM (q 0) q cI 0 0 0 (-1) 0 0 0 0 0 (-1) 0 (-1) (-1) (-1) 0 0 0 0 0 0 (fun _ => 0) (fun _ => 0) (fun _ => 0) (fun _ => 0) (fun _ => 0) (fun _ => 0) (fun _ => 0) (fun _ => 0) (fun _ => 0) (fun _ => 0) (fun _ => 0)) [(0, .ref (q 0))] 119 []
  have l121 : ∀ (n121 : Nat) (v_rights : Int32) (v_number : Int32) (a_board : Nat → Int32) (x1 : Int32), m_X10_init_l121   n121 v_rights v_number a_board x1 = some (v_rights', v_number', a_board') → kv p l e rm_X10_init s m ([.ref (q 0)] : List Value).toArray below meth c D A 3 11 79147 Q (wM (q 0) q cI 0 0 v_rights (-1) 0 v_number 0 0 0 (-1) 0 (-1) (-1) (-1) 0 0 0 0 0 0 a_board (fun _ => 0) (fun _ => 0) (fun _ => 0) (fun _ => 0) (fun _ => 0) (fun _ => 0) (fun _ => 0) (fun _ => 0) (fun _ => 0) (fun _ => 0)) [(0, .ref (q 0)), (1, .int x1)] 121 [] := by
    intro n121
    induction n121 with
    | zero =>
      intro v_rights v_number a_board x1 h
      exact kv_no h
    | succ n121 ih121 =>
      have j181 : ∀ (v_rights : Int32) (v_number : Int32) (a_board : Nat → Int32) (x1 : Int32) (t0 : Int32), m_X10_init_b181 (m_X10_init_l121   n121) v_rights v_number a_board x1 t0 = some (v_rights', v_number', a_board') → kv p l e rm_X10_init s m ([.ref (q 0)] : List Value).toArray below meth c D A 3 11 79147 Q (wM (q 0) q cI 0 0 v_rights (-1) 0 v_number 0 0 0 (-1) 0 (-1) (-1) (-1) 0 0 0 0 0 0 a_board (fun _ => 0) (fun _ => 0) (fun _ => 0) (fun _ => 0) (fun _ => 0) (fun _ => 0) (fun _ => 0) (fun _ => 0) (fun _ => 0) (fun _ => 0)) [(0, .ref (q 0)), (1, .int x1)] 181 [.int t0] := by
        intro v_rights v_number a_board x1 t0 h
        unfold m_X10_init_b181 at h
        refine kv_istore_n C (lv2 := [(0, .ref (q 0)), (1, .int x1), (2, .int t0)]) [1, 2, 0] dX10_init_181 rfl (by decide) rfl rfl ?_
        refine kv_aload_n C 0 dX10_init_182 rfl rfl ?_
        refine kv_get C (Cn := RX10) (T := TX10) (N := 31) 0 1 hin10 rfl rfl (by decide) (C.ts _ (List.mem_cons_of_mem _ lf_RX10_7)) rfl rfl dX10_init_183 ?_
        refine kv_iload_n C 1 dX10_init_186 rfl rfl ?_
        refine kv_iload_n C 2 dX10_init_187 rfl rfl ?_
        obtain ⟨g_12, h⟩ := oin_e h
        obtain ⟨a_board_13, ea_board_13, h⟩ := ol_e h
        refine kv_iast2 C (ws1 := (wM (q 0) q cI 0 0 v_rights (-1) 0 v_number 0 0 0 (-1) 0 (-1) (-1) (-1) 0 0 0 0 0 0 a_board_13 (fun _ => 0) (fun _ => 0) (fun _ => 0) (fun _ => 0) (fun _ => 0) (fun _ => 0) (fun _ => 0) (fun _ => 0) (fun _ => 0) (fun _ => 0))) 1 0 rfl rfl g_12 ea_board_13 rfl dX10_init_188 ?_
        refine kv_aload_n C 0 dX10_init_189 rfl rfl ?_
        refine kv_get C (Cn := RX10) (T := TX10) (N := 31) 0 1 hin10 rfl rfl (by decide) (C.ts _ (List.mem_cons_of_mem _ lf_RX10_7)) rfl rfl dX10_init_190 ?_
        refine kv_bipush C 8 dX10_init_193 (by decide) ?_
        refine kv_iload_n C 1 dX10_init_195 rfl rfl ?_
        refine kv_iadd C dX10_init_196 ?_
        refine kv_iconst C 1 dX10_init_197 (by decide) ?_
        obtain ⟨g_14, h⟩ := oin_e h
        obtain ⟨a_board_15, ea_board_15, h⟩ := ol_e h
        refine kv_iast2 C (ws1 := (wM (q 0) q cI 0 0 v_rights (-1) 0 v_number 0 0 0 (-1) 0 (-1) (-1) (-1) 0 0 0 0 0 0 a_board_15 (fun _ => 0) (fun _ => 0) (fun _ => 0) (fun _ => 0) (fun _ => 0) (fun _ => 0) (fun _ => 0) (fun _ => 0) (fun _ => 0) (fun _ => 0))) 1 0 rfl rfl g_14 ea_board_15 rfl dX10_init_198 ?_
        refine kv_aload_n C 0 dX10_init_199 rfl rfl ?_
        refine kv_get C (Cn := RX10) (T := TX10) (N := 31) 0 1 hin10 rfl rfl (by decide) (C.ts _ (List.mem_cons_of_mem _ lf_RX10_7)) rfl rfl dX10_init_200 ?_
        refine kv_bipush C 48 dX10_init_203 (by decide) ?_
        refine kv_iload_n C 1 dX10_init_205 rfl rfl ?_
        refine kv_iadd C dX10_init_206 ?_
        refine kv_iconst C (-1) dX10_init_207 (by decide) ?_
        obtain ⟨g_16, h⟩ := oin_e h
        obtain ⟨a_board_17, ea_board_17, h⟩ := ol_e h
        refine kv_iast2 C (ws1 := (wM (q 0) q cI 0 0 v_rights (-1) 0 v_number 0 0 0 (-1) 0 (-1) (-1) (-1) 0 0 0 0 0 0 a_board_17 (fun _ => 0) (fun _ => 0) (fun _ => 0) (fun _ => 0) (fun _ => 0) (fun _ => 0) (fun _ => 0) (fun _ => 0) (fun _ => 0) (fun _ => 0))) 1 0 rfl rfl g_16 ea_board_17 rfl dX10_init_208 ?_
        refine kv_aload_n C 0 dX10_init_209 rfl rfl ?_
        refine kv_get C (Cn := RX10) (T := TX10) (N := 31) 0 1 hin10 rfl rfl (by decide) (C.ts _ (List.mem_cons_of_mem _ lf_RX10_7)) rfl rfl dX10_init_210 ?_
        refine kv_bipush C 56 dX10_init_213 (by decide) ?_
        refine kv_iload_n C 1 dX10_init_215 rfl rfl ?_
        refine kv_iadd C dX10_init_216 ?_
        refine kv_iload_n C 2 dX10_init_217 rfl rfl ?_
        refine kv_ineg C dX10_init_218 ?_
        obtain ⟨y_18, ey_18, h⟩ := ol_e h
        refine kv_top ey_18 ?_
        obtain ⟨g_19, h⟩ := oin_e h
        obtain ⟨a_board_20, ea_board_20, h⟩ := ol_e h
        refine kv_iast2 C (ws1 := (wM (q 0) q cI 0 0 v_rights (-1) 0 v_number 0 0 0 (-1) 0 (-1) (-1) (-1) 0 0 0 0 0 0 a_board_20 (fun _ => 0) (fun _ => 0) (fun _ => 0) (fun _ => 0) (fun _ => 0) (fun _ => 0) (fun _ => 0) (fun _ => 0) (fun _ => 0) (fun _ => 0))) 1 0 rfl rfl g_19 ea_board_20 rfl dX10_init_219 ?_
        obtain ⟨x1_21, ex1_21, h⟩ := ol_e h
        refine kv_iinc C (v := x1_21) (lv2 := [(0, .ref (q 0)), (1, .int x1_21)]) 1 [1, 0] dX10_init_220 rfl ex1_21.symm (by decide) rfl rfl ?_
        refine kv_goto C 121 dX10_init_223 (by decide) ?_
        exact kv_lv [0, 1] (lv2 := [(0, .ref (q 0)), (1, .int x1_21)]) rfl (ih121 v_rights v_number a_board_20 x1_21 h)
      have j166 : ∀ (v_rights : Int32) (v_number : Int32) (a_board : Nat → Int32) (x1 : Int32), m_X10_init_b166 (m_X10_init_l121   n121) v_rights v_number a_board x1 = some (v_rights', v_number', a_board') → kv p l e rm_X10_init s m ([.ref (q 0)] : List Value).toArray below meth c D A 3 11 79147 Q (wM (q 0) q cI 0 0 v_rights (-1) 0 v_number 0 0 0 (-1) 0 (-1) (-1) (-1) 0 0 0 0 0 0 a_board (fun _ => 0) (fun _ => 0) (fun _ => 0) (fun _ => 0) (fun _ => 0) (fun _ => 0) (fun _ => 0) (fun _ => 0) (fun _ => 0) (fun _ => 0)) [(0, .ref (q 0)), (1, .int x1)] 166 [] := by
        intro v_rights v_number a_board x1 h
        unfold m_X10_init_b166 at h
        refine kv_iconst C 3 dX10_init_166 (by decide) ?_
        refine kv_goto C 181 dX10_init_167 (by decide) ?_
        exact kv_lv [0, 1] (lv2 := [(0, .ref (q 0)), (1, .int x1)]) rfl (j181 v_rights v_number a_board x1 3 h)
      have j152 : ∀ (v_rights : Int32) (v_number : Int32) (a_board : Nat → Int32) (x1 : Int32), m_X10_init_b152 (m_X10_init_l121   n121) v_rights v_number a_board x1 = some (v_rights', v_number', a_board') → kv p l e rm_X10_init s m ([.ref (q 0)] : List Value).toArray below meth c D A 3 11 79147 Q (wM (q 0) q cI 0 0 v_rights (-1) 0 v_number 0 0 0 (-1) 0 (-1) (-1) (-1) 0 0 0 0 0 0 a_board (fun _ => 0) (fun _ => 0) (fun _ => 0) (fun _ => 0) (fun _ => 0) (fun _ => 0) (fun _ => 0) (fun _ => 0) (fun _ => 0) (fun _ => 0)) [(0, .ref (q 0)), (1, .int x1)] 152 [] := by
        intro v_rights v_number a_board x1 h
        unfold m_X10_init_b152 at h
        refine kv_iconst C 2 dX10_init_152 (by decide) ?_
        refine kv_goto C 181 dX10_init_153 (by decide) ?_
        exact kv_lv [0, 1] (lv2 := [(0, .ref (q 0)), (1, .int x1)]) rfl (j181 v_rights v_number a_board x1 2 h)
      have j137 : ∀ (v_rights : Int32) (v_number : Int32) (a_board : Nat → Int32) (x1 : Int32), m_X10_init_b137 (m_X10_init_l121   n121) v_rights v_number a_board x1 = some (v_rights', v_number', a_board') → kv p l e rm_X10_init s m ([.ref (q 0)] : List Value).toArray below meth c D A 3 11 79147 Q (wM (q 0) q cI 0 0 v_rights (-1) 0 v_number 0 0 0 (-1) 0 (-1) (-1) (-1) 0 0 0 0 0 0 a_board (fun _ => 0) (fun _ => 0) (fun _ => 0) (fun _ => 0) (fun _ => 0) (fun _ => 0) (fun _ => 0) (fun _ => 0) (fun _ => 0) (fun _ => 0)) [(0, .ref (q 0)), (1, .int x1)] 137 [] := by
        intro v_rights v_number a_board x1 h
        unfold m_X10_init_b137 at h
        refine kv_iconst C 4 dX10_init_137 (by decide) ?_
        refine kv_goto C 181 dX10_init_138 (by decide) ?_
        exact kv_lv [0, 1] (lv2 := [(0, .ref (q 0)), (1, .int x1)]) rfl (j181 v_rights v_number a_board x1 4 h)
      intro v_rights v_number a_board x1 h
      replace h : m_X10_init_b121  (m_X10_init_l121   n121) v_rights v_number a_board x1 = some (v_rights', v_number', a_board') := h
      unfold m_X10_init_b121 at h
      refine kv_iload_n C 1 dX10_init_121 rfl rfl ?_
      refine kv_bipush C 8 dX10_init_122 (by decide) ?_
      refine kv_icmp_ge C 226 dX10_init_124 (by decide) (fun c_22 => ?_) (fun c_22 => ?_)
      · have h := oi_t h c_22
        refine kv_aload_n C 0 dX10_init_226 rfl rfl ?_
        refine kv_bipush C 15 dX10_init_227 (by decide) ?_
        refine kv_put C (Cn := RX10) (T := TX10) (N := 31) (ty := .int) (ws1 := (wM (q 0) q cI 0 0 15 (-1) 0 v_number 0 0 0 (-1) 0 (-1) (-1) (-1) 0 0 0 0 0 0 a_board (fun _ => 0) (fun _ => 0) (fun _ => 0) (fun _ => 0) (fun _ => 0) (fun _ => 0) (fun _ => 0) (fun _ => 0) (fun _ => 0) (fun _ => 0))) 0 3 hin10 tyX10 tyX10_ok nmX10 rfl rfl (by decide) (C.ts _ (List.mem_cons_of_mem _ lf_RX10_60)) rfl rfl (by decide +kernel) rfl rfl (Nat.le_of_ble_eq_true rfl) rfl dX10_init_229 ?_
        refine kv_aload_n C 0 dX10_init_232 rfl rfl ?_
        refine kv_iconst C 1 dX10_init_233 (by decide) ?_
        refine kv_put C (Cn := RX10) (T := TX10) (N := 31) (ty := .int) (ws1 := (wM (q 0) q cI 0 0 15 (-1) 0 1 0 0 0 (-1) 0 (-1) (-1) (-1) 0 0 0 0 0 0 a_board (fun _ => 0) (fun _ => 0) (fun _ => 0) (fun _ => 0) (fun _ => 0) (fun _ => 0) (fun _ => 0) (fun _ => 0) (fun _ => 0) (fun _ => 0))) 0 6 hin10 tyX10 tyX10_ok nmX10 rfl rfl (by decide) (C.ts _ (List.mem_cons_of_mem _ lf_RX10_63)) rfl rfl (by decide +kernel) rfl rfl (Nat.le_of_ble_eq_true rfl) rfl dX10_init_234 ?_
        cases h
        exact hret q cI _ _ rfl C.k dX10_init_237
      · have h := oi_f h c_22
        refine kv_iload_n C 1 dX10_init_127 rfl rfl ?_
        refine kv_if_eq C 137 dX10_init_128 (by decide) (fun c_23 => ?_) (fun c_23 => ?_)
        · have h := oi_t h c_23
          exact kv_lv [0, 1] (lv2 := [(0, .ref (q 0)), (1, .int x1)]) rfl (j137 v_rights v_number a_board x1 h)
        · have h := oi_f h c_23
          refine kv_iload_n C 1 dX10_init_131 rfl rfl ?_
          refine kv_bipush C 7 dX10_init_132 (by decide) ?_
          refine kv_icmp_ne C 141 dX10_init_134 (by decide) (fun c_24 => ?_) (fun c_24 => ?_)
          · have h := oi_f h c_24
            refine kv_iload_n C 1 dX10_init_141 rfl rfl ?_
            refine kv_iconst C 1 dX10_init_142 (by decide) ?_
            refine kv_icmp_eq C 152 dX10_init_143 (by decide) (fun c_25 => ?_) (fun c_25 => ?_)
            · have h := oi_t h c_25
              exact kv_lv [0, 1] (lv2 := [(0, .ref (q 0)), (1, .int x1)]) rfl (j152 v_rights v_number a_board x1 h)
            · have h := oi_f h c_25
              refine kv_iload_n C 1 dX10_init_146 rfl rfl ?_
              refine kv_bipush C 6 dX10_init_147 (by decide) ?_
              refine kv_icmp_ne C 156 dX10_init_149 (by decide) (fun c_26 => ?_) (fun c_26 => ?_)
              · have h := oi_f h c_26
                refine kv_iload_n C 1 dX10_init_156 rfl rfl ?_
                refine kv_iconst C 2 dX10_init_157 (by decide) ?_
                refine kv_icmp_eq C 166 dX10_init_158 (by decide) (fun c_27 => ?_) (fun c_27 => ?_)
                · have h := oi_t h c_27
                  exact kv_lv [0, 1] (lv2 := [(0, .ref (q 0)), (1, .int x1)]) rfl (j166 v_rights v_number a_board x1 h)
                · have h := oi_f h c_27
                  refine kv_iload_n C 1 dX10_init_161 rfl rfl ?_
                  refine kv_iconst C 5 dX10_init_162 (by decide) ?_
                  refine kv_icmp_ne C 170 dX10_init_163 (by decide) (fun c_28 => ?_) (fun c_28 => ?_)
                  · have h := oi_f h c_28
                    refine kv_iload_n C 1 dX10_init_170 rfl rfl ?_
                    refine kv_iconst C 3 dX10_init_171 (by decide) ?_
                    refine kv_icmp_ne C 179 dX10_init_172 (by decide) (fun c_29 => ?_) (fun c_29 => ?_)
                    · have h := oi_f h c_29
                      refine kv_bipush C 6 dX10_init_179 (by decide) ?_
                      exact kv_lv [0, 1] (lv2 := [(0, .ref (q 0)), (1, .int x1)]) rfl (j181 v_rights v_number a_board x1 6 h)
                    · have h := oi_t h c_29
                      refine kv_iconst C 5 dX10_init_175 (by decide) ?_
                      refine kv_goto C 181 dX10_init_176 (by decide) ?_
                      exact kv_lv [0, 1] (lv2 := [(0, .ref (q 0)), (1, .int x1)]) rfl (j181 v_rights v_number a_board x1 5 h)
                  · have h := oi_t h c_28
                    exact kv_lv [0, 1] (lv2 := [(0, .ref (q 0)), (1, .int x1)]) rfl (j166 v_rights v_number a_board x1 h)
              · have h := oi_t h c_26
                exact kv_lv [0, 1] (lv2 := [(0, .ref (q 0)), (1, .int x1)]) rfl (j152 v_rights v_number a_board x1 h)
          · have h := oi_t h c_24
            exact kv_lv [0, 1] (lv2 := [(0, .ref (q 0)), (1, .int x1)]) rfl (j137 v_rights v_number a_board x1 h)
  have h := hm
  unfold m_X10_init at h
  refine kv_iconst C 0 dX10_init_119 (by decide) ?_
  refine kv_istore_n C (lv2 := [(0, .ref (q 0)), (1, .int 0)]) [1, 0] dX10_init_120 rfl (by decide) rfl rfl ?_
  exact kv_lv [0, 1] (lv2 := [(0, .ref (q 0)), (1, .int 0)]) rfl (l121 kF 0 0 (fun _ => 0) 0 h)
