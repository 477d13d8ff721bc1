/-! Both type characters alike. -/
def byN (x : Int64) (k : Nat) : Nat := x.toBitVec.toNat / 2 ^ (8 * k) % 256
theorem byN_lt (x : Int64) (k : Nat) : byN x k < 256 := Nat.mod_lt _ (by decide)
theorem b255 : ∀ i, i < 32 → (255 : BitVec 32).getLsbD i = decide (i < 8) := by decide
theorem by_ref (x : Int64) {k : Nat} (hk : k < 8) : ((x >>> ((8 * nI k).toInt64 &&& 63)).toInt32) &&& 255 = nI (byN x k) := by
  have e8 : (8 : Int32) * nI k = nI (8 * k) := pk_mul 8 k
  rw [e8, sh_amt (by omega)]
  apply Int32.toBitVec_inj.mp
  have e1 : (x >>> lN (8 * k)).toInt32.toBitVec = (x >>> lN (8 * k)).toBitVec.setWidth 32 := by
    rw [Int64.toBitVec_toInt32]
    exact BitVec.signExtend_eq_setWidth_of_le _ (by decide)
  have e2 : (x >>> lN (8 * k)).toBitVec = x.toBitVec.sshiftRight (8 * k) := by
    rw [Int64.toBitVec_shiftRight, BitVec.sshiftRight_eq', sh_smod (by omega)]
  have e3 : (nI (byN x k)).toBitVec = BitVec.ofNat 32 (byN x k) := rfl
  have e4 : (255 : Int32).toBitVec = (255 : BitVec 32) := rfl
  rw [Int32.toBitVec_and, e1, e2, e3, e4]
  apply BitVec.eq_of_getLsbD_eq
  intro i hi
  rw [BitVec.getLsbD_and, BitVec.getLsbD_setWidth, BitVec.getLsbD_sshiftRight, b255 i hi, BitVec.getLsbD_ofNat]
  unfold byN
  have e5 : (256 : Nat) = 2 ^ 8 := rfl
  rw [e5, Nat.testBit_mod_two_pow, Nat.testBit_div_two_pow]
  by_cases q : i < 8
  · have q1 : i < 32 := hi
    have q2 : ¬ 64 ≤ i := by omega
    have q3 : 8 * k + i < 64 := by omega
    simp only [q, q1, q2, q3, decide_true, decide_false, Bool.not_false, Bool.true_and, Bool.and_true, if_true]
    rw [Nat.add_comm]
    rfl
  · simp [q]
theorem by_cls (x : Int64) {k : Nat} (hk : k < 8) : m_X5_byteOf x (nI k) = some (nI (byN x k)) := by
  unfold m_X5_byteOf
  have e8 : (8 : Int32) * nI k = nI (8 * k) := pk_mul 8 k
  rw [e8]
  congr 1
  apply Int32.toBitVec_inj.mp
  apply BitVec.eq_of_toNat_eq
  have e3 : (nI (byN x k)).toBitVec.toNat = byN x k := by
    show (BitVec.ofNat 32 (byN x k)).toNat = byN x k
    have := byN_lt x k
    rw [BitVec.toNat_ofNat]
    omega
  have e4 : (255 : Int64).toBitVec.toNat = 255 := rfl
  rw [l2i_tn, and_tn, us_tn x (by omega), e3, e4]
  have := Nat.and_two_pow_sub_one_eq_mod (x.toBitVec.toNat / 2 ^ (8 * k)) 8
  simp at this
  rw [this]
  have := byN_lt x k
  unfold byN at this ⊢
  omega
/-- the first n characters may be typed -/
def okC (x : Int64) (k : Nat) : Bool := decide (32 ≤ byN x k) && decide (byN x k ≤ 126)
theorem cbt_l {x : Int64} {n : Nat} (hn : n ≤ 8) : ∀ (f m k : Nat), k + f = n → allB (okC x) k = true → m_X5_canBeTyped_l2 (m + f + 1) x (nI n) (nI k) = some (bI (allB (okC x) n)) := by
  intro f
  induction f with
  | zero =>
    intro m k hk h
    have : k = n := by omega
    subst this
    rw [m_X5_canBeTyped_l2_s]
    unfold m_X5_canBeTyped_b2
    rw [if_pos (nI_le (by omega) (by omega)), h]
    rfl
  | succ f ih =>
    intro m k hk h
    rw [show m + (f + 1) + 1 = m + f + 1 + 1 from rfl, m_X5_canBeTyped_l2_s]
    unfold m_X5_canBeTyped_b2 m_X5_canBeTyped_b28
    have hb := byN_lt x k
    have c1 : nI (byN x k) < 32 ↔ byN x k < 32 := nI_ltI (b := 32) (by omega) (by omega)
    have c2 : nI (byN x k) ≤ 126 ↔ byN x k ≤ 126 := nI_leI (b := 126) (by omega) (by omega)
    rw [if_neg (nI_ge (by omega) (by omega)), ob_s (by_cls x (by omega))]
    have no : okC x k = false → allB (okC x) n = false := by
      intro g
      cases e : allB (okC x) n with
      | false => rfl
      | true => rw [allB_iff.mp e k (by omega)] at g; cases g
    by_cases g1 : byN x k < 32
    · rw [if_pos (c1.mpr g1), no (by unfold okC; rw [decide_eq_false (show ¬ 32 ≤ byN x k by omega)]; rfl)]
      rfl
    · rw [if_neg (fun w => g1 (c1.mp w))]
      by_cases g2 : byN x k ≤ 126
      · rw [if_pos (c2.mpr g2), ol_r, nI_1]
        refine ih m (k + 1) (by omega) ?_
        show (allB (okC x) k && okC x k) = true
        rw [h]
        unfold okC
        rw [decide_eq_true (show 32 ≤ byN x k by omega), decide_eq_true g2]
        rfl
      · rw [if_neg (fun w => g2 (c2.mp w)), no (by unfold okC; rw [decide_eq_false g2, Bool.and_false])]
        rfl
theorem x5_canBeTyped {x : Int64} {n : Nat} (hn : n ≤ 8) : m_X5_canBeTyped x (nI n) = some (bI (allB (okC x) n)) := by
  have e : kF = kF - n - 1 + n + 1 := by unfold kF; omega
  unfold m_X5_canBeTyped
  rw [e]
  exact cbt_l hn n _ 0 (by omega) rfl
/-- characters put behind those that are typed -/
def adC (x : Int64) (ch : Nat → Nat) (len : Nat) : Nat → (Nat → Nat) := fun n i => if i < len then ch i else if i < len + n then byN x (i - len) else ch i
theorem add_l {x : Int64} {n len : Nat} (hn : n ≤ 8) (hl : len + n ≤ 128) : ∀ (f m k : Nat) (arr : Nat → Int32), k + f = n → m_X5_add_l3 (m + f + 1) (nI (len + k)) arr x (nI n) (nI k) = some (nI (len + n), nI (len + n), fun i => if len + k ≤ i ∧ i < len + n then nI (byN x (i - len)) else arr i) := by
  intro f
  induction f with
  | zero =>
    intro m k arr hk
    have : k = n := by omega
    subst this
    rw [m_X5_add_l3_s]
    unfold m_X5_add_b3
    rw [if_pos (nI_le (by omega) (by omega))]
    congr 3
    funext i
    rw [if_neg (by omega)]
  | succ f ih =>
    intro m k arr hk
    rw [show m + (f + 1) + 1 = m + f + 1 + 1 from rfl, m_X5_add_l3_s]
    unfold m_X5_add_b3
    have hb := byN_lt x k
    rw [if_neg (nI_ge (by omega) (by omega)), ob_s (by_cls x (by omega)), ol_r, ch_nar (by omega), vp_ch (by omega), oin_n (by omega) (by omega), nI_clamp (by omega), ol_r, ol_r, ol_r, nI_1, nI_1]
    refine (ih m (k + 1) _ (by omega)).trans ?_
    congr 3
    funext i
    by_cases q : i = len + k
    · subst q
      rw [if_neg (by omega), pk_us, if_pos (by omega), Nat.add_sub_cancel_left]
    · rw [pk_un q]
      by_cases g : len + (k + 1) ≤ i ∧ i < len + n
      · rw [if_pos g, if_pos (by omega)]
      · rw [if_neg g, if_neg (by omega)]
theorem x5_add {x : Int64} {n len : Nat} (hn : n ≤ 8) (hl : len + n ≤ 128) (arr : Nat → Int32) : m_X5_add (nI len) arr x (nI n) = some (nI (len + n), nI (len + n), fun i => if len ≤ i ∧ i < len + n then nI (byN x (i - len)) else arr i) := by
  have e : kF = kF - n - 1 + n + 1 := by unfold kF; omega
  unfold m_X5_add
  rw [e]
  exact add_l hn hl n _ 0 arr (by omega)
theorem rtype_l {x : Int64} {n len : Nat} (hn : n ≤ 8) (hl : len + n ≤ 128) (code : Int32) : ∀ (f m k : Nat) (arr : Nat → Int32), k + f = n → m_X10_type_l121 (m + f + 1) code (nI (len + k)) arr x (nI n) (nI k) = some (nI (len + n), code, nI (len + n), fun i => if len + k ≤ i ∧ i < len + n then nI (byN x (i - len)) else arr i) := by
  intro f
  induction f with
  | zero =>
    intro m k arr hk
    have : k = n := by omega
    subst this
    rw [m_X10_type_l121_s]
    unfold m_X10_type_b121
    rw [if_pos (nI_le (by omega) (by omega))]
    congr 4
    funext i
    rw [if_neg (by omega)]
  | succ f ih =>
    intro m k arr hk
    rw [show m + (f + 1) + 1 = m + f + 1 + 1 from rfl, m_X10_type_l121_s]
    unfold m_X10_type_b121
    rw [if_neg (nI_ge (by omega) (by omega)), by_ref x (by omega), ol_r, oin_n (by omega) (by omega), nI_clamp (by omega), ol_r, ol_r, ol_r, nI_1, nI_1]
    refine (ih m (k + 1) _ (by omega)).trans ?_
    congr 4
    funext i
    by_cases q : i = len + k
    · subst q
      rw [if_neg (by omega), pk_us, if_pos (by omega), Nat.add_sub_cancel_left]
    · rw [pk_un q]
      by_cases g : len + (k + 1) ≤ i ∧ i < len + n
      · rw [if_pos g, if_pos (by omega)]
      · rw [if_neg g, if_neg (by omega)]
/-- the end of the reference's first loop -/
theorem rt_end {x : Int64} {len n : Nat} (hl : len ≤ 128) (hn : n ≤ 8) (code : Int32) (arr : Nat → Int32) (b : Bool) : m_X10_type_b79 code (nI len) arr x (nI n) (bI b) = if b = true then (if len + n ≤ 128 then some (nI (len + n), 0, nI (len + n), fun i => if len ≤ i ∧ i < len + n then nI (byN x (i - len)) else arr i) else some (0, 2, nI len, arr)) else some (0, 1, nI len, arr) := by
  unfold m_X10_type_b79 m_X10_type_b106
  cases b with
  | false => rfl
  | true =>
    have c1 : nI (len + n) ≤ 128 ↔ len + n ≤ 128 := nI_leI (b := 128) (by omega) (by omega)
    rw [if_neg bI_tn, if_pos rfl, nI_add]
    by_cases g : len + n ≤ 128
    · rw [if_pos (c1.mpr g), if_pos (by decide), if_pos g]
      have e : kF = kF - n - 1 + n + 1 := by unfold kF; omega
      rw [e]
      exact rtype_l hn g 0 n _ 0 arr (by omega)
    · rw [if_neg (fun w => g (c1.mp w)), if_neg (by decide), if_neg g]
theorem rt_l {x : Int64} {len n : Nat} (hl : len ≤ 128) (hn : n ≤ 8) (code : Int32) (arr : Nat → Int32) : ∀ (f m k : Nat) (b : Bool), k + f = n → m_X10_type_l20 (m + f + 1) code (nI len) arr x (nI n) (bI (b && allB (okC x) k)) (nI k) = m_X10_type_b79 code (nI len) arr x (nI n) (bI (b && allB (okC x) n)) := by
  intro f
  induction f with
  | zero =>
    intro m k b hk
    have : k = n := by omega
    subst this
    rw [m_X10_type_l20_s]
    unfold m_X10_type_b20
    rw [if_pos (nI_le (by omega) (by omega))]
  | succ f ih =>
    intro m k b hk
    rw [show m + (f + 1) + 1 = m + f + 1 + 1 from rfl, m_X10_type_l20_s]
    unfold m_X10_type_b20 m_X10_type_b70 m_X10_type_b71
    have hb := byN_lt x k
    have c1 : nI (byN x k) ≤ 31 ↔ byN x k ≤ 31 := nI_leI (b := 31) (by omega) (by omega)
    have c2 : (127 : Int32) ≤ nI (byN x k) ↔ 127 ≤ byN x k := nI_leI (a := 127) (by omega) (by omega)
    rw [if_neg (nI_ge (by omega) (by omega)), if_neg (show ¬ (8 : Int32) ≤ nI k from nI_ge (b := 8) (by omega) (by omega)), by_ref x (by omega)]
    simp only [ol_r, nI_1, bI_if, c1, c2]
    have ih' := ih m (k + 1) b (by omega)
    have ea : allB (okC x) (k + 1) = (allB (okC x) k && okC x k) := rfl
    rw [ea, ← Bool.and_assoc] at ih'
    cases hA : (b && allB (okC x) k) with
    | false =>
      rw [hA, Bool.false_and] at ih'
      exact ih'
    | true =>
      rw [hA, Bool.true_and] at ih'
      simp only [if_true]
      by_cases g1 : byN x k ≤ 31
      · have : okC x k = false := by unfold okC; rw [decide_eq_false (show ¬ 32 ≤ byN x k by omega)]; rfl
        rw [this] at ih'
        rw [if_pos g1]
        exact ih'
      · rw [if_neg g1]
        by_cases g2 : 127 ≤ byN x k
        · have : okC x k = false := by unfold okC; rw [decide_eq_false (show ¬ byN x k ≤ 126 by omega), Bool.and_false]
          rw [this] at ih'
          rw [if_pos g2]
          exact ih'
        · have : okC x k = true := by unfold okC; rw [decide_eq_true (show 32 ≤ byN x k by omega), decide_eq_true (show byN x k ≤ 126 by omega)]; rfl
          rw [this] at ih'
          rw [if_neg g2]
          exact ih'
/-- an int that is not below zero -/
theorem nat_of {p : Int32} (h : ¬ p < 0) : ∃ n, n < 2 ^ 31 ∧ p = nI n := by
  refine ⟨p.toBitVec.toNat, ?_, ?_⟩
  · have h2 : ¬ p.toInt < 0 := fun w => h (Int32.lt_iff_toInt_lt.mpr w)
    have e : p.toInt = p.toBitVec.toInt := rfl
    rw [e, BitVec.toInt_eq_toNat_cond] at h2
    have := p.toBitVec.isLt
    by_cases g : 2 * p.toBitVec.toNat < 2 ^ 32
    · omega
    · rw [if_neg g] at h2
      omega
  · apply Int32.toBitVec_inj.mp
    show p.toBitVec = BitVec.ofNat 32 p.toBitVec.toNat
    rw [BitVec.ofNat_toNat, BitVec.setWidth_eq]
theorem rt_no {x : Int64} (code tc : Int32) (arr : Nat → Int32) (p : Int32) : ∀ (f m k : Nat), k + f = 8 → m_X10_type_l20 (m + f + 1) code tc arr x p 0 (nI k) = some (0, 1, tc, arr) := by
  have e79 : m_X10_type_b79 code tc arr x p 0 = some (0, 1, tc, arr) := by
    unfold m_X10_type_b79 m_X10_type_b106
    rw [if_pos rfl, if_neg (by decide)]
  intro f
  induction f with
  | zero =>
    intro m k hk
    have : k = 8 := by omega
    subst this
    rw [m_X10_type_l20_s]
    unfold m_X10_type_b20
    rw [if_pos (show (8 : Int32) ≤ nI 8 by decide), e79, ite_self]
  | succ f ih =>
    intro m k hk
    rw [show m + (f + 1) + 1 = m + f + 1 + 1 from rfl, m_X10_type_l20_s]
    unfold m_X10_type_b20 m_X10_type_b70 m_X10_type_b71
    rw [if_neg (show ¬ (8 : Int32) ≤ nI k from nI_ge (b := 8) (by omega) (by omega)), e79, ol_r, if_pos rfl, ol_r, nI_1, ih m (k + 1) (by omega), ite_self]
theorem i_lt {a b : Int32} : a < b ↔ a.toInt < b.toInt := Int32.lt_iff_toInt_lt
theorem i_le {a b : Int32} : a ≤ b ↔ a.toInt ≤ b.toInt := Int32.le_iff_toInt_le
theorem lt1_le0 {p : Int32} (h : p < 1) : p ≤ 0 := by
  rw [i_lt] at h
  rw [i_le]
  have e1 : (1 : Int32).toInt = 1 := rfl
  have e0 : (0 : Int32).toInt = 0 := rfl
  omega
theorem gt8_n0 {p : Int32} (h : 8 < p) : ¬ p ≤ 0 := by
  rw [i_lt] at h
  rw [i_le]
  have e1 : (8 : Int32).toInt = 8 := rfl
  have e0 : (0 : Int32).toInt = 0 := rfl
  omega
theorem gt8_9 {p : Int32} (h : 8 < p) : 9 ≤ p := by
  rw [i_lt] at h
  rw [i_le]
  have e1 : (8 : Int32).toInt = 8 := rfl
  have e0 : (9 : Int32).toInt = 9 := rfl
  omega
/-- what both calls of a kind do -/
theorem ty_both {ch : Nat → Nat} {len : Nat} (h : chP ch len) {ar1 ar2 : Nat → Int32} (h1 : tyP ch len ar1) (h2 : tyP ch len ar2) (out : Nat → Int64) (code : Int32) (x : Int64) (p : Int32) : ∃ (r r2 : Int32) (ch' : Nat → Nat) (len' : Nat) (ar1' ar2' : Nat → Int32) (out' : Nat → Int64), m_L_type (nI len) ar1 out x p = some (r, nI len', ar1', out') ∧ m_X10_type code (nI len) ar2 x p = some (r2, r, nI len', ar2') ∧ chP ch' len' ∧ tyP ch' len' ar1' ∧ tyP ch' len' ar2' ∧ (r = 0 → lg_cmp (out' 0) r2.toInt64 = 0) := by
  have hl := h.1
  have no : ∀ (r2 : Int32), m_X9_type (nI len) ar1 x p = some (2, 0, nI len, ar1) → m_X10_type code (nI len) ar2 x p = some (r2, 1, nI len, ar2) → ∃ (r r2 : Int32) (ch' : Nat → Nat) (len' : Nat) (ar1' ar2' : Nat → Int32) (out' : Nat → Int64), m_L_type (nI len) ar1 out x p = some (r, nI len', ar1', out') ∧ m_X10_type code (nI len) ar2 x p = some (r2, r, nI len', ar2') ∧ chP ch' len' ∧ tyP ch' len' ar1' ∧ tyP ch' len' ar2' ∧ (r = 0 → lg_cmp (out' 0) r2.toInt64 = 0) := by
    intro r2 a1 a2
    refine ⟨1, r2, ch, len, ar1, ar2, out, ?_, a2, h, h1, h2, fun w => absurd w (by decide)⟩
    unfold m_L_type
    rw [ob_s a1]
    rfl
  have bad : (p < 1 ∨ 8 < p) → m_X9_type (nI len) ar1 x p = some (2, 0, nI len, ar1) ∧ m_X10_type code (nI len) ar2 x p = some (0, 1, nI len, ar2) := by
    intro g
    have e10 : m_X10_type code (nI len) ar2 x p = m_X10_type_l20 kF code (nI len) ar2 x p 0 0 := by
      unfold m_X10_type m_X10_type_b14 m_X10_type_b15
      rcases g with g | g
      · rw [if_pos (lt1_le0 g)]
      · rw [if_neg (gt8_n0 g), if_pos (gt8_9 g)]
    refine ⟨?_, ?_⟩
    · unfold m_X9_type m_X9_type_b19
      rcases g with g | g
      · rw [if_pos g]
      · rw [if_pos g, ite_self]
    · rw [e10]
      exact rt_no code (nI len) ar2 p 8 (kF - 9) 0 (by omega)
  by_cases q1 : p < 1
  · exact no 0 (bad (Or.inl q1)).1 (bad (Or.inl q1)).2
  by_cases q2 : 8 < p
  · exact no 0 (bad (Or.inr q2)).1 (bad (Or.inr q2)).2
  obtain ⟨n, hn, e⟩ := nat_of (p := p) (fun w => q1 (Int32.lt_trans w (by decide)))
  subst e
  have n1 : 1 ≤ n := by
    rcases Nat.lt_or_ge n 1 with w | w
    · exact absurd (nI_lt (b := 1) (by omega) (by omega)) q1
    · exact w
  have n8 : n ≤ 8 := by
    rcases Nat.lt_or_ge 8 n with w | w
    · exact absurd (nI_lt (a := 8) w hn) q2
    · exact w
  have e10 : m_X10_type code (nI len) ar2 x (nI n) = m_X10_type_b79 code (nI len) ar2 x (nI n) (bI (true && allB (okC x) n)) := by
    unfold m_X10_type m_X10_type_b14 m_X10_type_b15
    rw [if_neg (show ¬ nI n ≤ 0 from nI_ge (a := 0) (by omega) (by omega)), if_neg (show ¬ (9 : Int32) ≤ nI n from nI_ge (b := 9) (by omega) (by omega))]
    have e : kF = kF - n - 1 + n + 1 := by unfold kF; omega
    rw [e]
    exact rt_l hl n8 code ar2 n _ 0 true (by omega)
  rw [Bool.true_and, rt_end hl n8] at e10
  have e9 : m_X9_type (nI len) ar1 x (nI n) = if allB (okC x) n = true then (if len + n ≤ 128 then some (0, nI (len + n), nI (len + n), fun i => if len ≤ i ∧ i < len + n then nI (byN x (i - len)) else ar1 i) else some (3, 0, nI len, ar1)) else some (2, 0, nI len, ar1) := by
    unfold m_X9_type m_X9_type_b19
    rw [if_neg q1, if_neg q2, ob_s (x5_canBeTyped n8)]
    by_cases g : allB (okC x) n = true
    · rw [g, if_neg bI_tn, if_pos rfl]
      unfold m_X5_hasRoomFor m_X5_hasRoomFor_b17
      have c1 : (128 : Int32) < nI (len + n) ↔ 128 < len + n := nI_ltI (a := 128) (by omega) (by omega)
      rw [nI_add]
      by_cases w : len + n ≤ 128
      · rw [if_neg (fun y => by have := c1.mp y; omega), if_pos w, obl_1, ob_s rfl, if_neg (by decide), ob_s (x5_add n8 w ar1)]
      · rw [if_pos (c1.mpr (by omega)), if_neg w, obl_0, ob_s rfl, if_pos (by decide)]
    · rw [bF g, if_pos bI_fz, if_neg (by decide)]
  by_cases g : allB (okC x) n = true
  · rw [if_pos g] at e9 e10
    by_cases w : len + n ≤ 128
    · rw [if_pos w] at e9 e10
      refine ⟨0, nI (len + n), fun i => if i < len then ch i else byN x (i - len), len + n, (fun i => if len ≤ i ∧ i < len + n then nI (byN x (i - len)) else ar1 i), (fun i => if len ≤ i ∧ i < len + n then nI (byN x (i - len)) else ar2 i), vp_updL out 0 (nI (len + n)).toInt64, ?_, e10, ⟨w, ?_⟩, ?_, ?_, fun _ => ?_⟩
      · unfold m_L_type
        rw [ob_s e9]
        try dsimp only
        rw [if_pos rfl, ol_r, ol_r]
        rfl
      · intro i hi
        dsimp only
        by_cases y : i < len
        · rw [if_pos y]; exact h.2 i y
        · rw [if_neg y]
          have := allB_iff.mp g (i - len) (by omega)
          unfold okC at this
          simp only [Bool.and_eq_true, decide_eq_true_eq] at this
          exact this
      · intro i hi
        dsimp only
        by_cases y : i < len
        · rw [if_neg (by omega), if_pos y]; exact h1 i y
        · rw [if_pos (by omega), if_neg y]
      · intro i hi
        dsimp only
        by_cases y : i < len
        · rw [if_neg (by omega), if_pos y]; exact h2 i y
        · rw [if_pos (by omega), if_neg y]
      · exact (lg_cmp_eq _ _).mpr rfl
    · rw [if_neg w] at e9 e10
      refine ⟨2, 0, ch, len, ar1, ar2, out, ?_, e10, h, h1, h2, fun w => absurd w (by decide)⟩
      unfold m_L_type
      rw [ob_s e9]
      rfl
  · rw [if_neg g] at e9 e10
    exact no 0 e9 e10
