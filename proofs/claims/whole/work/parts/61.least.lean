/-! The least bit of a long. -/
def leastB (x : Int64) (k : Nat) : Prop := k < 64 ∧ bt x k = true ∧ ∀ j, j < k → bt x j = false
theorem leastB_ex {x : Int64} (h : ¬ x = 0) : ∃ k, leastB x k := by
  obtain ⟨k, ⟨h1, h2⟩, h3⟩ := pk_least (fun i => i < 64 ∧ bt x i = true) (bt_ne0.mp h)
  refine ⟨k, h1, h2, fun j hj => ?_⟩
  cases hb : bt x j with
  | false => rfl
  | true => exact absurd ⟨by omega, hb⟩ (h3 j hj)
theorem leastB_one {x : Int64} {j k : Nat} (h1 : leastB x j) (h2 : leastB x k) : j = k := by
  rcases Nat.lt_trichotomy j k with q | q | q
  · have := h2.2.2 j q
    rw [h1.2.1] at this
    cases this
  · exact q
  · have := h1.2.2 k q
    rw [h2.2.1] at this
    cases this
theorem bt_tn (x : Int64) (i : Nat) : bt x i = x.toBitVec.toNat.testBit i := rfl
theorem nat_pred_bit {n k : Nat} (hk : n.testBit k = true) (hl : ∀ j, j < k → n.testBit j = false) (i : Nat) : (n - 1).testBit i = if i < k then true else if i = k then false else n.testBit i := by
  have h0 : n % 2 ^ k = 0 := by
    apply Nat.eq_of_testBit_eq
    intro j
    rw [Nat.testBit_mod_two_pow, Nat.zero_testBit]
    by_cases q : j < k
    · simp [hl j q]
    · simp [q]
  obtain ⟨q, hq⟩ : ∃ q, n = 2 ^ k * q := ⟨n / 2 ^ k, by have := Nat.div_add_mod n (2 ^ k); omega⟩
  have hp : 0 < 2 ^ k := Nat.two_pow_pos k
  have ho : q % 2 = 1 := by
    have e : q.testBit 0 = true := by
      have := Nat.testBit_two_pow_mul_add q hp k
      rw [Nat.add_zero, ← hq] at this
      simp at this
      rw [hk] at this
      simpa using this
    simpa [Nat.testBit_zero] using e
  obtain ⟨m, hm⟩ : ∃ m, q = 2 * m + 1 := ⟨q / 2, by omega⟩
  have e1 : n - 1 = 2 ^ k * (2 * m) + (2 ^ k - 1) := by
    rw [hq, hm, Nat.mul_add, Nat.mul_one]
    omega
  have hb : 2 ^ k - 1 < 2 ^ k := by omega
  rw [e1, Nat.testBit_two_pow_mul_add _ hb]
  by_cases c1 : i < k
  · simp [c1]
  · rw [if_neg c1, if_neg c1]
    have e2 : n.testBit i = q.testBit (i - k) := by
      have := Nat.testBit_two_pow_mul_add q hp i
      rw [Nat.add_zero, ← hq, if_neg c1] at this
      exact this
    by_cases c2 : i = k
    · subst c2
      simp
    · rw [if_neg c2, e2, hm]
      obtain ⟨t, ht⟩ : ∃ t, i - k = t + 1 := ⟨i - k - 1, by omega⟩
      rw [ht, Nat.testBit_succ, Nat.testBit_succ]
      congr 1
      omega
theorem bt_pred {x : Int64} {k : Nat} (h : leastB x k) {i : Nat} (hi : i < 64) : bt (x - 1) i = if i < k then true else if i = k then false else bt x i := by
  have hn : 0 < x.toBitVec.toNat := by
    rcases Nat.eq_zero_or_pos x.toBitVec.toNat with q | q
    · have := h.2.1
      rw [bt_tn, q, Nat.zero_testBit] at this
      cases this
    · exact q
  have e : (x - 1).toBitVec.toNat = x.toBitVec.toNat - 1 := by
    rw [Int64.toBitVec_sub]
    have : (1 : Int64).toBitVec = 1#64 := rfl
    rw [this]
    generalize x.toBitVec = y at hn
    bv_omega
  rw [bt_tn, e, nat_pred_bit h.2.1 h.2.2]
  rfl
theorem bt_neg (x : Int64) {i : Nat} (hi : i < 64) : bt (-x) i = !(bt (x - 1) i) := by
  have e : -x = (x - 1) ^^^ (-1) := by
    apply Int64.toBitVec_inj.mp
    rw [Int64.toBitVec_neg, Int64.toBitVec_xor, Int64.toBitVec_sub]
    have h1 : (-1 : Int64).toBitVec = BitVec.allOnes 64 := by decide
    have h2 : (1 : Int64).toBitVec = 1#64 := rfl
    rw [h1, h2, BitVec.xor_allOnes]
    generalize x.toBitVec = y
    bv_omega
  rw [e, bt_not _ hi]
theorem bt_low {x : Int64} {k : Nat} (h : leastB x k) {i : Nat} (hi : i < 64) : bt (x &&& -x) i = decide (i = k) := by
  rw [bt_and, bt_neg _ hi, bt_pred h hi]
  by_cases c1 : i < k
  · simp [c1, Nat.ne_of_lt c1]
  · by_cases c2 : i = k
    · subst c2
      simp [h.2.1]
    · simp [c1, c2]
theorem bt_drop {x : Int64} {k : Nat} (h : leastB x k) {i : Nat} (hi : i < 64) : bt (x &&& (x - 1)) i = (bt x i && decide (i ≠ k)) := by
  rw [bt_and, bt_pred h hi]
  by_cases c1 : i < k
  · simp [c1, Nat.ne_of_lt c1]
  · by_cases c2 : i = k
    · subst c2
      simp
    · simp [c1, c2]
theorem bt_upto {x : Int64} {k : Nat} (h : leastB x k) {i : Nat} (hi : i < 64) : bt (x ^^^ (x - 1)) i = decide (i ≤ k) := by
  rw [bt_xor, bt_pred h hi]
  by_cases c1 : i < k
  · simp [c1, h.2.2 i c1, Nat.le_of_lt c1]
  · by_cases c2 : i = k
    · subst c2
      simp [h.2.1]
    · have : ¬ i ≤ k := by omega
      simp [c1, c2, this]
theorem bt_below {x : Int64} {k : Nat} (h : leastB x k) {i : Nat} (hi : i < 64) : bt ((x &&& -x) - 1) i = decide (i < k) := by
  have h2 : leastB (x &&& -x) k := ⟨h.1, by rw [bt_low h h.1]; simp, fun j hj => by rw [bt_low h (by have := h.1; omega)]; simp; omega⟩
  rw [bt_pred h2 hi]
  by_cases c1 : i < k
  · simp [c1]
  · by_cases c2 : i = k
    · simp [c2]
    · rw [if_neg c1, if_neg c2, bt_low h hi]
      simp [c1, c2]
