/-! Bits of longs. -/
def bt (x : Int64) (i : Nat) : Bool := x.toBitVec.getLsbD i
theorem bt_ge {x : Int64} {i : Nat} (h : 64 ≤ i) : bt x i = false := BitVec.getLsbD_of_ge _ _ h
theorem bt_and (x y : Int64) (i : Nat) : bt (x &&& y) i = (bt x i && bt y i) := by
  unfold bt
  rw [Int64.toBitVec_and, BitVec.getLsbD_and]
theorem bt_or (x y : Int64) (i : Nat) : bt (x ||| y) i = (bt x i || bt y i) := by
  unfold bt
  rw [Int64.toBitVec_or, BitVec.getLsbD_or]
theorem bt_xor (x y : Int64) (i : Nat) : bt (x ^^^ y) i = (bt x i ^^ bt y i) := by
  unfold bt
  rw [Int64.toBitVec_xor, BitVec.getLsbD_xor]
theorem bt_zero (i : Nat) : bt 0 i = false := by
  unfold bt
  simp
theorem bt_m1 {i : Nat} (h : i < 64) : bt (-1) i = true := by
  unfold bt
  have : (-1 : Int64).toBitVec = BitVec.allOnes 64 := by decide
  rw [this, BitVec.getLsbD_allOnes]
  exact decide_eq_true h
theorem bt_not (x : Int64) {i : Nat} (h : i < 64) : bt (x ^^^ (-1)) i = !(bt x i) := by
  rw [bt_xor, bt_m1 h]
  cases bt x i <;> rfl
theorem bt_ext {x y : Int64} (h : ∀ i, i < 64 → bt x i = bt y i) : x = y := by
  apply Int64.toBitVec_inj.mp
  apply BitVec.eq_of_getLsbD_eq
  intro i hi
  exact h i hi
theorem bt_ne0 {x : Int64} : ¬ x = 0 ↔ ∃ i, i < 64 ∧ bt x i = true := by
  constructor
  · intro h
    apply Classical.byContradiction
    intro q
    apply h
    apply bt_ext
    intro i hi
    rw [bt_zero]
    cases hb : bt x i with
    | false => rfl
    | true => exact absurd ⟨i, hi, hb⟩ q
  · rintro ⟨i, hi, hb⟩ rfl
    rw [bt_zero] at hb
    cases hb
theorem sh_amt {s : Nat} (h : s < 64) : ((nI s).toInt64 &&& 63) = lN s := by
  rw [nI_l (by omega)]
  have e : (63 : Int64) = lN 63 := rfl
  apply Int64.toBitVec_inj.mp
  rw [e, Int64.toBitVec_and]
  apply BitVec.eq_of_toNat_eq
  rw [BitVec.toNat_and]
  have t : ∀ n : Nat, n < 64 → (lN n).toBitVec.toNat = n := by
    intro n hn
    show (BitVec.ofNat 64 n).toNat = n
    simp
    omega
  rw [t s h, t 63 (by omega)]
  have := Nat.and_two_pow_sub_one_eq_mod s 6
  simp at this
  rw [this]
  omega
theorem sh_smod {s : Nat} (h : s < 64) : ((lN s).toBitVec.smod 64).toNat = s := by
  have e : (lN s).toBitVec = BitVec.ofNat 64 s := rfl
  have hm : (BitVec.ofNat 64 s).msb = false := by
    rw [BitVec.msb_eq_decide]
    simp
    omega
  rw [e, BitVec.smod_eq, hm]
  have h2 : (64 : BitVec 64).msb = false := by decide
  rw [h2]
  simp
  omega
theorem bt_shl (x : Int64) {s i : Nat} (h : s < 64) (hi : i < 64) : bt (x <<< ((nI s).toInt64 &&& 63)) i = (decide (s ≤ i) && bt x (i - s)) := by
  rw [sh_amt h]
  unfold bt
  rw [Int64.toBitVec_shiftLeft]
  rw [BitVec.shiftLeft_eq', sh_smod h, BitVec.getLsbD_shiftLeft]
  by_cases q : i < s
  · simp [q, hi, Nat.not_le.mpr q]
  · simp [q, hi, Nat.not_lt.mp q]
theorem bt_one (i : Nat) : bt 1 i = decide (i = 0) := by
  unfold bt
  have : (1 : Int64).toBitVec = 1#64 := rfl
  rw [this, BitVec.getLsbD_one]
  simp
theorem bt_bit {s i : Nat} (h : s < 64) (hi : i < 64) : bt ((1 : Int64) <<< ((nI s).toInt64 &&& 63)) i = decide (i = s) := by
  rw [bt_shl _ h hi, bt_one]
  by_cases q : i = s
  · subst q
    simp
  · by_cases q2 : s ≤ i
    · simp [q, q2]
      omega
    · simp [q, q2]
theorem bt_ushr (x : Int64) {s : Nat} (i : Nat) (h : s < 64) : bt ((x.toUInt64 >>> ((nI s).toInt64.toUInt64 &&& Int64.toUInt64 63)).toInt64) i = bt x (s + i) := by
  have e : (nI s).toInt64.toUInt64 &&& Int64.toUInt64 63 = ((nI s).toInt64 &&& 63).toUInt64 := rfl
  rw [e, sh_amt h]
  unfold bt
  have e2 : (x.toUInt64 >>> (lN s).toUInt64).toInt64.toBitVec = x.toBitVec >>> ((lN s).toBitVec % 64) := rfl
  rw [e2]
  have e3 : ((lN s).toBitVec % 64).toNat = s := by
    have e4 : (lN s).toBitVec = BitVec.ofNat 64 s := rfl
    rw [e4]
    simp
    omega
  rw [BitVec.ushiftRight_eq', e3, BitVec.getLsbD_ushiftRight]
