/-! Long.bitCount counts bits. -/
def vb : List Nat → Nat
  | [] => 0
  | b :: l => b + 256 * vb l
def mb (c : Nat) : Nat → Nat
  | 0 => 0
  | k + 1 => c + 256 * mb c k
theorem and_split {x y c m : Nat} (hx : x < 256) (hc : c < 256) : (x + 256 * y) &&& (c + 256 * m) = (x &&& c) + 256 * (y &&& m) := by
  have e : ∀ a b : Nat, a + 256 * b = 2 ^ 8 * b + a := by intro a b; omega
  have hxc : x &&& c < 2 ^ 8 := Nat.lt_of_le_of_lt Nat.and_le_left hx
  rw [e, e, e]
  apply Nat.eq_of_testBit_eq
  intro i
  rw [Nat.testBit_and, Nat.testBit_two_pow_mul_add _ hx, Nat.testBit_two_pow_mul_add _ hc, Nat.testBit_two_pow_mul_add _ hxc]
  by_cases h : i < 8 <;> simp [h]
theorem vb_and {c : Nat} (hc : c < 256) : ∀ l : List Nat, (∀ b ∈ l, b < 256) → vb l &&& mb c l.length = vb (l.map (fun b => b &&& c))
  | [], _ => by simp [vb, mb]
  | b :: l, h => by
    have hb := h b List.mem_cons_self
    show (b + 256 * vb l) &&& (c + 256 * mb c l.length) = _
    rw [and_split hb hc, vb_and hc l (fun z hz => h z (List.mem_cons_of_mem _ hz))]
    rfl
theorem h85 : ∀ x, x < 128 → (x + 128) &&& 85 = x &&& 85 := by decide +kernel
theorem h51 : ∀ x, x < 64 → ∀ k, k < 4 → (x + 64 * k) &&& 51 = x &&& 51 := by decide +kernel
theorem vb_half : ∀ l : List Nat, (∀ b ∈ l, b < 256) → (vb l / 2) &&& mb 85 l.length = vb (l.map (fun b => (b / 2) &&& 85))
  | [], _ => rfl
  | b :: l, h => by
    have hb := h b List.mem_cons_self
    show ((b + 256 * vb l) / 2) &&& (85 + 256 * mb 85 l.length) = _
    have e : (b + 256 * vb l) / 2 = (b / 2 + 128 * (vb l % 2)) + 256 * (vb l / 2) := by omega
    rw [e, and_split (by omega) (by omega), vb_half l (fun z hz => h z (List.mem_cons_of_mem _ hz))]
    have e2 : (b / 2 + 128 * (vb l % 2)) &&& 85 = (b / 2) &&& 85 := by
      rcases Nat.mod_two_eq_zero_or_one (vb l) with q | q
      · rw [q]; rfl
      · rw [q]; exact h85 _ (by omega)
    rw [e2]
    rfl
theorem vb_quar : ∀ l : List Nat, (∀ b ∈ l, b < 256) → (vb l / 4) &&& mb 51 l.length = vb (l.map (fun b => (b / 4) &&& 51))
  | [], _ => rfl
  | b :: l, h => by
    have hb := h b List.mem_cons_self
    show ((b + 256 * vb l) / 4) &&& (51 + 256 * mb 51 l.length) = _
    have e : (b + 256 * vb l) / 4 = (b / 4 + 64 * (vb l % 4)) + 256 * (vb l / 4) := by omega
    rw [e, and_split (by omega) (by omega), vb_quar l (fun z hz => h z (List.mem_cons_of_mem _ hz)), h51 _ (by omega) _ (by omega)]
    rfl
theorem vb_sub {f : Nat → Nat} (hf : ∀ b, f b ≤ b) : ∀ l : List Nat, vb (l.map f) ≤ vb l ∧ vb l - vb (l.map f) = vb (l.map (fun b => b - f b))
  | [] => ⟨Nat.le_refl _, rfl⟩
  | b :: l => by
    obtain ⟨h1, h2⟩ := vb_sub hf l
    have := hf b
    refine ⟨?_, ?_⟩
    · show f b + 256 * vb (l.map f) ≤ b + 256 * vb l
      omega
    · show b + 256 * vb l - (f b + 256 * vb (l.map f)) = (b - f b) + 256 * vb (l.map (fun b => b - f b))
      omega
theorem vb_add (f g : Nat → Nat) : ∀ l : List Nat, vb (l.map f) + vb (l.map g) = vb (l.map (fun b => f b + g b))
  | [] => rfl
  | b :: l => by
    have := vb_add f g l
    show f b + 256 * vb (l.map f) + (g b + 256 * vb (l.map g)) = (f b + g b) + 256 * vb (l.map (fun b => f b + g b))
    omega
theorem vb_m16 : ∀ l : List Nat, (∀ b ∈ l, b % 16 ≤ 4) → vb l % 16 ≤ 4
  | [], _ => Nat.zero_le _
  | b :: l, h => by
    have := h b List.mem_cons_self
    show (b + 256 * vb l) % 16 ≤ 4
    omega
theorem h15 : ∀ x, x < 100 → ∀ k, k < 5 → (x + 16 * k) &&& 15 = x &&& 15 := by decide +kernel
theorem vb_nib : ∀ l : List Nat, (∀ b ∈ l, b % 16 ≤ 4 ∧ b / 16 ≤ 4) → (vb l + vb l / 16) &&& mb 15 l.length = vb (l.map (fun b => (b + b / 16) &&& 15))
  | [], _ => rfl
  | b :: l, h => by
    have hb := h b List.mem_cons_self
    have hm := vb_m16 l (fun z hz => (h z (List.mem_cons_of_mem _ hz)).1)
    show ((b + 256 * vb l) + (b + 256 * vb l) / 16) &&& (15 + 256 * mb 15 l.length) = _
    have e : (b + 256 * vb l) + (b + 256 * vb l) / 16 = (b + b / 16 + 16 * (vb l % 16)) + 256 * (vb l + vb l / 16) := by omega
    rw [e, and_split (by omega) (by omega), vb_nib l (fun z hz => h z (List.mem_cons_of_mem _ hz)), h15 _ (by omega) _ (by omega)]
    rfl
/-- the bits of a byte -/
def pc8 (b : Nat) : Nat := b % 2 + b / 2 % 2 + b / 4 % 2 + b / 8 % 2 + b / 16 % 2 + b / 32 % 2 + b / 64 % 2 + b / 128 % 2
def q1 (b : Nat) : Nat := b - ((b / 2) &&& 85)
def q2 (b : Nat) : Nat := (b &&& 51) + ((b / 4) &&& 51)
def q3 (b : Nat) : Nat := (b + b / 16) &&& 15
theorem q_byte : ∀ b, b < 256 → q1 b < 256 ∧ q2 (q1 b) % 16 ≤ 4 ∧ q2 (q1 b) / 16 ≤ 4 ∧ q3 (q2 (q1 b)) = pc8 b := by decide +kernel
theorem vb_all (l : List Nat) (h : ∀ b ∈ l, b < 256) : ∀ a1 a2, a1 = vb l - ((vb l / 2) &&& mb 85 l.length) → a2 = (a1 &&& mb 51 l.length) + ((a1 / 4) &&& mb 51 l.length) → ((a2 + a2 / 16) &&& mb 15 l.length) = vb (l.map pc8) := by
  intro a1 a2 h1 h2
  have e1 : a1 = vb (l.map q1) := by
    rw [h1, vb_half l h]
    exact (vb_sub (f := fun b => (b / 2) &&& 85) (fun b => Nat.le_trans Nat.and_le_left (by omega)) l).2
  have hl1 : (l.map q1).length = l.length := List.length_map _
  have hb1 : ∀ b ∈ l.map q1, b < 256 := by
    intro b hb
    obtain ⟨z, hz, rfl⟩ := List.mem_map.mp hb
    exact (q_byte z (h z hz)).1
  have e2 : a2 = vb ((l.map q1).map q2) := by
    rw [h2, e1, ← hl1, vb_and (by omega) _ hb1, vb_quar _ hb1]
    exact vb_add _ _ _
  have hl2 : ((l.map q1).map q2).length = l.length := by rw [List.length_map, hl1]
  rw [e2, ← hl2, vb_nib]
  · rw [List.map_map, List.map_map]
    congr 1
    apply List.map_congr_left
    intro z hz
    exact (q_byte z (h z hz)).2.2.2
  · intro b hb
    obtain ⟨z, hz, rfl⟩ := List.mem_map.mp hb
    obtain ⟨y, hy, rfl⟩ := List.mem_map.mp hz
    exact ⟨(q_byte y (h y hy)).2.1, (q_byte y (h y hy)).2.2.1⟩
def b2n (b : Bool) : Nat := if b then 1 else 0
/-- how many of the first n have p -/
def cb (p : Nat → Bool) : Nat → Nat
  | 0 => 0
  | n + 1 => cb p n + b2n (p n)
theorem b2n_tb (n i : Nat) : b2n (n.testBit i) = n / 2 ^ i % 2 := by
  unfold b2n
  rw [Nat.testBit_eq_decide_div_mod_eq]
  by_cases h : n / 2 ^ i % 2 = 1
  · simp [h]
  · have : n / 2 ^ i % 2 = 0 := by omega
    simp [this]
theorem pc8_mod (m : Nat) : pc8 (m % 256) = m % 2 + m / 2 % 2 + m / 4 % 2 + m / 8 % 2 + m / 16 % 2 + m / 32 % 2 + m / 64 % 2 + m / 128 % 2 := by
  unfold pc8
  omega
theorem cb_b0 (n : Nat) : cb (fun i => n.testBit i) 8 = cb (fun i => n.testBit i) 0 + pc8 (n / 1 % 256) := by
  show cb (fun i => n.testBit i) 0 + b2n (n.testBit 0) + b2n (n.testBit 1) + b2n (n.testBit 2) + b2n (n.testBit 3) + b2n (n.testBit 4) + b2n (n.testBit 5) + b2n (n.testBit 6) + b2n (n.testBit 7) = _
  rw [pc8_mod]
  simp only [b2n_tb, Nat.div_div_eq_div_mul, Nat.reducePow, Nat.reduceMul]
  omega
theorem cb_b1 (n : Nat) : cb (fun i => n.testBit i) 16 = cb (fun i => n.testBit i) 8 + pc8 (n / 256 % 256) := by
  show cb (fun i => n.testBit i) 8 + b2n (n.testBit 8) + b2n (n.testBit 9) + b2n (n.testBit 10) + b2n (n.testBit 11) + b2n (n.testBit 12) + b2n (n.testBit 13) + b2n (n.testBit 14) + b2n (n.testBit 15) = _
  rw [pc8_mod]
  simp only [b2n_tb, Nat.div_div_eq_div_mul, Nat.reducePow, Nat.reduceMul]
  omega
theorem cb_b2 (n : Nat) : cb (fun i => n.testBit i) 24 = cb (fun i => n.testBit i) 16 + pc8 (n / 65536 % 256) := by
  show cb (fun i => n.testBit i) 16 + b2n (n.testBit 16) + b2n (n.testBit 17) + b2n (n.testBit 18) + b2n (n.testBit 19) + b2n (n.testBit 20) + b2n (n.testBit 21) + b2n (n.testBit 22) + b2n (n.testBit 23) = _
  rw [pc8_mod]
  simp only [b2n_tb, Nat.div_div_eq_div_mul, Nat.reducePow, Nat.reduceMul]
  omega
theorem cb_b3 (n : Nat) : cb (fun i => n.testBit i) 32 = cb (fun i => n.testBit i) 24 + pc8 (n / 16777216 % 256) := by
  show cb (fun i => n.testBit i) 24 + b2n (n.testBit 24) + b2n (n.testBit 25) + b2n (n.testBit 26) + b2n (n.testBit 27) + b2n (n.testBit 28) + b2n (n.testBit 29) + b2n (n.testBit 30) + b2n (n.testBit 31) = _
  rw [pc8_mod]
  simp only [b2n_tb, Nat.div_div_eq_div_mul, Nat.reducePow, Nat.reduceMul]
  omega
theorem cb_b4 (n : Nat) : cb (fun i => n.testBit i) 40 = cb (fun i => n.testBit i) 32 + pc8 (n / 4294967296 % 256) := by
  show cb (fun i => n.testBit i) 32 + b2n (n.testBit 32) + b2n (n.testBit 33) + b2n (n.testBit 34) + b2n (n.testBit 35) + b2n (n.testBit 36) + b2n (n.testBit 37) + b2n (n.testBit 38) + b2n (n.testBit 39) = _
  rw [pc8_mod]
  simp only [b2n_tb, Nat.div_div_eq_div_mul, Nat.reducePow, Nat.reduceMul]
  omega
theorem cb_b5 (n : Nat) : cb (fun i => n.testBit i) 48 = cb (fun i => n.testBit i) 40 + pc8 (n / 1099511627776 % 256) := by
  show cb (fun i => n.testBit i) 40 + b2n (n.testBit 40) + b2n (n.testBit 41) + b2n (n.testBit 42) + b2n (n.testBit 43) + b2n (n.testBit 44) + b2n (n.testBit 45) + b2n (n.testBit 46) + b2n (n.testBit 47) = _
  rw [pc8_mod]
  simp only [b2n_tb, Nat.div_div_eq_div_mul, Nat.reducePow, Nat.reduceMul]
  omega
theorem cb_b6 (n : Nat) : cb (fun i => n.testBit i) 56 = cb (fun i => n.testBit i) 48 + pc8 (n / 281474976710656 % 256) := by
  show cb (fun i => n.testBit i) 48 + b2n (n.testBit 48) + b2n (n.testBit 49) + b2n (n.testBit 50) + b2n (n.testBit 51) + b2n (n.testBit 52) + b2n (n.testBit 53) + b2n (n.testBit 54) + b2n (n.testBit 55) = _
  rw [pc8_mod]
  simp only [b2n_tb, Nat.div_div_eq_div_mul, Nat.reducePow, Nat.reduceMul]
  omega
theorem cb_b7 (n : Nat) : cb (fun i => n.testBit i) 64 = cb (fun i => n.testBit i) 56 + pc8 (n / 72057594037927936 % 256) := by
  show cb (fun i => n.testBit i) 56 + b2n (n.testBit 56) + b2n (n.testBit 57) + b2n (n.testBit 58) + b2n (n.testBit 59) + b2n (n.testBit 60) + b2n (n.testBit 61) + b2n (n.testBit 62) + b2n (n.testBit 63) = _
  rw [pc8_mod]
  simp only [b2n_tb, Nat.div_div_eq_div_mul, Nat.reducePow, Nat.reduceMul]
  omega
theorem cb_bytes (n : Nat) : cb (fun i => n.testBit i) 64 = pc8 (n / 1 % 256) + pc8 (n / 256 % 256) + pc8 (n / 65536 % 256) + pc8 (n / 16777216 % 256) + pc8 (n / 4294967296 % 256) + pc8 (n / 1099511627776 % 256) + pc8 (n / 281474976710656 % 256) + pc8 (n / 72057594037927936 % 256) := by
  rw [cb_b7, cb_b6, cb_b5, cb_b4, cb_b3, cb_b2, cb_b1, cb_b0]
  show 0 + _ + _ + _ + _ + _ + _ + _ + _ = _
  omega
theorem pc8_le : ∀ b, b < 256 → pc8 b ≤ 8 := by decide +kernel
theorem us_tn (x : Int64) {k : Nat} (hk : k < 64) : ((x.toUInt64 >>> ((nI k).toInt64.toUInt64 &&& Int64.toUInt64 63)).toInt64).toBitVec.toNat = x.toBitVec.toNat / 2 ^ k := by
  apply Nat.eq_of_testBit_eq
  intro i
  have := bt_ushr x i hk
  rw [bt_tn, bt_tn] at this
  rw [this, Nat.testBit_div_two_pow, Nat.add_comm]
theorem and_tn (x y : Int64) : (x &&& y).toBitVec.toNat = x.toBitVec.toNat &&& y.toBitVec.toNat := by rw [Int64.toBitVec_and, BitVec.toNat_and]
theorem add_tn {x y : Int64} (h : x.toBitVec.toNat + y.toBitVec.toNat < 2 ^ 64) : (x + y).toBitVec.toNat = x.toBitVec.toNat + y.toBitVec.toNat := by
  rw [Int64.toBitVec_add, BitVec.toNat_add, Nat.mod_eq_of_lt h]
theorem sub_tn {x y : Int64} (h : y.toBitVec.toNat ≤ x.toBitVec.toNat) : (x - y).toBitVec.toNat = x.toBitVec.toNat - y.toBitVec.toNat := by
  rw [Int64.toBitVec_sub]
  generalize x.toBitVec = a at h
  generalize y.toBitVec = b at h
  bv_omega
