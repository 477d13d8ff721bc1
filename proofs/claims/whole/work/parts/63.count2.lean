theorem l2i_tn (x : Int64) : x.toInt32.toBitVec.toNat = x.toBitVec.toNat % 2 ^ 32 := by
  have : x.toInt32.toBitVec = x.toBitVec.setWidth 32 := by
    rw [Int64.toBitVec_toInt32]
    exact BitVec.signExtend_eq_setWidth_of_le _ (by decide)
  rw [this, BitVec.toNat_setWidth]
theorem fold8 {c0 c1 c2 c3 c4 c5 c6 c7 a3 a4 a5 a6 : Nat} (h0 : c0 ≤ 8) (h1 : c1 ≤ 8) (h2 : c2 ≤ 8) (h3 : c3 ≤ 8) (h4 : c4 ≤ 8) (h5 : c5 ≤ 8) (h6 : c6 ≤ 8) (h7 : c7 ≤ 8) (e3 : a3 = c0 + 256 * c1 + 65536 * c2 + 16777216 * c3 + 4294967296 * c4 + 1099511627776 * c5 + 281474976710656 * c6 + 72057594037927936 * c7) (e4 : a4 = a3 + a3 / 256) (e5 : a5 = a4 + a4 / 65536) (e6 : a6 = a5 + a5 / 4294967296) : a6 % 2 ^ 32 % 2 ^ 7 = c0 + c1 + c2 + c3 + c4 + c5 + c6 + c7 ∧ a6 < 2 ^ 64 ∧ a5 < 2 ^ 64 ∧ a4 < 2 ^ 64 := by
  have f4 : a4 = (c0 + c1) + 256 * (c1 + c2) + 65536 * (c2 + c3) + 16777216 * (c3 + c4) + 4294967296 * (c4 + c5) + 1099511627776 * (c5 + c6) + 281474976710656 * (c6 + c7) + 72057594037927936 * c7 := by omega
  have f5 : a5 = (c0 + c1 + c2 + c3) + 256 * (c1 + c2 + c3 + c4) + 65536 * (c2 + c3 + c4 + c5) + 16777216 * (c3 + c4 + c5 + c6) + 4294967296 * (c4 + c5 + c6 + c7) + 1099511627776 * (c5 + c6 + c7) + 281474976710656 * (c6 + c7) + 72057594037927936 * c7 := by
    clear e4 e3 e6
    omega
  have f6 : a6 = (c0 + c1 + c2 + c3 + c4 + c5 + c6 + c7) + 256 * (c1 + c2 + c3 + c4 + c5 + c6 + c7) + 65536 * (c2 + c3 + c4 + c5 + c6 + c7) + 16777216 * (c3 + c4 + c5 + c6 + c7) + 4294967296 * (c4 + c5 + c6 + c7) + 1099511627776 * (c5 + c6 + c7) + 281474976710656 * (c6 + c7) + 72057594037927936 * c7 := by
    clear e4 e3 e5 f4
    omega
  clear e3 e4 e5 e6
  refine ⟨?_, ?_, ?_, ?_⟩
  · clear f4 f5
    omega
  · clear f4 f5
    omega
  · clear f4 f6
    omega
  · clear f5 f6
    omega
set_option maxRecDepth 20000 in
theorem bitCount_eq (x : Int64) : m_J13_bitCount_95d88 x = some (nI (cb (bt x) 64)) := by
  unfold m_J13_bitCount_95d88 ol
  have l1 : (1 : Int32) = nI 1 := rfl
  have l2 : (2 : Int32) = nI 2 := rfl
  have l4 : (4 : Int32) = nI 4 := rfl
  have l8 : (8 : Int32) = nI 8 := rfl
  have l16 : (16 : Int32) = nI 16 := rfl
  have l32 : (32 : Int32) = nI 32 := rfl
  rw [l1, l2, l4, l8, l16, l32]
  obtain ⟨n, hn⟩ : ∃ n, n = x.toBitVec.toNat := ⟨_, rfl⟩
  have hlt : n < 2 ^ 64 := by rw [hn]; exact x.toBitVec.isLt
  obtain ⟨m5, hm5⟩ : ∃ z : Int64, z = 6148914691236517205 := ⟨_, rfl⟩
  obtain ⟨m3, hm3⟩ : ∃ z : Int64, z = 3689348814741910323 := ⟨_, rfl⟩
  obtain ⟨mf, hmf⟩ : ∃ z : Int64, z = 1085102592571150095 := ⟨_, rfl⟩
  have t5 : m5.toBitVec.toNat = mb 85 8 := by rw [hm5]; decide
  have t3 : m3.toBitVec.toNat = mb 51 8 := by rw [hm3]; decide
  have tf : mf.toBitVec.toNat = mb 15 8 := by rw [hmf]; decide
  have v5 : mb 85 8 = 6148914691236517205 := by decide
  have v3 : mb 51 8 = 3689348814741910323 := by decide
  have vf : mb 15 8 = 1085102592571150095 := by decide
  rw [← hm5, ← hm3, ← hmf]
  obtain ⟨x1, ex1⟩ : ∃ z : Int64, z = x - (((x.toUInt64 >>> ((nI 1).toInt64.toUInt64 &&& Int64.toUInt64 63)).toInt64) &&& m5) := ⟨_, rfl⟩
  rw [← ex1]
  dsimp only
  obtain ⟨x2, ex2⟩ : ∃ z : Int64, z = (x1 &&& m3) + (((x1.toUInt64 >>> ((nI 2).toInt64.toUInt64 &&& Int64.toUInt64 63)).toInt64) &&& m3) := ⟨_, rfl⟩
  rw [← ex2]
  obtain ⟨x3, ex3⟩ : ∃ z : Int64, z = (x2 + ((x2.toUInt64 >>> ((nI 4).toInt64.toUInt64 &&& Int64.toUInt64 63)).toInt64)) &&& mf := ⟨_, rfl⟩
  rw [← ex3]
  obtain ⟨x4, ex4⟩ : ∃ z : Int64, z = x3 + ((x3.toUInt64 >>> ((nI 8).toInt64.toUInt64 &&& Int64.toUInt64 63)).toInt64) := ⟨_, rfl⟩
  rw [← ex4]
  obtain ⟨x5, ex5⟩ : ∃ z : Int64, z = x4 + ((x4.toUInt64 >>> ((nI 16).toInt64.toUInt64 &&& Int64.toUInt64 63)).toInt64) := ⟨_, rfl⟩
  rw [← ex5]
  obtain ⟨x6, ex6⟩ : ∃ z : Int64, z = x5 + ((x5.toUInt64 >>> ((nI 32).toInt64.toUInt64 &&& Int64.toUInt64 63)).toInt64) := ⟨_, rfl⟩
  rw [← ex6]
  have a1 : x1.toBitVec.toNat = n - ((n / 2) &&& mb 85 8) := by
    rw [ex1, sub_tn, and_tn, us_tn x (by omega), t5, ← hn]
    rw [and_tn, us_tn x (by omega), ← hn]
    exact Nat.le_trans Nat.and_le_left (by omega)
  have a2 : x2.toBitVec.toNat = (x1.toBitVec.toNat &&& mb 51 8) + ((x1.toBitVec.toNat / 4) &&& mb 51 8) := by
    rw [ex2, add_tn, and_tn, and_tn, us_tn x1 (by omega), t3]
    rw [and_tn, and_tn, t3]
    have q1 := @Nat.and_le_right (x1.toBitVec.toNat) (mb 51 8)
    have q2 := @Nat.and_le_right (((x1.toUInt64 >>> ((nI 2).toInt64.toUInt64 &&& Int64.toUInt64 63)).toInt64).toBitVec.toNat) (mb 51 8)
    omega
  have b2 : x2.toBitVec.toNat ≤ 7378697629483820646 := by
    rw [a2]
    have q1 := @Nat.and_le_right (x1.toBitVec.toNat) (mb 51 8)
    have q2 := @Nat.and_le_right (x1.toBitVec.toNat / 4) (mb 51 8)
    omega
  have a3 : x3.toBitVec.toNat = (x2.toBitVec.toNat + x2.toBitVec.toNat / 16) &&& mb 15 8 := by
    rw [ex3, and_tn, add_tn, us_tn x2 (by omega), tf]
    rw [us_tn x2 (by omega)]
    omega
  obtain ⟨bs, hbs⟩ : ∃ l : List Nat, l = [n / 1 % 256, n / 256 % 256, n / 65536 % 256, n / 16777216 % 256, n / 4294967296 % 256, n / 1099511627776 % 256, n / 281474976710656 % 256, n / 72057594037927936 % 256] := ⟨_, rfl⟩
  have hv : vb bs = n := by
    rw [hbs]
    show n / 1 % 256 + 256 * (n / 256 % 256 + 256 * (n / 65536 % 256 + 256 * (n / 16777216 % 256 + 256 * (n / 4294967296 % 256 + 256 * (n / 1099511627776 % 256 + 256 * (n / 281474976710656 % 256 + 256 * (n / 72057594037927936 % 256 + 256 * 0))))))) = n
    clear a1 a2 a3 b2 v5 v3 vf t5 t3 tf
    omega
  have hlen : bs.length = 8 := by rw [hbs]; rfl
  have hb : ∀ b ∈ bs, b < 256 := by
    rw [hbs]
    intro b hb
    simp only [List.mem_cons, List.not_mem_nil, or_false] at hb
    rcases hb with h | h | h | h | h | h | h | h <;> rw [h] <;> exact Nat.mod_lt _ (by omega)
  have key := vb_all bs hb x1.toBitVec.toNat x2.toBitVec.toNat (by rw [hv, hlen]; exact a1) (by rw [hlen]; exact a2)
  rw [hlen, ← a3, hbs] at key
  have pl : ∀ m : Nat, pc8 (m % 256) ≤ 8 := fun m => pc8_le _ (Nat.mod_lt _ (by omega))
  have e3 : x3.toBitVec.toNat = pc8 (n / 1 % 256) + 256 * pc8 (n / 256 % 256) + 65536 * pc8 (n / 65536 % 256) + 16777216 * pc8 (n / 16777216 % 256) + 4294967296 * pc8 (n / 4294967296 % 256) + 1099511627776 * pc8 (n / 1099511627776 % 256) + 281474976710656 * pc8 (n / 281474976710656 % 256) + 72057594037927936 * pc8 (n / 72057594037927936 % 256) := by
    rw [key]
    show pc8 (n / 1 % 256) + 256 * (pc8 (n / 256 % 256) + 256 * (pc8 (n / 65536 % 256) + 256 * (pc8 (n / 16777216 % 256) + 256 * (pc8 (n / 4294967296 % 256) + 256 * (pc8 (n / 1099511627776 % 256) + 256 * (pc8 (n / 281474976710656 % 256) + 256 * (pc8 (n / 72057594037927936 % 256) + 256 * 0))))))) = _
    generalize pc8 (n / 1 % 256) = d0
    generalize pc8 (n / 256 % 256) = d1
    generalize pc8 (n / 65536 % 256) = d2
    generalize pc8 (n / 16777216 % 256) = d3
    generalize pc8 (n / 4294967296 % 256) = d4
    generalize pc8 (n / 1099511627776 % 256) = d5
    generalize pc8 (n / 281474976710656 % 256) = d6
    generalize pc8 (n / 72057594037927936 % 256) = d7
    clear a1 a2 a3 b2 v5 v3 vf t5 t3 tf hv
    omega
  obtain ⟨g1, g2, g3, g4⟩ := fold8 (pl (n / 1)) (pl (n / 256)) (pl (n / 65536)) (pl (n / 16777216)) (pl (n / 4294967296)) (pl (n / 1099511627776)) (pl (n / 281474976710656)) (pl (n / 72057594037927936)) e3 rfl rfl rfl
  have f4 : x4.toBitVec.toNat = x3.toBitVec.toNat + x3.toBitVec.toNat / 256 := by
    rw [ex4, add_tn, us_tn x3 (by omega)]
    rw [us_tn x3 (by omega)]
    exact g4
  have f5 : x5.toBitVec.toNat = x4.toBitVec.toNat + x4.toBitVec.toNat / 65536 := by
    rw [ex5, add_tn, us_tn x4 (by omega)]
    rw [us_tn x4 (by omega), f4]
    exact g3
  have f6 : x6.toBitVec.toNat = x5.toBitVec.toNat + x5.toBitVec.toNat / 4294967296 := by
    rw [ex6, add_tn, us_tn x5 (by omega)]
    rw [us_tn x5 (by omega), f5, f4]
    exact g2
  rw [pk_and x6.toInt32 (m := 127) 7 (by decide), l2i_tn, f6, f5, f4, g1]
  congr 2
  have : cb (bt x) 64 = cb (fun i => n.testBit i) 64 := by rw [hn]; rfl
  rw [this, cb_bytes]
