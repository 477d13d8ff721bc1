/-! Both read a whole position alike. -/
def rd2 (ch : Nat → Nat) (len : Nat) := th ch len (mvR ch len (rsR ch len 8 0 zB).2.1)
def rd3 (ch : Nat → Nat) (len : Nat) := th ch len (riR ch len (rd2 ch len).2.1)
def rd4 (ch : Nat → Nat) (len : Nat) := th ch len (psR ch len (rd3 ch len).2.1)
def rd5 (ch : Nat → Nat) (len : Nat) := th ch len (nuR ch len 0 (rd4 ch len).2.1)
def rd6 (ch : Nat → Nat) (len : Nat) := nuR ch len 1 (rd5 ch len).2.1
/-- whether all is well written, where reading ended -/
def rdS (ch : Nat → Nat) (len : Nat) : Bool × Nat := if (rsR ch len 8 0 zB).1 then (if (rd2 ch len).1 then (if (rd3 ch len).1 then (if (rd4 ch len).1 then (if (rd5 ch len).1 then (if (rd6 ch len).1 then (decide ((rd6 ch len).2.1 = len), (rd6 ch len).2.1) else (false, (rd6 ch len).2.1)) else (false, (rd5 ch len).2.1)) else (false, (rd4 ch len).2.1)) else (false, (rd3 ch len).2.1)) else (false, (rd2 ch len).2.1)) else (false, (rsR ch len 8 0 zB).2.1)
/-- the position that was read -/
def rdZ (ch : Nat → Nat) (len : Nat) : Pz := ((rsR ch len 8 0 zB).2.2, (rd2 ch len).2.2, (rd3 ch len).2.2, (rd4 ch len).2.2, (rd5 ch len).2.2, (rd6 ch len).2.2)
theorem rd_le {ch : Nat → Nat} {len : Nat} (h : chP ch len) : gbd (rdZ ch len).1 ∧ (rdZ ch len).2.1 < 2 ∧ (rdZ ch len).2.2.1 < 16 ∧ (rdZ ch len).2.2.2.1 ≤ 64 ∧ (rdZ ch len).2.2.2.2.1 ≤ 9999 ∧ (rdZ ch len).2.2.2.2.2 ≤ 9999 ∧ (rsR ch len 8 0 zB).2.1 ≤ len ∧ (rd2 ch len).2.1 ≤ len ∧ (rd3 ch len).2.1 ≤ len ∧ (rd4 ch len).2.1 ≤ len ∧ (rd5 ch len).2.1 ≤ len ∧ (rd6 ch len).2.1 ≤ len ∧ ((rd6 ch len).1 = true → 1 ≤ (rd6 ch len).2.2) ∧ (nuR ch len 0 (rd4 ch len).2.1).2.2 = (rd5 ch len).2.2 := by
  obtain ⟨_, s1, s2⟩ := readSquares_l h (arr := fun i => nI (ch i)) (fun _ _ => rfl) 8 (kF - 9) 0 zB (by omega) (by omega) zB_g (fun _ => zB_fr _ _)
  have m1 := mvR_le (ch := ch) s1
  have m2 := th_le (ch := ch) m1.1
  have r1 := riR_le (ch := ch) m2.1
  have r2 := th_le (ch := ch) r1.1
  have p1 := psR_le (ch := ch) r2.1
  have p2 := th_le (ch := ch) p1.1
  have n1 := nuR_le (ch := ch) (lo := 0) p2.1
  have n2 := th_le (ch := ch) n1.1
  have k1 := nuR_le (ch := ch) (lo := 1) n2.1
  refine ⟨s2, ?_, ?_, ?_, ?_, k1.2.1, s1, m2.1, r2.1, p2.1, n2.1, k1.1, k1.2.2 (by omega), n2.2.symm⟩
  · exact Nat.lt_of_le_of_lt (Nat.le_of_eq m2.2) m1.2
  · exact Nat.lt_of_le_of_lt (Nat.le_of_eq r2.2) r1.2
  · exact Nat.le_trans (Nat.le_of_eq p2.2) p1.2
  · exact Nat.le_trans (Nat.le_of_eq n2.2) n1.2.1
theorem vI_neg (r : Bool × Nat × Nat) (h : r.2.2 ≤ 9999) : (vI r < 0 ↔ r.1 = false) ∧ (vI r = -1 ↔ r.1 = false) ∧ (r.1 = true → vI r = nI r.2.2) := by
  unfold vI
  by_cases g : r.1 = true
  · rw [if_pos g]
    refine ⟨⟨fun w => absurd w (nI_nlt (b := 0) (by omega) (by omega)), fun w => by rw [g] at w; cases w⟩, ⟨fun w => absurd w (nI_nm1 (by omega)), fun w => by rw [g] at w; cases w⟩, fun _ => rfl⟩
  · rw [if_neg g]
    have : r.1 = false := by cases e : r.1 with | true => exact absurd e g | false => rfl
    exact ⟨⟨fun _ => this, fun _ => by decide⟩, ⟨fun _ => this, fun _ => rfl⟩, fun w => absurd w g⟩
theorem th_true {A : Type} {ch : Nat → Nat} {len : Nat} {r : Bool × Nat × A} (h : (th ch len r).1 = true) : r.1 = true := by
  unfold th at h
  by_cases g : r.1 = true
  · exact g
  · rw [if_neg g] at h; exact h
theorem bF {b : Bool} (h : ¬ b = true) : b = false := by cases b with | true => exact absurd rfl h | false => rfl
theorem x10_isWritten {ch : Nat → Nat} {len : Nat} (h : chP ch len) {arr : Nat → Int32} (ht : tyP ch len arr) {bd : Nat → Int32} (hz : ∀ s, 64 ≤ s → bd s = 0) (a0 v1 v2 v3 v4 v5 : Int32) : ∃ (w1 w2 w3 w4 w5 : Int32), m_X10_isWritten (nI len) a0 v1 v2 v3 v4 v5 arr bd = some (bI (rdS ch len).1, nI (rdS ch len).2, w1, w2, w3, w4, w5, (rdZ ch len).1) ∧ ((rdS ch len).1 = true → w1 = nI (rdZ ch len).2.1 ∧ w2 = nI (rdZ ch len).2.2.1 ∧ w3 = pI (rdZ ch len).2.2.2.1 ∧ w4 = nI (rdZ ch len).2.2.2.2.1 ∧ w5 = nI (rdZ ch len).2.2.2.2.2 ∧ 1 ≤ (rdZ ch len).2.2.2.2.2) := by
  obtain ⟨g1, g2, g3, g4, g5, g6, b1, b2, b3, b4, b5, b6, k1, k2⟩ := rd_le h
  have hl := h.1
  have s1 := (x10_readSquares h ht hz).1
  have m1 := x10_readMover h ht b1 v1
  have r1 := x10_readCastles h ht b2 v2
  have p1 := x10_readSquare h ht b3 v3
  have n1 := x10_numberFrom h ht b4 (lo := 0) (by omega)
  have q1 := x10_numberFrom h ht b5 (lo := 1) (by omega)
  have nn := nuR_le (ch := ch) (lo := 0) b4
  have hv5 := vI_neg (nuR ch len 0 (rd4 ch len).2.1) nn.2.1
  have hv6 := vI_neg (rd6 ch len) g6
  unfold m_X10_isWritten m_X10_isWritten_b33 m_X10_isWritten_b60 m_X10_isWritten_b93 m_X10_isWritten_b94
  rw [ob_s s1]
  unfold rdS
  try dsimp only
  by_cases c1 : (rsR ch len 8 0 zB).1 = true
  case neg =>
    rw [bF c1, if_pos bI_fz, if_neg (by decide)]
    exact ⟨_, _, _, _, _, rfl, fun e => (by cases e)⟩
  rw [c1, if_neg bI_tn, if_pos rfl, ob_s m1]
  try dsimp only
  by_cases c2 : (rd2 ch len).1 = true
  case neg =>
    have c2' : (th ch len (mvR ch len (rsR ch len 8 0 zB).2.1)).1 = false := bF c2
    rw [c2', if_pos bI_fz, if_neg c2]
    exact ⟨_, _, _, _, _, rfl, fun e => (by cases e)⟩
  have c2' : (th ch len (mvR ch len (rsR ch len 8 0 zB).2.1)).1 = true := c2
  rw [c2', if_neg bI_tn, if_pos c2]
  rw [show (th ch len (mvR ch len (rsR ch len 8 0 zB).2.1)) = rd2 ch len from rfl, ob_s r1]
  try dsimp only
  by_cases c3 : (rd3 ch len).1 = true
  case neg =>
    have c3' : (th ch len (riR ch len (rd2 ch len).2.1)).1 = false := bF c3
    rw [c3', if_pos bI_fz, if_neg c3]
    exact ⟨_, _, _, _, _, rfl, fun e => (by cases e)⟩
  have c3' : (th ch len (riR ch len (rd2 ch len).2.1)).1 = true := c3
  rw [c3', if_neg bI_tn, if_pos c3]
  rw [show (th ch len (riR ch len (rd2 ch len).2.1)) = rd3 ch len from rfl, ob_s p1]
  try dsimp only
  by_cases c4 : (rd4 ch len).1 = true
  case neg =>
    have c4' : (th ch len (psR ch len (rd3 ch len).2.1)).1 = false := bF c4
    rw [c4', if_pos bI_fz, if_neg c4]
    exact ⟨_, _, _, _, _, rfl, fun e => (by cases e)⟩
  have c4' : (th ch len (psR ch len (rd3 ch len).2.1)).1 = true := c4
  rw [c4', if_neg bI_tn, if_pos c4]
  have n1 : m_X10_numberFrom (nI len) (nI (rd4 ch len).2.1) arr 0 = _ := n1
  rw [show (th ch len (psR ch len (rd3 ch len).2.1)) = rd4 ch len from rfl, ob_s n1]
  try dsimp only
  have e5 : rd5 ch len = th ch len (nuR ch len 0 (rd4 ch len).2.1) := rfl
  by_cases c5 : (nuR ch len 0 (rd4 ch len).2.1).1 = true
  case neg =>
    have c5' := bF c5
    rw [if_pos (hv5.1.mpr c5')]
    have e6 : th ch len (nuR ch len 0 (rd4 ch len).2.1) = nuR ch len 0 (rd4 ch len).2.1 := by unfold th; rw [if_neg c5]
    rw [e5, e6, if_neg c5]
    exact ⟨_, _, _, _, _, rfl, fun e => (by cases e)⟩
  rw [if_neg (fun w => by have := hv5.1.mp w; rw [c5] at this; cases this), hv5.2.2 c5, ob_s (x10_tk h ht (by have := nn.1; omega) 32 32 rfl (by omega))]
  try dsimp only
  by_cases c6 : nx ch len (nuR ch len 0 (rd4 ch len).2.1).2.1 = 32
  case neg =>
    have e6 : rd5 ch len = (false, (nuR ch len 0 (rd4 ch len).2.1).2.1, (nuR ch len 0 (rd4 ch len).2.1).2.2) := by rw [e5]; unfold th; rw [if_pos c5, if_neg c6]
    rw [decide_eq_false c6, if_pos bI_fz, e6]
    unfold skA
    rw [if_neg c6, if_neg (fun e => (by cases e))]
    exact ⟨_, _, _, _, _, rfl, fun e => (by cases e)⟩
  have e6 : rd5 ch len = (true, (nuR ch len 0 (rd4 ch len).2.1).2.1 + 1, (nuR ch len 0 (rd4 ch len).2.1).2.2) := by rw [e5]; unfold th; rw [if_pos c5, if_pos c6]
  have e7 : skA ch len (nuR ch len 0 (rd4 ch len).2.1).2.1 32 = (rd5 ch len).2.1 := by rw [e6]; unfold skA; rw [if_pos c6]
  have c7 : (rd5 ch len).1 = true := by rw [e6]
  have q1 : m_X10_numberFrom (nI len) (nI (rd5 ch len).2.1) arr 1 = some (vI (rd6 ch len), nI (rd6 ch len).2.1) := q1
  rw [decide_eq_true c6, if_neg bI_tn, e7, ob_s q1, if_pos c7]
  try dsimp only
  by_cases c8 : (rd6 ch len).1 = true
  case neg =>
    have hlt := hv6.1.mpr (bF c8)
    rw [if_pos (Int32.le_of_lt hlt), if_neg c8]
    exact ⟨_, _, _, _, _, rfl, fun e => (by cases e)⟩
  have := k1 c8
  have hg : ¬ nI (rd6 ch len).2.2 ≤ 0 := nI_ge (a := 0) (by omega) (by have : (rd6 ch len).2.2 ≤ 9999 := g6; omega)
  rw [hv6.2.2 c8, if_neg hg, if_pos c8]
  have c9 : nI (rd6 ch len).2.1 = nI len ↔ (rd6 ch len).2.1 = len := nI_eq (by omega) (by omega)
  by_cases d : (rd6 ch len).2.1 = len
  · rw [if_pos (c9.mpr d), decide_eq_true d]
    refine ⟨_, _, _, _, _, rfl, fun _ => ⟨rfl, rfl, rfl, congrArg nI k2, rfl, this⟩⟩
  · rw [if_neg (fun w => d (c9.mp w)), decide_eq_false d]
    exact ⟨_, _, _, _, _, rfl, fun e => (by cases e)⟩
theorem th_skip {A : Type} {ch : Nat → Nat} {len : Nat} (r : Bool × Nat × A) (h : r.1 = true) : th ch len r = (decide (nx ch len r.2.1 = 32), skA ch len r.2.1 32, r.2.2) := by
  unfold th skA
  rw [if_pos h]
  by_cases g : nx ch len r.2.1 = 32
  · rw [if_pos g, if_pos g, decide_eq_true g]
  · rw [if_neg g, if_neg g, decide_eq_false g]
theorem th_fail {A : Type} {ch : Nat → Nat} {len : Nat} (r : Bool × Nat × A) (h : ¬ r.1 = true) : th ch len r = r := by
  unfold th
  rw [if_neg h]
theorem x5_readAll {ch : Nat → Nat} {len : Nat} (h : chP ch len) {arr : Nat → Int32} (ht : tyP ch len arr) {tab : Nat → Int32} (hB : tbP tab) {bal : Int32} {kinds sides : Nat → Int64} (hC : clP zB bal kinds sides) : ∃ (w1 w2 w3 w4 w5 bal' : Int32) (men' : Nat → Int32) (kinds' sides' : Nat → Int64), m_X5_readAll (nI len) 0 arr 0 0 (-1) 0 1 bal zB kinds sides tab = some (bI (rdS ch len).1, nI (rdS ch len).2, w1, w2, w3, w4, w5, bal', men', kinds', sides') ∧ gbd men' ∧ ((rdS ch len).1 = true → men' = (rdZ ch len).1 ∧ clP men' bal' kinds' sides' ∧ w1 = nI (rdZ ch len).2.1 ∧ w2 = nI (rdZ ch len).2.2.1 ∧ w3 = pI (rdZ ch len).2.2.2.1 ∧ w4 = nI (rdZ ch len).2.2.2.2.1 ∧ w5 = nI (rdZ ch len).2.2.2.2.2) := by
  obtain ⟨g1, g2, g3, g4, g5, g6, b1, b2, b3, b4, b5, b6, k1, k2⟩ := rd_le h
  have hl := h.1
  obtain ⟨r, bal2, kinds2, sides2, s1, s2, s3, s4, s5⟩ := x5_readMen h ht hB hC
  have m1 := x5_readMover h ht b1
  have r1 := x5_readRights h ht b2
  have p1 := x5_readPassed h ht b3
  have n1 := x5_readUpwards h ht b4 (lo := 0) (by omega)
  have q1 := x5_readUpwards h ht b5 (lo := 1) (by omega)
  have mm := mvR_le (ch := ch) b1
  have rr := riR_le (ch := ch) b2
  have pp := psR_le (ch := ch) b3
  have nn := nuR_le (ch := ch) (lo := 0) b4
  have hv5 := vI_neg (nuR ch len 0 (rd4 ch len).2.1) nn.2.1
  have hv6 := vI_neg (rd6 ch len) g6
  have s6 : rsR ch len 8 0 zB = th ch len r := s5.symm
  unfold m_X5_readAll m_X5_readAll_b99 m_X5_readAll_b100
  rw [ob_s s1]
  unfold rdS
  try dsimp only
  by_cases c0 : r.1 = true
  case neg =>
    rw [bF c0, if_pos bI_fz, s6, th_fail r c0, bF c0, if_neg (by decide)]
    exact ⟨_, _, _, _, _, _, _, _, _, rfl, s4, fun e => (by cases e)⟩
  have s7 := s6.trans (th_skip (ch := ch) (len := len) r c0)
  have z1 : (rsR ch len 8 0 zB).1 = decide (nx ch len r.2.1 = 32) := by rw [s7]
  have z2 : (rsR ch len 8 0 zB).2.1 = skA ch len r.2.1 32 := by rw [s7]
  have z3 : (rsR ch len 8 0 zB).2.2 = r.2.2 := by rw [s7]
  rw [c0, if_neg bI_tn, ob_s (x5_sk h ht (by omega) 32 32 rfl (by omega) (by omega)), ← z1, ← z2]
  try dsimp only
  by_cases c1 : (rsR ch len 8 0 zB).1 = true
  case neg =>
    rw [bF c1, if_pos bI_fz, if_neg (by decide)]
    exact ⟨_, _, _, _, _, _, _, _, _, rfl, s4, fun e => (by cases e)⟩
  rw [c1, if_neg bI_tn, if_pos rfl, ob_s m1]
  try dsimp only
  by_cases c2 : (mvR ch len (rsR ch len 8 0 zB).2.1).1 = true
  case neg =>
    have e : rd2 ch len = mvR ch len (rsR ch len 8 0 zB).2.1 := th_fail _ c2
    rw [bF c2, if_pos bI_fz, e, if_neg c2]
    exact ⟨_, _, _, _, _, _, _, _, _, rfl, s4, fun e => (by cases e)⟩
  have e2 : rd2 ch len = _ := th_skip (ch := ch) (len := len) _ c2
  have e2a : (rd2 ch len).1 = decide (nx ch len (mvR ch len (rsR ch len 8 0 zB).2.1).2.1 = 32) := by rw [e2]
  have e2b : (rd2 ch len).2.1 = skA ch len (mvR ch len (rsR ch len 8 0 zB).2.1).2.1 32 := by rw [e2]
  have e2c : (rd2 ch len).2.2 = (mvR ch len (rsR ch len 8 0 zB).2.1).2.2 := by rw [e2]
  rw [c2, if_neg bI_tn, ob_s (x5_sk h ht (by omega) 32 32 rfl (by omega) (by omega)), ← e2a, ← e2b, ← e2c]
  try dsimp only
  by_cases c2x : (rd2 ch len).1 = true
  case neg =>
    rw [bF c2x, if_pos bI_fz, if_neg (by decide)]
    exact ⟨_, _, _, _, _, _, _, _, _, rfl, s4, fun e => (by cases e)⟩
  rw [c2x, if_neg bI_tn, if_pos rfl, ob_s r1]
  try dsimp only
  by_cases c3 : (riR ch len (rd2 ch len).2.1).1 = true
  case neg =>
    have e : rd3 ch len = riR ch len (rd2 ch len).2.1 := th_fail _ c3
    rw [bF c3, if_pos bI_fz, e, if_neg c3]
    exact ⟨_, _, _, _, _, _, _, _, _, rfl, s4, fun e => (by cases e)⟩
  have e3 : rd3 ch len = _ := th_skip (ch := ch) (len := len) _ c3
  have e3a : (rd3 ch len).1 = decide (nx ch len (riR ch len (rd2 ch len).2.1).2.1 = 32) := by rw [e3]
  have e3b : (rd3 ch len).2.1 = skA ch len (riR ch len (rd2 ch len).2.1).2.1 32 := by rw [e3]
  have e3c : (rd3 ch len).2.2 = (riR ch len (rd2 ch len).2.1).2.2 := by rw [e3]
  rw [c3, if_neg bI_tn, ob_s (x5_sk h ht (by omega) 32 32 rfl (by omega) (by omega)), ← e3a, ← e3b, ← e3c]
  try dsimp only
  by_cases c3x : (rd3 ch len).1 = true
  case neg =>
    rw [bF c3x, if_pos bI_fz, if_neg (by decide)]
    exact ⟨_, _, _, _, _, _, _, _, _, rfl, s4, fun e => (by cases e)⟩
  rw [c3x, if_neg bI_tn, if_pos rfl, ob_s p1]
  try dsimp only
  by_cases c4 : (psR ch len (rd3 ch len).2.1).1 = true
  case neg =>
    have e : rd4 ch len = psR ch len (rd3 ch len).2.1 := th_fail _ c4
    rw [bF c4, if_pos bI_fz, e, if_neg c4]
    exact ⟨_, _, _, _, _, _, _, _, _, rfl, s4, fun e => (by cases e)⟩
  have e4 : rd4 ch len = _ := th_skip (ch := ch) (len := len) _ c4
  have e4a : (rd4 ch len).1 = decide (nx ch len (psR ch len (rd3 ch len).2.1).2.1 = 32) := by rw [e4]
  have e4b : (rd4 ch len).2.1 = skA ch len (psR ch len (rd3 ch len).2.1).2.1 32 := by rw [e4]
  have e4c : (rd4 ch len).2.2 = (psR ch len (rd3 ch len).2.1).2.2 := by rw [e4]
  rw [c4, if_neg bI_tn, ob_s (x5_sk h ht (by omega) 32 32 rfl (by omega) (by omega)), ← e4a, ← e4b, ← e4c]
  try dsimp only
  by_cases c4x : (rd4 ch len).1 = true
  case neg =>
    rw [bF c4x, if_pos bI_fz, if_neg (by decide)]
    exact ⟨_, _, _, _, _, _, _, _, _, rfl, s4, fun e => (by cases e)⟩
  have hh : m_X5_readHalves (nI len) (nI (rd4 ch len).2.1) arr 0 = some (bI (nuR ch len 0 (rd4 ch len).2.1).1, nI (nuR ch len 0 (rd4 ch len).2.1).2.1, vI (nuR ch len 0 (rd4 ch len).2.1)) := by
    have n1 : m_X5_readUpwards (nI len) (nI (rd4 ch len).2.1) arr 0 = _ := n1
    unfold m_X5_readHalves m_X5_readHalves_b28
    rw [ob_s n1]
    try dsimp only
    by_cases g : (nuR ch len 0 (rd4 ch len).2.1).1 = true
    · rw [if_neg (fun w => by have := hv5.2.1.mp w; rw [g] at this; cases this), g]; rfl
    · rw [if_pos (hv5.2.1.mpr (bF g)), bF g]; rfl
  have hn : m_X5_readNumber (nI len) (nI (rd5 ch len).2.1) arr 1 = some (bI (rd6 ch len).1, nI (rd6 ch len).2.1, vI (rd6 ch len)) := by
    have q1 : m_X5_readUpwards (nI len) (nI (rd5 ch len).2.1) arr 1 = some (vI (rd6 ch len), nI (rd6 ch len).2.1) := q1
    unfold m_X5_readNumber m_X5_readNumber_b28
    rw [ob_s q1]
    try dsimp only
    by_cases g : (rd6 ch len).1 = true
    · rw [if_neg (fun w => by have := hv6.2.1.mp w; rw [g] at this; cases this), g]; rfl
    · rw [if_pos (hv6.2.1.mpr (bF g)), bF g]; rfl
  rw [c4x, if_neg bI_tn, if_pos rfl, ob_s hh]
  try dsimp only
  by_cases c5 : (nuR ch len 0 (rd4 ch len).2.1).1 = true
  case neg =>
    have e : rd5 ch len = nuR ch len 0 (rd4 ch len).2.1 := th_fail _ c5
    rw [bF c5, if_pos bI_fz, e, if_neg c5]
    exact ⟨_, _, _, _, _, _, _, _, _, rfl, s4, fun e => (by cases e)⟩
  have e5 : rd5 ch len = _ := th_skip (ch := ch) (len := len) _ c5
  have e5a : (rd5 ch len).1 = decide (nx ch len (nuR ch len 0 (rd4 ch len).2.1).2.1 = 32) := by rw [e5]
  have e5b : (rd5 ch len).2.1 = skA ch len (nuR ch len 0 (rd4 ch len).2.1).2.1 32 := by rw [e5]
  rw [c5, if_neg bI_tn, ob_s (x5_sk h ht (by omega) 32 32 rfl (by omega) (by omega)), ← e5a, ← e5b]
  try dsimp only
  by_cases c5x : (rd5 ch len).1 = true
  case neg =>
    rw [bF c5x, if_pos bI_fz, if_neg (by decide)]
    exact ⟨_, _, _, _, _, _, _, _, _, rfl, s4, fun e => (by cases e)⟩
  rw [c5x, if_neg bI_tn, if_pos rfl, ob_s hn]
  try dsimp only
  by_cases c6 : (rd6 ch len).1 = true
  case neg =>
    rw [bF c6, if_pos bI_fz, if_neg (by decide)]
    exact ⟨_, _, _, _, _, _, _, _, _, rfl, s4, fun e => (by cases e)⟩
  rw [c6, if_neg bI_tn, if_pos rfl, ob_s (x5_next h ht (by omega))]
  have hq := nx_le h (rd6 ch len).2.1
  have ce : eI (nx ch len (rd6 ch len).2.1) = -1 ↔ (rd6 ch len).2.1 = len := by
    rw [← nx_end h b6]
    unfold eI
    by_cases g : nx ch len (rd6 ch len).2.1 = 0
    · rw [if_pos g]; exact ⟨fun _ => g, fun _ => rfl⟩
    · rw [if_neg g]; exact ⟨fun w => absurd w (nI_nm1 (by omega)), fun w => absurd w g⟩
  by_cases d : (rd6 ch len).2.1 = len
  · rw [if_pos (ce.mpr d), decide_eq_true d]
    refine ⟨_, _, _, _, _, _, _, _, _, rfl, s4, fun _ => ⟨z3.symm, s2, rfl, rfl, rfl, ?_, hv6.2.2 c6⟩⟩
    rw [hv5.2.2 c5]
    exact congrArg nI k2
  · rw [if_neg (fun w => d (ce.mp w)), decide_eq_false d]
    exact ⟨_, _, _, _, _, _, _, _, _, rfl, s4, fun e => (by cases e)⟩
