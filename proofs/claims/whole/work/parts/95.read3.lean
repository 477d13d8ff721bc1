/-! Both read the side to move, the rights, the passed square and the numbers alike. -/
/-- what was read, and a space behind it -/
def th {A : Type} (ch : Nat → Nat) (len : Nat) (r : Bool × Nat × A) : Bool × Nat × A := if r.1 then (if nx ch len r.2.1 = 32 then (true, r.2.1 + 1, r.2.2) else (false, r.2.1, r.2.2)) else r
theorem th_le {A : Type} {ch : Nat → Nat} {len : Nat} {r : Bool × Nat × A} (h : r.2.1 ≤ len) : (th ch len r).2.1 ≤ len ∧ (th ch len r).2.2 = r.2.2 := by
  unfold th
  by_cases g : r.1 = true
  · rw [if_pos g]
    by_cases q : nx ch len r.2.1 = 32
    · rw [if_pos q]
      have := nx_pos (ch := ch) (len := len) (a := r.2.1) (by omega)
      exact ⟨this, rfl⟩
    · rw [if_neg q]; exact ⟨h, rfl⟩
  · rw [if_neg g]; exact ⟨h, rfl⟩
theorem aft_th (ch : Nat → Nat) (len : Nat) (r : Bool × Nat × (Nat → Int32)) : aft32 ch len r = th ch len r := rfl
def mvR (ch : Nat → Nat) (len a : Nat) : Bool × Nat × Nat := if nx ch len a = 119 then (true, a + 1, 0) else if nx ch len a = 98 then (true, a + 1, 1) else (false, a, 1)
theorem mvR_le {ch : Nat → Nat} {len a : Nat} (ha : a ≤ len) : (mvR ch len a).2.1 ≤ len ∧ (mvR ch len a).2.2 < 2 := by
  have := nx_pos (ch := ch) (len := len) (a := a)
  unfold mvR
  by_cases q : nx ch len a = 119
  · rw [if_pos q]; exact ⟨this (by omega), by dsimp only; omega⟩
  · rw [if_neg q]
    by_cases g : nx ch len a = 98
    · rw [if_pos g]; exact ⟨this (by omega), by dsimp only; omega⟩
    · rw [if_neg g]; exact ⟨ha, by dsimp only; omega⟩
theorem x10_readMover {ch : Nat → Nat} {len : Nat} (h : chP ch len) {arr : Nat → Int32} (ht : tyP ch len arr) {a : Nat} (ha : a ≤ len) (v : Int32) : m_X10_readMover (nI len) (nI a) v arr = some (bI (th ch len (mvR ch len a)).1, nI (th ch len (mvR ch len a)).2.1, nI (th ch len (mvR ch len a)).2.2) := by
  have hl := h.1
  have hx := nx_le h a
  have tail : ∀ (b : Nat) (c : Nat), b ≤ len → m_X10_readMover_b36 (nI len) (nI b) (nI c) arr = some (bI (th ch len (true, b, c)).1, nI (th ch len (true, b, c)).2.1, nI (th ch len (true, b, c)).2.2) := by
    intro b c hb
    unfold m_X10_readMover_b36 m_X10_readMover_b49 m_X10_readMover_b50 th
    rw [ob_s (x10_tk h ht (by omega) 32 32 rfl (by omega)), if_pos rfl]
    try dsimp only
    unfold skA
    by_cases q : nx ch len b = 32
    · rw [decide_eq_true q, if_neg bI_tn, if_pos q, if_pos q]; rfl
    · rw [decide_eq_false q, if_pos bI_fz, if_neg q, if_neg q]; rfl
  have c1 : nI (nx ch len a) = 119 ↔ nx ch len a = 119 := nI_eq (b := 119) (by omega) (by omega)
  unfold m_X10_readMover m_X10_readMover_b15 mvR
  rw [ob_s (x10_next h ht (by omega))]
  by_cases q : nx ch len a = 119
  · have := nx_pos (ch := ch) (len := len) (a := a) (by omega)
    rw [if_pos (c1.mpr q), ob_s (x10_tk h ht (by omega) 119 119 rfl (by omega)), if_pos q]
    try dsimp only
    unfold skA
    rw [decide_eq_true q, if_neg bI_tn, if_pos q]
    exact tail (a + 1) 0 (by omega)
  · rw [if_neg (fun g => q (c1.mp g)), ob_s (x10_tk h ht (by omega) 119 119 rfl (by omega)), if_neg q]
    try dsimp only
    unfold skA
    rw [decide_eq_false q, if_pos bI_fz, if_neg q, ob_s (x10_tk h ht (by omega) 98 98 rfl (by omega))]
    try dsimp only
    unfold skA
    by_cases g : nx ch len a = 98
    · have := nx_pos (ch := ch) (len := len) (a := a) (by omega)
      rw [decide_eq_true g, if_neg bI_tn, if_pos g, if_pos g]
      exact tail (a + 1) 1 (by omega)
    · rw [decide_eq_false g, if_pos bI_fz, if_neg g, if_neg g]
      rfl
theorem x5_readMover {ch : Nat → Nat} {len : Nat} (h : chP ch len) {arr : Nat → Int32} (ht : tyP ch len arr) {a : Nat} (ha : a ≤ len) : m_X5_readMover (nI len) (nI a) arr 0 = some (bI (mvR ch len a).1, nI (mvR ch len a).2.1, nI (mvR ch len a).2.2) := by
  have hl := h.1
  unfold m_X5_readMover mvR
  rw [ob_s (x5_sk h ht (by omega) 119 119 rfl (by omega) (by omega))]
  try dsimp only
  unfold skA
  by_cases q : nx ch len a = 119
  · rw [decide_eq_true q, if_neg bI_tn, if_pos q, if_pos q]
    rfl
  · rw [decide_eq_false q, if_pos bI_fz, if_neg q, if_neg q, ob_s (x5_sk h ht (by omega) 98 98 rfl (by omega) (by omega))]
    try dsimp only
    unfold skA
    rw [obl_b]
    by_cases g : nx ch len a = 98
    · rw [decide_eq_true g, if_pos g, if_pos g]
      rfl
    · rw [decide_eq_false g, if_neg g, if_neg g]
      rfl
/-- one letter of the rights -/
def rcR (ch : Nat → Nat) (len a r c v : Nat) : Nat × Nat := if nx ch len a = c then (a + 1, r + v) else (a, r)
theorem rcR_le {ch : Nat → Nat} {len a r c v : Nat} (ha : a ≤ len) (hc : c ≠ 0) (hr : r < v) : (rcR ch len a r c v).1 ≤ len ∧ (rcR ch len a r c v).2 < 2 * v := by
  unfold rcR
  split
  · have := nx_pos (ch := ch) (len := len) (a := a) (by omega)
    exact ⟨this, by show r + v < 2 * v; omega⟩
  · exact ⟨ha, by show r < 2 * v; omega⟩
def rgR (ch : Nat → Nat) (len a : Nat) : Nat × Nat :=
  let r1 := rcR ch len a 0 75 1
  let r2 := rcR ch len r1.1 r1.2 81 2
  let r3 := rcR ch len r2.1 r2.2 107 4
  rcR ch len r3.1 r3.2 113 8
theorem rgR_le {ch : Nat → Nat} {len a : Nat} (ha : a ≤ len) : (rgR ch len a).1 ≤ len ∧ (rgR ch len a).2 < 16 := by
  have h1 := rcR_le (ch := ch) (len := len) (a := a) (r := 0) (c := 75) (v := 1) ha (by omega) (by omega)
  have h2 := rcR_le (ch := ch) (c := 81) (v := 2) h1.1 (by omega) h1.2
  have h3 := rcR_le (ch := ch) (c := 107) (v := 4) h2.1 (by omega) h2.2
  exact rcR_le (ch := ch) (c := 113) (v := 8) h3.1 (by omega) h3.2
def riR (ch : Nat → Nat) (len a : Nat) : Bool × Nat × Nat := if nx ch len a = 45 then (true, a + 1, 0) else (decide ((rgR ch len a).2 ≠ 0), (rgR ch len a).1, (rgR ch len a).2)
theorem riR_le {ch : Nat → Nat} {len a : Nat} (ha : a ≤ len) : (riR ch len a).2.1 ≤ len ∧ (riR ch len a).2.2 < 16 := by
  unfold riR
  split
  · have := nx_pos (ch := ch) (len := len) (a := a) (by omega)
    exact ⟨this, by show (0 : Nat) < 16; omega⟩
  · exact rgR_le ha
theorem rc_tk {T : Type} {ch : Nat → Nat} {len : Nat} (h : chP ch len) {arr : Nat → Int32} (ht : tyP ch len arr) {a : Nat} (ha : a ≤ len) (r c v : Nat) (lc lv : Int32) (h1 : lc = nI c) (h2 : lv = nI v) (hc : c ≤ 126) (F : Int32 → Int32 → Option T) : (ob (m_X10_takes (nI len) (nI a) arr lc) fun (p : Int32 × Int32) => if p.1 = 0 then F p.2 (nI r) else F p.2 (nI r + lv)) = F (nI (rcR ch len a r c v).1) (nI (rcR ch len a r c v).2) := by
  have hl := h.1
  rw [ob_s (x10_tk h ht (by omega) c lc h1 hc)]
  try dsimp only
  unfold skA rcR
  by_cases q : nx ch len a = c
  · rw [decide_eq_true q, if_neg bI_tn, if_pos q, if_pos q, h2, nI_add]
  · rw [decide_eq_false q, if_pos bI_fz, if_neg q, if_neg q]
theorem x10_readCastles {ch : Nat → Nat} {len : Nat} (h : chP ch len) {arr : Nat → Int32} (ht : tyP ch len arr) {a : Nat} (ha : a ≤ len) (v : Int32) : m_X10_readCastles (nI len) (nI a) v arr = some (bI (th ch len (riR ch len a)).1, nI (th ch len (riR ch len a)).2.1, nI (th ch len (riR ch len a)).2.2) := by
  have hl := h.1
  have h1 := rcR_le (ch := ch) (len := len) (a := a) (r := 0) (c := 75) (v := 1) ha (by omega) (by omega)
  have h2 := rcR_le (ch := ch) (c := 81) (v := 2) h1.1 (by omega) h1.2
  have h3 := rcR_le (ch := ch) (c := 107) (v := 4) h2.1 (by omega) h2.2
  have h4 := rgR_le (ch := ch) ha
  unfold m_X10_readCastles
  rw [ob_s (x10_tk h ht (by omega) 45 45 rfl (by omega))]
  try dsimp only
  unfold skA riR
  by_cases q : nx ch len a = 45
  · rw [decide_eq_true q, if_neg bI_tn, if_pos q, if_pos q]
    have := nx_pos (ch := ch) (len := len) (a := a) (by omega)
    rw [ob_s (x10_tk h ht (by omega) 32 32 rfl (by omega))]
    try dsimp only
    rw [obl_b]
    unfold th skA
    rw [if_pos rfl]
    dsimp only
    by_cases g : nx ch len (a + 1) = 32
    · rw [decide_eq_true g, if_pos g, if_pos g]; rfl
    · rw [decide_eq_false g, if_neg g, if_neg g]; rfl
  · rw [decide_eq_false q, if_pos bI_fz, if_neg q, if_neg q]
    refine (rc_tk h ht ha 0 75 1 75 1 rfl rfl (by omega) (fun x y => m_X10_readCastles_b44 (nI len) x 0 arr y)).trans ?_
    unfold m_X10_readCastles_b44
    refine (rc_tk h ht h1.1 _ 81 2 81 2 rfl rfl (by omega) (fun x y => m_X10_readCastles_b70 (nI len) x _ arr y)).trans ?_
    unfold m_X10_readCastles_b70
    refine (rc_tk h ht h2.1 _ 107 4 107 4 rfl rfl (by omega) (fun x y => m_X10_readCastles_b96 (nI len) x _ arr y)).trans ?_
    unfold m_X10_readCastles_b96
    refine (rc_tk h ht h3.1 _ 113 8 113 8 rfl rfl (by omega) (fun x y => m_X10_readCastles_b123 (nI len) x _ arr y)).trans ?_
    show m_X10_readCastles_b123 (nI len) (nI (rgR ch len a).1) _ arr (nI (rgR ch len a).2) = _
    unfold m_X10_readCastles_b123 m_X10_readCastles_b146 m_X10_readCastles_b147 th
    dsimp only
    generalize rgR ch len a = R at h4
    obtain ⟨b, r⟩ := R
    dsimp only at h4 ⊢
    by_cases g : r = 0
    · subst g
      rw [if_pos (by decide)]
      rfl
    · have : ¬ nI r ≤ 0 := nI_ge (a := 0) (by omega) (by omega)
      rw [if_neg this, ob_s (x10_tk h ht (by omega) 32 32 rfl (by omega)), if_pos (decide_eq_true g)]
      try dsimp only
      unfold skA
      by_cases w : nx ch len b = 32
      · rw [decide_eq_true w, if_neg bI_tn, if_pos w, if_pos w]; rfl
      · rw [decide_eq_false w, if_pos bI_fz, if_neg w, if_neg w]; rfl
theorem or_rg : (List.range 4).all (fun k => (List.range 16).all (fun r => decide (2 ^ k ≤ r) || decide (nI r ||| ((1 : Int32) <<< (nI k &&& 31)) = nI (r + 2 ^ k)))) = true := by decide +kernel
theorem rc_sk {ch : Nat → Nat} {len : Nat} (h : chP ch len) {arr : Nat → Int32} (ht : tyP ch len arr) {n a r k c : Nat} (ha : a ≤ len) (hk : k < 4) (hr : r < 2 ^ k) (hch : m_J0_charAt_5068e [75, 81, 107, 113] (nI k) = some (nI c)) (hc : c ≤ 126) (hc0 : c ≠ 0) : m_X5_readRights_l13 (nI len) arr (n + 1) (nI a) (nI r) (nI k) = m_X5_readRights_l13 (nI len) arr n (nI (rcR ch len a r c (2 ^ k)).1) (nI (rcR ch len a r c (2 ^ k)).2) (nI (k + 1)) := by
  have hl := h.1
  have hr16 : r < 16 := Nat.lt_of_lt_of_le hr (by
    have : k = 0 ∨ k = 1 ∨ k = 2 ∨ k = 3 := by omega
    rcases this with q | q | q | q <;> subst q <;> decide)
  have hor : nI r ||| ((1 : Int32) <<< (nI k &&& 31)) = nI (r + 2 ^ k) := by
    have := all_lt or_rg (i := k) hk
    have := all_lt this (i := r) hr16
    simp only [Bool.or_eq_true, decide_eq_true_eq] at this
    rcases this with q | q
    · omega
    · exact q
  rw [m_X5_readRights_l13_s]
  unfold m_X5_readRights_b13 m_X5_readRights_b46
  rw [if_neg (show ¬ (4 : Int32) ≤ nI k from nI_ge (b := 4) (by omega) (by omega)), ob_s hch, ob_s (x5_skip h ht (by omega) hc hc0)]
  try dsimp only
  unfold skA rcR
  rw [hor, nI_1]
  simp only [ol_r]
  by_cases q : nx ch len a = c
  · rw [decide_eq_true q, if_neg bI_tn, if_pos q, if_pos q]
  · rw [decide_eq_false q, if_pos bI_fz, if_neg q, if_neg q]
theorem x5_readRights {ch : Nat → Nat} {len : Nat} (h : chP ch len) {arr : Nat → Int32} (ht : tyP ch len arr) {a : Nat} (ha : a ≤ len) : m_X5_readRights (nI len) (nI a) arr 0 = some (bI (riR ch len a).1, nI (riR ch len a).2.1, nI (riR ch len a).2.2) := by
  have hl := h.1
  have h1 := rcR_le (ch := ch) (len := len) (a := a) (r := 0) (c := 75) (v := 1) ha (by omega) (by omega)
  have h2 := rcR_le (ch := ch) (c := 81) (v := 2) h1.1 (by omega) h1.2
  have h3 := rcR_le (ch := ch) (c := 107) (v := 4) h2.1 (by omega) h2.2
  have h4 := rgR_le (ch := ch) ha
  unfold m_X5_readRights
  rw [ob_s (x5_sk h ht (by omega) 45 45 rfl (by omega) (by omega))]
  try dsimp only
  unfold skA riR
  by_cases q : nx ch len a = 45
  · rw [decide_eq_true q, if_neg bI_tn, if_pos q, if_pos q]
    rfl
  · rw [decide_eq_false q, if_pos bI_fz, if_neg q, if_neg q]
    have e : kF = kF - 5 + 1 + 1 + 1 + 1 + 1 := by unfold kF; omega
    rw [e]
    refine (rc_sk h ht (n := kF - 5 + 1 + 1 + 1 + 1) (r := 0) (k := 0) (c := 75) ha (by omega) (by omega) (by decide) (by omega) (by omega)).trans ?_
    refine (rc_sk h ht (n := kF - 5 + 1 + 1 + 1) (k := 1) (c := 81) h1.1 (by omega) h1.2 (by decide) (by omega) (by omega)).trans ?_
    refine (rc_sk h ht (n := kF - 5 + 1 + 1) (k := 2) (c := 107) h2.1 (by omega) h2.2 (by decide) (by omega) (by omega)).trans ?_
    refine (rc_sk h ht (n := kF - 5 + 1) (k := 3) (c := 113) h3.1 (by omega) h3.2 (by decide) (by omega) (by omega)).trans ?_
    show m_X5_readRights_l13 (nI len) arr (kF - 5 + 1) (nI (rgR ch len a).1) (nI (rgR ch len a).2) 4 = _
    rw [m_X5_readRights_l13_s]
    unfold m_X5_readRights_b13 m_X5_readRights_b67
    rw [if_pos (by decide)]
    generalize rgR ch len a = R at h4
    obtain ⟨b, r⟩ := R
    dsimp only at h4 ⊢
    by_cases g : r = 0
    · subst g
      rw [if_pos (by decide)]
      rfl
    · rw [if_neg (fun w => g ((nI_eq0 (by omega)).mp w)), decide_eq_true g]
      rfl
